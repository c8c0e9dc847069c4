/-! image and back of the class -/
/-- all of the State o is in the State s -/
def bcW (n s o : Nat) (I f : Nat → Nat → Int) : Prop := (∀ i, i < 5 → ∀ j, j < n → f (s + 5 + 2 * i) j = I (o + 5 + 2 * i) j) ∧ (∀ j, j < 4 → f (s + 2) j = I (o + 2) j) ∧ (∀ j, j < 24 → f (s + 3) j = I (o + 3) j) ∧ (∀ j, 5 ≤ j → j ≤ 9 → f s j = I o j) ∧ (∀ j, j < 5 ∨ 9 < j → f s j = I s j) ∧ jfr [s, s + 2, s + 3, s + 5, s + 7, s + 9, s + 11, s + 13] I f
theorem ja_cpE {f : Nat → Nat → Int} {ks kd n j : Nat} (h : j < n) : ja_cp f ks 0 kd 0 n kd j = f ks j := by
  unfold ja_cp va_cpy; simp [h]
theorem ja_cpO {f : Nat → Nat → Int} {ks kd n a j : Nat} (h : a ≠ kd) : ja_cp f ks 0 kd 0 n a j = f a j := by
  unfold ja_cp; rw [if_neg h]
theorem ja_cpF {f : Nat → Nat → Int} {ks kd n a : Nat} (h : a ≠ kd) : ja_cp f ks 0 kd 0 n a = f a := funext fun _ => ja_cpO h
theorem jfr_cp {S : List Nat} {I J : Nat → Nat → Int} {ks kd n : Nat} (a : jfr S I J) (hk : kd ∈ S) : jfr S I (ja_cp J ks 0 kd 0 n) := fun i hi => by
  have : i ≠ kd := fun e => hi (e ▸ hk)
  rw [ja_cpF this]
  exact a i hi
set_option maxRecDepth 10000 in
theorem kX8_become_image {l : Launch} {d : Nat} {h : ja_H} {Q : ja_Q} {n : Nat} {w g : Int} (hG : jG h.1) (hW : jW w g n h.2.1) (q : ∀ f, bcW n 15 1 h.2.1 f → Q none (h.1, f, h.2.2)) : ja_C l (d + 3) mX8_become (js_sh n) [.inr (.inr (some (15))), .inr (.inr (some 1))] h Q := by
  have hs := jS15_of hG hW
  have hso := jS1_of hG hW
  refine eX8_become _ _ fun ho => ?_
  unfold bX8_become
  refine jt_sI jv_ci ?_
  refine jb_forc (5) (fun (i : Nat) L' h' => ∃ (v_i : Int) (f : Nat → Nat → Int), L' = [some (.inr (.inr (some (15)))), some (.inr (.inr (some 1))), some (.inl (v_i))] ∧ v_i = (i : Int) ∧ (h.1, f, h.2.2) = h' ∧ (jfr [20, 22, 24, 26, 28] h.2.1 f) ∧ (∀ i2, i2 < i → ∀ j, j < n → f (20 + 2 * i2) j = h.2.1 (6 + 2 * i2) j)) ⟨_, _, rfl, (by first | rfl | omega | (simp; done) | (simp; omega)), rfl, (by exact jfr_rf _ _), (by intro i2 h2; omega)⟩ ?_ ?_ ?_
  · rintro i h_i _ _ ⟨v_i0, f, rfl, rfl, rfl, fr, f1⟩
    exact jd_eq (jd_lt (jv_li rfl) (jv_len (jr_g (jr_lr rfl) (by first | rfl | assumption) (by first | rfl | assumption | exact jG_at hG rfl | exact jG_90 hG rfl)) (by first | rfl | assumption) (by first | (unfold ja_r; omega) | (unfold ja_rl; omega) | omega | assumption))) (by omega)
  · rintro i h_i _ _ ⟨v_i0, f, rfl, rfl, rfl, fr, f1⟩
    obtain ⟨ei, pi⟩ := hs.2.2 i h_i
    obtain ⟨eo, po⟩ := hso.2.2 i h_i
    rw [show 15 + 4 + 2 * i = 19 + 2 * i by omega] at ei pi
    rw [show 1 + 4 + 2 * i = 5 + 2 * i by omega] at eo po
    have ei : h.1 16 ((i : Nat) : Int).toNat = some (19 + 2 * i) := ei
    have hsf : jS w g n 1 (h.1, f, h.2.2) := ⟨hso.1, hso.2.1, fun i2 h2 => ⟨(hso.2.2 i2 h2).1, jp_up (hso.2.2 i2 h2).2 (fr _ (by simp <;> omega))⟩⟩
    have pif : jp w g n (19 + 2 * i) (h.1, f, h.2.2) := jp_up pi (fr _ (by simp <;> omega))
    have pof : jp w g n (5 + 2 * i) (h.1, f, h.2.2) := jp_up po (fr _ (by simp <;> omega))
    have ep : jS_p 1 (i : Int) = some (5 + 2 * i) := by unfold jS_p; rw [if_pos (by omega)]; congr 1
    refine jb_if_d (φ := True) (jd_eq (jd_not (jd_isn (jr_is (jr_aP (jr_g (jr_lr rfl) rfl (jG_at hG rfl)) (jv_li rfl) rfl (by omega) (by omega)) ei))) (by simp)) (fun c1 => ?_) (fun c1 => ?_)
    · refine jx_m (jr_is (jr_aP (jr_g (jr_lr rfl) rfl (jG_at hG rfl)) (jv_li rfl) rfl (by omega) (by omega)) ei) pi.1 (jA_r jA_0 (jr_is (jr_m1 (jr_lr rfl) rfl (jv_li rfl) fun _ => kX8_picture hsf) ep)) (kX3_become pif pof ⟨rfl, ?_⟩)
      try dsimp only
      exact jt_inc rfl (by first | (unfold ja_r; omega) | (unfold ja_rl; omega) | omega | assumption) ⟨_, _, rfl, (by first | rfl | omega | (simp; done) | (simp; omega)), rfl, (by exact jfr_cp fr (by simp <;> omega)), (by 
            intro i2 h2 j hj
            by_cases z : i2 = i
            · subst z
              rw [show 19 + 2 * i2 + 1 = 20 + 2 * i2 by omega, show 5 + 2 * i2 + 1 = 6 + 2 * i2 by omega, ja_cpE hj]
              exact congrFun (fr _ (by simp <;> omega)) j
            · rw [ja_cpO (by omega)]; exact f1 i2 (by omega) j hj)⟩
    · exact absurd trivial c1
  · rintro _ _ ⟨v_i0, f, rfl, rfl, rfl, fr, f1⟩
    refine jt_cp (jr_g (jr_lr rfl) rfl (jG_at hG rfl)) jv_ci (jr_g (jr_lr rfl) rfl (jG_at hG rfl)) jv_ci (jv_len (jr_g (jr_lr rfl) rfl (jG_at hG rfl)) rfl (by decide)) rfl rfl (by decide) (by decide) (by decide) (by decide) (by decide) ?_
    try dsimp only
    refine jt_cp (jr_g (jr_lr rfl) rfl (jG_at hG rfl)) jv_ci (jr_g (jr_lr rfl) rfl (jG_at hG rfl)) jv_ci (jv_len (jr_g (jr_lr rfl) rfl (jG_at hG rfl)) rfl (by decide)) rfl rfl (by decide) (by decide) (by decide) (by decide) (by decide) ?_
    try dsimp only
    simp only [show (0 : Int).toNat = 0 from rfl, show ((4 : Nat) : Int).toNat = 4 from rfl, show ((24 : Nat) : Int).toNat = 24 from rfl]
    obtain ⟨u, hu⟩ : ∃ u, ja_cp (ja_cp f 3 0 17 0 4) 4 0 18 0 24 = u := ⟨_, rfl⟩
    rw [hu]
    have u0 : ∀ j, u 1 j = h.2.1 1 j := fun j => by rw [← hu, ja_cpO (by decide), ja_cpO (by decide)]; exact congrFun (fr _ (by decide)) j
    have u1 : ∀ j, u 15 j = h.2.1 15 j := fun j => by rw [← hu, ja_cpO (by decide), ja_cpO (by decide)]; exact congrFun (fr _ (by decide)) j
    have v5 := u0 5
    have v6 := u0 6
    have v7 := u0 7
    have v8 := u0 8
    have v9 := u0 9
    refine jt_pI (jr_lr rfl) (by first | rfl | assumption) (jv_gF (jr_lr rfl) (by first | rfl | assumption) (by first | assumption | rfl)) ?_
    try dsimp only
    refine jt_pI (jr_lr rfl) (by first | rfl | assumption) (jv_gF (jr_lr rfl) (by first | rfl | assumption) (by first | assumption | rfl)) ?_
    try dsimp only
    refine jt_pI (jr_lr rfl) (by first | rfl | assumption) (jv_gF (jr_lr rfl) (by first | rfl | assumption) (by first | assumption | rfl)) ?_
    try dsimp only
    refine jt_pI (jr_lr rfl) (by first | rfl | assumption) (jv_gF (jr_lr rfl) (by first | rfl | assumption) (by first | assumption | rfl)) ?_
    try dsimp only
    refine jt_pI (jr_lr rfl) (by first | rfl | assumption) (jv_gF (jr_lr rfl) (by first | rfl | assumption) (by first | assumption | rfl)) ?_
    try dsimp only
    refine q _ ⟨?_, ?_, ?_, ?_, ?_, ?_⟩
    · intro i hi j hj
      rw [ja_upO (by omega), ja_upO (by omega), ja_upO (by omega), ja_upO (by omega), ja_upO (by omega), ← hu, ja_cpO (by omega), ja_cpO (by omega)]
      exact f1 i hi j hj
    · intro j hj
      rw [ja_upO (by omega), ja_upO (by omega), ja_upO (by omega), ja_upO (by omega), ja_upO (by omega), ← hu, ja_cpO (by omega), ja_cpE hj]
      exact congrFun (fr _ (by decide)) j
    · intro j hj
      rw [ja_upO (by omega), ja_upO (by omega), ja_upO (by omega), ja_upO (by omega), ja_upO (by omega), ← hu, ja_cpE hj, ja_cpO (by decide)]
      exact congrFun (fr _ (by decide)) j
    · intro j h1 h2
      rcases (show j = 5 ∨ j = 6 ∨ j = 7 ∨ j = 8 ∨ j = 9 by omega) with z | z | z | z | z <;> subst z <;> (repeat (first | rw [ja_upE rfl rfl] | rw [ja_upO (by omega)])) <;> first | rfl | exact u0 _
    · intro j hj
      rw [ja_upO (by omega), ja_upO (by omega), ja_upO (by omega), ja_upO (by omega), ja_upO (by omega)]
      exact u1 j
    · refine jfr_up (jfr_up (jfr_up (jfr_up (jfr_up ?_ (by decide)) (by decide)) (by decide)) (by decide)) (by decide)
      rw [← hu]
      exact jfr_cp (jfr_cp (jfr_sub fr (by decide)) (by decide)) (by decide)
set_option maxRecDepth 10000 in
theorem kX8_become_back {l : Launch} {d : Nat} {h : ja_H} {Q : ja_Q} {n : Nat} {w g : Int} (hG : jG h.1) (hW : jW w g n h.2.1) (q : ∀ f, bcW n 1 15 h.2.1 f → Q none (h.1, f, h.2.2)) : ja_C l (d + 3) mX8_become (js_sh n) [.inr (.inr (some (1))), .inr (.inr (some 15))] h Q := by
  have hs := jS1_of hG hW
  have hso := jS15_of hG hW
  refine eX8_become _ _ fun ho => ?_
  unfold bX8_become
  refine jt_sI jv_ci ?_
  refine jb_forc (5) (fun (i : Nat) L' h' => ∃ (v_i : Int) (f : Nat → Nat → Int), L' = [some (.inr (.inr (some (1)))), some (.inr (.inr (some 15))), some (.inl (v_i))] ∧ v_i = (i : Int) ∧ (h.1, f, h.2.2) = h' ∧ (jfr [6, 8, 10, 12, 14] h.2.1 f) ∧ (∀ i2, i2 < i → ∀ j, j < n → f (6 + 2 * i2) j = h.2.1 (20 + 2 * i2) j)) ⟨_, _, rfl, (by first | rfl | omega | (simp; done) | (simp; omega)), rfl, (by exact jfr_rf _ _), (by intro i2 h2; omega)⟩ ?_ ?_ ?_
  · rintro i h_i _ _ ⟨v_i0, f, rfl, rfl, rfl, fr, f1⟩
    exact jd_eq (jd_lt (jv_li rfl) (jv_len (jr_g (jr_lr rfl) (by first | rfl | assumption) (by first | rfl | assumption | exact jG_at hG rfl | exact jG_90 hG rfl)) (by first | rfl | assumption) (by first | (unfold ja_r; omega) | (unfold ja_rl; omega) | omega | assumption))) (by omega)
  · rintro i h_i _ _ ⟨v_i0, f, rfl, rfl, rfl, fr, f1⟩
    obtain ⟨ei, pi⟩ := hs.2.2 i h_i
    obtain ⟨eo, po⟩ := hso.2.2 i h_i
    rw [show 1 + 4 + 2 * i = 5 + 2 * i by omega] at ei pi
    rw [show 15 + 4 + 2 * i = 19 + 2 * i by omega] at eo po
    have ei : h.1 2 ((i : Nat) : Int).toNat = some (5 + 2 * i) := ei
    have hsf : jS w g n 15 (h.1, f, h.2.2) := ⟨hso.1, hso.2.1, fun i2 h2 => ⟨(hso.2.2 i2 h2).1, jp_up (hso.2.2 i2 h2).2 (fr _ (by simp <;> omega))⟩⟩
    have pif : jp w g n (5 + 2 * i) (h.1, f, h.2.2) := jp_up pi (fr _ (by simp <;> omega))
    have pof : jp w g n (19 + 2 * i) (h.1, f, h.2.2) := jp_up po (fr _ (by simp <;> omega))
    have ep : jS_p 15 (i : Int) = some (19 + 2 * i) := by unfold jS_p; rw [if_pos (by omega)]; congr 1
    refine jb_if_d (φ := True) (jd_eq (jd_not (jd_isn (jr_is (jr_aP (jr_g (jr_lr rfl) rfl (jG_at hG rfl)) (jv_li rfl) rfl (by omega) (by omega)) ei))) (by simp)) (fun c1 => ?_) (fun c1 => ?_)
    · refine jx_m (jr_is (jr_aP (jr_g (jr_lr rfl) rfl (jG_at hG rfl)) (jv_li rfl) rfl (by omega) (by omega)) ei) pi.1 (jA_r jA_0 (jr_is (jr_m1 (jr_lr rfl) rfl (jv_li rfl) fun _ => kX8_picture hsf) ep)) (kX3_become pif pof ⟨rfl, ?_⟩)
      try dsimp only
      exact jt_inc rfl (by first | (unfold ja_r; omega) | (unfold ja_rl; omega) | omega | assumption) ⟨_, _, rfl, (by first | rfl | omega | (simp; done) | (simp; omega)), rfl, (by exact jfr_cp fr (by simp <;> omega)), (by 
            intro i2 h2 j hj
            by_cases z : i2 = i
            · subst z
              rw [show 5 + 2 * i2 + 1 = 6 + 2 * i2 by omega, show 19 + 2 * i2 + 1 = 20 + 2 * i2 by omega, ja_cpE hj]
              exact congrFun (fr _ (by simp <;> omega)) j
            · rw [ja_cpO (by omega)]; exact f1 i2 (by omega) j hj)⟩
    · exact absurd trivial c1
  · rintro _ _ ⟨v_i0, f, rfl, rfl, rfl, fr, f1⟩
    refine jt_cp (jr_g (jr_lr rfl) rfl (jG_at hG rfl)) jv_ci (jr_g (jr_lr rfl) rfl (jG_at hG rfl)) jv_ci (jv_len (jr_g (jr_lr rfl) rfl (jG_at hG rfl)) rfl (by decide)) rfl rfl (by decide) (by decide) (by decide) (by decide) (by decide) ?_
    try dsimp only
    refine jt_cp (jr_g (jr_lr rfl) rfl (jG_at hG rfl)) jv_ci (jr_g (jr_lr rfl) rfl (jG_at hG rfl)) jv_ci (jv_len (jr_g (jr_lr rfl) rfl (jG_at hG rfl)) rfl (by decide)) rfl rfl (by decide) (by decide) (by decide) (by decide) (by decide) ?_
    try dsimp only
    simp only [show (0 : Int).toNat = 0 from rfl, show ((4 : Nat) : Int).toNat = 4 from rfl, show ((24 : Nat) : Int).toNat = 24 from rfl]
    obtain ⟨u, hu⟩ : ∃ u, ja_cp (ja_cp f 17 0 3 0 4) 18 0 4 0 24 = u := ⟨_, rfl⟩
    rw [hu]
    have u0 : ∀ j, u 15 j = h.2.1 15 j := fun j => by rw [← hu, ja_cpO (by decide), ja_cpO (by decide)]; exact congrFun (fr _ (by decide)) j
    have u1 : ∀ j, u 1 j = h.2.1 1 j := fun j => by rw [← hu, ja_cpO (by decide), ja_cpO (by decide)]; exact congrFun (fr _ (by decide)) j
    have v5 := u0 5
    have v6 := u0 6
    have v7 := u0 7
    have v8 := u0 8
    have v9 := u0 9
    refine jt_pI (jr_lr rfl) (by first | rfl | assumption) (jv_gF (jr_lr rfl) (by first | rfl | assumption) (by first | assumption | rfl)) ?_
    try dsimp only
    refine jt_pI (jr_lr rfl) (by first | rfl | assumption) (jv_gF (jr_lr rfl) (by first | rfl | assumption) (by first | assumption | rfl)) ?_
    try dsimp only
    refine jt_pI (jr_lr rfl) (by first | rfl | assumption) (jv_gF (jr_lr rfl) (by first | rfl | assumption) (by first | assumption | rfl)) ?_
    try dsimp only
    refine jt_pI (jr_lr rfl) (by first | rfl | assumption) (jv_gF (jr_lr rfl) (by first | rfl | assumption) (by first | assumption | rfl)) ?_
    try dsimp only
    refine jt_pI (jr_lr rfl) (by first | rfl | assumption) (jv_gF (jr_lr rfl) (by first | rfl | assumption) (by first | assumption | rfl)) ?_
    try dsimp only
    refine q _ ⟨?_, ?_, ?_, ?_, ?_, ?_⟩
    · intro i hi j hj
      rw [ja_upO (by omega), ja_upO (by omega), ja_upO (by omega), ja_upO (by omega), ja_upO (by omega), ← hu, ja_cpO (by omega), ja_cpO (by omega)]
      exact f1 i hi j hj
    · intro j hj
      rw [ja_upO (by omega), ja_upO (by omega), ja_upO (by omega), ja_upO (by omega), ja_upO (by omega), ← hu, ja_cpO (by omega), ja_cpE hj]
      exact congrFun (fr _ (by decide)) j
    · intro j hj
      rw [ja_upO (by omega), ja_upO (by omega), ja_upO (by omega), ja_upO (by omega), ja_upO (by omega), ← hu, ja_cpE hj, ja_cpO (by decide)]
      exact congrFun (fr _ (by decide)) j
    · intro j h1 h2
      rcases (show j = 5 ∨ j = 6 ∨ j = 7 ∨ j = 8 ∨ j = 9 by omega) with z | z | z | z | z <;> subst z <;> (repeat (first | rw [ja_upE rfl rfl] | rw [ja_upO (by omega)])) <;> first | rfl | exact u0 _
    · intro j hj
      rw [ja_upO (by omega), ja_upO (by omega), ja_upO (by omega), ja_upO (by omega), ja_upO (by omega)]
      exact u1 j
    · refine jfr_up (jfr_up (jfr_up (jfr_up (jfr_up ?_ (by decide)) (by decide)) (by decide)) (by decide)) (by decide)
      rw [← hu]
      exact jfr_cp (jfr_cp (jfr_sub fr (by decide)) (by decide)) (by decide)
set_option maxRecDepth 10000 in
theorem kX11_image {l : Launch} {d : Nat} {h : ja_H} {Q : ja_Q} {n : Nat} {w g : Int} (hG : jG h.1) (hW : jW w g n h.2.1) (q : ∀ f, bcW n 15 1 h.2.1 f → Q (some (.inl (h.2.1 1 9))) (h.1, f, h.2.2)) : ja_C l (d + 4) mX11_image (js_sh n) [.inr (.inr (some (0)))] h Q := by
  refine eX11_image _ fun ho => ?_
  unfold bX11_image
  refine jx_m (jr_g (jr_lr rfl) (by first | rfl | assumption) (by first | rfl | assumption | exact jG_at hG rfl | exact jG_90 hG rfl)) (by first | rfl | assumption) (jA_r jA_0 (jr_g (jr_lr rfl) (by first | rfl | assumption) (by first | rfl | assumption | exact jG_at hG rfl | exact jG_90 hG rfl))) (kX8_become_image hG hW fun f fb => ⟨rfl, ?_⟩)
  have f9 : f 1 9 = h.2.1 1 9 := congrFun (fb.2.2.2.2.2 1 (by decide)) 9
  refine jt_rI (jv_gF (jr_g (jr_lr rfl) (by first | rfl | assumption) (by first | rfl | assumption | exact jG_at hG rfl | exact jG_90 hG rfl)) (by first | rfl | assumption) (by first | assumption | rfl)) ?_
  exact q f fb
set_option maxRecDepth 10000 in
theorem kX11_back {l : Launch} {d : Nat} {h : ja_H} {Q : ja_Q} {n : Nat} {w g : Int} (hG : jG h.1) (hW : jW w g n h.2.1) (q : ∀ f, bcW n 1 15 h.2.1 f → Q (some (.inl (h.2.1 15 9))) (h.1, f, h.2.2)) : ja_C l (d + 4) mX11_back (js_sh n) [.inr (.inr (some (0)))] h Q := by
  refine eX11_back _ fun ho => ?_
  unfold bX11_back
  refine jx_m (jr_g (jr_lr rfl) (by first | rfl | assumption) (by first | rfl | assumption | exact jG_at hG rfl | exact jG_90 hG rfl)) (by first | rfl | assumption) (jA_r jA_0 (jr_g (jr_lr rfl) (by first | rfl | assumption) (by first | rfl | assumption | exact jG_at hG rfl | exact jG_90 hG rfl))) (kX8_become_back hG hW fun f fb => ⟨rfl, ?_⟩)
  have f9 : f 1 9 = h.2.1 15 9 := fb.2.2.2.1 9 (by decide) (by decide)
  refine jt_rI (jv_gF (jr_g (jr_lr rfl) (by first | rfl | assumption) (by first | rfl | assumption | exact jG_at hG rfl | exact jG_90 hG rfl)) (by first | rfl | assumption) (by first | assumption | rfl)) ?_
  exact q f fb
