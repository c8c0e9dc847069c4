theorem r2_0 {F : Int → Int → Int} {x y : Int} {u : Nat} : ∀ M : Nat, (∀ m : Nat, m < M → r1 F x (y + (m : Nat)) u = 0) → r2 F x y u M = 0
  | 0, _ => rfl
  | M + 1, h => by rw [r2_s, r2_0 M (fun m hm => h m (by omega)), h M (by omega)]; rfl
theorem r2_e {F : Int → Int → Int} {x y : Int} {u M : Nat} : ∀ G : Nat, M ≤ G → (∀ m : Nat, M ≤ m → m < G → r1 F x (y + (m : Nat)) u = 0) → r2 F x y u G = r2 F x y u M
  | 0, h, _ => by rw [show M = 0 by omega]
  | G + 1, h, hz => by
    rcases Nat.lt_or_ge G M with z | z
    · rw [show M = G + 1 by omega]
    · rw [r2_s, r2_e G z (fun m h1 h2 => hz m h1 (by omega)), hz G z (by omega)]; omega
theorem r1_e {F : Int → Int → Int} {x j : Int} {M : Nat} : ∀ G : Nat, M ≤ G → (∀ m : Nat, M ≤ m → m < G → F (x + (m : Nat)) j = 0) → r1 F x j G = r1 F x j M
  | 0, h, _ => by rw [show M = 0 by omega]
  | G + 1, h, hz => by
    rcases Nat.lt_or_ge G M with z | z
    · rw [show M = G + 1 by omega]
    · rw [r1_s, r1_e G z (fun m h1 h2 => hz m h1 (by omega)), hz G z (by omega)]; omega
def twP (c b : Nat) (S N : Nat → Int) (f : Nat → Nat → Int) (i : Nat) : Prop := f c (b + 3) = (if i = 0 then 0 else N (shB S N i)) ∧ (i ≠ 0 → f c b = shX (shB S N i) ∧ f c (b + 1) = shY (shB S N i) ∧ f c (b + 2) = S (shB S N i))
theorem twT {c b : Nat} {S N : Nat → Int} {f : Nat → Nat → Int} {i : Nat} (h : i = 0 ∨ S i * N (shB S N i) < S (shB S N i) * N i) (e0 : f c b = shX i) (e1 : f c (b + 1) = shY i) (e2 : f c (b + 2) = S i) (e3 : f c (b + 3) = N i) : twP c b S N f (i + 1) := by
  have e : shB S N (i + 1) = i := by rw [shB, if_pos h]
  unfold twP
  rw [e, if_neg (by omega)]
  exact ⟨e3, fun _ => ⟨e0, e1, e2⟩⟩
theorem twFl {c b : Nat} {S N : Nat → Int} {f : Nat → Nat → Int} {i : Nat} (h : ¬ (i = 0 ∨ S i * N (shB S N i) < S (shB S N i) * N i)) (m : twP c b S N f i) : twP c b S N f (i + 1) := by
  have e : shB S N (i + 1) = shB S N i := by rw [shB, if_neg h]
  unfold twP at *
  rw [e, if_neg (by omega)]
  rw [if_neg (by omega)] at m
  exact ⟨m.1, fun _ => m.2 (by omega)⟩
set_option maxRecDepth 10000 in
theorem kX6_sumApart {l : Launch} {d : Nat} {h : ja_H} {Q : ja_Q} {n k1 k2 w g : Nat} {P R : Int → Int → Int} {dx dy : Int} (hp : jp w g n k1 h) (hq : jp w g n k2 h) (hP : jpx h w g k1 = P) (hQ : jpx h w g k2 = R) (bP : ∀ x y, 0 ≤ P x y ∧ P x y ≤ 99) (bQ : ∀ x y, 0 ≤ R x y ∧ R x y ≤ 99) (hx : -3 ≤ dx ∧ dx ≤ 3) (hy : -3 ≤ dy ∧ dy ≤ 3) (q : Q (some (.inl (r2 (tsS P R w g dx dy) 0 0 w g))) h) : ja_C l (d + 2) mX6_sumApart (js_sh n) [.inr (.inr (some k1)), .inr (.inr (some k2)), .inl (dx), .inl (dy)] h Q := by
  obtain ⟨p1, p2, p3, p4, p5, p6, p7, p8, p9, p10⟩ := id hp
  obtain ⟨A, hA⟩ : ∃ A : Nat, (A : Int) = max 0 (-dy) := ⟨(max 0 (-dy)).toNat, by omega⟩
  obtain ⟨B, hB⟩ : ∃ B : Nat, (B : Int) = min (g : Int) (g - dy) := ⟨(min (g : Int) (g - dy)).toNat, by omega⟩
  obtain ⟨C, hC⟩ : ∃ C : Nat, (C : Int) = max 0 (-dx) := ⟨(max 0 (-dx)).toNat, by omega⟩
  obtain ⟨D, hD⟩ : ∃ D : Nat, (D : Int) = min (w : Int) (w - dx) := ⟨(min (w : Int) (w - dx)).toNat, by omega⟩
  have bF := tsS_b bP bQ (w : Nat) (g : Nat) dx dy
  refine eX6_sumApart _ _ _ _ fun r_x r_y ho => ?_
  unfold bX6_sumApart
  unfold ja_r at r_x r_y
  refine jt_sI (x := r2 (tsS P R w g dx dy) 0 0 w (A + 0)) (jv_is jv_ci (by rw [Nat.add_zero, r2_0 A (fun m hm => r1_0 _ (fun i hi => tsS_f (by unfold tsI; omega)))])) ?_
  refine jt_sI (x := ((A + 0 : Nat) : Int)) (jv_is (jy_sI (jA_i (jA_i jA_0 jv_ci) (jv_w (jv_neg (jv_li rfl)) (by first | (unfold ja_r; omega) | (unfold ja_rl; omega) | omega | assumption))) fun _ => kJ9_max) (by omega)) ?_
  refine jb_forc (B - A) (fun (m : Nat) L' h' => ∃ (v_sum : Int) (v_cy : Int) (o3_6 : Option ja_W), L' = [some (.inr (.inr (some k1))), some (.inr (.inr (some k2))), some (.inl (dx)), some (.inl (dy)), some (.inl (v_sum)), some (.inl (v_cy)), o3_6] ∧ v_sum = r2 (tsS P R w g dx dy) 0 0 w (A + m) ∧ v_cy = ((A + m : Nat) : Int) ∧ h = h') ⟨_, _, _, rfl, (by rfl), (by first | rfl | omega | (simp; done) | (simp; omega)), rfl⟩ ?_ ?_ ?_
  · rintro m h_m _ _ ⟨v_sum0, v_cy0, o3_6, rfl, rfl, rfl, rfl⟩
    exact jd_eq (jd_lt (jv_li rfl) (jy_sI (jA_i (jA_i jA_0 (jv_gF (jr_lr rfl) p1 p5)) (jv_w (jv_sub (jv_gF (jr_lr rfl) p1 p5) (jv_li rfl)) (by first | (unfold ja_r; omega) | (unfold ja_rl; omega) | omega | assumption))) fun _ => kJ9_min)) (by omega)
  · rintro m h_m _ _ ⟨v_sum0, v_cy0, o3_6, rfl, rfl, rfl, rfl⟩
    have b2 := r2_b (by decide) bF 0 0 (u := w) (by omega) (A + m)
    refine jt_sI (x := ((C + 0 : Nat) : Int)) (jv_is (jy_sI (jA_i (jA_i jA_0 jv_ci) (jv_w (jv_neg (jv_li rfl)) (by first | (unfold ja_r; omega) | (unfold ja_rl; omega) | omega | assumption))) fun _ => kJ9_max) (by omega)) ?_
    refine jb_forc (D - C) (fun (k : Nat) L' h' => ∃ (v_sum : Int) (v_cx : Int), L' = [some (.inr (.inr (some k1))), some (.inr (.inr (some k2))), some (.inl (dx)), some (.inl (dy)), some (.inl (v_sum)), some (.inl (((A + m : Nat) : Int))), some (.inl (v_cx))] ∧ v_sum = r2 (tsS P R w g dx dy) 0 0 w (A + m) + r1 (tsS P R w g dx dy) 0 ((A + m : Nat) : Int) (C + k) ∧ v_cx = ((C + k : Nat) : Int) ∧ h = h') ⟨_, _, rfl, (by rw [Nat.add_zero, r1_0 C (fun i hi => tsS_f (by unfold tsI; omega))]; omega), (by first | rfl | omega | (simp; done) | (simp; omega)), rfl⟩ ?_ ?_ ?_
    · rintro k h_k _ _ ⟨v_sum0, v_cx0, rfl, rfl, rfl, rfl⟩
      exact jd_eq (jd_lt (jv_li rfl) (jy_sI (jA_i (jA_i jA_0 (jv_gF (jr_lr rfl) p1 p4)) (jv_w (jv_sub (jv_gF (jr_lr rfl) p1 p4) (jv_li rfl)) (by first | (unfold ja_r; omega) | (unfold ja_rl; omega) | omega | assumption))) fun _ => kJ9_min)) (by omega)
    · rintro k h_k _ _ ⟨v_sum0, v_cx0, rfl, rfl, rfl, rfl⟩
      have b3 := r1_b bF 0 ((A + m : Nat) : Int) (C + k)
      have l1 := bP ((C + k : Nat) : Int) ((A + m : Nat) : Int)
      have l2 := bQ (((C + k : Nat) : Int) + dx) (((A + m : Nat) : Int) + dy)
      refine jt_sI (jv_w (jv_add (jv_li rfl) (jy_sI (jA_i jA_0 (jv_w (jv_sub (jy_mI (jr_lr rfl) hp.1 (jA_i (jA_i jA_0 (jv_li rfl)) (jv_li rfl)) fun _ => kX3_getX hp) (jy_mI (jr_lr rfl) hq.1 (jA_i (jA_i jA_0 (jv_w (jv_add (jv_li rfl) (jv_li rfl)) (by first | (unfold ja_r; omega) | (unfold ja_rl; omega) | omega | assumption))) (jv_w (jv_add (jv_li rfl) (jv_li rfl)) (by first | (unfold ja_r; omega) | (unfold ja_rl; omega) | omega | assumption))) fun _ => kX3_getX hq)) (by rw [hP, hQ]; unfold ja_r; omega))) fun _ => kJ9_abs (by rw [hP, hQ]; omega))) (by rw [hP, hQ]; unfold ja_r; omega)) ?_
      exact jt_inc rfl (by first | (unfold ja_r; omega) | (unfold ja_rl; omega) | omega | assumption) ⟨_, _, rfl, (by rw [show C + (k + 1) = (C + k) + 1 by omega, r1_s, Int.zero_add, tsS_t (by unfold tsI; omega), hP, hQ]; omega), (by first | rfl | omega | (simp; done) | (simp; omega)), rfl⟩
    · rintro _ _ ⟨v_sum0, v_cx0, rfl, rfl, rfl, rfl⟩
      exact jt_inc rfl (by first | (unfold ja_r; omega) | (unfold ja_rl; omega) | omega | assumption) ⟨_, _, _, rfl, (by 
            rw [show C + (D - C) = D by omega, show A + (m + 1) = (A + m) + 1 by omega, r2_s]
            congr 1
            rw [Int.zero_add]
            exact (r1_e w (by omega) (fun i h1 h2 => tsS_f (by unfold tsI; omega))).symm), (by first | rfl | omega | (simp; done) | (simp; omega)), rfl⟩
  · rintro _ _ ⟨v_sum0, v_cy0, o3_6, rfl, rfl, rfl, rfl⟩
    rw [show A + (B - A) = B by omega]
    refine jt_rI (x := r2 (tsS P R w g dx dy) 0 0 w g) (jv_is (jv_li rfl) (by exact (r2_e g (by omega) (fun m h1 h2 => r1_0 _ (fun i hi => tsS_f (by unfold tsI; omega)))).symm)) ?_
    exact q
set_option maxRecDepth 10000 in
theorem kX6_tryShift {l : Launch} {d : Nat} {h : ja_H} {Q : ja_Q} {n k1 k2 w g i : Nat} {P R : Int → Int → Int} {S N : Nat → Int} {dx dy : Int} (hp : jp w g n k1 h) (hq : jp w g n k2 h) (hP : jpx h w g k1 = P) (hQ : jpx h w g k2 = R) (bP : ∀ x y, 0 ≤ P x y ∧ P x y ≤ 99) (bQ : ∀ x y, 0 ≤ R x y ∧ R x y ≤ 99) (hS : twS P R w g = S) (hN : twN w g = N) (hi : i < 49) (hx : shX i = dx) (hy : shY i = dy) (ht : twP 47 0 S N h.2.1 i) (q : ∀ f, jfr [47] h.2.1 f → twP 47 0 S N f (i + 1) → Q none (h.1, f, h.2.2)) : ja_C l (d + 3) mX6_tryShift (js_sh n) [.inr (.inr (some (47))), .inr (.inr (some k1)), .inr (.inr (some k2)), .inl (dx), .inl (dy)] h Q := by
  obtain ⟨p1, p2, p3, p4, p5, p6, p7, p8, p9, p10⟩ := id hp
  have sb := sh_b hi
  rw [hx, hy] at sb
  have sS := twS_b bP bQ (w := w) (g := g) (by omega) (by omega) i
  have sN := twN_b (w := w) (g := g) (by omega) (by omega) hi
  have eN : N i = ((w : Int) - (dx.natAbs : Int)) * ((g : Int) - (dy.natAbs : Int)) := by rw [← hN]; unfold twN; rw [hx, hy]; exact tsN_all sb.1 sb.2 (by omega) (by omega)
  have eS : S i = r2 (tsS P R w g dx dy) 0 0 w g := by rw [← hS]; unfold twS; rw [hx, hy]
  rw [hS] at sS
  rw [hN] at sN
  have bS := twS_b bP bQ (w := w) (g := g) (by omega) (by omega) (shB S N i)
  rw [hS] at bS
  have bN : i ≠ 0 → 1 ≤ N (shB S N i) ∧ N (shB S N i) ≤ 144 := fun z => by
    have := twN_b (w := w) (g := g) (by omega) (by omega) (i := shB S N i) (by have := shB_lt S N i (by omega); omega)
    rw [hN] at this
    exact this
  have t3 : h.2.1 47 3 = (if i = 0 then 0 else N (shB S N i)) := ht.1
  refine eX6_tryShift _ _ _ _ _ fun r_x r_y ho => ?_
  unfold bX6_tryShift
  unfold ja_r at r_x r_y
  refine jt_sI (x := N i) (jv_is (jv_w (jv_mul (jy_sI (jA_i (jA_i jA_0 jv_ci) (jv_w (jv_sub (jv_gF (jr_lr rfl) p1 p4) (jy_sI (jA_i jA_0 (jv_li rfl)) fun _ => kJ9_abs (by first | (unfold ja_r; omega) | (unfold ja_rl; omega) | omega | assumption))) (by first | (unfold ja_r; omega) | (unfold ja_rl; omega) | omega | assumption))) fun _ => kJ9_max) (jy_sI (jA_i (jA_i jA_0 jv_ci) (jv_w (jv_sub (jv_gF (jr_lr rfl) p1 p5) (jy_sI (jA_i jA_0 (jv_li rfl)) fun _ => kJ9_abs (by first | (unfold ja_r; omega) | (unfold ja_rl; omega) | omega | assumption))) (by first | (unfold ja_r; omega) | (unfold ja_rl; omega) | omega | assumption))) fun _ => kJ9_max)) (by rw [show max 0 ((w : Int) - (dx.natAbs : Int)) = (w : Int) - (dx.natAbs : Int) by omega, show max 0 ((g : Int) - (dy.natAbs : Int)) = (g : Int) - (dy.natAbs : Int) by omega, ← eN]; unfold ja_r; omega)) (by rw [show max 0 ((w : Int) - (dx.natAbs : Int)) = (w : Int) - (dx.natAbs : Int) by omega, show max 0 ((g : Int) - (dy.natAbs : Int)) = (g : Int) - (dy.natAbs : Int) by omega, ← eN])) ?_
  refine jt_sI (x := S i) (jv_is (jy_sI (jA_i (jA_i (jA_r (jA_r jA_0 (jr_lr rfl)) (jr_lr rfl)) (jv_li rfl)) (jv_li rfl)) fun _ => kX6_sumApart hp hq hP hQ bP bQ sb.1 sb.2) (by exact eS.symm)) ?_
  refine jt_sI (x := @ite _ (i = 0 ∨ S i * N (shB S N i) < S (shB S N i) * N i) (Classical.propDecidable _) 1 0) ?_ ?_
  · by_cases z : i = 0
    · rw [if_pos (Or.inl z)]
      rw [if_pos z] at t3
      exact jv_is (jv_cb (φ := True) (jd_eq (jd_or (ψ := False) (jd_eqI (jv_gF (jr_lr rfl) rfl t3) jv_ci) (fun w => absurd rfl w)) (by simp))) (if_pos trivial)
    · rw [if_neg z] at t3
      have t2 : h.2.1 47 2 = S (shB S N i) := (ht.2 z).2.2
      have bN := bN z
      have m1 := jmb (a := S i) (b := N (shB S N i)) (A := 14256) (B := 144) (by omega) (by omega)
      have m2 := jmb (a := S (shB S N i)) (b := N i) (A := 14256) (B := 144) (by omega) (by omega)
      refine jv_is (jv_cb (jd_or (jd_eqI (jv_gF (jr_lr rfl) rfl t3) jv_ci) (fun _ => jd_lt (jv_w (jv_mul (jv_li rfl) (jv_gF (jr_lr rfl) rfl t3)) (by first | (unfold ja_r; omega) | (unfold ja_rl; omega) | omega | assumption)) (jv_w (jv_mul (jv_gF (jr_lr rfl) rfl t2) (jv_li rfl)) (by first | (unfold ja_r; omega) | (unfold ja_rl; omega) | omega | assumption))))) ?_
      by_cases y : S i * N (shB S N i) < S (shB S N i) * N i
      · rw [if_pos (Or.inr y), if_pos (Or.inr y)]
      · rw [if_neg (by omega), if_neg (by omega)]
  refine jb_if_d (φ := (i = 0 ∨ S i * N (shB S N i) < S (shB S N i) * N i)) (jd_eq (jd_and (jd_gt (jv_li rfl) jv_ci) (fun _ => (jd_bt (jv_li rfl)))) (by by_cases y : (i = 0 ∨ S i * N (shB S N i) < S (shB S N i) * N i); rw [if_pos y]; simp [y]; omega; rw [if_neg y]; simp [y])) (fun c1 => ?_) (fun c1 => ?_)
  · refine jt_pI (jr_lr rfl) (by first | rfl | assumption) (jv_li rfl) ?_
    try dsimp only
    refine jt_pI (jr_lr rfl) (by first | rfl | assumption) (jv_li rfl) ?_
    try dsimp only
    refine jt_pI (jr_lr rfl) (by first | rfl | assumption) (jv_li rfl) ?_
    try dsimp only
    refine jt_pI (jr_lr rfl) (by first | rfl | assumption) (jv_li rfl) ?_
    try dsimp only
    first | exact q _ (jfr_up (jfr_up (jfr_up (jfr_up (jfr_rf _ _) (by decide)) (by decide)) (by decide)) (by decide)) (twT c1 (by rw [ja_upO (by omega), ja_upO (by omega), ja_upO (by omega), ja_upE rfl rfl, hx]) (by rw [ja_upO (by omega), ja_upO (by omega), ja_upE rfl rfl, hy]) (by rw [ja_upO (by omega), ja_upE rfl rfl]) (by rw [ja_upE rfl rfl])) | exact q _ (jfr_rf _ _) (twFl c1 ht)
  · first | exact q _ (jfr_up (jfr_up (jfr_up (jfr_up (jfr_rf _ _) (by decide)) (by decide)) (by decide)) (by decide)) (twT c1 (by rw [ja_upO (by omega), ja_upO (by omega), ja_upO (by omega), ja_upE rfl rfl, hx]) (by rw [ja_upO (by omega), ja_upO (by omega), ja_upE rfl rfl, hy]) (by rw [ja_upO (by omega), ja_upE rfl rfl]) (by rw [ja_upE rfl rfl])) | exact q _ (jfr_rf _ _) (twFl c1 ht)
set_option maxRecDepth 10000 in
theorem kX6_findNearest {l : Launch} {d : Nat} {h : ja_H} {Q : ja_Q} {n k1 k2 w g : Nat} {P R : Int → Int → Int} {S N : Nat → Int} (hp : jp w g n k1 h) (hq : jp w g n k2 h) (hP : jpx h w g k1 = P) (hQ : jpx h w g k2 = R) (bP : ∀ x y, 0 ≤ P x y ∧ P x y ≤ 99) (bQ : ∀ x y, 0 ≤ R x y ∧ R x y ≤ 99) (hS : twS P R w g = S) (hN : twN w g = N) (hk : k1 ≠ 47 ∧ k1 + 1 ≠ 47 ∧ k2 ≠ 47 ∧ k2 + 1 ≠ 47) (q : ∀ f, jfr [47] h.2.1 f → twP 47 0 S N f 49 → Q none (h.1, f, h.2.2)) : ja_C l (d + 4) mX6_findNearest (js_sh n) [.inr (.inr (some (47))), .inr (.inr (some k1)), .inr (.inr (some k2))] h Q := by
  refine eX6_findNearest _ _ _ fun ho => ?_
  unfold bX6_findNearest
  refine jt_pI (jr_lr rfl) (by first | rfl | assumption) jv_ci ?_
  try dsimp only
  refine jt_sI (x := ((0 : Nat) : Int) - 3) (jv_is jv_ci (by rfl)) ?_
  refine jb_forc (7) (fun (i : Nat) L' h' => ∃ (v_y : Int) (o3_4 : Option ja_W) (f : Nat → Nat → Int), L' = [some (.inr (.inr (some (47)))), some (.inr (.inr (some k1))), some (.inr (.inr (some k2))), some (.inl (v_y)), o3_4] ∧ v_y = (i : Int) - 3 ∧ (h.1, f, h.2.2) = h' ∧ (jfr [47] h.2.1 f) ∧ (twP 47 0 S N f (7 * i))) ⟨_, _, _, rfl, (by first | rfl | omega | (simp; done) | (simp; omega)), rfl, (by exact jfr_up (jfr_rf _ _) (by decide)), (by exact ⟨ja_upE rfl rfl, fun z => absurd rfl z⟩)⟩ ?_ ?_ ?_
  · rintro i h_i _ _ ⟨v_y0, o3_4, f, rfl, rfl, rfl, fr, ft⟩
    exact jd_eq (jd_le (jv_li rfl) jv_ci) (by omega)
  · rintro i h_i _ _ ⟨v_y0, o3_4, f, rfl, rfl, rfl, fr, ft⟩
    refine jt_sI (x := ((0 : Nat) : Int) - 3) (jv_is jv_ci (by rfl)) ?_
    refine jb_forc (7) (fun (j : Nat) L' h' => ∃ (v_x : Int) (g0 : Nat → Nat → Int), L' = [some (.inr (.inr (some (47)))), some (.inr (.inr (some k1))), some (.inr (.inr (some k2))), some (.inl ((i : Int) - 3)), some (.inl (v_x))] ∧ v_x = (j : Int) - 3 ∧ (h.1, g0, h.2.2) = h' ∧ (jfr [47] h.2.1 g0) ∧ (twP 47 0 S N g0 (7 * i + j))) ⟨_, _, rfl, (by first | rfl | omega | (simp; done) | (simp; omega)), rfl, (by exact fr), (by exact ft)⟩ ?_ ?_ ?_
    · rintro j h_j _ _ ⟨v_x0, g0, rfl, rfl, rfl, gr, gt⟩
      exact jd_eq (jd_le (jv_li rfl) jv_ci) (by omega)
    · rintro j h_j _ _ ⟨v_x0, g0, rfl, rfl, rfl, gr, gt⟩
      refine jx_m (jr_lr rfl) (by first | rfl | assumption) (jA_i (jA_i (jA_r (jA_r jA_0 (jr_lr rfl)) (jr_lr rfl)) (jv_li rfl)) (jv_li rfl)) (kX6_tryShift (h := (h.1, g0, h.2.2)) (i := 7 * i + j) (P := P) (R := R) (jp_up hp (gr _ (by simp <;> omega))) (jp_up hq (gr _ (by simp <;> omega))) (by rw [jpx_fr (gr _ (by simp <;> omega))]; exact hP) (by rw [jpx_fr (gr _ (by simp <;> omega))]; exact hQ) bP bQ hS hN (by omega) (sh_xy h_j).1 (sh_xy h_j).2 gt fun g2 gr1 gt2 => ⟨rfl, ?_⟩)
      have gr2 : jfr [47] h.2.1 g2 := jfr_tr gr gr1
      exact jt_inc rfl (by first | (unfold ja_r; omega) | (unfold ja_rl; omega) | omega | assumption) ⟨_, _, rfl, (by first | rfl | omega | (simp; done) | (simp; omega)), rfl, (by exact gr2), (by exact gt2)⟩
    · rintro _ _ ⟨v_x0, g0, rfl, rfl, rfl, gr, gt⟩
      exact jt_inc rfl (by first | (unfold ja_r; omega) | (unfold ja_rl; omega) | omega | assumption) ⟨_, _, _, rfl, (by first | rfl | omega | (simp; done) | (simp; omega)), rfl, (by exact gr), (by exact gt)⟩
  · rintro _ _ ⟨v_y0, o3_4, f, rfl, rfl, rfl, fr, ft⟩
    exact q f fr ft
set_option maxRecDepth 10000 in
theorem kX6_countBeyond {l : Launch} {d : Nat} {h : ja_H} {Q : ja_Q} {n k1 k2 w g : Nat} {P R : Int → Int → Int} {dx dy t : Int} (hp : jp w g n k1 h) (hq : jp w g n k2 h) (hP : jpx h w g k1 = P) (hQ : jpx h w g k2 = R) (bP : ∀ x y, 0 ≤ P x y ∧ P x y ≤ 99) (bQ : ∀ x y, 0 ≤ R x y ∧ R x y ≤ 99) (hx : h.2.1 47 0 = dx) (hy : h.2.1 47 1 = dy) (bx : -3 ≤ dx ∧ dx ≤ 3) (by0 : -3 ≤ dy ∧ dy ≤ 3) (q : Q (some (.inl (r2 (tsB P R w g dx dy t) 0 0 w g))) h) : ja_C l (d + 2) mX6_countBeyond (js_sh n) [.inr (.inr (some (47))), .inr (.inr (some k1)), .inr (.inr (some k2)), .inl (t)] h Q := by
  obtain ⟨p1, p2, p3, p4, p5, p6, p7, p8, p9, p10⟩ := id hp
  have bF := tsB_b P R (w : Nat) (g : Nat) dx dy t
  refine eX6_countBeyond _ _ _ _ fun r_t ho => ?_
  unfold bX6_countBeyond
  unfold ja_r at r_t
  refine jt_sI jv_ci ?_
  refine jt_sI jv_ci ?_
  refine jb_forc (g) (fun (m : Nat) L' h' => ∃ (v_beyond : Int) (v_cy : Int) (o3_6 : Option ja_W) (o3_7 : Option ja_W), L' = [some (.inr (.inr (some (47)))), some (.inr (.inr (some k1))), some (.inr (.inr (some k2))), some (.inl (t)), some (.inl (v_beyond)), some (.inl (v_cy)), o3_6, o3_7] ∧ v_beyond = r2 (tsB P R w g dx dy t) 0 0 w m ∧ v_cy = (m : Int) ∧ h = h') ⟨_, _, _, _, rfl, (by rfl), (by first | rfl | omega | (simp; done) | (simp; omega)), rfl⟩ ?_ ?_ ?_
  · rintro m h_m _ _ ⟨v_beyond0, v_cy0, o3_6, o3_7, rfl, rfl, rfl, rfl⟩
    exact jd_eq (jd_lt (jv_li rfl) (jv_gF (jr_lr rfl) p1 p5)) (by omega)
  · rintro m h_m _ _ ⟨v_beyond0, v_cy0, o3_6, o3_7, rfl, rfl, rfl, rfl⟩
    have b2 := r2_b (by decide) bF 0 0 (u := w) (by omega) m
    refine jt_sI jv_ci ?_
    refine jb_forc (w) (fun (k : Nat) L' h' => ∃ (v_beyond : Int) (v_cx : Int) (o5_7 : Option ja_W), L' = [some (.inr (.inr (some (47)))), some (.inr (.inr (some k1))), some (.inr (.inr (some k2))), some (.inl (t)), some (.inl (v_beyond)), some (.inl ((m : Int))), some (.inl (v_cx)), o5_7] ∧ v_beyond = r2 (tsB P R w g dx dy t) 0 0 w m + r1 (tsB P R w g dx dy t) 0 (m : Int) k ∧ v_cx = (k : Int) ∧ h = h') ⟨_, _, _, rfl, (by simp [r1]), (by first | rfl | omega | (simp; done) | (simp; omega)), rfl⟩ ?_ ?_ ?_
    · rintro k h_k _ _ ⟨v_beyond0, v_cx0, o5_7, rfl, rfl, rfl, rfl⟩
      exact jd_eq (jd_lt (jv_li rfl) (jv_gF (jr_lr rfl) p1 p4)) (by omega)
    · rintro k h_k _ _ ⟨v_beyond0, v_cx0, o5_7, rfl, rfl, rfl, rfl⟩
      have b3 := r1_b bF 0 (m : Int) k
      have l1 := bP (k : Int) (m : Int)
      have l2 := bQ ((k : Int) + dx) ((m : Int) + dy)
      refine jt_sI (jy_mI (jr_lr rfl) hq.1 (jA_i (jA_i jA_0 (jv_w (jv_add (jv_li rfl) (jv_gF (jr_lr rfl) rfl hx)) (by first | (unfold ja_r; omega) | (unfold ja_rl; omega) | omega | assumption))) (jv_w (jv_add (jv_li rfl) (jv_gF (jr_lr rfl) rfl hy)) (by first | (unfold ja_r; omega) | (unfold ja_rl; omega) | omega | assumption))) fun _ => kX3_has hq) ?_
      refine jb_if_d (φ := tsI w g dx dy (k : Int) (m : Int) ∧ t < ((P (k : Int) (m : Int) - R ((k : Int) + dx) ((m : Int) + dy)).natAbs : Int)) (jd_eq (jd_and (jd_b (jv_li rfl)) (fun _ => (jd_gt (jy_sI (jA_i jA_0 (jv_w (jv_sub (jy_mI (jr_lr rfl) hp.1 (jA_i (jA_i jA_0 (jv_li rfl)) (jv_li rfl)) fun _ => kX3_getX hp) (jy_mI (jr_lr rfl) hq.1 (jA_i (jA_i jA_0 (jv_w (jv_add (jv_li rfl) (jv_gF (jr_lr rfl) rfl hx)) (by first | (unfold ja_r; omega) | (unfold ja_rl; omega) | omega | assumption))) (jv_w (jv_add (jv_li rfl) (jv_gF (jr_lr rfl) rfl hy)) (by first | (unfold ja_r; omega) | (unfold ja_rl; omega) | omega | assumption))) fun _ => kX3_getX hq)) (by rw [hP, hQ]; unfold ja_r; omega))) fun _ => kJ9_abs (by rw [hP, hQ]; omega)) (jv_li rfl)))) (by unfold tsI; rw [hP, hQ])) (fun c1 => ?_) (fun c1 => ?_)
      · refine jt_inc rfl (by first | (unfold ja_r; omega) | (unfold ja_rl; omega) | omega | assumption) ?_
        exact jt_inc rfl (by first | (unfold ja_r; omega) | (unfold ja_rl; omega) | omega | assumption) ⟨_, _, _, rfl, (by rw [r1_s, Int.zero_add]; first | (rw [tsB_t c1]; omega) | (rw [tsB_f c1]; omega)), (by first | rfl | omega | (simp; done) | (simp; omega)), rfl⟩
      · exact jt_inc rfl (by first | (unfold ja_r; omega) | (unfold ja_rl; omega) | omega | assumption) ⟨_, _, _, rfl, (by rw [r1_s, Int.zero_add]; first | (rw [tsB_t c1]; omega) | (rw [tsB_f c1]; omega)), (by first | rfl | omega | (simp; done) | (simp; omega)), rfl⟩
    · rintro _ _ ⟨v_beyond0, v_cx0, o5_7, rfl, rfl, rfl, rfl⟩
      exact jt_inc rfl (by first | (unfold ja_r; omega) | (unfold ja_rl; omega) | omega | assumption) ⟨_, _, _, _, rfl, (by rw [r2_s, Int.zero_add]), (by first | rfl | omega | (simp; done) | (simp; omega)), rfl⟩
  · rintro _ _ ⟨v_beyond0, v_cy0, o3_6, o3_7, rfl, rfl, rfl, rfl⟩
    refine jt_rI (jv_li rfl) ?_
    exact q
