theorem kd_t {M K K' : Nat → Int} {Lm Lm' : Nat → Nat} {N m : Nat} (h : kdO M K Lm N m) (hM : M N ≠ 0) (hn : ∀ i, i < m → K i ≠ M N) (k1 : ∀ i, i < m → K' i = K i) (k2 : K' m = M N) (l1 : ∀ i, i < m → Lm' i = Lm i) (l2 : Lm' m = N) : kdO M K' Lm' (N + 1) (m + 1) := by
  obtain ⟨a, b, c⟩ := h
  refine ⟨fun i hi => ?_, fun i j hij hj => ?_, fun q hq hm => ?_⟩
  · by_cases z : i = m
    · subst z; rw [k2, l2]; exact ⟨hM, by omega, rfl⟩
    · have := a i (by omega)
      rw [k1 i (by omega), l1 i (by omega)]
      exact ⟨this.1, by omega, this.2.2⟩
  · by_cases z : j = m
    · subst z
      have := a i (by omega)
      rw [k2, l2, k1 i (by omega), l1 i (by omega)]
      exact ⟨this.2.1, hn i (by omega)⟩
    · rw [k1 i (by omega), l1 i (by omega), k1 j (by omega), l1 j (by omega)]
      exact b i j hij (by omega)
  · by_cases z : q = N
    · subst z; exact ⟨m, by omega, k2, by omega⟩
    · obtain ⟨i, h1, h2, h3⟩ := c q (by omega) hm
      exact ⟨i, by omega, by rw [k1 i h1]; exact h2, by rw [l1 i h1]; exact h3⟩
theorem kd_f {M K : Nat → Int} {Lm : Nat → Nat} {N m : Nat} (h : kdO M K Lm N m) (hM : M N = 0 ∨ ∃ i, i < m ∧ K i = M N) : kdO M K Lm (N + 1) m := by
  obtain ⟨a, b, c⟩ := h
  refine ⟨fun i hi => ?_, b, fun q hq hm => ?_⟩
  · have := a i hi; exact ⟨this.1, by omega, this.2.2⟩
  · by_cases z : q = N
    · subst z
      rcases hM with w | ⟨i, h1, h2⟩
      · exact absurd w hm
      · exact ⟨i, h1, h2, by have := (a i h1).2.1; omega⟩
    · exact c q (by omega) hm
def kdS (M : Nat → Int) (f : Nat → Nat → Int) (N m mo : Nat) : Prop := f 29 4 = (m : Int) ∧ f 29 5 = (mo : Int) ∧ mo ≤ 20 ∧ kdO M (f 31) (fun i => (f 32 i).toNat) N m ∧ (∀ i, i < m → 0 ≤ f 32 i) ∧ ∀ i, i < m → pcn (f 31 i) 20 ≤ mo
theorem kdS_t {M : Nat → Int} {f : Nat → Nat → Int} {N m mo : Nat} (h : kdS M f N m mo) (hM : M N ≠ 0) (hn : ¬ ∃ i, i < m ∧ f 31 i = M N) : kdS M (ja_up (ja_up (ja_up (ja_up f 31 m (M N)) 32 m (N : Int)) 29 4 ((m : Int) + 1)) 29 5 ((max mo (pcn (M N) 20) : Nat) : Int)) (N + 1) (m + 1) (max mo (pcn (M N) 20)) := by
  obtain ⟨s4, s5, smo, sO, sL, sP⟩ := h
  have pl := pcn_le (M N) 20
  have g31 : ∀ i, ja_up (ja_up (ja_up (ja_up f 31 m (M N)) 32 m (N : Int)) 29 4 ((m : Int) + 1)) 29 5 ((max mo (pcn (M N) 20) : Nat) : Int) 31 i = if i = m then M N else f 31 i := fun i => by
    rw [ja_upO (by omega), ja_upO (by omega), ja_upO (by omega)]
    by_cases z : i = m
    · rw [if_pos z, ja_upE rfl z]
    · rw [if_neg z, ja_upO (by omega)]
  have g32 : ∀ i, ja_up (ja_up (ja_up (ja_up f 31 m (M N)) 32 m (N : Int)) 29 4 ((m : Int) + 1)) 29 5 ((max mo (pcn (M N) 20) : Nat) : Int) 32 i = if i = m then (N : Int) else f 32 i := fun i => by
    rw [ja_upO (by omega), ja_upO (by omega)]
    by_cases z : i = m
    · rw [if_pos z, ja_upE rfl z]
    · rw [if_neg z, ja_upO (by omega), ja_upO (by omega)]
  refine ⟨by rw [ja_upO (by omega), ja_upE rfl rfl]; omega, by rw [ja_upE rfl rfl], by omega, kd_t sO hM (fun i hi y => hn ⟨i, hi, y⟩) (fun i hi => by rw [g31, if_neg (by omega)]) (by rw [g31, if_pos rfl]) (fun i hi => by rw [g32, if_neg (by omega)]) (by rw [g32, if_pos rfl]; rfl), fun i hi => ?_, fun i hi => ?_⟩
  · rw [g32]
    split
    · omega
    · exact sL i (by omega)
  · rw [g31]
    split
    · omega
    · have := sP i (by omega); omega
set_option maxRecDepth 10000 in
theorem kX7_isKind {l : Launch} {d : Nat} {h : ja_H} {Q : ja_Q} {n m : Nat} {v : Int} (hG : jG h.1) (k4 : h.2.1 29 4 = (m : Int)) (hm : m ≤ 726) (q1 : (∃ i, i < m ∧ h.2.1 31 i = v) → Q (some (.inl 1)) h) (q0 : ¬ (∃ i, i < m ∧ h.2.1 31 i = v) → Q (some (.inl 0)) h) : ja_C l (d + 1) mX7_isKind (js_sh n) [.inr (.inr (some (29))), .inl (v)] h Q := by
  refine eX7_isKind _ _ fun r_mask ho => ?_
  unfold bX7_isKind
  unfold ja_r at r_mask
  refine jt_sI jv_ci ?_
  refine jb_forc (m) (fun (i : Nat) L' h' => ∃ (v_i : Int), L' = [some (.inr (.inr (some (29)))), some (.inl (v)), some (.inl (v_i))] ∧ v_i = (i : Int) ∧ h = h' ∧ (∀ j, j < i → h.2.1 31 j ≠ v)) ⟨_, rfl, (by first | rfl | omega | (simp; done) | (simp; omega)), rfl, (by intro j hj; omega)⟩ ?_ ?_ ?_
  · rintro i h_i _ _ ⟨v_i0, rfl, rfl, rfl, no⟩
    exact jd_eq (jd_lt (jv_li rfl) (jv_gF (jr_lr rfl) (by first | rfl | assumption) (by first | assumption | rfl))) (by omega)
  · rintro i h_i _ _ ⟨v_i0, rfl, rfl, rfl, no⟩
    refine jb_if_d (jd_eqI (jv_fI (jr_g (jr_lr rfl) (by first | rfl | assumption) (by first | rfl | assumption | exact jG_at hG rfl | exact jG_90 hG rfl)) (jv_li rfl) (by first | rfl | assumption) (by first | (unfold ja_r; omega) | (unfold ja_rl; omega) | omega | assumption) (by first | (unfold ja_r; omega) | (unfold ja_rl; omega) | omega | assumption) (by first | assumption | rfl)) (jv_li rfl)) (fun c1 => ?_) (fun c1 => ?_)
    · refine jv_ci _ ⟨Or.inr rfl, ?_⟩
      exact q1 ⟨i, h_i, c1⟩
    · exact jt_inc rfl (by first | (unfold ja_r; omega) | (unfold ja_rl; omega) | omega | assumption) ⟨_, rfl, (by first | rfl | omega | (simp; done) | (simp; omega)), rfl, (by intro j hj; by_cases z : j = i; subst z; exact c1; exact no j (by omega))⟩
  · rintro _ _ ⟨v_i0, rfl, rfl, rfl, no⟩
    refine jv_ci _ ⟨Or.inl rfl, ?_⟩
    exact q0 fun ⟨j, h1, h2⟩ => no j h1 h2
set_option maxRecDepth 10000 in
theorem kX7_gatherKinds {l : Launch} {d : Nat} {h : ja_H} {Q : ja_Q} {n : Nat} {v : Int} (hG : jG h.1) (hv : ∀ k, 20 ≤ k → k < 32 → jbt v k = false) (q : ∀ f m mo, jfr [29, 31, 32] h.2.1 f → kdS (fun q => ja_land (h.2.1 30 q) v) f 726 m mo → Q none (h.1, f, h.2.2)) : ja_C l (d + 2) mX7_gatherKinds (js_sh n) [.inr (.inr (some (29))), .inl (v)] h Q := by
  obtain ⟨M, hM⟩ : ∃ M : Nat → Int, (fun q => ja_land (h.2.1 30 q) v) = M := ⟨_, rfl⟩
  rw [hM] at q
  have hMq : ∀ q, ja_land (h.2.1 30 q) v = M q := fun q => congrFun hM q
  have hMb : ∀ q : Nat, 0 ≤ M q ∧ M q < 1048576 := fun q => by rw [← hMq]; exact jbt_lt20 (ja_land_r _ _) fun k h1 h2 => by rw [jbt_and, hv k h1 h2, Bool.and_false]
  refine eX7_gatherKinds _ _ fun r_set ho => ?_
  unfold bX7_gatherKinds
  unfold ja_r at r_set
  refine jt_pI (jr_lr rfl) (by first | rfl | assumption) jv_ci ?_
  try dsimp only
  refine jt_pI (jr_lr rfl) (by first | rfl | assumption) jv_ci ?_
  try dsimp only
  refine jt_sI jv_ci ?_
  refine jb_forc (726) (fun (N : Nat) L' h' => ∃ (v_lamp : Int) (o4_3 : Option ja_W) (f : Nat → Nat → Int), L' = [some (.inr (.inr (some (29)))), some (.inl (v)), some (.inl (v_lamp)), o4_3] ∧ v_lamp = (N : Int) ∧ (h.1, f, h.2.2) = h' ∧ (jfr [29, 31, 32] h.2.1 f) ∧ (∃ m mo : Nat, kdS M f N m mo)) ⟨_, _, _, rfl, (by first | rfl | omega | (simp; done) | (simp; omega)), rfl, (by exact jfr_up (jfr_up (jfr_rf _ _) (by decide)) (by decide)), (by exact ⟨0, 0, by rw [ja_upO (by omega), ja_upE rfl rfl]; rfl, by rw [ja_upE rfl rfl]; rfl, by omega, ⟨fun i hi => absurd hi (Nat.not_lt_zero i), fun i j h1 h2 => absurd h2 (Nat.not_lt_zero j), fun q hq => absurd hq (Nat.not_lt_zero q)⟩, fun i hi => absurd hi (Nat.not_lt_zero i), fun i hi => absurd hi (Nat.not_lt_zero i)⟩)⟩ ?_ ?_ ?_
  · rintro N h_N _ _ ⟨v_lamp0, o4_3, f, rfl, rfl, rfl, fr, fk⟩
    exact jd_eq (jd_lt (jv_li rfl) jv_ci) (by omega)
  · rintro N h_N _ _ ⟨v_lamp0, o4_3, f, rfl, rfl, rfl, fr, fk⟩
    obtain ⟨m, mo, fk⟩ := fk
    obtain ⟨s4, s5, smo, sO, sL, sP⟩ := id fk
    have mN := kd_m sO
    have eM : ja_land (f 30 ((N : Nat) : Int).toNat) v = M N := by rw [fr 30 (by decide)]; exact hMq N
    have bM := hMb N
    have pl := pcn_le (M N) 20
    refine jt_sI (x := M N) (jv_is (jv_and (jv_fI (jr_g (jr_lr rfl) (by first | rfl | assumption) (by first | rfl | assumption | exact jG_at hG rfl | exact jG_90 hG rfl)) (jv_li rfl) (by first | rfl | assumption) (by first | (unfold ja_r; omega) | (unfold ja_rl; omega) | omega | assumption) (by first | (unfold ja_r; omega) | (unfold ja_rl; omega) | omega | assumption) (by first | assumption | rfl)) (jv_li rfl)) (by exact eM)) ?_
    refine jb_if_d (φ := M N ≠ 0 ∧ ¬ ∃ i, i < m ∧ f 31 i = M N) (jd_eq (jd_and (jd_and (jd_ne (jv_li rfl) jv_ci) (fun _ => (jd_not (jd_bt (jy_mI (jr_lr rfl) rfl (jA_i jA_0 (jv_li rfl)) fun _ => pv_of (kX7_isKind (h := (h.1, f, h.2.2)) hG s4 (by omega))))))) (fun _ => (jd_lt (jv_gF (jr_lr rfl) rfl s4) jv_ci))) (by rw [pv_ne]; constructor; exact fun y => y.1; exact fun y => ⟨y, by omega⟩)) (fun c1 => ?_) (fun c1 => ?_)
    · refine jt_wI (jr_g (jr_lr rfl) (by first | rfl | assumption) (by first | rfl | assumption | exact jG_at hG rfl | exact jG_90 hG rfl)) (by first | rfl | assumption) (jv_gF (jr_lr rfl) (by first | rfl | assumption) (by first | assumption | rfl)) (jv_li rfl) (by first | (unfold ja_r; omega) | (unfold ja_rl; omega) | omega | assumption) (by first | (unfold ja_r; omega) | (unfold ja_rl; omega) | omega | assumption) ?_
      try dsimp only
      have s4a : ja_up f 31 ((m : Nat) : Int).toNat (M N) 29 4 = (m : Int) := by rw [ja_upO (by omega)]; exact s4
      refine jt_wI (jr_g (jr_lr rfl) (by first | rfl | assumption) (by first | rfl | assumption | exact jG_at hG rfl | exact jG_90 hG rfl)) (by first | rfl | assumption) (jv_gF (jr_lr rfl) (by first | rfl | assumption) (by first | assumption | rfl)) (jv_li rfl) (by first | (unfold ja_r; omega) | (unfold ja_rl; omega) | omega | assumption) (by first | (unfold ja_r; omega) | (unfold ja_rl; omega) | omega | assumption) ?_
      try dsimp only
      refine jt_uG (w := (m : Int) + 1) (jr_lr rfl) (by first | rfl | assumption) jv_ci (by (try dsimp only); rw [ja_upO (by omega), ja_upO (by omega), s4, ja_w_id (by unfold ja_r; omega)]) ?_
      try dsimp only
      have s5a : ja_up (ja_up (ja_up f 31 ((m : Nat) : Int).toNat (M N)) 32 ((m : Nat) : Int).toNat (N : Int)) 29 4 ((m : Int) + 1) 29 5 = (mo : Int) := by rw [ja_upO (by omega), ja_upO (by omega), ja_upO (by omega)]; exact s5
      refine jt_pI (jr_lr rfl) (by first | rfl | assumption) (jv_is (x' := ((max mo (pcn (M N) 20) : Nat) : Int)) (jy_sI (jA_i (jA_i jA_0 (jv_gF (jr_lr rfl) rfl s5a)) (jy_sI (jA_i jA_0 (jv_li rfl)) fun _ => kJ6_bitCount bM)) fun _ => kJ9_max) (by omega)) ?_
      try dsimp only
      exact jt_inc rfl (by first | (unfold ja_r; omega) | (unfold ja_rl; omega) | omega | assumption) ⟨_, _, _, rfl, (by first | rfl | omega | (simp; done) | (simp; omega)), rfl, (by first | exact jfr_up (jfr_up (jfr_up (jfr_up fr (by decide)) (by decide)) (by decide)) (by decide) | exact fr), (by 
            first
            | exact ⟨m + 1, max mo (pcn (M N) 20), kdS_t fk c1.1 c1.2⟩
            | exact ⟨m, mo, s4, s5, smo, kd_f sO (Classical.byContradiction fun y => c1 ⟨fun z => y (Or.inl z), fun z => y (Or.inr z)⟩), sL, sP⟩)⟩
    · exact jt_inc rfl (by first | (unfold ja_r; omega) | (unfold ja_rl; omega) | omega | assumption) ⟨_, _, _, rfl, (by first | rfl | omega | (simp; done) | (simp; omega)), rfl, (by first | exact jfr_up (jfr_up (jfr_up (jfr_up fr (by decide)) (by decide)) (by decide)) (by decide) | exact fr), (by 
            first
            | exact ⟨m + 1, max mo (pcn (M N) 20), kdS_t fk c1.1 c1.2⟩
            | exact ⟨m, mo, s4, s5, smo, kd_f sO (Classical.byContradiction fun y => c1 ⟨fun z => y (Or.inl z), fun z => y (Or.inr z)⟩), sL, sP⟩)⟩
  · rintro _ _ ⟨v_lamp0, o4_3, f, rfl, rfl, rfl, fr, fk⟩
    obtain ⟨m, mo, fk⟩ := fk
    exact q f m mo fr fk
set_option maxRecDepth 10000 in
theorem kX7_oneLets {l : Launch} {d : Nat} {h : ja_H} {Q : ja_Q} {n m mo fm : Nat} {v : Int} {Km : Nat → Int} {Lm : Nat → Nat} (hG : jG h.1) (k4 : h.2.1 29 4 = (m : Int)) (k5 : h.2.1 29 5 = (mo : Int)) (hmo : mo ≤ 20) (hm : m ≤ 726) (hK : ∀ i, i < m → h.2.1 31 i = Km i) (hL : ∀ i, i < m → h.2.1 32 i = ((Lm i : Nat) : Int)) (hP : ∀ i, i < m → pcn (Km i) 20 ≤ mo) (hvr : ja_r v) (hr : ∀ k, 20 ≤ k → k < 32 → jbt v k = false) (q1 : ∀ i, fm ≤ i → i < m → mn v (Km i) = 0 → (∀ j, fm ≤ j → j < i → mn v (Km j) ≠ 0) → Q (some (.inl 1)) (h.1, ja_up h.2.1 33 2 ((Lm i : Nat) : Int), h.2.2)) (q0 : (∀ i, fm ≤ i → i < m → mn v (Km i) ≠ 0) → Q (some (.inl 0)) h) : ja_C l (d + 2) mX7_oneLets (js_sh n) [.inr (.inr (some (29))), .inl (v), .inl ((fm : Int))] h Q := by
  have vb := jbt_lt20 hvr hr
  refine eX7_oneLets _ _ _ fun r_rest r_from ho => ?_
  unfold bX7_oneLets
  unfold ja_r at r_rest r_from
  refine jb_if_d (jd_gt (jy_sI (jA_i jA_0 (jv_li rfl)) fun _ => kJ6_bitCount vb) (jv_gF (jr_lr rfl) rfl k5)) (fun c1 => ?_) (fun c1 => ?_)
  · refine jv_ci _ ⟨Or.inl rfl, ?_⟩
    refine q0 fun i h1 h2 e => ?_
    have a := pcn_mn v (Km i) 20 (by decide)
    rw [e, pcn_0] at a
    have b := hP i h2
    omega
  · refine jt_sI (x := ((fm + 0 : Nat) : Int)) (jv_is (jy_sI (jA_i (jA_i jA_0 jv_ci) (jv_li rfl)) fun _ => kJ9_max) (by omega)) ?_
    refine jb_forc (m - fm) (fun (j : Nat) L' h' => ∃ (v_i : Int), L' = [some (.inr (.inr (some (29)))), some (.inl (v)), some (.inl ((fm : Int))), some (.inl (v_i))] ∧ v_i = ((fm + j : Nat) : Int) ∧ h = h' ∧ (∀ i, fm ≤ i → i < fm + j → mn v (Km i) ≠ 0)) ⟨_, rfl, (by first | rfl | omega | (simp; done) | (simp; omega)), rfl, (by intro i h1 h2; omega)⟩ ?_ ?_ ?_
    · rintro j h_j _ _ ⟨v_i0, rfl, rfl, rfl, no⟩
      exact jd_eq (jd_lt (jv_li rfl) (jv_gF (jr_lr rfl) (by first | rfl | assumption) (by first | assumption | rfl))) (by omega)
    · rintro j h_j _ _ ⟨v_i0, rfl, rfl, rfl, no⟩
      have eK : h.2.1 31 ((fm + j : Nat) : Int).toNat = Km (fm + j) := hK (fm + j) (by omega)
      have eL : h.2.1 32 ((fm + j : Nat) : Int).toNat = ((Lm (fm + j) : Nat) : Int) := hL (fm + j) (by omega)
      refine jb_if_d (φ := mn v (Km (fm + j)) = 0) (jd_eq (jd_eqI (jv_and (jv_li rfl) (jv_xor (jv_fI (jr_g (jr_lr rfl) (by first | rfl | assumption) (by first | rfl | assumption | exact jG_at hG rfl | exact jG_90 hG rfl)) (jv_li rfl) (by first | rfl | assumption) (by first | (unfold ja_r; omega) | (unfold ja_rl; omega) | omega | assumption) (by first | (unfold ja_r; omega) | (unfold ja_rl; omega) | omega | assumption) (by first | assumption | rfl)) jv_ci)) jv_ci) (by exact Iff.rfl)) (fun c2 => ?_) (fun c2 => ?_)
      · refine jt_wI (jr_g (jr_lr rfl) (by first | rfl | assumption) (by first | rfl | assumption | exact jG_at hG rfl | exact jG_90 hG rfl)) (by first | rfl | assumption) jv_ci (jv_fI (jr_g (jr_lr rfl) (by first | rfl | assumption) (by first | rfl | assumption | exact jG_at hG rfl | exact jG_90 hG rfl)) (jv_li rfl) (by first | rfl | assumption) (by first | (unfold ja_r; omega) | (unfold ja_rl; omega) | omega | assumption) (by first | (unfold ja_r; omega) | (unfold ja_rl; omega) | omega | assumption) (by first | assumption | rfl)) (by first | (unfold ja_r; omega) | (unfold ja_rl; omega) | omega | assumption) (by first | (unfold ja_r; omega) | (unfold ja_rl; omega) | omega | assumption) ?_
        try dsimp only
        refine jv_ci _ ⟨Or.inr rfl, ?_⟩
        exact q1 (fm + j) (by omega) (by omega) c2 no
      · exact jt_inc rfl (by first | (unfold ja_r; omega) | (unfold ja_rl; omega) | omega | assumption) ⟨_, rfl, (by first | rfl | omega | (simp; done) | (simp; omega)), rfl, (by intro i h1 h2; by_cases z : i = fm + j; subst z; exact c2; exact no i h1 (by omega))⟩
    · rintro _ _ ⟨v_i0, rfl, rfl, rfl, no⟩
      refine jv_ci _ ⟨Or.inl rfl, ?_⟩
      exact q0 fun i h1 h2 => no i h1 (by omega)
set_option maxRecDepth 10000 in
theorem kX7_twoLet {l : Launch} {d : Nat} {h : ja_H} {Q : ja_Q} {n m mo fm : Nat} {v : Int} {Km : Nat → Int} {Lm : Nat → Nat} (hG : jG h.1) (k4 : h.2.1 29 4 = (m : Int)) (k5 : h.2.1 29 5 = (mo : Int)) (hmo : mo ≤ 20) (hm : m ≤ 726) (hK : ∀ i, i < m → h.2.1 31 i = Km i) (hL : ∀ i, i < m → h.2.1 32 i = ((Lm i : Nat) : Int)) (hP : ∀ i, i < m → pcn (Km i) 20 ≤ mo) (hvr : ja_r v) (hr : ∀ k, 20 ≤ k → k < 32 → jbt v k = false) (q1 : ∀ i j, fm ≤ i → i < j → j < m → mn (mn v (Km i)) (Km j) = 0 → (∀ a b, fm ≤ a → a < b → b < m → mn (mn v (Km a)) (Km b) = 0 → i < a ∨ (i = a ∧ j ≤ b)) → Q (some (.inl 1)) (h.1, ja_up (ja_up h.2.1 33 2 ((Lm j : Nat) : Int)) 33 1 ((Lm i : Nat) : Int), h.2.2)) (q0 : (∀ a b, fm ≤ a → a < b → b < m → mn (mn v (Km a)) (Km b) ≠ 0) → Q (some (.inl 0)) h) : ja_C l (d + 3) mX7_twoLet (js_sh n) [.inr (.inr (some (29))), .inl (v), .inl ((fm : Int))] h Q := by
  have vb := jbt_lt20 hvr hr
  obtain ⟨moI, hmoI⟩ : ∃ moI : Int, (mo : Int) = moI := ⟨_, rfl⟩
  have k5b : h.2.1 29 5 = moI := by rw [k5]; exact hmoI
  refine eX7_twoLet _ _ _ fun r_rest r_from ho => ?_
  unfold bX7_twoLet
  unfold ja_r at r_rest r_from
  refine jb_if_d (jd_gt (jy_sI (jA_i jA_0 (jv_li rfl)) fun _ => kJ6_bitCount vb) (jv_w (jv_mul jv_ci (jv_gF (jr_lr rfl) rfl k5b)) (by first | (unfold ja_r; omega) | (unfold ja_rl; omega) | omega | assumption))) (fun c1 => ?_) (fun c1 => ?_)
  · refine jv_ci _ ⟨Or.inl rfl, ?_⟩
    refine q0 fun i j h1 h2 h3 e => ?_
    have a := pcn_mn v (Km i) 20 (by decide)
    have a2 := pcn_mn (mn v (Km i)) (Km j) 20 (by decide)
    rw [e, pcn_0] at a2
    have b := hP i (by omega)
    have b2 := hP j h3
    omega
  · refine jt_sI (x := ((fm + 0 : Nat) : Int)) (jv_is (jy_sI (jA_i (jA_i jA_0 jv_ci) (jv_li rfl)) fun _ => kJ9_max) (by omega)) ?_
    refine jb_forc (m - fm) (fun (j : Nat) L' h' => ∃ (v_i : Int), L' = [some (.inr (.inr (some (29)))), some (.inl (v)), some (.inl ((fm : Int))), some (.inl (v_i))] ∧ v_i = ((fm + j : Nat) : Int) ∧ h = h' ∧ (∀ a b, fm ≤ a → a < fm + j → a < b → b < m → mn (mn v (Km a)) (Km b) ≠ 0)) ⟨_, rfl, (by first | rfl | omega | (simp; done) | (simp; omega)), rfl, (by intro i b h1 h2; omega)⟩ ?_ ?_ ?_
    · rintro j h_j _ _ ⟨v_i0, rfl, rfl, rfl, no⟩
      exact jd_eq (jd_lt (jv_li rfl) (jv_gF (jr_lr rfl) (by first | rfl | assumption) (by first | assumption | rfl))) (by omega)
    · rintro j h_j _ _ ⟨v_i0, rfl, rfl, rfl, no⟩
      have eK : h.2.1 31 ((fm + j : Nat) : Int).toNat = Km (fm + j) := hK (fm + j) (by omega)
      refine jb_if_p (jx_mI (jr_lr rfl) rfl (jA_i (jA_i jA_0 (jv_is (x' := mn v (Km (fm + j))) (jv_and (jv_li rfl) (jv_xor (jv_fI (jr_g (jr_lr rfl) rfl (jG_at hG rfl)) (jv_li rfl) rfl (by omega) (by omega) eK) jv_ci)) rfl)) (jv_is (x' := ((fm + j + 1 : Nat) : Int)) (jv_w (jv_add (jv_li rfl) jv_ci) (by first | (unfold ja_r; omega) | (unfold ja_rl; omega) | omega | assumption)) (by omega))) (kX7_oneLets (Km := Km) (Lm := Lm) hG k4 k5 hmo hm hK hL hP (mn_r _ _) (mn_20 hr) (fun b h1 h2 h3 h4 => ⟨1, rfl, fun _ => ?_⟩) (fun z0 => ⟨0, rfl, fun _ => ?_⟩)))
      · rw [if_neg (by decide)]
        have eL : ja_up h.2.1 33 2 ((Lm b : Nat) : Int) 32 ((fm + j : Nat) : Int).toNat = ((Lm (fm + j) : Nat) : Int) := by rw [ja_upO (by omega)]; exact hL (fm + j) (by omega)
        refine jt_wI (jr_g (jr_lr rfl) rfl (jG_at hG rfl)) rfl jv_ci (jv_fI (jr_g (jr_lr rfl) rfl (jG_at hG rfl)) (jv_li rfl) rfl (by omega) (by omega) eL) (by decide) (by decide) ?_
        refine jv_ci _ ⟨Or.inr rfl, q1 (fm + j) b (by omega) (by omega) h2 h3 fun a' b' g1 g2 g3 g4 => ?_⟩
        rcases Nat.lt_trichotomy a' (fm + j) with y | y | y
        · exact absurd g4 (no a' b' g1 y g2 g3)
        · subst y
          refine Or.inr ⟨rfl, ?_⟩
          rcases Nat.lt_or_ge b' b with u | u
          · exact absurd g4 (h4 b' (by omega) u)
          · exact u
        · exact Or.inl y
      rw [if_pos rfl]
      have z0 : ∀ b, fm + j + 1 ≤ b → b < m → mn (mn v (Km (fm + j))) (Km b) ≠ 0 := z0
      exact jt_inc rfl (by first | (unfold ja_r; omega) | (unfold ja_rl; omega) | omega | assumption) ⟨_, rfl, (by first | rfl | omega | (simp; done) | (simp; omega)), rfl, (by intro a b h1 h2 h3 h4; by_cases z : a = fm + j; subst z; exact z0 b (by omega) h4; exact no a b h1 (by omega) h3 h4)⟩
    · rintro _ _ ⟨v_i0, rfl, rfl, rfl, no⟩
      refine jv_ci _ ⟨Or.inl rfl, ?_⟩
      exact q0 fun a b h1 h2 h3 => no a b h1 (by omega) h2 h3
set_option maxRecDepth 10000 in
theorem kX7_threeLet {l : Launch} {d : Nat} {h : ja_H} {Q : ja_Q} {n m mo : Nat} {v : Int} {Km : Nat → Int} {Lm : Nat → Nat} (hG : jG h.1) (k4 : h.2.1 29 4 = (m : Int)) (k5 : h.2.1 29 5 = (mo : Int)) (hmo : mo ≤ 20) (hm : m ≤ 726) (hK : ∀ i, i < m → h.2.1 31 i = Km i) (hL : ∀ i, i < m → h.2.1 32 i = ((Lm i : Nat) : Int)) (hP : ∀ i, i < m → pcn (Km i) 20 ≤ mo) (hvr : ja_r v) (hr : ∀ k, 20 ≤ k → k < 32 → jbt v k = false) (q1 : ∀ i j k, i < j → j < k → k < m → mn (mn (mn v (Km i)) (Km j)) (Km k) = 0 → (∀ a b c, a < b → b < c → c < m → mn (mn (mn v (Km a)) (Km b)) (Km c) = 0 → i < a ∨ (i = a ∧ (j < b ∨ (j = b ∧ k ≤ c)))) → Q (some (.inl 1)) (h.1, ja_up (ja_up (ja_up h.2.1 33 2 ((Lm k : Nat) : Int)) 33 1 ((Lm j : Nat) : Int)) 33 0 ((Lm i : Nat) : Int), h.2.2)) (q0 : (∀ a b c, a < b → b < c → c < m → mn (mn (mn v (Km a)) (Km b)) (Km c) ≠ 0) → Q (some (.inl 0)) h) : ja_C l (d + 4) mX7_threeLet (js_sh n) [.inr (.inr (some (29))), .inl (v)] h Q := by
  refine eX7_threeLet _ _ fun r_set ho => ?_
  unfold bX7_threeLet
  unfold ja_r at r_set
  refine jt_sI jv_ci ?_
  refine jb_forc (m) (fun (j : Nat) L' h' => ∃ (v_i : Int), L' = [some (.inr (.inr (some (29)))), some (.inl (v)), some (.inl (v_i))] ∧ v_i = (j : Int) ∧ h = h' ∧ (∀ a b c, a < j → a < b → b < c → c < m → mn (mn (mn v (Km a)) (Km b)) (Km c) ≠ 0)) ⟨_, rfl, (by first | rfl | omega | (simp; done) | (simp; omega)), rfl, (by intro a b c h1; omega)⟩ ?_ ?_ ?_
  · rintro j h_j _ _ ⟨v_i0, rfl, rfl, rfl, no⟩
    exact jd_eq (jd_lt (jv_li rfl) (jv_gF (jr_lr rfl) (by first | rfl | assumption) (by first | assumption | rfl))) (by omega)
  · rintro j h_j _ _ ⟨v_i0, rfl, rfl, rfl, no⟩
    have eK : h.2.1 31 ((j : Nat) : Int).toNat = Km j := hK j (by omega)
    refine jb_if_p (jx_mI (jr_lr rfl) rfl (jA_i (jA_i jA_0 (jv_is (x' := mn v (Km j)) (jv_and (jv_li rfl) (jv_xor (jv_fI (jr_g (jr_lr rfl) rfl (jG_at hG rfl)) (jv_li rfl) rfl (by omega) (by omega) eK) jv_ci)) rfl)) (jv_is (x' := ((j + 1 : Nat) : Int)) (jv_w (jv_add (jv_li rfl) jv_ci) (by first | (unfold ja_r; omega) | (unfold ja_rl; omega) | omega | assumption)) (by omega))) (kX7_twoLet (Km := Km) (Lm := Lm) hG k4 k5 hmo hm hK hL hP (mn_r _ _) (mn_20 hr) (fun b c h1 h2 h3 h4 h5 => ⟨1, rfl, fun _ => ?_⟩) (fun z0 => ⟨0, rfl, fun _ => ?_⟩)))
    · rw [if_neg (by decide)]
      have eL : ja_up (ja_up h.2.1 33 2 ((Lm c : Nat) : Int)) 33 1 ((Lm b : Nat) : Int) 32 ((j : Nat) : Int).toNat = ((Lm j : Nat) : Int) := by rw [ja_upO (by omega), ja_upO (by omega)]; exact hL j (by omega)
      refine jt_wI (jr_g (jr_lr rfl) rfl (jG_at hG rfl)) rfl jv_ci (jv_fI (jr_g (jr_lr rfl) rfl (jG_at hG rfl)) (jv_li rfl) rfl (by omega) (by omega) eL) (by decide) (by decide) ?_
      refine jv_ci _ ⟨Or.inr rfl, q1 j b c (by omega) h2 h3 h4 fun a' b' c' g1 g2 g3 g4 => ?_⟩
      rcases Nat.lt_trichotomy a' j with y | y | y
      · exact absurd g4 (no a' b' c' y g1 g2 g3)
      · subst y
        have := h5 b' c' (by omega) g2 g3 g4
        omega
      · exact Or.inl y
    rw [if_pos rfl]
    have z0 : ∀ b c, j + 1 ≤ b → b < c → c < m → mn (mn (mn v (Km j)) (Km b)) (Km c) ≠ 0 := z0
    exact jt_inc rfl (by first | (unfold ja_r; omega) | (unfold ja_rl; omega) | omega | assumption) ⟨_, rfl, (by first | rfl | omega | (simp; done) | (simp; omega)), rfl, (by intro a b c h1 h2 h3 h4; by_cases z : a = j; subst z; exact z0 b c (by omega) h3 h4; exact no a b c (by omega) h2 h3 h4)⟩
  · rintro _ _ ⟨v_i0, rfl, rfl, rfl, no⟩
    refine jv_ci _ ⟨Or.inl rfl, ?_⟩
    exact q0 fun a b c h1 h2 h3 => no a b c (by omega) h1 h2 h3
