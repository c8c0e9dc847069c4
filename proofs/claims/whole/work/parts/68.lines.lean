/-- a shadow more in the reference's row -/
def shW (a b : Nat → Int) (s : Nat) (hgh ex ey low most side : Int) : Prop := b 0 = (s : Int) + 1 ∧ b (740 + 6 * s) = hgh ∧ b (741 + 6 * s) = ex ∧ b (742 + 6 * s) = ey ∧ b (743 + 6 * s) = low ∧ b (744 + 6 * s) = most ∧ b (745 + 6 * s) = side ∧ ∀ j, j ≠ 0 → (j < 740 + 6 * s ∨ 746 + 6 * s ≤ j) → b j = a j
set_option maxRecDepth 10000 in
theorem kX12_shadow {l : Launch} {d : Nat} {h : ja_H} {Q : ja_Q} {n s : Nat} {a : Nat → Int} {hgh ex ey low most side : Int} (hG : jG h.1) (ha : h.2.1 91 = a) (hs : a 0 = (s : Int)) (hs2 : s ≤ 12) (q1 : shA hgh ex ey low most side ∧ s < 12 → ∀ f, jfr [91] h.2.1 f → shW a (f 91) s hgh ex ey low most side → Q (some (.inl (s : Int))) (h.1, f, h.2.2)) (q2 : ¬ (shA hgh ex ey low most side ∧ s < 12) → Q (some (.inl (-1))) h) : ja_C l (d + 2) mX12_shadow (js_sh n) [.inr (.inr (some (90))), .inl (hgh), .inl (ex), .inl (ey), .inl (low), .inl (most), .inl (side)] h Q := by
  have g0 : h.2.1 91 (0 : Int).toNat = (s : Int) := by rw [ha]; exact hs
  refine eX12_shadow _ _ _ _ _ _ _ fun r_high0 r_ex r_ey r_low r_most r_side ho => ?_
  unfold bX12_shadow
  unfold ja_r at r_high0 r_ex r_ey r_low r_most r_side
  refine jt_sI (jv_cb (jd_and (jd_and (jd_and (jd_and (jd_and (jd_b (jy_sI (jA_i (jA_i (jA_i jA_0 (jv_li rfl)) jv_ci) jv_ci) fun _ => kX12_isIn)) (fun _ => (jd_b (jy_sI (jA_i (jA_i (jA_i jA_0 (jv_li rfl)) jv_ci) jv_ci) fun _ => kX12_isIn)))) (fun _ => (jd_b (jy_sI (jA_i (jA_i (jA_i jA_0 (jv_li rfl)) jv_ci) jv_ci) fun _ => kX12_isIn)))) (fun _ => (jd_b (jy_sI (jA_i (jA_i (jA_i jA_0 (jv_li rfl)) jv_ci) jv_ci) fun _ => kX12_isIn)))) (fun _ => (jd_b (jy_sI (jA_i (jA_i (jA_i jA_0 (jv_li rfl)) (jv_li rfl)) jv_ci) fun _ => kX12_isIn)))) (fun _ => (jd_b (jy_sI (jA_i (jA_i (jA_i jA_0 (jv_li rfl)) jv_ci) jv_ci) fun _ => kX12_isIn))))) ?_
  refine jb_if_d (φ := ¬ (shA hgh ex ey low most side ∧ s < 12)) (jd_eq (jd_or (jd_not (jd_b (jv_li rfl))) (fun _ => (jd_eqI (jv_fI (jr_g (jr_lr rfl) (by first | rfl | assumption) (by first | rfl | assumption | exact jG_at hG rfl | exact jG_90 hG rfl)) jv_ci (by first | rfl | assumption) (by first | (unfold ja_r; omega) | (unfold ja_rl; omega) | omega | assumption) (by first | (unfold ja_r; omega) | (unfold ja_rl; omega) | omega | assumption) (by first | assumption | rfl)) jv_ci))) (by unfold shA; omega)) (fun c1 => ?_) (fun c1 => ?_)
  · refine jt_rI jv_ci ?_
    exact q2 c1
  · have c1 := Classical.not_not.mp c1
    have c2 := c1.2
    refine jt_sI (x := 740 + 6 * (s : Int)) (jv_is (jv_w (jv_add jv_ci (jv_w (jv_mul jv_ci (jv_fI (jr_g (jr_lr rfl) (by first | rfl | assumption) (by first | rfl | assumption | exact jG_at hG rfl | exact jG_90 hG rfl)) jv_ci (by first | rfl | assumption) (by first | (unfold ja_r; omega) | (unfold ja_rl; omega) | omega | assumption) (by first | (unfold ja_r; omega) | (unfold ja_rl; omega) | omega | assumption) (by first | assumption | rfl))) (by first | (unfold ja_r; omega) | (unfold ja_rl; omega) | omega | assumption))) (by first | (unfold ja_r; omega) | (unfold ja_rl; omega) | omega | assumption)) (by rfl)) ?_
    refine jt_wI (jr_g (jr_lr rfl) (by first | rfl | assumption) (by first | rfl | assumption | exact jG_at hG rfl | exact jG_90 hG rfl)) (by first | rfl | assumption) (jv_li rfl) (jv_li rfl) (by first | (unfold ja_r; omega) | (unfold ja_rl; omega) | omega | assumption) (by first | (unfold ja_r; omega) | (unfold ja_rl; omega) | omega | assumption) ?_
    try dsimp only
    refine jt_wI (jr_g (jr_lr rfl) (by first | rfl | assumption) (by first | rfl | assumption | exact jG_at hG rfl | exact jG_90 hG rfl)) (by first | rfl | assumption) (jv_w (jv_add (jv_li rfl) jv_ci) (by first | (unfold ja_r; omega) | (unfold ja_rl; omega) | omega | assumption)) (jv_li rfl) (by first | (unfold ja_r; omega) | (unfold ja_rl; omega) | omega | assumption) (by first | (unfold ja_r; omega) | (unfold ja_rl; omega) | omega | assumption) ?_
    try dsimp only
    refine jt_wI (jr_g (jr_lr rfl) (by first | rfl | assumption) (by first | rfl | assumption | exact jG_at hG rfl | exact jG_90 hG rfl)) (by first | rfl | assumption) (jv_w (jv_add (jv_li rfl) jv_ci) (by first | (unfold ja_r; omega) | (unfold ja_rl; omega) | omega | assumption)) (jv_li rfl) (by first | (unfold ja_r; omega) | (unfold ja_rl; omega) | omega | assumption) (by first | (unfold ja_r; omega) | (unfold ja_rl; omega) | omega | assumption) ?_
    try dsimp only
    refine jt_wI (jr_g (jr_lr rfl) (by first | rfl | assumption) (by first | rfl | assumption | exact jG_at hG rfl | exact jG_90 hG rfl)) (by first | rfl | assumption) (jv_w (jv_add (jv_li rfl) jv_ci) (by first | (unfold ja_r; omega) | (unfold ja_rl; omega) | omega | assumption)) (jv_li rfl) (by first | (unfold ja_r; omega) | (unfold ja_rl; omega) | omega | assumption) (by first | (unfold ja_r; omega) | (unfold ja_rl; omega) | omega | assumption) ?_
    try dsimp only
    refine jt_wI (jr_g (jr_lr rfl) (by first | rfl | assumption) (by first | rfl | assumption | exact jG_at hG rfl | exact jG_90 hG rfl)) (by first | rfl | assumption) (jv_w (jv_add (jv_li rfl) jv_ci) (by first | (unfold ja_r; omega) | (unfold ja_rl; omega) | omega | assumption)) (jv_li rfl) (by first | (unfold ja_r; omega) | (unfold ja_rl; omega) | omega | assumption) (by first | (unfold ja_r; omega) | (unfold ja_rl; omega) | omega | assumption) ?_
    try dsimp only
    refine jt_wI (jr_g (jr_lr rfl) (by first | rfl | assumption) (by first | rfl | assumption | exact jG_at hG rfl | exact jG_90 hG rfl)) (by first | rfl | assumption) (jv_w (jv_add (jv_li rfl) jv_ci) (by first | (unfold ja_r; omega) | (unfold ja_rl; omega) | omega | assumption)) (jv_li rfl) (by first | (unfold ja_r; omega) | (unfold ja_rl; omega) | omega | assumption) (by first | (unfold ja_r; omega) | (unfold ja_rl; omega) | omega | assumption) ?_
    try dsimp only
    refine jt_uB (w := (s : Int) + 1) (jr_g (jr_lr rfl) (by first | rfl | assumption) (by first | rfl | assumption | exact jG_at hG rfl | exact jG_90 hG rfl)) (by first | rfl | assumption) jv_ci (by first | (unfold ja_r; omega) | (unfold ja_rl; omega) | omega | assumption) (by first | (unfold ja_r; omega) | (unfold ja_rl; omega) | omega | assumption) jv_ci (by show ja_w (ja_up _ _ _ _ 91 0 + 1) = _; (repeat (first | rw [ja_upE rfl (by omega)] | rw [ja_upO (by omega)])); rw [show h.2.1 91 0 = (s : Int) from g0, ja_w_id (by unfold ja_r; omega)]) ?_
    try dsimp only
    refine jt_rI (x := (s : Int)) (jv_is (jv_w (jv_sub (jv_fI (jr_g (jr_lr rfl) rfl (jG_90 hG rfl)) jv_ci rfl (by decide) (by decide) (y := (s : Int) + 1) (by dsimp only; exact ja_upE rfl rfl)) jv_ci) (by unfold ja_r; omega)) (by omega)) ?_
    refine q1 c1 _ (by (repeat' (first | exact jfr_rf _ _ | refine jfr_up ?_ (by decide)))) ⟨?_, ?_, ?_, ?_, ?_, ?_, ?_, ?_⟩
    · exact ja_upE rfl rfl
    · show ja_up _ _ _ _ 91 _ = _; (repeat (first | rw [ja_upE rfl (by omega)] | rw [ja_upO (by omega)]))
    · show ja_up _ _ _ _ 91 _ = _; (repeat (first | rw [ja_upE rfl (by omega)] | rw [ja_upO (by omega)]))
    · show ja_up _ _ _ _ 91 _ = _; (repeat (first | rw [ja_upE rfl (by omega)] | rw [ja_upO (by omega)]))
    · show ja_up _ _ _ _ 91 _ = _; (repeat (first | rw [ja_upE rfl (by omega)] | rw [ja_upO (by omega)]))
    · show ja_up _ _ _ _ 91 _ = _; (repeat (first | rw [ja_upE rfl (by omega)] | rw [ja_upO (by omega)]))
    · show ja_up _ _ _ _ 91 _ = _; (repeat (first | rw [ja_upE rfl (by omega)] | rw [ja_upO (by omega)]))
    · intro j h1 h2
      show ja_up _ _ _ _ 91 _ = _; (repeat (first | rw [ja_upE rfl (by omega)] | rw [ja_upO (by omega)])); rw [ha]
/-! lines: those through a point -/
def thb (X Y U V : Nat → Int) (sl px py : Int) (k : Nat) : Bool := decide (((U k * (py - Y k) - V k * (px - X k)).natAbs : Int) ≤ sl * (((U k).natAbs : Int) + ((V k).natAbs : Int)))
def ncn (P : Nat → Bool) : Nat → Nat
  | 0 => 0
  | k + 1 => ncn P k + (if P k then 1 else 0)
def tst (P : Nat → Bool) : Nat → Int
  | 0 => 0
  | k + 1 => if P k then ja_lor (tst P k) (ja_shl 1 (k : Int)) else tst P k
theorem ncn_le (P : Nat → Bool) : ∀ k, ncn P k ≤ k
  | 0 => Nat.le_refl 0
  | k + 1 => by have := ncn_le P k; simp only [ncn]; split <;> omega
theorem tst_b (P : Nat → Bool) : ∀ m, m ≤ 31 → ∀ j, jbt (tst P m) j = (decide (j < m) && P j)
  | 0, _, j => by simp [tst, jbt_0]
  | m + 1, hm, j => by
    have ih := tst_b P m (by omega) j
    unfold tst
    by_cases z : j = m
    · subst z
      split
      · rename_i c
        rw [jbt_or, ih, jbt_shl1 (by omega)]; simp [c]
      · rename_i c
        rw [ih]; simp [c]
    · have : (j < m + 1) ↔ j < m := by omega
      split
      · rw [jbt_or, ih, jbt_shl1 (by omega)]; simp [z, this]
      · rw [ih]; simp [this]
theorem tst_r (P : Nat → Bool) : ∀ m, ja_r (tst P m)
  | 0 => by unfold tst ja_r; omega
  | m + 1 => by unfold tst; split; exact ja_lor_r _ _; exact tst_r P m
theorem tst_p (P : Nat → Bool) {m : Nat} (hm : m ≤ 20) : pcn (tst P m) 20 = ncn P m := by
  have h1 : ∀ k, k ≤ m → pcn (tst P m) k = ncn P k := by
    intro k
    induction k with
    | zero => intro _; rfl
    | succ k ih =>
      intro hk
      simp only [pcn, ncn, ih (by omega), tst_b P m (by omega), show k < m by omega, decide_true, Bool.true_and]
  have h2 : ∀ k, m ≤ k → pcn (tst P m) k = pcn (tst P m) m := by
    intro k
    induction k with
    | zero => intro hk; rw [show m = 0 by omega]
    | succ k ih =>
      intro hk
      rcases Nat.lt_or_ge k m with z | z
      · rw [show k + 1 = m by omega]
      · simp only [pcn, ih z, tst_b P m (by omega), show ¬ k < m by omega, decide_false, Bool.false_and]
        simp
  rw [h2 20 hm, h1 m (Nat.le_refl m)]
def lnB (x y u v : Int) : Prop := (-99 ≤ x ∧ x ≤ 99) ∧ (-99 ≤ y ∧ y ≤ 99) ∧ (-198 ≤ u ∧ u ≤ 198) ∧ -198 ≤ v ∧ v ≤ 198
theorem thb_b {x y u v px py sl : Int} (h : lnB x y u v) (hx : -40 ≤ px ∧ px ≤ 40) (hy : -40 ≤ py ∧ py ≤ 40) (hs : 0 ≤ sl ∧ sl ≤ 9) : (-27522 ≤ u * (py - y) ∧ u * (py - y) ≤ 27522) ∧ (-27522 ≤ v * (px - x) ∧ v * (px - x) ≤ 27522) ∧ (0 ≤ sl * ((u.natAbs : Int) + (v.natAbs : Int)) ∧ sl * ((u.natAbs : Int) + (v.natAbs : Int)) ≤ 3564) ∧ -19602 ≤ v * x ∧ v * x ≤ 19602 := by
  obtain ⟨a, b, c, d⟩ := h
  have m1 := jmb (a := u) (b := py - y) (A := 198) (B := 139) (by omega) (by omega)
  have m2 := jmb (a := v) (b := px - x) (A := 198) (B := 139) (by omega) (by omega)
  have m3 := jmb (a := sl) (b := (u.natAbs : Int) + (v.natAbs : Int)) (A := 9) (B := 396) (by omega) (by omega)
  have m4 := jmb (a := v) (b := x) (A := 198) (B := 99) (by omega) (by omega)
  have m5 : 0 ≤ sl * ((u.natAbs : Int) + (v.natAbs : Int)) := Int.mul_nonneg hs.1 (by omega)
  omega
set_option maxRecDepth 10000 in
theorem kX2_put {l : Launch} {d : Nat} {h : ja_H} {Q : ja_Q} {n : Nat} {v ax ay bx bY : Int} (hG : jG h.1) (hv : 0 ≤ v ∧ v < 10) (b1 : -99 ≤ ax ∧ ax ≤ 99) (b2 : -99 ≤ ay ∧ ay ≤ 99) (b3 : -99 ≤ bx ∧ bx ≤ 99) (b4 : -99 ≤ bY ∧ bY ≤ 99) (q : Q none (h.1, ja_up (ja_up (ja_up (ja_up h.2.1 35 v.toNat ax) 36 v.toNat ay) 37 v.toNat (bx - ax)) 38 v.toNat (bY - ay), h.2.2)) : ja_C l (d + 2) mX2_put (js_sh n) [.inr (.inr (some (34))), .inl (v), .inl (ax), .inl (ay), .inl (bx), .inl (bY)] h Q := by
  refine eX2_put _ _ _ _ _ _ fun r_line r_ax r_ay r_bx r_by ho => ?_
  unfold bX2_put
  unfold ja_r at r_line r_ax r_ay r_bx r_by
  refine jb_if_d (jd_b (jy_sI (jA_i (jA_i (jA_i jA_0 (jv_li rfl)) jv_ci) jv_ci) fun _ => kX11_within)) (fun c1 => ?_) (fun c1 => ?_)
  · refine jt_wI (jr_g (jr_lr rfl) (by first | rfl | assumption) (by first | rfl | assumption | exact jG_at hG rfl | exact jG_90 hG rfl)) (by first | rfl | assumption) (jv_li rfl) (jv_li rfl) (by first | (unfold ja_r; omega) | (unfold ja_rl; omega) | omega | assumption) (by first | (unfold ja_r; omega) | (unfold ja_rl; omega) | omega | assumption) ?_
    try dsimp only
    refine jt_wI (jr_g (jr_lr rfl) (by first | rfl | assumption) (by first | rfl | assumption | exact jG_at hG rfl | exact jG_90 hG rfl)) (by first | rfl | assumption) (jv_li rfl) (jv_li rfl) (by first | (unfold ja_r; omega) | (unfold ja_rl; omega) | omega | assumption) (by first | (unfold ja_r; omega) | (unfold ja_rl; omega) | omega | assumption) ?_
    try dsimp only
    refine jt_wI (jr_g (jr_lr rfl) (by first | rfl | assumption) (by first | rfl | assumption | exact jG_at hG rfl | exact jG_90 hG rfl)) (by first | rfl | assumption) (jv_li rfl) (jv_w (jv_sub (jv_li rfl) (jv_li rfl)) (by first | (unfold ja_r; omega) | (unfold ja_rl; omega) | omega | assumption)) (by first | (unfold ja_r; omega) | (unfold ja_rl; omega) | omega | assumption) (by first | (unfold ja_r; omega) | (unfold ja_rl; omega) | omega | assumption) ?_
    try dsimp only
    refine jt_wI (jr_g (jr_lr rfl) (by first | rfl | assumption) (by first | rfl | assumption | exact jG_at hG rfl | exact jG_90 hG rfl)) (by first | rfl | assumption) (jv_li rfl) (jv_w (jv_sub (jv_li rfl) (jv_li rfl)) (by first | (unfold ja_r; omega) | (unfold ja_rl; omega) | omega | assumption)) (by first | (unfold ja_r; omega) | (unfold ja_rl; omega) | omega | assumption) (by first | (unfold ja_r; omega) | (unfold ja_rl; omega) | omega | assumption) ?_
    try dsimp only
    exact q
  · exact absurd (by omega) c1
set_option maxRecDepth 10000 in
theorem kX2_reachOf {l : Launch} {d : Nat} {h : ja_H} {Q : ja_Q} {n k : Nat} {U V : Nat → Int} {sl : Int} (hG : jG h.1) (x3 : h.2.1 37 = U) (x4 : h.2.1 38 = V) (hk : k < 10) (hs : 0 ≤ sl ∧ sl ≤ 9) (hU : -198 ≤ U k ∧ U k ≤ 198) (hV : -198 ≤ V k ∧ V k ≤ 198) (q : Q (some (.inl (sl * (((U k).natAbs : Int) + ((V k).natAbs : Int))))) h) : ja_C l (d + 2) mX2_reachOf (js_sh n) [.inr (.inr (some (34))), .inl ((k : Int)), .inl (sl)] h Q := by
  have e3 : h.2.1 37 ((k : Nat) : Int).toNat = U k := by rw [x3]; rfl
  have e4 : h.2.1 38 ((k : Nat) : Int).toNat = V k := by rw [x4]; rfl
  have m3 := jmb (a := sl) (b := ((U k).natAbs : Int) + ((V k).natAbs : Int)) (A := 9) (B := 396) (by omega) (by omega)
  refine eX2_reachOf _ _ _ fun r_line r_slack ho => ?_
  unfold bX2_reachOf
  unfold ja_r at r_line r_slack
  refine jb_if_d (jd_not (jd_b (jy_sI (jA_i (jA_i (jA_i jA_0 (jv_li rfl)) jv_ci) jv_ci) fun _ => kX11_within))) (fun c1 => ?_) (fun c1 => ?_)
  · exact absurd (by omega) c1
  · refine jt_rI (jv_w (jv_mul (jv_li rfl) (jv_w (jv_add (jy_sI (jA_i jA_0 (jv_fI (jr_g (jr_lr rfl) (by first | rfl | assumption) (by first | rfl | assumption | exact jG_at hG rfl | exact jG_90 hG rfl)) (jv_li rfl) (by first | rfl | assumption) (by first | (unfold ja_r; omega) | (unfold ja_rl; omega) | omega | assumption) (by first | (unfold ja_r; omega) | (unfold ja_rl; omega) | omega | assumption) (by first | assumption | rfl))) fun _ => kJ9_abs (by first | (unfold ja_r; omega) | (unfold ja_rl; omega) | omega | assumption)) (jy_sI (jA_i jA_0 (jv_fI (jr_g (jr_lr rfl) (by first | rfl | assumption) (by first | rfl | assumption | exact jG_at hG rfl | exact jG_90 hG rfl)) (jv_li rfl) (by first | rfl | assumption) (by first | (unfold ja_r; omega) | (unfold ja_rl; omega) | omega | assumption) (by first | (unfold ja_r; omega) | (unfold ja_rl; omega) | omega | assumption) (by first | assumption | rfl))) fun _ => kJ9_abs (by first | (unfold ja_r; omega) | (unfold ja_rl; omega) | omega | assumption))) (by first | (unfold ja_r; omega) | (unfold ja_rl; omega) | omega | assumption))) (by first | (unfold ja_r; omega) | (unfold ja_rl; omega) | omega | assumption)) ?_
    exact q
set_option maxRecDepth 10000 in
theorem kX2_countThrough {l : Launch} {d : Nat} {h : ja_H} {Q : ja_Q} {n m : Nat} {X Y U V : Nat → Int} {y sl : Int} (hG : jG h.1) (x1 : h.2.1 35 = X) (x2 : h.2.1 36 = Y) (x3 : h.2.1 37 = U) (x4 : h.2.1 38 = V) (hm : m ≤ 10) (bd : ∀ k, k < m → lnB (X k) (Y k) (U k) (V k)) (hs : 0 ≤ sl ∧ sl ≤ 9) (hy : -40 ≤ y ∧ y ≤ 40) (q : ∀ f, jfr [39] h.2.1 f → (∀ i : Nat, i < 81 → f 39 i = (ncn (thb X Y U V sl ((i : Int) - 40) y) m : Nat)) → Q none (h.1, f, h.2.2)) : ja_C l (d + 3) mX2_countThrough (js_sh n) [.inr (.inr (some (34))), .inl (y), .inl ((m : Int)), .inl (sl)] h Q := by
  refine eX2_countThrough _ _ _ _ fun r_y r_count r_slack ho => ?_
  unfold bX2_countThrough
  unfold ja_r at r_y r_count r_slack
  refine jt_sI jv_ci ?_
  refine jb_forc (81) (fun (i : Nat) L' h' => ∃ (v_i : Int) (o2_5 : Option ja_W) (o2_6 : Option ja_W) (o2_7 : Option ja_W) (o2_8 : Option ja_W) (o2_9 : Option ja_W) (f : Nat → Nat → Int), L' = [some (.inr (.inr (some (34)))), some (.inl (y)), some (.inl ((m : Int))), some (.inl (sl)), some (.inl (v_i)), o2_5, o2_6, o2_7, o2_8, o2_9] ∧ v_i = (i : Int) ∧ (h.1, f, h.2.2) = h' ∧ (jfr [39] h.2.1 f) ∧ (∀ j : Nat, j < i → f 39 j = 0)) ⟨_, _, _, _, _, _, _, rfl, (by first | rfl | omega | (simp; done) | (simp; omega)), rfl, (by exact jfr_rf _ _), (by intro q hq; omega)⟩ ?_ ?_ ?_
  · rintro i h_i _ _ ⟨v_i0, o2_5, o2_6, o2_7, o2_8, o2_9, f, rfl, rfl, rfl, fr, f1⟩
    exact jd_eq (jd_lt (jv_li rfl) (jv_len (jr_g (jr_lr rfl) (by first | rfl | assumption) (by first | rfl | assumption | exact jG_at hG rfl | exact jG_90 hG rfl)) (by first | rfl | assumption) (by first | (unfold ja_r; omega) | (unfold ja_rl; omega) | omega | assumption))) (by omega)
  · rintro i h_i _ _ ⟨v_i0, o2_5, o2_6, o2_7, o2_8, o2_9, f, rfl, rfl, rfl, fr, f1⟩
    refine jt_wI (jr_g (jr_lr rfl) (by first | rfl | assumption) (by first | rfl | assumption | exact jG_at hG rfl | exact jG_90 hG rfl)) (by first | rfl | assumption) (jv_li rfl) jv_ci (by first | (unfold ja_r; omega) | (unfold ja_rl; omega) | omega | assumption) (by first | (unfold ja_r; omega) | (unfold ja_rl; omega) | omega | assumption) ?_
    try dsimp only
    exact jt_inc rfl (by first | (unfold ja_r; omega) | (unfold ja_rl; omega) | omega | assumption) ⟨_, _, _, _, _, _, _, rfl, (by first | rfl | omega | (simp; done) | (simp; omega)), rfl, (by exact jfr_up fr (by decide)), (by intro j hj; by_cases z : j = i; rw [ja_upE rfl (by omega)]; rw [ja_upO (by omega)]; exact f1 j (by omega))⟩
  · rintro _ _ ⟨v_i0, o2_5, o2_6, o2_7, o2_8, o2_9, f, rfl, rfl, rfl, fr, f1⟩
    refine jt_sI jv_ci ?_
    refine jb_forc (m) (fun (k : Nat) L' h' => ∃ (v_line : Int) (o5_5 : Option ja_W) (o5_6 : Option ja_W) (o5_7 : Option ja_W) (o5_8 : Option ja_W) (o5_9 : Option ja_W) (g : Nat → Nat → Int), L' = [some (.inr (.inr (some (34)))), some (.inl (y)), some (.inl ((m : Int))), some (.inl (sl)), some (.inl (v_line)), o5_5, o5_6, o5_7, o5_8, o5_9] ∧ v_line = (k : Int) ∧ (h.1, g, h.2.2) = h' ∧ (jfr [39] h.2.1 g) ∧ (∀ i : Nat, i < 81 → g 39 i = (ncn (thb X Y U V sl ((i : Int) - 40) y) k : Nat))) ⟨_, _, _, _, _, _, _, rfl, (by first | rfl | omega | (simp; done) | (simp; omega)), rfl, (by exact fr), (by intro i hi; exact f1 i hi)⟩ ?_ ?_ ?_
    · rintro k h_k _ _ ⟨v_line0, o5_5, o5_6, o5_7, o5_8, o5_9, g, rfl, rfl, rfl, gr, g1⟩
      exact jd_eq (jd_lt (jv_li rfl) (jy_sI (jA_i (jA_i jA_0 (jv_li rfl)) jv_ci) fun _ => kJ9_min)) (by omega)
    · rintro k h_k _ _ ⟨v_line0, o5_5, o5_6, o5_7, o5_8, o5_9, g, rfl, rfl, rfl, gr, g1⟩
      have y1 : g 35 ((k : Nat) : Int).toNat = X k := by rw [gr 35 (by decide), x1]; rfl
      have y2 : g 36 ((k : Nat) : Int).toNat = Y k := by rw [gr 36 (by decide), x2]; rfl
      have y3 : g 37 ((k : Nat) : Int).toNat = U k := by rw [gr 37 (by decide), x3]; rfl
      have y4 : g 38 ((k : Nat) : Int).toNat = V k := by rw [gr 38 (by decide), x4]; rfl
      have bk := bd k h_k
      have tb := thb_b bk (px := 0) (py := y) (by omega) hy hs
      obtain ⟨bk1, bk2, bk3, bk4⟩ := id bk
      have z3 : g 37 = U := by rw [gr 37 (by decide), x3]
      have z4 : g 38 = V := by rw [gr 38 (by decide), x4]
      obtain ⟨rch, hrch⟩ : ∃ r : Int, sl * (((U k).natAbs : Int) + ((V k).natAbs : Int)) = r := ⟨_, rfl⟩
      rw [hrch] at tb
      refine jt_sI (x := rch) (jv_is (jy_mI (jr_lr rfl) rfl (jA_i (jA_i jA_0 (jv_li rfl)) (jv_li rfl)) fun _ => kX2_reachOf (h := (h.1, g, h.2.2)) hG z3 z4 (by first | (unfold ja_r; omega) | (unfold ja_rl; omega) | omega | assumption) hs (by first | (unfold ja_r; omega) | (unfold ja_rl; omega) | omega | assumption) (by first | (unfold ja_r; omega) | (unfold ja_rl; omega) | omega | assumption)) (by exact hrch)) ?_
      refine jt_sI (x := U k * (y - Y k) + V k * X k) (jv_is (jv_w (jv_add (jv_w (jv_mul (jv_fI (jr_g (jr_lr rfl) (by first | rfl | assumption) (by first | rfl | assumption | exact jG_at hG rfl | exact jG_90 hG rfl)) (jv_li rfl) (by first | rfl | assumption) (by first | (unfold ja_r; omega) | (unfold ja_rl; omega) | omega | assumption) (by first | (unfold ja_r; omega) | (unfold ja_rl; omega) | omega | assumption) (by first | assumption | rfl)) (jv_w (jv_sub (jv_li rfl) (jv_fI (jr_g (jr_lr rfl) (by first | rfl | assumption) (by first | rfl | assumption | exact jG_at hG rfl | exact jG_90 hG rfl)) (jv_li rfl) (by first | rfl | assumption) (by first | (unfold ja_r; omega) | (unfold ja_rl; omega) | omega | assumption) (by first | (unfold ja_r; omega) | (unfold ja_rl; omega) | omega | assumption) (by first | assumption | rfl))) (by first | (unfold ja_r; omega) | (unfold ja_rl; omega) | omega | assumption))) (by first | (unfold ja_r; omega) | (unfold ja_rl; omega) | omega | assumption)) (jv_w (jv_mul (jv_fI (jr_g (jr_lr rfl) (by first | rfl | assumption) (by first | rfl | assumption | exact jG_at hG rfl | exact jG_90 hG rfl)) (jv_li rfl) (by first | rfl | assumption) (by first | (unfold ja_r; omega) | (unfold ja_rl; omega) | omega | assumption) (by first | (unfold ja_r; omega) | (unfold ja_rl; omega) | omega | assumption) (by first | assumption | rfl)) (jv_fI (jr_g (jr_lr rfl) (by first | rfl | assumption) (by first | rfl | assumption | exact jG_at hG rfl | exact jG_90 hG rfl)) (jv_li rfl) (by first | rfl | assumption) (by first | (unfold ja_r; omega) | (unfold ja_rl; omega) | omega | assumption) (by first | (unfold ja_r; omega) | (unfold ja_rl; omega) | omega | assumption) (by first | assumption | rfl))) (by first | (unfold ja_r; omega) | (unfold ja_rl; omega) | omega | assumption))) (by first | (unfold ja_r; omega) | (unfold ja_rl; omega) | omega | assumption)) (by rfl)) ?_
      refine jt_sI (x := nL (U k * (y - Y k) + V k * X k) (-V k) rch (-40)) (jv_is (jy_sI (jA_i (jA_i (jA_i (jA_i jA_0 (jv_li rfl)) (jv_w (jv_neg (jv_fI (jr_g (jr_lr rfl) (by first | rfl | assumption) (by first | rfl | assumption | exact jG_at hG rfl | exact jG_90 hG rfl)) (jv_li rfl) (by first | rfl | assumption) (by first | (unfold ja_r; omega) | (unfold ja_rl; omega) | omega | assumption) (by first | (unfold ja_r; omega) | (unfold ja_rl; omega) | omega | assumption) (by first | assumption | rfl))) (by first | (unfold ja_r; omega) | (unfold ja_rl; omega) | omega | assumption))) (jv_li rfl)) jv_ci) fun _ => kX11_leastNear (by first | (unfold ja_r; omega) | (unfold ja_rl; omega) | omega | assumption) (by first | (unfold ja_r; omega) | (unfold ja_rl; omega) | omega | assumption) (by first | (unfold ja_r; omega) | (unfold ja_rl; omega) | omega | assumption) (by first | (unfold ja_r; omega) | (unfold ja_rl; omega) | omega | assumption)) (by rfl)) ?_
      refine jt_sI (x := nG (U k * (y - Y k) + V k * X k) (-V k) rch 40) (jv_is (jy_sI (jA_i (jA_i (jA_i (jA_i jA_0 (jv_li rfl)) (jv_w (jv_neg (jv_fI (jr_g (jr_lr rfl) (by first | rfl | assumption) (by first | rfl | assumption | exact jG_at hG rfl | exact jG_90 hG rfl)) (jv_li rfl) (by first | rfl | assumption) (by first | (unfold ja_r; omega) | (unfold ja_rl; omega) | omega | assumption) (by first | (unfold ja_r; omega) | (unfold ja_rl; omega) | omega | assumption) (by first | assumption | rfl))) (by first | (unfold ja_r; omega) | (unfold ja_rl; omega) | omega | assumption))) (jv_li rfl)) jv_ci) fun _ => kX11_greatestNear (by first | (unfold ja_r; omega) | (unfold ja_rl; omega) | omega | assumption) (by first | (unfold ja_r; omega) | (unfold ja_rl; omega) | omega | assumption) (by first | (unfold ja_r; omega) | (unfold ja_rl; omega) | omega | assumption)) (by rfl)) ?_
      have lge := nL_ge (tip := U k * (y - Y k) + V k * X k) (pull := -V k) (slack := rch) (low := -40) (by decide)
      have gle := nG_le (tip := U k * (y - Y k) + V k * X k) (pull := -V k) (slack := rch) (high := 40)
      refine jt_sI (x := nL (U k * (y - Y k) + V k * X k) (-V k) rch (-40) + ((0 : Nat) : Int)) (jv_is (jy_sI (jA_i (jA_i jA_0 (jv_li rfl)) jv_ci) fun _ => kJ9_max) (by omega)) ?_
      refine jb_forc ((nG (U k * (y - Y k) + V k * X k) (-V k) rch 40 - nL (U k * (y - Y k) + V k * X k) (-V k) rch (-40) + 1).toNat) (fun (j : Nat) L' h' => ∃ (v_x : Int) (g0 : Nat → Nat → Int), L' = [some (.inr (.inr (some (34)))), some (.inl (y)), some (.inl ((m : Int))), some (.inl (sl)), some (.inl ((k : Int))), some (.inl (rch)), some (.inl (U k * (y - Y k) + V k * X k)), some (.inl (nL (U k * (y - Y k) + V k * X k) (-V k) rch (-40))), some (.inl (nG (U k * (y - Y k) + V k * X k) (-V k) rch 40)), some (.inl (v_x))] ∧ v_x = nL (U k * (y - Y k) + V k * X k) (-V k) rch (-40) + (j : Int) ∧ (h.1, g0, h.2.2) = h' ∧ (jfr [39] h.2.1 g0) ∧ (∀ i : Nat, i < 81 → g0 39 i = (ncn (thb X Y U V sl ((i : Int) - 40) y) k : Nat) + (if nL (U k * (y - Y k) + V k * X k) (-V k) rch (-40) ≤ (i : Int) - 40 ∧ (i : Int) - 40 < nL (U k * (y - Y k) + V k * X k) (-V k) rch (-40) + (j : Int) then 1 else 0))) ⟨_, _, rfl, (by first | rfl | omega | (simp; done) | (simp; omega)), rfl, (by exact gr), (by intro i hi; rw [if_neg (by omega), g1 i hi]; omega)⟩ ?_ ?_ ?_
      · rintro j h_j _ _ ⟨v_x0, g0, rfl, rfl, rfl, gr2, g2⟩
        exact jd_eq (jd_le (jv_li rfl) (jy_sI (jA_i (jA_i jA_0 (jv_li rfl)) jv_ci) fun _ => kJ9_min)) (by omega)
      · rintro j h_j _ _ ⟨v_x0, g0, rfl, rfl, rfl, gr2, g2⟩
        have hz := g2 (nL (U k * (y - Y k) + V k * X k) (-V k) rch (-40) + (j : Int) + 40).toNat (by omega)
        rw [if_neg (by omega)] at hz
        have nc := ncn_le (thb X Y U V sl (((nL (U k * (y - Y k) + V k * X k) (-V k) rch (-40) + (j : Int) + 40).toNat : Int) - 40) y) k
        refine jt_uB (w := ((ncn (thb X Y U V sl (((nL (U k * (y - Y k) + V k * X k) (-V k) rch (-40) + (j : Int) + 40).toNat : Int) - 40) y) k : Nat) : Int) + 1) (jr_g (jr_lr rfl) (by first | rfl | assumption) (by first | rfl | assumption | exact jG_at hG rfl | exact jG_90 hG rfl)) (by first | rfl | assumption) (jv_w (jv_add (jv_li rfl) jv_ci) (by first | (unfold ja_r; omega) | (unfold ja_rl; omega) | omega | assumption)) (by first | (unfold ja_r; omega) | (unfold ja_rl; omega) | omega | assumption) (by first | (unfold ja_r; omega) | (unfold ja_rl; omega) | omega | assumption) jv_ci (by show ja_w (g0 39 (nL (U k * (y - Y k) + V k * X k) (-V k) rch (-40) + (j : Int) + 40).toNat + 1) = _; rw [hz, ja_w_id (by unfold ja_r; omega)]; omega) ?_
        try dsimp only
        exact jt_inc rfl (by first | (unfold ja_r; omega) | (unfold ja_rl; omega) | omega | assumption) ⟨_, _, rfl, (by first | rfl | omega | (simp; done) | (simp; omega)), rfl, (by exact jfr_up gr2 (by decide)), (by 
              intro i hi
              by_cases z : (i : Int) - 40 = nL (U k * (y - Y k) + V k * X k) (-V k) rch (-40) + (j : Int)
              · rw [ja_upE rfl (by omega), if_pos (by omega), show (nL (U k * (y - Y k) + V k * X k) (-V k) rch (-40) + (j : Int) + 40).toNat = i by omega]
              · rw [ja_upO (by omega), g2 i hi]
                by_cases w : nL (U k * (y - Y k) + V k * X k) (-V k) rch (-40) ≤ (i : Int) - 40 ∧ (i : Int) - 40 < nL (U k * (y - Y k) + V k * X k) (-V k) rch (-40) + (j : Int)
                · rw [if_pos w, if_pos (by omega)]
                · rw [if_neg w, if_neg (by omega)])⟩
      · rintro _ _ ⟨v_x0, g0, rfl, rfl, rfl, gr2, g2⟩
        exact jt_inc rfl (by first | (unfold ja_r; omega) | (unfold ja_rl; omega) | omega | assumption) ⟨_, _, _, _, _, _, _, rfl, (by first | rfl | omega | (simp; done) | (simp; omega)), rfl, (by exact gr2), (by 
              intro i hi
              rw [g2 i hi]
              simp only [ncn]
              have e := n_iff (tip := U k * (y - Y k) + V k * X k) (pull := -V k) (slack := rch) (low := -40) (high := 40) (f := (i : Int) - 40) (by omega) (by omega) (by omega)
              have e2 : U k * (y - Y k) + V k * X k + -V k * ((i : Int) - 40) = U k * (y - Y k) - V k * ((i : Int) - 40 - X k) := by
                rw [Int.neg_mul, Int.mul_sub (V k) ((i : Int) - 40) (X k)]; omega
              rw [e2] at e
              have e3 : thb X Y U V sl ((i : Int) - 40) y k = decide (nL (U k * (y - Y k) + V k * X k) (-V k) rch (-40) ≤ (i : Int) - 40 ∧ (i : Int) - 40 ≤ nG (U k * (y - Y k) + V k * X k) (-V k) rch 40) := by
                unfold thb
                simp only [hrch, e]
              rw [e3]
              generalize nL (U k * (y - Y k) + V k * X k) (-V k) rch (-40) = lo at *
              generalize nG (U k * (y - Y k) + V k * X k) (-V k) rch 40 = hi at *
              simp only [decide_eq_true_eq]
              by_cases w : lo ≤ (i : Int) - 40 ∧ (i : Int) - 40 ≤ hi
              · rw [if_pos w, if_pos (by omega)]; rfl
              · rw [if_neg w, if_neg (by omega)]; rfl)⟩
    · rintro _ _ ⟨v_line0, o5_5, o5_6, o5_7, o5_8, o5_9, g, rfl, rfl, rfl, gr, g1⟩
      exact q g gr g1
