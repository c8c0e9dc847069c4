/-- a line more in the reference's row -/
def lnW (a b : Nat → Int) (m : Nat) (ax ay bx bY : Int) : Prop := b 2 = (m : Int) + 1 ∧ b (830 + 4 * m) = ax ∧ b (831 + 4 * m) = ay ∧ b (832 + 4 * m) = bx ∧ b (833 + 4 * m) = bY ∧ ∀ j, j ≠ 2 → (j < 830 + 4 * m ∨ 834 + 4 * m ≤ j) → b j = a j
set_option maxRecDepth 10000 in
theorem kX12_isFar {l : Launch} {d : Nat} {h : ja_H} {Q : ja_Q} {sh : ja_S} {v : Int} (q : Q (some (.inl (if -99 ≤ v ∧ v ≤ 99 then 1 else 0))) h) : ja_C l (d + 2) mX12_isFar sh [.inl (v)] h Q := by
  refine eX12_isFar _ fun r_v ho => ?_
  unfold bX12_isFar
  unfold ja_r at r_v
  refine jt_rZ (jy_sI (jA_i (jA_i (jA_i jA_0 (jv_li rfl)) jv_ci) jv_ci) fun _ => kX12_isIn) ?_
  exact q
set_option maxRecDepth 10000 in
theorem kX12_line {l : Launch} {d : Nat} {h : ja_H} {Q : ja_Q} {n m : Nat} {a : Nat → Int} {ax ay bx bY : Int} (hG : jG h.1) (ha : h.2.1 91 = a) (hl : a 2 = (m : Int)) (hm : m ≤ 10) (q1 : lnA ax ay bx bY ∧ m < 10 → ∀ f, jfr [91] h.2.1 f → lnW a (f 91) m ax ay bx bY → Q (some (.inl (m : Int))) (h.1, f, h.2.2)) (q2 : ¬ (lnA ax ay bx bY ∧ m < 10) → Q (some (.inl (-1))) h) : ja_C l (d + 3) mX12_line (js_sh n) [.inr (.inr (some (90))), .inl (ax), .inl (ay), .inl (bx), .inl (bY)] h Q := by
  have g0 : h.2.1 91 (2 : Int).toNat = (m : Int) := by rw [ha]; exact hl
  refine eX12_line _ _ _ _ _ fun r_ax r_ay r_bx r_by ho => ?_
  unfold bX12_line
  unfold ja_r at r_ax r_ay r_bx r_by
  refine jb_if_d (φ := ¬ (lnA ax ay bx bY ∧ m < 10)) (jd_eq (jd_or (jd_or (jd_or (jd_or (jd_or (jd_not (jd_b (jy_sI (jA_i jA_0 (jv_li rfl)) fun _ => kX12_isFar))) (fun _ => (jd_not (jd_b (jy_sI (jA_i jA_0 (jv_li rfl)) fun _ => kX12_isFar))))) (fun _ => (jd_not (jd_b (jy_sI (jA_i jA_0 (jv_li rfl)) fun _ => kX12_isFar))))) (fun _ => (jd_not (jd_b (jy_sI (jA_i jA_0 (jv_li rfl)) fun _ => kX12_isFar))))) (fun _ => (jd_and (jd_eqI (jv_li rfl) (jv_li rfl)) (fun _ => (jd_eqI (jv_li rfl) (jv_li rfl)))))) (fun _ => (jd_eqI (jv_fI (jr_g (jr_lr rfl) (by first | rfl | assumption) (by first | rfl | assumption | exact jG_at hG rfl | exact jG_90 hG rfl)) jv_ci (by first | rfl | assumption) (by first | (unfold ja_r; omega) | (unfold ja_rl; omega) | omega | assumption) (by first | (unfold ja_r; omega) | (unfold ja_rl; omega) | omega | assumption) (by first | assumption | rfl)) jv_ci))) (by unfold lnA; omega)) (fun c1 => ?_) (fun c1 => ?_)
  · refine jt_rI jv_ci ?_
    exact q2 c1
  · have c1 := Classical.not_not.mp c1
    have c2 := c1.2
    refine jt_sI (x := 830 + 4 * (m : Int)) (jv_is (jv_w (jv_add jv_ci (jv_w (jv_mul jv_ci (jv_fI (jr_g (jr_lr rfl) (by first | rfl | assumption) (by first | rfl | assumption | exact jG_at hG rfl | exact jG_90 hG rfl)) jv_ci (by first | rfl | assumption) (by first | (unfold ja_r; omega) | (unfold ja_rl; omega) | omega | assumption) (by first | (unfold ja_r; omega) | (unfold ja_rl; omega) | omega | assumption) (by first | assumption | rfl))) (by first | (unfold ja_r; omega) | (unfold ja_rl; omega) | omega | assumption))) (by first | (unfold ja_r; omega) | (unfold ja_rl; omega) | omega | assumption)) (by rfl)) ?_
    refine jt_wI (jr_g (jr_lr rfl) (by first | rfl | assumption) (by first | rfl | assumption | exact jG_at hG rfl | exact jG_90 hG rfl)) (by first | rfl | assumption) (jv_li rfl) (jv_li rfl) (by first | (unfold ja_r; omega) | (unfold ja_rl; omega) | omega | assumption) (by first | (unfold ja_r; omega) | (unfold ja_rl; omega) | omega | assumption) ?_
    try dsimp only
    refine jt_wI (jr_g (jr_lr rfl) (by first | rfl | assumption) (by first | rfl | assumption | exact jG_at hG rfl | exact jG_90 hG rfl)) (by first | rfl | assumption) (jv_w (jv_add (jv_li rfl) jv_ci) (by first | (unfold ja_r; omega) | (unfold ja_rl; omega) | omega | assumption)) (jv_li rfl) (by first | (unfold ja_r; omega) | (unfold ja_rl; omega) | omega | assumption) (by first | (unfold ja_r; omega) | (unfold ja_rl; omega) | omega | assumption) ?_
    try dsimp only
    refine jt_wI (jr_g (jr_lr rfl) (by first | rfl | assumption) (by first | rfl | assumption | exact jG_at hG rfl | exact jG_90 hG rfl)) (by first | rfl | assumption) (jv_w (jv_add (jv_li rfl) jv_ci) (by first | (unfold ja_r; omega) | (unfold ja_rl; omega) | omega | assumption)) (jv_li rfl) (by first | (unfold ja_r; omega) | (unfold ja_rl; omega) | omega | assumption) (by first | (unfold ja_r; omega) | (unfold ja_rl; omega) | omega | assumption) ?_
    try dsimp only
    refine jt_wI (jr_g (jr_lr rfl) (by first | rfl | assumption) (by first | rfl | assumption | exact jG_at hG rfl | exact jG_90 hG rfl)) (by first | rfl | assumption) (jv_w (jv_add (jv_li rfl) jv_ci) (by first | (unfold ja_r; omega) | (unfold ja_rl; omega) | omega | assumption)) (jv_li rfl) (by first | (unfold ja_r; omega) | (unfold ja_rl; omega) | omega | assumption) (by first | (unfold ja_r; omega) | (unfold ja_rl; omega) | omega | assumption) ?_
    try dsimp only
    refine jt_uB (w := (m : Int) + 1) (jr_g (jr_lr rfl) (by first | rfl | assumption) (by first | rfl | assumption | exact jG_at hG rfl | exact jG_90 hG rfl)) (by first | rfl | assumption) jv_ci (by first | (unfold ja_r; omega) | (unfold ja_rl; omega) | omega | assumption) (by first | (unfold ja_r; omega) | (unfold ja_rl; omega) | omega | assumption) jv_ci (by dsimp only; (repeat (first | rw [ja_upE rfl (by omega)] | rw [ja_upO (by omega)])); rw [g0, ja_w_id (by unfold ja_r; omega)]) ?_
    try dsimp only
    refine jt_rI (x := (m : Int)) (jv_is (jv_w (jv_sub (jv_fI (jr_g (jr_lr rfl) rfl (jG_90 hG rfl)) jv_ci rfl (by decide) (by decide) (y := (m : Int) + 1) (by dsimp only; exact ja_upE rfl rfl)) jv_ci) (by unfold ja_r; omega)) (by omega)) ?_
    refine q1 c1 _ (by (repeat' (first | exact jfr_rf _ _ | refine jfr_up ?_ (by decide)))) ⟨?_, ?_, ?_, ?_, ?_, ?_⟩
    · exact ja_upE rfl rfl
    · (repeat (first | rw [ja_upE rfl (by omega)] | rw [ja_upO (by omega)]))
    · (repeat (first | rw [ja_upE rfl (by omega)] | rw [ja_upO (by omega)]))
    · (repeat (first | rw [ja_upE rfl (by omega)] | rw [ja_upO (by omega)]))
    · (repeat (first | rw [ja_upE rfl (by omega)] | rw [ja_upO (by omega)]))
    · intro j h1 h2
      (repeat (first | rw [ja_upE rfl (by omega)] | rw [ja_upO (by omega)])); rw [ha]
def aX (a : Nat → Int) (k : Nat) : Int := a (830 + 4 * k)
def aY (a : Nat → Int) (k : Nat) : Int := a (831 + 4 * k)
def aU (a : Nat → Int) (k : Nat) : Int := a (832 + 4 * k) - a (830 + 4 * k)
def aV (a : Nat → Int) (k : Nat) : Int := a (833 + 4 * k) - a (831 + 4 * k)
set_option maxRecDepth 10000 in
theorem kX12_through {l : Launch} {d : Nat} {h : ja_H} {Q : ja_Q} {n m : Nat} {a : Nat → Int} {sl px py : Int} (hG : jG h.1) (ha : h.2.1 91 = a) (hl : a 2 = (m : Int)) (hm : m ≤ 10) (bd : ∀ k, k < m → lnB (aX a k) (aY a k) (aU a k) (aV a k)) (hs : 0 ≤ sl ∧ sl ≤ 9) (bx : -40 ≤ px ∧ px ≤ 40) (bY : -40 ≤ py ∧ py ≤ 40) (q : Q (some (.inl (tst (thb (aX a) (aY a) (aU a) (aV a) sl px py) m))) h) : ja_C l (d + 2) mX12_through (js_sh n) [.inr (.inr (some (90))), .inl (sl), .inl (px), .inl (py)] h Q := by
  have g0 : h.2.1 91 (2 : Int).toNat = (m : Int) := by rw [ha]; exact hl
  refine eX12_through _ _ _ _ fun r_slack r_px r_py ho => ?_
  unfold bX12_through
  unfold ja_r at r_slack r_px r_py
  refine jt_sI jv_ci ?_
  refine jt_sI jv_ci ?_
  refine jb_forc (m) (fun (k : Nat) L' h' => ∃ (v_set : Int) (v_k : Int) (o3_6 : Option ja_W) (o3_7 : Option ja_W) (o3_8 : Option ja_W), L' = [some (.inr (.inr (some (90)))), some (.inl (sl)), some (.inl (px)), some (.inl (py)), some (.inl (v_set)), some (.inl (v_k)), o3_6, o3_7, o3_8] ∧ v_set = tst (thb (aX a) (aY a) (aU a) (aV a) sl px py) k ∧ v_k = (k : Int) ∧ h = h') ⟨_, _, _, _, _, rfl, (by first | rfl | omega | (simp; done) | (simp; omega)), (by first | rfl | omega | (simp; done) | (simp; omega)), rfl⟩ ?_ ?_ ?_
  · rintro k h_k _ _ ⟨v_set0, v_k0, o3_6, o3_7, o3_8, rfl, rfl, rfl, rfl⟩
    exact jd_eq (jd_lt (jv_li rfl) (jv_fI (jr_g (jr_lr rfl) (by first | rfl | assumption) (by first | rfl | assumption | exact jG_at hG rfl | exact jG_90 hG rfl)) jv_ci (by first | rfl | assumption) (by first | (unfold ja_r; omega) | (unfold ja_rl; omega) | omega | assumption) (by first | (unfold ja_r; omega) | (unfold ja_rl; omega) | omega | assumption) (by first | assumption | rfl))) (by omega)
  · rintro k h_k _ _ ⟨v_set0, v_k0, o3_6, o3_7, o3_8, rfl, rfl, rfl, rfl⟩
    have y1 : h.2.1 91 (830 + 4 * (k : Int)).toNat = aX a k := by rw [ha]; unfold aX; congr 1
    have y2 : h.2.1 91 (830 + 4 * (k : Int) + 1).toNat = aY a k := by rw [ha]; unfold aY; congr 1; omega
    have y3 : h.2.1 91 (830 + 4 * (k : Int) + 2).toNat = aX a k + aU a k := by rw [ha, show (830 + 4 * (k : Int) + 2).toNat = 832 + 4 * k by omega]; unfold aX aU; omega
    have y4 : h.2.1 91 (830 + 4 * (k : Int) + 3).toNat = aY a k + aV a k := by rw [ha, show (830 + 4 * (k : Int) + 3).toNat = 833 + 4 * k by omega]; unfold aY aV; omega
    have bk := bd k h_k
    have tb := thb_b bk bx bY hs
    obtain ⟨bk1, bk2, bk3, bk4⟩ := id bk
    refine jt_sI (x := 830 + 4 * (k : Int)) (jv_is (jv_w (jv_add jv_ci (jv_w (jv_mul jv_ci (jv_li rfl)) (by first | (unfold ja_r; omega) | (unfold ja_rl; omega) | omega | assumption))) (by first | (unfold ja_r; omega) | (unfold ja_rl; omega) | omega | assumption)) (by rfl)) ?_
    refine jt_sI (x := aU a k) (jv_is (jv_w (jv_sub (jv_fI (jr_g (jr_lr rfl) (by first | rfl | assumption) (by first | rfl | assumption | exact jG_at hG rfl | exact jG_90 hG rfl)) (jv_w (jv_add (jv_li rfl) jv_ci) (by first | (unfold ja_r; omega) | (unfold ja_rl; omega) | omega | assumption)) (by first | rfl | assumption) (by first | (unfold ja_r; omega) | (unfold ja_rl; omega) | omega | assumption) (by first | (unfold ja_r; omega) | (unfold ja_rl; omega) | omega | assumption) (by first | assumption | rfl)) (jv_fI (jr_g (jr_lr rfl) (by first | rfl | assumption) (by first | rfl | assumption | exact jG_at hG rfl | exact jG_90 hG rfl)) (jv_li rfl) (by first | rfl | assumption) (by first | (unfold ja_r; omega) | (unfold ja_rl; omega) | omega | assumption) (by first | (unfold ja_r; omega) | (unfold ja_rl; omega) | omega | assumption) (by first | assumption | rfl))) (by first | (unfold ja_r; omega) | (unfold ja_rl; omega) | omega | assumption)) (by omega)) ?_
    refine jt_sI (x := aV a k) (jv_is (jv_w (jv_sub (jv_fI (jr_g (jr_lr rfl) (by first | rfl | assumption) (by first | rfl | assumption | exact jG_at hG rfl | exact jG_90 hG rfl)) (jv_w (jv_add (jv_li rfl) jv_ci) (by first | (unfold ja_r; omega) | (unfold ja_rl; omega) | omega | assumption)) (by first | rfl | assumption) (by first | (unfold ja_r; omega) | (unfold ja_rl; omega) | omega | assumption) (by first | (unfold ja_r; omega) | (unfold ja_rl; omega) | omega | assumption) (by first | assumption | rfl)) (jv_fI (jr_g (jr_lr rfl) (by first | rfl | assumption) (by first | rfl | assumption | exact jG_at hG rfl | exact jG_90 hG rfl)) (jv_w (jv_add (jv_li rfl) jv_ci) (by first | (unfold ja_r; omega) | (unfold ja_rl; omega) | omega | assumption)) (by first | rfl | assumption) (by first | (unfold ja_r; omega) | (unfold ja_rl; omega) | omega | assumption) (by first | (unfold ja_r; omega) | (unfold ja_rl; omega) | omega | assumption) (by first | assumption | rfl))) (by first | (unfold ja_r; omega) | (unfold ja_rl; omega) | omega | assumption)) (by omega)) ?_
    refine jb_if_d (jd_le (jy_sI (jA_i jA_0 (jv_w (jv_sub (jv_w (jv_mul (jv_li rfl) (jv_w (jv_sub (jv_li rfl) (jv_fI (jr_g (jr_lr rfl) (by first | rfl | assumption) (by first | rfl | assumption | exact jG_at hG rfl | exact jG_90 hG rfl)) (jv_w (jv_add (jv_li rfl) jv_ci) (by first | (unfold ja_r; omega) | (unfold ja_rl; omega) | omega | assumption)) (by first | rfl | assumption) (by first | (unfold ja_r; omega) | (unfold ja_rl; omega) | omega | assumption) (by first | (unfold ja_r; omega) | (unfold ja_rl; omega) | omega | assumption) (by first | assumption | rfl))) (by first | (unfold ja_r; omega) | (unfold ja_rl; omega) | omega | assumption))) (by first | (unfold ja_r; omega) | (unfold ja_rl; omega) | omega | assumption)) (jv_w (jv_mul (jv_li rfl) (jv_w (jv_sub (jv_li rfl) (jv_fI (jr_g (jr_lr rfl) (by first | rfl | assumption) (by first | rfl | assumption | exact jG_at hG rfl | exact jG_90 hG rfl)) (jv_li rfl) (by first | rfl | assumption) (by first | (unfold ja_r; omega) | (unfold ja_rl; omega) | omega | assumption) (by first | (unfold ja_r; omega) | (unfold ja_rl; omega) | omega | assumption) (by first | assumption | rfl))) (by first | (unfold ja_r; omega) | (unfold ja_rl; omega) | omega | assumption))) (by first | (unfold ja_r; omega) | (unfold ja_rl; omega) | omega | assumption))) (by first | (unfold ja_r; omega) | (unfold ja_rl; omega) | omega | assumption))) fun _ => kX12_abs (by first | (unfold ja_r; omega) | (unfold ja_rl; omega) | omega | assumption)) (jv_w (jv_mul (jv_li rfl) (jv_w (jv_add (jy_sI (jA_i jA_0 (jv_li rfl)) fun _ => kX12_abs (by first | (unfold ja_r; omega) | (unfold ja_rl; omega) | omega | assumption)) (jy_sI (jA_i jA_0 (jv_li rfl)) fun _ => kX12_abs (by first | (unfold ja_r; omega) | (unfold ja_rl; omega) | omega | assumption))) (by first | (unfold ja_r; omega) | (unfold ja_rl; omega) | omega | assumption))) (by first | (unfold ja_r; omega) | (unfold ja_rl; omega) | omega | assumption))) (fun c1 => ?_) (fun c1 => ?_)
    · refine jt_sI (jv_or (jv_li rfl) (jv_shl jv_ci (jv_li rfl))) ?_
      exact jt_inc rfl (by first | (unfold ja_r; omega) | (unfold ja_rl; omega) | omega | assumption) ⟨_, _, _, _, _, rfl, (by simp only [tst]; first | (rw [if_pos (by unfold thb; simp only [decide_eq_true_eq]; exact c1)]) | (rw [if_neg (by unfold thb; simp only [decide_eq_true_eq]; exact c1)])), (by first | rfl | omega | (simp; done) | (simp; omega)), rfl⟩
    · exact jt_inc rfl (by first | (unfold ja_r; omega) | (unfold ja_rl; omega) | omega | assumption) ⟨_, _, _, _, _, rfl, (by simp only [tst]; first | (rw [if_pos (by unfold thb; simp only [decide_eq_true_eq]; exact c1)]) | (rw [if_neg (by unfold thb; simp only [decide_eq_true_eq]; exact c1)])), (by first | rfl | omega | (simp; done) | (simp; omega)), rfl⟩
  · rintro _ _ ⟨v_set0, v_k0, o3_6, o3_7, o3_8, rfl, rfl, rfl, rfl⟩
    refine jt_rI (jv_li rfl) ?_
    exact q
theorem tst_n (P : Nat → Bool) {m : Nat} (hm : m ≤ 10) : ja_land (((2 ^ m : Nat) : Int) - 1) (ja_lxor (tst P m) (-1)) = tst (fun k => !P k) m := by
  refine jbt_ext (ja_land_r _ _) (tst_r _ _) fun j hj => ?_
  have e : ((2 ^ m : Nat) : Int) - 1 = ((2 ^ m - 1 : Nat) : Int) := by
    have : 0 < 2 ^ m := Nat.two_pow_pos m
    omega
  rw [jbt_and, jbt_xor, jbt_m1, tst_b _ m (by omega), tst_b _ m (by omega), e, jbt_nat, Nat.testBit_two_pow_sub_one]
  by_cases z : j < m <;> simp [z, hj]
def mtG (a : Nat → Int) (sl : Int) (m : Nat) (w : Int) (b : Nat) : Int := (if w = 0 then pX (b) else if w = 1 then pY (b) else if w = 2 then (((cP (aX a) (aY a) (aU a) (aV a) sl m) (b) : Nat) : Int) else tst (fun k => !thb (aX a) (aY a) (aU a) (aV a) sl (pX (b)) (pY (b)) k) m)
set_option maxRecDepth 10000 in
theorem kX12_meet {l : Launch} {d : Nat} {h : ja_H} {Q : ja_Q} {n m : Nat} {a : Nat → Int} {sl w : Int} (hG : jG h.1) (ha : h.2.1 91 = a) (hl : a 2 = (m : Int)) (hm : m ≤ 10) (bd : ∀ k, k < m → lnB (aX a k) (aY a k) (aU a k) (aV a k)) (q1 : (0 ≤ sl ∧ sl ≤ 9) ∧ (0 ≤ w ∧ w ≤ 3) ∧ m ≠ 0 → Q (some (.inl (mtF (aX a) (aY a) (aU a) (aV a) sl m w))) h) (q2 : ¬ ((0 ≤ sl ∧ sl ≤ 9) ∧ (0 ≤ w ∧ w ≤ 3) ∧ m ≠ 0) → Q (some (.inl (-1000))) h) : ja_C l (d + 4) mX12_meet (js_sh n) [.inr (.inr (some (90))), .inl (sl), .inl (w)] h Q := by
  have g0 : h.2.1 91 (2 : Int).toNat = (m : Int) := by rw [ha]; exact hl
  obtain ⟨c, hc⟩ : ∃ c, (cP (aX a) (aY a) (aU a) (aV a) sl m) = c := ⟨_, rfl⟩
  refine eX12_meet _ _ _ fun r_slack r_what ho => ?_
  unfold bX12_meet
  unfold ja_r at r_slack r_what
  refine jb_if_d (φ := ¬ ((0 ≤ sl ∧ sl ≤ 9) ∧ (0 ≤ w ∧ w ≤ 3) ∧ m ≠ 0)) (jd_eq (jd_or (jd_or (jd_not (jd_b (jy_sI (jA_i (jA_i (jA_i jA_0 (jv_li rfl)) jv_ci) jv_ci) fun _ => kX12_isIn))) (fun _ => (jd_not (jd_b (jy_sI (jA_i (jA_i (jA_i jA_0 (jv_li rfl)) jv_ci) jv_ci) fun _ => kX12_isIn))))) (fun _ => (jd_eqI (jv_fI (jr_g (jr_lr rfl) (by first | rfl | assumption) (by first | rfl | assumption | exact jG_at hG rfl | exact jG_90 hG rfl)) jv_ci (by first | rfl | assumption) (by first | (unfold ja_r; omega) | (unfold ja_rl; omega) | omega | assumption) (by first | (unfold ja_r; omega) | (unfold ja_rl; omega) | omega | assumption) (by first | assumption | rfl)) jv_ci))) (by omega)) (fun c1 => ?_) (fun c1 => ?_)
  · refine jt_rI jv_ci ?_
    exact q2 c1
  · have c1 := Classical.not_not.mp c1
    obtain ⟨hs, hw, hm0⟩ := id c1
    refine jt_sI jv_ci ?_
    refine jt_sI jv_ci ?_
    refine jt_sI (x := ((0 : Nat) : Int) - 40) (jv_is jv_ci (by rfl)) ?_
    refine jb_forc (81) (fun (i : Nat) L' h' => ∃ (v_most : Int) (v_found : Int) (v_y : Int) (o6_6 : Option ja_W) (o6_7 : Option ja_W) (o6_8 : Option ja_W), L' = [some (.inr (.inr (some (90)))), some (.inl (sl)), some (.inl (w)), some (.inl (v_most)), some (.inl (v_found)), some (.inl (v_y)), o6_6, o6_7, o6_8] ∧ v_most = (if 81 * i = 0 then -1 else ((c (bs c (81 * i)) : Nat) : Int)) ∧ v_found = (if 81 * i = 0 then 0 else mtG a sl m w (bs c (81 * i))) ∧ v_y = (i : Int) - 40 ∧ h = h') ⟨_, _, _, _, _, _, rfl, (by rfl), (by rfl), (by first | rfl | omega | (simp; done) | (simp; omega)), rfl⟩ ?_ ?_ ?_
    · rintro i h_i _ _ ⟨v_most0, v_found0, v_y0, o6_6, o6_7, o6_8, rfl, rfl, rfl, rfl, rfl⟩
      exact jd_eq (jd_le (jv_li rfl) jv_ci) (by omega)
    · rintro i h_i _ _ ⟨v_most0, v_found0, v_y0, o6_6, o6_7, o6_8, rfl, rfl, rfl, rfl, rfl⟩
      refine jt_sI (x := ((0 : Nat) : Int) - 40) (jv_is jv_ci (by rfl)) ?_
      refine jb_forc (81) (fun (j : Nat) L' h' => ∃ (v_most : Int) (v_found : Int) (v_x : Int) (o8_7 : Option ja_W) (o8_8 : Option ja_W), L' = [some (.inr (.inr (some (90)))), some (.inl (sl)), some (.inl (w)), some (.inl (v_most)), some (.inl (v_found)), some (.inl ((i : Int) - 40)), some (.inl (v_x)), o8_7, o8_8] ∧ v_most = (if 81 * i + j = 0 then -1 else ((c (bs c (81 * i + j)) : Nat) : Int)) ∧ v_found = (if 81 * i + j = 0 then 0 else mtG a sl m w (bs c (81 * i + j))) ∧ v_x = (j : Int) - 40 ∧ h = h') ⟨_, _, _, _, _, rfl, (by rfl), (by rfl), (by first | rfl | omega | (simp; done) | (simp; omega)), rfl⟩ ?_ ?_ ?_
      · rintro j h_j _ _ ⟨v_most0, v_found0, v_x0, o8_7, o8_8, rfl, rfl, rfl, rfl, rfl⟩
        exact jd_eq (jd_le (jv_li rfl) jv_ci) (by omega)
      · rintro j h_j _ _ ⟨v_most0, v_found0, v_x0, o8_7, o8_8, rfl, rfl, rfl, rfl, rfl⟩
        have xy := p_xy (i := i) h_j
        have hcp : ncn (thb (aX a) (aY a) (aU a) (aV a) sl ((j : Int) - 40) ((i : Int) - 40)) m = c (81 * i + j) := by rw [← hc]; exact cP_xy h_j
        refine jt_sI (jy_mI (jr_lr rfl) (by first | rfl | assumption) (jA_i (jA_i (jA_i jA_0 (jv_li rfl)) (jv_li rfl)) (jv_li rfl)) fun _ => kX12_through hG ha hl hm bd (by first | (unfold ja_r; omega) | (unfold ja_rl; omega) | omega | assumption) (by first | (unfold ja_r; omega) | (unfold ja_rl; omega) | omega | assumption) (by first | (unfold ja_r; omega) | (unfold ja_rl; omega) | omega | assumption)) ?_
        refine jt_sI (x := ((c (81 * i + j) : Nat) : Int)) (jv_is (jy_sI (jA_i jA_0 (jv_li rfl)) fun _ => kX12_countBits) (by rw [tst_p _ (by omega), hcp])) ?_
        refine jb_if_d (jd_le (jv_li rfl) (jv_li rfl)) (fun c2 => ?_) (fun c2 => ?_)
        · exact jt_inc rfl (by first | (unfold ja_r; omega) | (unfold ja_rl; omega) | omega | assumption) ⟨_, _, _, _, _, rfl, (by 
                first
                | (rw [if_neg (show ¬ 81 * i + (j + 1) = 0 by omega), show 81 * i + (j + 1) = 81 * i + j + 1 by omega, bs_T (Int.not_le.mp c2)])
                | (rw [if_neg (show ¬ 81 * i + (j + 1) = 0 by omega), show 81 * i + (j + 1) = 81 * i + j + 1 by omega, (bs_F (Int.not_lt.mpr c2)).1, if_neg (bs_F (Int.not_lt.mpr c2)).2])), (by 
                first
                | (rw [if_neg (show ¬ 81 * i + (j + 1) = 0 by omega), show 81 * i + (j + 1) = 81 * i + j + 1 by omega, bs_T (Int.not_le.mp c2)])
                | (rw [if_neg (show ¬ 81 * i + (j + 1) = 0 by omega), show 81 * i + (j + 1) = 81 * i + j + 1 by omega, (bs_F (Int.not_lt.mpr c2)).1, if_neg (bs_F (Int.not_lt.mpr c2)).2])), (by first | rfl | omega | (simp; done) | (simp; omega)), rfl⟩
        · refine jt_sI (jv_li rfl) ?_
          refine jt_sI (x := mtG a sl m w (81 * i + j)) (jv_is (jv_cv (jd_eqI (jv_li rfl) jv_ci) (fun _ => (jv_li rfl)) (fun _ => (jv_cv (jd_eqI (jv_li rfl) jv_ci) (fun _ => (jv_li rfl)) (fun _ => (jv_cv (jd_eqI (jv_li rfl) jv_ci) (fun _ => (jv_li rfl)) (fun _ => (jv_and (jv_is (jv_sub (jv_shl jv_ci (jv_fI (jr_g (jr_lr rfl) rfl (jG_90 hG rfl)) jv_ci rfl (by decide) (by decide) g0)) jv_ci) (sh1 (by omega))) (jv_xor (jv_li rfl) jv_ci)))))))) (by unfold mtG; rw [tst_n _ hm, xy.1, xy.2, hc])) ?_
          exact jt_inc rfl (by first | (unfold ja_r; omega) | (unfold ja_rl; omega) | omega | assumption) ⟨_, _, _, _, _, rfl, (by 
                first
                | (rw [if_neg (show ¬ 81 * i + (j + 1) = 0 by omega), show 81 * i + (j + 1) = 81 * i + j + 1 by omega, bs_T (Int.not_le.mp c2)])
                | (rw [if_neg (show ¬ 81 * i + (j + 1) = 0 by omega), show 81 * i + (j + 1) = 81 * i + j + 1 by omega, (bs_F (Int.not_lt.mpr c2)).1, if_neg (bs_F (Int.not_lt.mpr c2)).2])), (by 
                first
                | (rw [if_neg (show ¬ 81 * i + (j + 1) = 0 by omega), show 81 * i + (j + 1) = 81 * i + j + 1 by omega, bs_T (Int.not_le.mp c2)])
                | (rw [if_neg (show ¬ 81 * i + (j + 1) = 0 by omega), show 81 * i + (j + 1) = 81 * i + j + 1 by omega, (bs_F (Int.not_lt.mpr c2)).1, if_neg (bs_F (Int.not_lt.mpr c2)).2])), (by first | rfl | omega | (simp; done) | (simp; omega)), rfl⟩
      · rintro _ _ ⟨v_most0, v_found0, v_x0, o8_7, o8_8, rfl, rfl, rfl, rfl, rfl⟩
        exact jt_inc rfl (by first | (unfold ja_r; omega) | (unfold ja_rl; omega) | omega | assumption) ⟨_, _, _, _, _, _, rfl, (by rfl), (by rfl), (by first | rfl | omega | (simp; done) | (simp; omega)), rfl⟩
    · rintro _ _ ⟨v_most0, v_found0, v_y0, o6_6, o6_7, o6_8, rfl, rfl, rfl, rfl, rfl⟩
      refine jt_rI (x := mtF (aX a) (aY a) (aU a) (aV a) sl m w) (jv_is (jv_li rfl) (by unfold mtF mtG; rw [hc]; rfl)) ?_
      exact q1 c1
