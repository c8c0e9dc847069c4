/-! keep: each cell of a region once, from what was there -/
def nrm (v n : Int) : Int := if 2 * (v % n) > n then min 99 (v - v % n + n) else v - v % n
theorem nrm_b {v n : Int} (hv : 0 ≤ v ∧ v ≤ 99) (hn : 2 ≤ n ∧ n ≤ 50) : (0 ≤ nrm v n ∧ nrm v n ≤ 99) ∧ 0 ≤ v % n ∧ v % n < n ∧ v % n ≤ v := by
  have h1 := Int.emod_nonneg v (show n ≠ 0 by omega)
  have h2 := Int.emod_lt_of_pos v (show 0 < n by omega)
  have h3 : v % n ≤ v := by
    have e := Int.mul_ediv_add_emod v n
    have d := Int.mul_nonneg (show 0 ≤ n by omega) (Int.ediv_nonneg hv.1 (show 0 ≤ n by omega))
    omega
  refine ⟨?_, h1, h2, h3⟩
  unfold nrm
  split <;> omega
def rgL (S : Int → Int → Bool) (V lt : Int → Int → Int) : Int → Int → Int := fun a b => if S a b = true then V a b else lt a b
theorem rgL_c {S S' : Int → Int → Bool} {V lt : Int → Int → Int} (h : ∀ a b, S a b = true ↔ S' a b = true) : rgL S V lt = rgL S' V lt := by
  funext a b
  unfold rgL
  by_cases z : S a b = true
  · rw [if_pos z, if_pos ((h a b).mp z)]
  · rw [if_neg z, if_neg (fun y => z ((h a b).mpr y))]
theorem rgL_0 {S : Int → Int → Bool} {V lt : Int → Int → Int} (h : ∀ a b, ¬ S a b = true) : rgL S V lt = lt := by
  funext a b
  unfold rgL
  rw [if_neg (h a b)]
theorem rgL_p {S S' : Int → Int → Bool} {V lt : Int → Int → Int} {x y v : Int} (h : ∀ a b, S' a b = true ↔ (S a b = true ∨ (a = x ∧ b = y))) (hv : v = V x y) : up2 (rgL S V lt) x y v = rgL S' V lt := by
  funext a b
  unfold up2 rgL
  by_cases z : a = x ∧ b = y
  · rw [if_pos z, if_pos ((h a b).mpr (Or.inr z)), hv, z.1, z.2]
  · rw [if_neg z]
    by_cases q : S a b = true
    · rw [if_pos q, if_pos ((h a b).mpr (Or.inl q))]
    · rw [if_neg q, if_neg (fun y => by rcases (h a b).mp y with y | y; exact q y; exact z y)]
theorem rgL_n {S : Int → Int → Bool} {V lt : Int → Int → Int} {x y : Int} (h : ¬ S x y = true) : rgL S V lt x y = lt x y := by unfold rgL; rw [if_neg h]
theorem rgL_b {S : Int → Int → Bool} {V lt : Int → Int → Int} (h1 : l99 V) (h2 : l99 lt) : l99 (rgL S V lt) := fun a b => by
  unfold rgL
  split
  · exact h1 _ _
  · exact h2 _ _
/-- rows y0 .. y0 + j - 1 of x0 .. x1 - 1, and i cells of the row behind them -/
def rwS (x0 x1 y0 j i : Int) : Int → Int → Bool := fun a b => decide ((y0 ≤ b ∧ b < y0 + j ∧ x0 ≤ a ∧ a < x1) ∨ (b = y0 + j ∧ x0 ≤ a ∧ a < x0 + i))
def kpL (lt : Int → Int → Int) (n x0 y0 w g : Int) : Int → Int → Int := rgL (rwS x0 (x0 + (w - x0) / 4 * 4) y0 ((g - y0) / 4 * 4) 0) (fun a b => nrm (lt a b) n) lt
theorem kpL_b {lt : Int → Int → Int} {n x0 y0 w g : Int} (h : l99 lt) (hn : 2 ≤ n ∧ n ≤ 50) : l99 (kpL lt n x0 y0 w g) := rgL_b (fun a b => (nrm_b (h a b) hn).1) h
set_option maxRecDepth 10000 in
theorem kX1_nearestMultiple {l : Launch} {d : Nat} {h : ja_H} {Q : ja_Q} {sh : ja_S} {v n : Int} (hv : 0 ≤ v ∧ v ≤ 99) (hn : 2 ≤ n ∧ n ≤ 50) (q : Q (some (.inl (nrm v n))) h) : ja_C l (d + 2) mX1_nearestMultiple sh [.inl (v), .inl (n)] h Q := by
  have nb := nrm_b hv hn
  have em : v.tmod n = v % n := Int.tmod_eq_emod_of_nonneg hv.1
  refine eX1_nearestMultiple _ _ fun r_v r_n ho => ?_
  unfold bX1_nearestMultiple
  unfold ja_r at r_v r_n
  refine jb_if_d (jd_le (jv_li rfl) jv_ci) (fun c1 => ?_) (fun c1 => ?_)
  · exact absurd c1 (by omega)
  · refine jt_sI (x := v % n) (jv_is (jv_rem (jv_li rfl) (jv_li rfl) (by omega)) (by exact em)) ?_
    refine jt_sI (x := v - v % n) (jv_is (jv_w (jv_sub (jv_li rfl) (jv_li rfl)) (by unfold ja_r; omega)) (by rfl)) ?_
    refine jt_rI (x := nrm v n) (jv_is (jv_cv (jd_gt (jv_w (jv_mul jv_ci (jv_li rfl)) (by unfold ja_r; omega)) (jv_li rfl)) (fun _ => (jy_sI (jA_i (jA_i jA_0 jv_ci) (jv_w (jv_add (jv_li rfl) (jv_li rfl)) (by unfold ja_r; omega))) fun _ => kJ9_min)) (fun _ => jv_li rfl)) (by rfl)) ?_
    exact q
set_option maxRecDepth 10000 in
theorem kX12_nearestOf {l : Launch} {d : Nat} {h : ja_H} {Q : ja_Q} {sh : ja_S} {v n : Int} (hv : 0 ≤ v ∧ v ≤ 99) (hn : 2 ≤ n ∧ n ≤ 50) (q : Q (some (.inl (nrm v n))) h) : ja_C l (d + 1) mX12_nearestOf sh [.inl (v), .inl (n)] h Q := by
  have nb := nrm_b hv hn
  have ed : v.tdiv n = v / n := Int.tdiv_eq_ediv_of_nonneg hv.1
  have e := Int.mul_ediv_add_emod v n
  have ec : v / n * n = n * (v / n) := Int.mul_comm _ _
  have d1 := Int.ediv_nonneg hv.1 (show 0 ≤ n by omega)
  have d2 : v / n ≤ v := Int.ediv_le_self _ hv.1
  refine eX12_nearestOf _ _ fun r_v r_n ho => ?_
  unfold bX12_nearestOf
  unfold ja_r at r_v r_n
  refine jt_sI (x := v - v % n) (jv_is (jv_w (jv_mul (jv_is (x' := v / n) (jv_w (jv_div (jv_li rfl) (jv_li rfl) (by omega)) (by unfold ja_r; omega)) ed) (jv_li rfl)) (by unfold ja_r; omega)) (by omega)) ?_
  refine jt_sI (x := (if 2 * (v % n) > n then v - v % n + n else v - v % n)) (jv_is (jv_cv (jd_gt (jv_w (jv_mul jv_ci (jv_w (jv_sub (jv_li rfl) (jv_li rfl)) (by unfold ja_r; omega))) (by unfold ja_r; omega)) (jv_li rfl)) (fun _ => (jv_w (jv_add (jv_li rfl) (jv_li rfl)) (by unfold ja_r; omega))) (fun _ => jv_li rfl)) (by rw [show v - (v - v % n) = v % n by omega])) ?_
  refine jt_rI (x := nrm v n) (jv_is (jv_cv (jd_gt (jv_li rfl) jv_ci) (fun _ => jv_ci) (fun _ => jv_li rfl)) (by unfold nrm; split <;> split <;> omega)) ?_
  exact q
