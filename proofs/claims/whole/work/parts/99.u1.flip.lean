/-! flip: rows through, and i pairs of the next -/
def fpS (x0 x1 y0 j i : Int) : Int → Int → Bool := fun a b => decide ((y0 ≤ b ∧ b < y0 + j ∧ x0 ≤ a ∧ a < x1) ∨ (b = y0 + j ∧ ((x0 ≤ a ∧ a < x0 + i) ∨ (x1 - i ≤ a ∧ a < x1))))
/-- .. and the left one of the pair behind them -/
def fqS (x0 x1 y0 j i : Int) : Int → Int → Bool := fun a b => decide ((y0 ≤ b ∧ b < y0 + j ∧ x0 ≤ a ∧ a < x1) ∨ (b = y0 + j ∧ ((x0 ≤ a ∧ a < x0 + i + 1) ∨ (x1 - i ≤ a ∧ a < x1))))
def fpV (lt : Int → Int → Int) (x0 x1 : Int) : Int → Int → Int := fun a b => lt (x0 + x1 - 1 - a) b
def fpL (lt : Int → Int → Int) (x0 x1 y0 y1 : Int) : Int → Int → Int := rgL (rwS x0 x1 y0 (y1 - y0) 0) (fpV lt x0 x1) lt
theorem fpL_b {lt : Int → Int → Int} {x0 x1 y0 y1 : Int} (h : l99 lt) : l99 (fpL lt x0 x1 y0 y1) := rgL_b (fun a b => h _ _) h
theorem rgL_d {S S' : Int → Int → Bool} {V lt : Int → Int → Int} (h1 : ∀ a b, S a b = true → S' a b = true) (h2 : ∀ a b, S' a b = true → ¬ S a b = true → V a b = lt a b) : rgL S V lt = rgL S' V lt := by
  funext a b
  unfold rgL
  by_cases z : S a b = true
  · rw [if_pos z, if_pos (h1 a b z)]
  · rw [if_neg z]
    by_cases y : S' a b = true
    · rw [if_pos y, h2 a b y z]
    · rw [if_neg y]
/-- a row is through when i pairs are and 2 i reaches its length, or one less -/
theorem fp_row {lt : Int → Int → Int} {x0 x1 y0 j i : Int} (hj : 0 ≤ j) (h : (0 ≤ i ∧ 2 * i ≤ x1 - x0 ∧ x1 - x0 ≤ 2 * i + 1) ∨ (i = 0 ∧ x1 ≤ x0)) : rgL (fpS x0 x1 y0 j i) (fpV lt x0 x1) lt = rgL (fpS x0 x1 y0 (j + 1) 0) (fpV lt x0 x1) lt := by
  refine rgL_d (fun a b => by unfold fpS; simp only [decide_eq_true_eq]; omega) (fun a b => ?_)
  unfold fpS fpV
  simp only [decide_eq_true_eq]
  intro z1 z2
  rw [show x0 + x1 - 1 - a = a by omega]
theorem fp_1 {lt : Int → Int → Int} {x0 x1 y0 j i x y v : Int} (hx : x = x0 + i) (hy : y = y0 + j) (hi : 0 ≤ i ∧ x0 + i < x1 - 1 - i) (hj : 0 ≤ j) (hv : v = lt (x1 - 1 - i) y) : up2 (rgL (fpS x0 x1 y0 j i) (fpV lt x0 x1) lt) x y v = rgL (fqS x0 x1 y0 j i) (fpV lt x0 x1) lt := by
  refine rgL_p (fun a b => by unfold fpS fqS; simp only [decide_eq_true_eq]; omega) ?_
  unfold fpV
  rw [hv, show x0 + x1 - 1 - x = x1 - 1 - i by omega]
theorem fp_2 {lt : Int → Int → Int} {x0 x1 y0 j i x y v : Int} (hx : x = x1 - 1 - i) (hy : y = y0 + j) (hi : 0 ≤ i ∧ x0 + i < x1 - 1 - i) (hj : 0 ≤ j) (hv : v = lt (x0 + i) y) : up2 (rgL (fqS x0 x1 y0 j i) (fpV lt x0 x1) lt) x y v = rgL (fpS x0 x1 y0 j (i + 1)) (fpV lt x0 x1) lt := by
  refine rgL_p (fun a b => by unfold fpS fqS; simp only [decide_eq_true_eq]; omega) ?_
  unfold fpV
  rw [hv, show x0 + x1 - 1 - x = x0 + i by omega]
theorem fp_n {lt : Int → Int → Int} {x0 x1 y0 j i x y : Int} (hi : 0 ≤ i ∧ x0 + i < x1 - 1 - i) (hx : x = x0 + i ∨ x = x1 - 1 - i) (hy : y = y0 + j) : rgL (fpS x0 x1 y0 j i) (fpV lt x0 x1) lt x y = lt x y := rgL_n (by unfold fpS; simp only [decide_eq_true_eq]; omega)
theorem fp_0 {lt V : Int → Int → Int} {x0 x1 y0 : Int} : rgL (fpS x0 x1 y0 0 0) V lt = lt := rgL_0 fun a b => by unfold fpS; simp only [decide_eq_true_eq]; omega
theorem fp_e {lt V : Int → Int → Int} {x0 x1 y0 j : Int} : rgL (fpS x0 x1 y0 j 0) V lt = rgL (rwS x0 x1 y0 j 0) V lt := rgL_c fun a b => by unfold fpS rwS; simp only [decide_eq_true_eq]; omega
set_option maxRecDepth 10000 in
theorem kX1_flip {l : Launch} {d : Nat} {h : ja_H} {Q : ja_Q} {n P k a : Nat} {w g : Int} (hG : jG h.1) (hg : jPg n P h.1) (h3 : h.1 50 3 = some P) (h4 : h.1 50 4 = some k) (hp : jp w g n k h) (hk : k + 1 < 48) (hP : 66 ≤ P) (ha : a < 16) {x0 y0 wd ht : Int} (N0 : h.2.1 (P + 2) (7 * a + 0) = x0) (N1 : h.2.1 (P + 2) (7 * a + 1) = y0) (N2 : h.2.1 (P + 2) (7 * a + 2) = wd) (N3 : h.2.1 (P + 2) (7 * a + 3) = ht) (hr : (0 ≤ x0 ∧ x0 ≤ 99) ∧ (0 ≤ y0 ∧ y0 ≤ 99) ∧ (1 ≤ wd ∧ wd ≤ 99) ∧ (1 ≤ ht ∧ ht ≤ 99))
    (q : ∀ u, jfr [k + 1] h.2.1 u → jpx (h.1, u, h.2.2) w g k = fpL (jpx h w g k) x0 (min (x0 + wd) w) y0 (max y0 (min (y0 + ht) g)) → Q none (h.1, u, h.2.2)) : ja_C l (d + 3) mX1_flip (js_sh n) [.inr (.inr (some (50))), .inl ((a : Int))] h Q := by
  obtain ⟨z1, z2, z3, x4, x5, hnw, hw4, hw12, hg4, hg12⟩ := id hp
  obtain ⟨lt, hlt⟩ : ∃ lt, jpx h w g k = lt := ⟨_, rfl⟩
  rw [hlt] at q
  obtain ⟨x1, hx1⟩ : ∃ x1, min (x0 + wd) w = x1 := ⟨_, rfl⟩
  obtain ⟨y1, hy1⟩ : ∃ y1, min (y0 + ht) g = y1 := ⟨_, rfl⟩
  rw [hx1, hy1] at q
  obtain ⟨ny, hny⟩ : ∃ ny : Nat, max y0 y1 - y0 = (ny : Int) := ⟨(max y0 y1 - y0).toNat, by omega⟩
  have d2 : (x1 - x0).tdiv 2 = if 0 ≤ x1 - x0 then (x1 - x0) / 2 else -(-(x1 - x0) / 2) := by
    split
    · rename_i z; exact Int.tdiv_eq_ediv_of_nonneg z
    · rename_i z
      rw [show x1 - x0 = -(-(x1 - x0)) by omega, Int.neg_tdiv, Int.tdiv_eq_ediv_of_nonneg (by omega)]
      omega
  obtain ⟨nx, hnx⟩ : ∃ nx : Nat, ((x1 - x0).tdiv 2).toNat = nx := ⟨_, rfl⟩
  have hnx2 : (0 ≤ (nx : Int) ∧ 2 * (nx : Int) ≤ x1 - x0 ∧ x1 - x0 ≤ 2 * (nx : Int) + 1) ∨ ((nx : Int) = 0 ∧ x1 ≤ x0) := by
    rw [d2] at hnx
    split at hnx <;> omega
  have d3 : ∀ i : Nat, ((i : Int) < (x1 - x0).tdiv 2) ↔ i < nx := fun i => by omega
  have d4 : -2147483648 ≤ (x1 - x0).tdiv 2 ∧ (x1 - x0).tdiv 2 ≤ 2147483647 := by rw [d2]; split <;> omega
  unfold fpL at q
  rw [hny] at q
  refine eX1_flip _ _ fun r_act ho => ?_
  unfold bX1_flip
  unfold ja_r at r_act
  refine jt_sI (x := x0) (jv_is (jy_mI (jr_g (jr_lr rfl) rfl h3) hg.1 (jA_i (jA_i jA_0 (jv_li rfl)) jv_ci) fun _ => kX4_numberOf (a := a) (s := 0) hg (by omega) (by omega)) (by exact N0)) ?_
  refine jt_sI (x := y0) (jv_is (jy_mI (jr_g (jr_lr rfl) rfl h3) hg.1 (jA_i (jA_i jA_0 (jv_li rfl)) jv_ci) fun _ => kX4_numberOf (a := a) (s := 1) hg (by omega) (by omega)) (by exact N1)) ?_
  refine jt_sI (x := x1) (jv_is (jy_sI (jA_i (jA_i jA_0 (jv_w (jv_add (jv_li rfl) (jv_is (x' := wd) (jy_mI (jr_g (jr_lr rfl) rfl h3) hg.1 (jA_i (jA_i jA_0 (jv_li rfl)) jv_ci) fun _ => kX4_numberOf (a := a) (s := 2) hg (by omega) (by omega)) (by exact N2))) (by unfold ja_r; omega))) (jv_gF (jr_g (jr_lr rfl) rfl h4) hp.1 x4)) fun _ => kJ9_min) (by exact hx1)) ?_
  refine jt_sI (x := y1) (jv_is (jy_sI (jA_i (jA_i jA_0 (jv_w (jv_add (jv_li rfl) (jv_is (x' := ht) (jy_mI (jr_g (jr_lr rfl) rfl h3) hg.1 (jA_i (jA_i jA_0 (jv_li rfl)) jv_ci) fun _ => kX4_numberOf (a := a) (s := 3) hg (by omega) (by omega)) (by exact N3))) (by unfold ja_r; omega))) (jv_gF (jr_g (jr_lr rfl) rfl h4) hp.1 x5)) fun _ => kJ9_min) (by exact hy1)) ?_
  refine jt_sI (jv_li rfl) ?_
  refine jb_forc (ny) (fun (j : Nat) L' h' => ∃ (v_y : Int) (o6_7 : Option ja_W) (o6_8 : Option ja_W) (u : Nat → Nat → Int), L' = [some (.inr (.inr (some (50)))), some (.inl ((a : Int))), some (.inl (x0)), some (.inl (y0)), some (.inl (x1)), some (.inl (y1)), some (.inl (v_y)), o6_7, o6_8] ∧ v_y = y0 + (j : Int) ∧ (h.1, u, h.2.2) = h' ∧ (jfr [k + 1] h.2.1 u) ∧ (jpx (h.1, u, h.2.2) w g k = rgL (fpS x0 x1 y0 (j : Int) 0) (fpV lt x0 x1) lt)) ⟨_, _, _, _, rfl, (by first | rfl | omega | (simp; done) | (simp; omega)), rfl, (by exact jfr_rf _ _), (by exact hlt.trans fp_0.symm)⟩ ?_ ?_ ?_
  · rintro j h_j _ _ ⟨v_y0, o6_7, o6_8, u, rfl, rfl, rfl, fr, ul⟩
    exact jd_eq (jd_lt (jv_li rfl) (jv_li rfl)) (by omega)
  · rintro j h_j _ _ ⟨v_y0, o6_7, o6_8, u, rfl, rfl, rfl, fr, ul⟩
    refine jt_sI jv_ci ?_
    refine jb_forc (nx) (fun (i : Nat) L' h' => ∃ (v_i : Int) (o8_8 : Option ja_W) (u2 : Nat → Nat → Int), L' = [some (.inr (.inr (some (50)))), some (.inl ((a : Int))), some (.inl (x0)), some (.inl (y0)), some (.inl (x1)), some (.inl (y1)), some (.inl (y0 + (j : Int))), some (.inl (v_i)), o8_8] ∧ v_i = (i : Int) ∧ (h.1, u2, h.2.2) = h' ∧ (jfr [k + 1] h.2.1 u2) ∧ (jpx (h.1, u2, h.2.2) w g k = rgL (fpS x0 x1 y0 (j : Int) (i : Int)) (fpV lt x0 x1) lt)) ⟨_, _, _, rfl, (by first | rfl | omega | (simp; done) | (simp; omega)), rfl, (by exact fr), (by exact ul)⟩ ?_ ?_ ?_
    · rintro i h_i _ _ ⟨v_i0, o8_8, u2, rfl, rfl, rfl, fr2, ul2⟩
      exact jd_eq (jd_lt (jv_li rfl) (jv_w (jv_div (jv_w (jv_sub (jv_li rfl) (jv_li rfl)) (by unfold ja_r; omega)) jv_ci (by decide)) (by unfold ja_r; omega))) (by exact d3 i)
    · rintro i h_i _ _ ⟨v_i0, o8_8, u2, rfl, rfl, rfl, fr2, ul2⟩
      have hii : 0 ≤ (i : Int) ∧ x0 + (i : Int) < x1 - 1 - (i : Int) := by omega
      have hp2 : jp w g n k (h.1, u2, h.2.2) := jp_w hp (fr2 k (by simp))
      have cv1 : jpx (h.1, u2, h.2.2) w g k (x0 + (i : Int)) (y0 + (j : Int)) = lt (x0 + (i : Int)) (y0 + (j : Int)) := by rw [ul2]; exact fp_n hii (Or.inl rfl) rfl
      have cv2 : jpx (h.1, u2, h.2.2) w g k (x1 - 1 - (i : Int)) (y0 + (j : Int)) = lt (x1 - 1 - (i : Int)) (y0 + (j : Int)) := by rw [ul2]; exact fp_n hii (Or.inr rfl) rfl
      refine jt_sI (x := lt (x0 + (i : Int)) (y0 + (j : Int))) (jv_is (jy_mI (jr_g (jr_lr rfl) rfl h4) hp.1 (jA_i (jA_i jA_0 (jv_w (jv_add (jv_li rfl) (jv_li rfl)) (by unfold ja_r; omega))) (jv_li rfl)) fun _ => kX3_getX hp2) (by exact cv1)) ?_
      refine jx_m (jr_g (jr_lr rfl) rfl h4) hp.1 (jA_i (jA_i (jA_i jA_0 (jv_w (jv_add (jv_li rfl) (jv_li rfl)) (by unfold ja_r; omega))) (jv_li rfl)) (jv_is (x' := lt (x1 - 1 - (i : Int)) (y0 + (j : Int))) (jy_mI (jr_g (jr_lr rfl) rfl h4) hp.1 (jA_i (jA_i jA_0 (jv_w (jv_sub (jv_w (jv_sub (jv_li rfl) jv_ci) (by unfold ja_r; omega)) (jv_li rfl)) (by unfold ja_r; omega))) (jv_li rfl)) fun _ => kX3_getX hp2) cv2)) (kX3_put (h := (h.1, u2, h.2.2)) hp2 (fun _ => ⟨rfl, ?_⟩) (fun y => absurd (by omega) y))
      obtain ⟨u3, hu3⟩ : ∃ u3, ja_up u2 (k + 1) ((y0 + (j : Int)) * w + (x0 + (i : Int))).toNat (lt (x1 - 1 - (i : Int)) (y0 + (j : Int))) = u3 := ⟨_, rfl⟩
      have fr3 : jfr [k + 1] h.2.1 u3 := by rw [← hu3]; exact jfr_up fr2 (by simp)
      have ul3 : jpx (h.1, u3, h.2.2) w g k = rgL (fqS x0 x1 y0 (j : Int) (i : Int)) (fpV lt x0 x1) lt := by
        rw [← hu3, jpx_put (by omega) (by omega) (by omega), ul2]
        exact fp_1 rfl rfl hii (by omega) rfl
      have hp3 : jp w g n k (h.1, u3, h.2.2) := jp_w hp (fr3 k (by simp))
      dsimp only
      rw [hu3]
      refine jx_m (jr_g (jr_lr rfl) rfl h4) hp.1 (jA_i (jA_i (jA_i jA_0 (jv_w (jv_sub (jv_w (jv_sub (jv_li rfl) jv_ci) (by unfold ja_r; omega)) (jv_li rfl)) (by unfold ja_r; omega))) (jv_li rfl)) (jv_li rfl)) (kX3_put (h := (h.1, u3, h.2.2)) hp3 (fun _ => ⟨rfl, ?_⟩) (fun y => absurd (by omega) y))
      exact jt_inc rfl (by first | (unfold ja_r; omega) | (unfold ja_rl; omega) | omega | assumption) ⟨_, _, _, rfl, (by first | rfl | omega | (simp; done) | (simp; omega)), rfl, (by exact jfr_up fr3 (by simp)), (by rw [jpx_put (by omega) (by omega) (by omega), ul3]; exact fp_2 rfl rfl hii (by omega) rfl)⟩
    · rintro _ _ ⟨v_i0, o8_8, u2, rfl, rfl, rfl, fr2, ul2⟩
      exact jt_inc rfl (by first | (unfold ja_r; omega) | (unfold ja_rl; omega) | omega | assumption) ⟨_, _, _, _, rfl, (by first | rfl | omega | (simp; done) | (simp; omega)), rfl, (by exact fr2), (by rw [ul2]; exact fp_row (by omega) hnx2)⟩
  · rintro _ _ ⟨v_y0, o6_7, o6_8, u, rfl, rfl, rfl, fr, ul⟩
    rw [fp_e] at ul
    exact q u fr ul
