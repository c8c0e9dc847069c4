/-! light at one place; a field painted cell by cell -/
def up2 (lt : Int → Int → Int) (x y v : Int) : Int → Int → Int := fun a b => if a = x ∧ b = y then v else lt a b
theorem lin {w a b x y : Int} (hw : 0 < w) (ha : 0 ≤ a ∧ a < w) (hx : 0 ≤ x ∧ x < w) (e : b * w + a = y * w + x) : a = x ∧ b = y := by
  by_cases h : b = y
  · subst h; omega
  · exfalso
    by_cases h2 : b < y
    · have : (b + 1) * w ≤ y * w := Int.mul_le_mul_of_nonneg_right (by omega) (by omega)
      rw [Int.add_mul, Int.one_mul] at this
      omega
    · have : (y + 1) * w ≤ b * w := Int.mul_le_mul_of_nonneg_right (by omega) (by omega)
      rw [Int.add_mul, Int.one_mul] at this
      omega
theorem jpx_put {R : Nat → Nat → Option Nat} {f e : Nat → Nat → Int} {w g x y v : Int} {k : Nat} (hw : 4 ≤ w ∧ w ≤ 12) (hx : 0 ≤ x ∧ x < w) (hy : 0 ≤ y ∧ y < g) : jpx (R, ja_up f (k + 1) (y * w + x).toNat v, e) w g k = up2 (jpx (R, f, e) w g k) x y v := by
  funext a b
  unfold up2 jpx jp_lt
  dsimp only
  by_cases z : (0 ≤ a ∧ a < w) ∧ 0 ≤ b ∧ b < g
  · rw [if_pos z, if_pos z]
    have n1 : 0 ≤ b * w := Int.mul_nonneg z.2.1 (by omega)
    have n2 : 0 ≤ y * w := Int.mul_nonneg hy.1 (by omega)
    by_cases y0 : a = x ∧ b = y
    · rw [if_pos y0, ja_upE rfl (by rw [y0.1, y0.2])]
    · rw [if_neg y0, ja_upO (Or.inr (fun q => y0 (lin (by omega) z.1 hx (by omega))))]
  · rw [if_neg z, if_neg z, if_neg (fun y0 => z (by omega))]
theorem jmx_put {R : Nat → Nat → Option Nat} {f e : Nat → Nat → Int} {w g p x y v : Int} (hp : 0 ≤ p ∧ p ≤ 4) (hw : 4 ≤ w ∧ w ≤ 12) (hg : 4 ≤ g ∧ g ≤ 12) (hx : 0 ≤ x ∧ x < w) (hy : 0 ≤ y ∧ y < g) : jmx (R, ja_up f 91 (10 + 144 * p + 12 * y + x).toNat v, e) w g p = up2 (jmx (R, f, e) w g p) x y v := by
  funext a b
  unfold up2 jmx jm_lt
  dsimp only
  by_cases z : (0 ≤ a ∧ a < w) ∧ 0 ≤ b ∧ b < g
  · rw [if_pos z, if_pos z]
    by_cases y0 : a = x ∧ b = y
    · rw [if_pos y0, ja_upE rfl (by rw [y0.1, y0.2])]
    · rw [if_neg y0, ja_upO (by omega)]
  · rw [if_neg z, if_neg z, if_neg (fun y0 => z (by omega))]
def pnR (F : (Int → Int → Int) → Int → Int → Int) (lt : Int → Int → Int) (y x0 : Int) : Nat → Int → Int → Int
  | 0 => lt
  | i + 1 => up2 (pnR F lt y x0 i) (x0 + (i : Int)) y (F (pnR F lt y x0 i) (x0 + (i : Int)) y)
def pnA (F : (Int → Int → Int) → Int → Int → Int) (lt : Int → Int → Int) (x0 y0 : Int) (nx : Nat) : Nat → Int → Int → Int
  | 0 => lt
  | j + 1 => pnR F (pnA F lt x0 y0 nx j) (y0 + (j : Int)) x0 nx
def l99 (lt : Int → Int → Int) : Prop := ∀ x y, 0 ≤ lt x y ∧ lt x y ≤ 99
theorem up2_b {lt : Int → Int → Int} {x y v : Int} (h : l99 lt) (hv : 0 ≤ v ∧ v ≤ 99) : l99 (up2 lt x y v) := fun a b => by
  unfold up2
  split
  · exact hv
  · exact h a b
theorem pnR_b {F : (Int → Int → Int) → Int → Int → Int} {lt : Int → Int → Int} {y x0 : Int} (h : l99 lt) (hF : ∀ l x y, 0 ≤ F l x y ∧ F l x y ≤ 99) : ∀ i, l99 (pnR F lt y x0 i)
  | 0 => h
  | i + 1 => up2_b (pnR_b h hF i) (hF _ _ _)
theorem pnA_b {F : (Int → Int → Int) → Int → Int → Int} {lt : Int → Int → Int} {x0 y0 : Int} {nx : Nat} (h : l99 lt) (hF : ∀ l x y, 0 ≤ F l x y ∧ F l x y ≤ 99) : ∀ j, l99 (pnA F lt x0 y0 nx j)
  | 0 => h
  | j + 1 => pnR_b (pnA_b h hF j) hF _
/-- what a paint puts into a cell -/
def ptF (C : Nat → Int) (f t : Nat) (rd : Int) : (Int → Int → Int) → Int → Int → Int := fun l x y => c99 ((svN (nmF l x y rd) C f (t - f)).headD 0)
theorem ptF_b {C : Nat → Int} {f t : Nat} {rd : Int} : ∀ l x y, 0 ≤ ptF C f t rd l x y ∧ ptF C f t rd l x y ≤ 99 := fun l x y => by unfold ptF c99; omega
set_option maxRecDepth 10000 in
theorem kX1_paint {l : Launch} {d : Nat} {h : ja_H} {Q : ja_Q} {n P k a : Nat} {w g : Int} (hG : jG h.1) (hg : jPg n P h.1) (h3 : h.1 50 3 = some P) (h4 : h.1 50 4 = some k) (hp : jp w g n k h) (hk : k + 1 < 48) (hP : 66 ≤ P) (ha : a < 16) (hl : l99 (jpx h w g k)) {f t : Nat} {x0 y0 wd ht rd : Int} {C : Nat → Int} (hC : h.2.1 (P + 3) = C) (N0 : h.2.1 (P + 2) (7 * a + 0) = x0) (N1 : h.2.1 (P + 2) (7 * a + 1) = y0) (N2 : h.2.1 (P + 2) (7 * a + 2) = wd) (N3 : h.2.1 (P + 2) (7 * a + 3) = ht) (N4 : h.2.1 (P + 2) (7 * a + 4) = (f : Int)) (N5 : h.2.1 (P + 2) (7 * a + 5) = (t : Int)) (hr : (0 ≤ x0 ∧ x0 ≤ 99) ∧ (0 ≤ y0 ∧ y0 ≤ 99) ∧ (1 ≤ wd ∧ wd ≤ 99) ∧ (1 ≤ ht ∧ ht ≤ 99)) (hw : wfC C f t) (hrd : 0 ≤ rd ∧ rd ≤ 9)
    (q : ∀ u, jfr [k + 1, 51, 52] h.2.1 u → jpx (h.1, u, h.2.2) w g k = pnA (ptF C f t rd) (jpx h w g k) x0 y0 (min (x0 + wd) w - x0).toNat (min (y0 + ht) g - y0).toNat → Q none (h.1, u, h.2.2)) : ja_C l (d + 4) mX1_paint (js_sh n) [.inr (.inr (some (50))), .inl ((a : Int)), .inl (rd)] h Q := by
  obtain ⟨x1, x2, x3, x4, x5, hnw, hw4, hw12, hg4, hg12⟩ := id hp
  have hft := hw.1
  have ht3 := hw.2.1
  obtain ⟨lt, hlt⟩ : ∃ lt, jpx h w g k = lt := ⟨_, rfl⟩
  rw [hlt] at hl q
  obtain ⟨nx, hnx⟩ : ∃ nx, (min (x0 + wd) w - x0).toNat = nx := ⟨_, rfl⟩
  obtain ⟨ny, hny⟩ : ∃ ny, (min (y0 + ht) g - y0).toNat = ny := ⟨_, rfl⟩
  rw [hnx, hny] at q
  refine eX1_paint _ _ _ fun r_act r_round ho => ?_
  unfold bX1_paint
  unfold ja_r at r_act r_round
  refine jt_sI (x := x0) (jv_is (jy_mI (jr_g (jr_lr rfl) rfl h3) hg.1 (jA_i (jA_i jA_0 (jv_li rfl)) jv_ci) fun _ => kX4_numberOf (a := a) (s := 0) hg (by omega) (by omega)) (by exact N0)) ?_
  refine jt_sI (x := y0) (jv_is (jy_mI (jr_g (jr_lr rfl) rfl h3) hg.1 (jA_i (jA_i jA_0 (jv_li rfl)) jv_ci) fun _ => kX4_numberOf (a := a) (s := 1) hg (by omega) (by omega)) (by exact N1)) ?_
  refine jt_sI (x := min (x0 + wd) w) (jv_is (jy_sI (jA_i (jA_i jA_0 (jv_w (jv_add (jv_li rfl) (jv_is (x' := wd) (jy_mI (jr_g (jr_lr rfl) rfl h3) hg.1 (jA_i (jA_i jA_0 (jv_li rfl)) jv_ci) fun _ => kX4_numberOf (a := a) (s := 2) hg (by omega) (by omega)) (by exact N2))) (by unfold ja_r; omega))) (jv_gF (jr_g (jr_lr rfl) rfl h4) hp.1 x4)) fun _ => kJ9_min) (by rfl)) ?_
  refine jt_sI (x := min (y0 + ht) g) (jv_is (jy_sI (jA_i (jA_i jA_0 (jv_w (jv_add (jv_li rfl) (jv_is (x' := ht) (jy_mI (jr_g (jr_lr rfl) rfl h3) hg.1 (jA_i (jA_i jA_0 (jv_li rfl)) jv_ci) fun _ => kX4_numberOf (a := a) (s := 3) hg (by omega) (by omega)) (by exact N3))) (by unfold ja_r; omega))) (jv_gF (jr_g (jr_lr rfl) rfl h4) hp.1 x5)) fun _ => kJ9_min) (by rfl)) ?_
  refine jt_sI (x := (f : Int)) (jv_is (jy_mI (jr_g (jr_lr rfl) rfl h3) hg.1 (jA_i (jA_i jA_0 (jv_li rfl)) jv_ci) fun _ => kX4_numberOf (a := a) (s := 4) hg (by omega) (by omega)) (by exact N4)) ?_
  refine jt_sI (x := (t : Int)) (jv_is (jy_mI (jr_g (jr_lr rfl) rfl h3) hg.1 (jA_i (jA_i jA_0 (jv_li rfl)) jv_ci) fun _ => kX4_numberOf (a := a) (s := 5) hg (by omega) (by omega)) (by exact N5)) ?_
  refine jt_wI (jr_g (jr_lr rfl) rfl (by exact jG_at (k := 50) (j := 2) (r := 52) hG rfl)) rfl jv_ci (jv_li rfl) (by decide) (by decide) ?_
  try dsimp only
  obtain ⟨f1, hf1⟩ : ∃ f1, ja_up h.2.1 52 (5 : Int).toNat rd = f1 := ⟨_, rfl⟩
  have v5 : f1 52 5 = rd := by rw [← hf1]; exact ja_upE rfl rfl
  have fr1 : jfr [k + 1, 51, 52] h.2.1 f1 := by rw [← hf1]; exact jfr_up (jfr_rf _ _) (by simp)
  have lx1 : jpx (h.1, f1, h.2.2) w g k = lt := by rw [← hlt]; exact jpx_w (by rw [← hf1]; funext j; exact ja_upO (by omega))
  rw [hf1]
  refine jt_sI (jv_li rfl) ?_
  refine jb_forc (ny) (fun (j : Nat) L' h' => ∃ (v_y : Int) (o9_10 : Option ja_W) (o9_11 : Option ja_W) (u : Nat → Nat → Int), L' = [some (.inr (.inr (some (50)))), some (.inl ((a : Int))), some (.inl (rd)), some (.inl (x0)), some (.inl (y0)), some (.inl (min (x0 + wd) w)), some (.inl (min (y0 + ht) g)), some (.inl ((f : Int))), some (.inl ((t : Int))), some (.inl (v_y)), o9_10, o9_11] ∧ v_y = y0 + (j : Int) ∧ (h.1, u, h.2.2) = h' ∧ (jfr [k + 1, 51, 52] h.2.1 u) ∧ (u 52 5 = rd) ∧ (jpx (h.1, u, h.2.2) w g k = pnA (ptF C f t rd) lt x0 y0 nx j)) ⟨_, _, _, _, rfl, (by first | rfl | omega | (simp; done) | (simp; omega)), rfl, (by exact fr1), (by exact v5), (by exact lx1)⟩ ?_ ?_ ?_
  · rintro j h_j _ _ ⟨v_y0, o9_10, o9_11, u, rfl, rfl, rfl, fr, u5, ul⟩
    exact jd_eq (jd_lt (jv_li rfl) (jv_li rfl)) (by omega)
  · rintro j h_j _ _ ⟨v_y0, o9_10, o9_11, u, rfl, rfl, rfl, fr, u5, ul⟩
    refine jt_sI (jv_li rfl) ?_
    refine jb_forc (nx) (fun (i : Nat) L' h' => ∃ (v_x : Int) (o11_11 : Option ja_W) (u2 : Nat → Nat → Int), L' = [some (.inr (.inr (some (50)))), some (.inl ((a : Int))), some (.inl (rd)), some (.inl (x0)), some (.inl (y0)), some (.inl (min (x0 + wd) w)), some (.inl (min (y0 + ht) g)), some (.inl ((f : Int))), some (.inl ((t : Int))), some (.inl (y0 + (j : Int))), some (.inl (v_x)), o11_11] ∧ v_x = x0 + (i : Int) ∧ (h.1, u2, h.2.2) = h' ∧ (jfr [k + 1, 51, 52] h.2.1 u2) ∧ (u2 52 5 = rd) ∧ (jpx (h.1, u2, h.2.2) w g k = pnR (ptF C f t rd) (pnA (ptF C f t rd) lt x0 y0 nx j) (y0 + (j : Int)) x0 i)) ⟨_, _, _, rfl, (by first | rfl | omega | (simp; done) | (simp; omega)), rfl, (by exact fr), (by exact u5), (by exact ul)⟩ ?_ ?_ ?_
    · rintro i h_i _ _ ⟨v_x0, o11_11, u2, rfl, rfl, rfl, fr2, u25, ul2⟩
      exact jd_eq (jd_lt (jv_li rfl) (jv_li rfl)) (by omega)
    · rintro i h_i _ _ ⟨v_x0, o11_11, u2, rfl, rfl, rfl, fr2, u25, ul2⟩
      have lb := pnR_b (y := y0 + (j : Int)) (x0 := x0) (pnA_b (x0 := x0) (y0 := y0) (nx := nx) hl (ptF_b (C := C) (f := f) (t := t) (rd := rd)) j) (ptF_b (C := C) (f := f) (t := t) (rd := rd)) i
      rw [← ul2] at lb
      have hp2 : jp w g n k (h.1, u2, h.2.2) := jp_w hp (fr2 k (by simp; omega))
      have hC2 : u2 (P + 3) = C := by rw [fr2 (P + 3) (by simp; omega)]; exact hC
      refine jx_mI (jr_lr rfl) (by first | rfl | assumption) (jA_i (jA_i (jA_i (jA_i jA_0 (jv_li rfl)) (jv_li rfl)) (jv_li rfl)) (jv_li rfl)) (kX1_sumAt (h := (h.1, u2, h.2.2)) hG hg h3 h4 hp2 hk hC2 hP u25 hw lb (by omega) (by omega) hrd fun u3 fr3 u35 => ⟨_, rfl, fun _ => ?_⟩)
      have hp3 : jp w g n k (h.1, u3, h.2.2) := jp_w (h := (h.1, u2, h.2.2)) hp2 (fr3 k (by simp; omega))
      have ux3 : jpx (h.1, u3, h.2.2) w g k = jpx (h.1, u2, h.2.2) w g k := jpx_w (h := (h.1, u2, h.2.2)) (fr3 (k + 1) (by simp; omega))
      refine jx_m (jr_g (jr_lr rfl) rfl h4) hp.1 (jA_i (jA_i (jA_i jA_0 (jv_li rfl)) (jv_li rfl)) (jy_sI (jA_i (jA_i jA_0 jv_ci) (jy_sI (jA_i (jA_i jA_0 jv_ci) (jv_li rfl)) fun _ => kJ9_min)) fun _ => kJ9_max)) (kX3_put (h := (h.1, u3, h.2.2)) hp3 (fun _ => ⟨rfl, ?_⟩) (fun y => absurd (by omega) y))
      exact jt_inc rfl (by first | (unfold ja_r; omega) | (unfold ja_rl; omega) | omega | assumption) ⟨_, _, _, rfl, (by first | rfl | omega | (simp; done) | (simp; omega)), rfl, (by exact jfr_up (jfr_tr fr2 (jfr_sub fr3 (by simp))) (by simp)), (by rw [ja_upO (by omega)]; exact u35), (by rw [jpx_put (by omega) (by omega) (by omega), ux3, ul2]; rfl)⟩
    · rintro _ _ ⟨v_x0, o11_11, u2, rfl, rfl, rfl, fr2, u25, ul2⟩
      exact jt_inc rfl (by first | (unfold ja_r; omega) | (unfold ja_rl; omega) | omega | assumption) ⟨_, _, _, _, rfl, (by first | rfl | omega | (simp; done) | (simp; omega)), rfl, (by exact fr2), (by exact u25), (by simp only [pnA]; exact ul2)⟩
  · rintro _ _ ⟨v_y0, o9_10, o9_11, u, rfl, rfl, rfl, fr, u5, ul⟩
    exact q u fr ul
