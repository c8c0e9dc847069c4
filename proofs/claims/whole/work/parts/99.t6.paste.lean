/-! a paste: rows 0 .. j - 1 and i cells of row j are through -/
abbrev psr (w g fx fy tx ty W j i a b : Int) : Prop := ((0 ≤ a ∧ a < w) ∧ 0 ≤ b ∧ b < g) ∧ ((0 ≤ fx + (a - tx) ∧ fx + (a - tx) < w) ∧ 0 ≤ fy + (b - ty) ∧ fy + (b - ty) < g) ∧ 0 ≤ b - ty ∧ 0 ≤ a - tx ∧ ((b - ty < j ∧ a - tx < W) ∨ (b - ty = j ∧ a - tx < i))
def psL (src lt : Int → Int → Int) (w g fx fy tx ty W j i : Int) : Int → Int → Int := fun a b => if psr w g fx fy tx ty W j i a b then src (fx + (a - tx)) (fy + (b - ty)) else lt a b
theorem psL_c {src lt : Int → Int → Int} {w g fx fy tx ty W W' j j' i i' : Int} (h : ∀ a b, psr w g fx fy tx ty W j i a b ↔ psr w g fx fy tx ty W' j' i' a b) : psL src lt w g fx fy tx ty W j i = psL src lt w g fx fy tx ty W' j' i' := by
  funext a b
  unfold psL
  by_cases z : psr w g fx fy tx ty W j i a b
  · rw [if_pos z, if_pos ((h a b).mp z)]
  · rw [if_neg z, if_neg (fun y => z ((h a b).mpr y))]
theorem psL_0 {src lt : Int → Int → Int} {w g fx fy tx ty W : Int} : psL src lt w g fx fy tx ty W 0 0 = lt := by
  funext a b
  unfold psL
  rw [if_neg]
  unfold psr
  omega
theorem psL_p {src lt : Int → Int → Int} {w g fx fy tx ty W j i x y u v : Int} (hx : x = tx + i) (hy : y = ty + j) (hu : u = fx + i) (hv : v = fy + j) (hi : 0 ≤ i ∧ i < W) (hj : 0 ≤ j) (h1 : (0 ≤ x ∧ x < w) ∧ 0 ≤ y ∧ y < g) (h2 : (0 ≤ u ∧ u < w) ∧ 0 ≤ v ∧ v < g) : up2 (psL src lt w g fx fy tx ty W j i) x y (src u v) = psL src lt w g fx fy tx ty W j (i + 1) := by
  funext a b
  unfold up2 psL
  by_cases z : a = x ∧ b = y
  · rw [if_pos z, if_pos (by unfold psr; omega), show fx + (a - tx) = u by omega, show fy + (b - ty) = v by omega]
  · rw [if_neg z]
    by_cases y0 : psr w g fx fy tx ty W j i a b
    · rw [if_pos y0, if_pos (by unfold psr at *; omega)]
    · rw [if_neg y0, if_neg (by unfold psr at *; omega)]
theorem psL_s {src lt : Int → Int → Int} {w g fx fy tx ty W j i x y u v : Int} (hx : x = tx + i) (hy : y = ty + j) (hu : u = fx + i) (hv : v = fy + j) (h : ¬ (((0 ≤ x ∧ x < w) ∧ 0 ≤ y ∧ y < g) ∧ (0 ≤ u ∧ u < w) ∧ 0 ≤ v ∧ v < g)) : psL src lt w g fx fy tx ty W j i = psL src lt w g fx fy tx ty W j (i + 1) := psL_c fun a b => by
  unfold psr
  omega
theorem psL_b {src lt : Int → Int → Int} {w g fx fy tx ty W j i : Int} (h1 : l99 src) (h2 : l99 lt) : l99 (psL src lt w g fx fy tx ty W j i) := fun a b => by
  unfold psL
  split
  · exact h1 _ _
  · exact h2 _ _
/-- put, whether within the picture or not -/
def ptU (f : Nat → Nat → Int) (w g : Int) (k : Nat) (x y v : Int) : Nat → Nat → Int := if (0 ≤ x ∧ x < w) ∧ 0 ≤ y ∧ y < g then ja_up f (k + 1) (y * w + x).toNat v else f
theorem kX3_putU {l : Launch} {d n k : Nat} {x y v w g : Int} {h : ja_H} {Q : ja_Q} (hp : jp w g n k h) (q : Q none (h.1, ptU h.2.1 w g k x y v, h.2.2)) : ja_C l (d + 1) mX3_put (js_sh n) [.inr (.inr (some k)), .inl x, .inl y, .inl v] h Q := by
  unfold ptU at q
  refine kX3_put hp (fun z => ?_) (fun z => ?_)
  · rw [if_pos z] at q; exact q
  · rw [if_neg z] at q; exact q
theorem ptU_f {f : Nat → Nat → Int} {w g x y v : Int} {k : Nat} {S : List Nat} {I : Nat → Nat → Int} (h : jfr S I f) (hk : k + 1 ∈ S) : jfr S I (ptU f w g k x y v) := by
  unfold ptU
  split
  · exact jfr_up h hk
  · exact h
theorem ptU_o {f : Nat → Nat → Int} {w g x y v : Int} {k c : Nat} (h : c ≠ k + 1) : ptU f w g k x y v c = f c := by
  unfold ptU
  split
  · funext j; exact ja_upO (Or.inl h)
  · rfl
theorem jpx_cp {h : ja_H} {w g : Int} {n k ko : Nat} {e : Nat → Nat → Int} (hp : jp w g n k h) : jpx (h.1, ja_cp h.2.1 (ko + 1) 0 (k + 1) 0 n, e) w g k = jpx h w g ko := by
  obtain ⟨_, _, _, _, _, hn, hw4, hw12, hg4, hg12⟩ := hp
  funext x y
  unfold jpx jp_lt
  by_cases z : (0 ≤ x ∧ x < w) ∧ 0 ≤ y ∧ y < g
  · rw [if_pos z, if_pos z]
    have ix := jp_ix ⟨hw4, hw12⟩ ⟨hg4, hg12⟩ z.1 z.2
    exact ja_cpE (by omega)
  · rw [if_neg z, if_neg z]
set_option maxRecDepth 10000 in
theorem kX1_paste {l : Launch} {d : Nat} {h : ja_H} {Q : ja_Q} {n P k a : Nat} {w g : Int} (hG : jG h.1) (hg : jPg n P h.1) (h3 : h.1 50 3 = some P) (h4 : h.1 50 4 = some k) (hp : jp w g n k h) (hk : k + 1 < 48) (hP : 66 ≤ P) (ha : a < 16) (hS : jS w g n 1 h) (h5 : h.1 50 5 = some 1) (hq : jp w g n 53 h) {pf fx fy pw ph tx ty : Int} (N0 : h.2.1 (P + 2) (7 * a + 0) = pf) (N1 : h.2.1 (P + 2) (7 * a + 1) = fx) (N2 : h.2.1 (P + 2) (7 * a + 2) = fy) (N3 : h.2.1 (P + 2) (7 * a + 3) = pw) (N4 : h.2.1 (P + 2) (7 * a + 4) = ph) (N5 : h.2.1 (P + 2) (7 * a + 5) = tx) (N6 : h.2.1 (P + 2) (7 * a + 6) = ty) (hr : (0 ≤ pf ∧ pf ≤ 4) ∧ (0 ≤ fx ∧ fx ≤ 99) ∧ (0 ≤ fy ∧ fy ≤ 99) ∧ (1 ≤ pw ∧ pw ≤ 99) ∧ (1 ≤ ph ∧ ph ≤ 99) ∧ (0 ≤ tx ∧ tx ≤ 99) ∧ (0 ≤ ty ∧ ty ≤ 99))
    (q : ∀ u, jfr [k + 1, 54] h.2.1 u → jpx (h.1, u, h.2.2) w g k = psL (jpx h w g (5 + 2 * pf.toNat)) (jpx h w g k) w g fx fy tx ty pw ph 0 → Q none (h.1, u, h.2.2)) : ja_C l (d + 4) mX1_paste (js_sh n) [.inr (.inr (some (50))), .inl ((a : Int))] h Q := by
  obtain ⟨x1, x2, x3, x4, x5, hnw, hw4, hw12, hg4, hg12⟩ := id hp
  obtain ⟨lt, hlt⟩ : ∃ lt, jpx h w g k = lt := ⟨_, rfl⟩
  obtain ⟨src, hsrc⟩ : ∃ src, jpx h w g (5 + 2 * pf.toNat) = src := ⟨_, rfl⟩
  rw [hlt, hsrc] at q
  have hoo : jp w g n (5 + 2 * pf.toNat) h := (hS.2.2 pf.toNat (by omega)).2
  have jsp : jS_p 1 pf = some (5 + 2 * pf.toNat) := by unfold jS_p; rw [if_pos (by omega)]
  obtain ⟨nx, hnx⟩ : ∃ nx, (min pw (w - fx)).toNat = nx := ⟨_, rfl⟩
  obtain ⟨ny, hny⟩ : ∃ ny, (min ph (g - fy)).toNat = ny := ⟨_, rfl⟩
  refine eX1_paste _ _ fun r_act ho => ?_
  unfold bX1_paste
  unfold ja_r at r_act
  refine jx_m (jr_g (jr_lr rfl) rfl (by exact jG_at (k := 50) (j := 0) (r := 53) hG rfl)) rfl (jA_r jA_0 (jr_is (jr_m1 (jr_g (jr_lr rfl) rfl h5) rfl (jv_is (x' := pf) (jy_mI (jr_g (jr_lr rfl) rfl h3) hg.1 (jA_i (jA_i jA_0 (jv_li rfl)) jv_ci) fun _ => kX4_numberOf (h := (h.1, h.2.1, h.2.2)) (a := a) (s := 0) hg (by omega) (by omega)) N0) fun _ => kX8_picture hS) jsp)) (kX3_become hq hoo ⟨rfl, ?_⟩)
  have sx1 : jpx (h.1, ja_cp h.2.1 (5 + 2 * pf.toNat + 1) 0 (53 + 1) 0 n, h.2.2) w g 53 = src := by rw [← hsrc]; exact jpx_cp hq
  obtain ⟨f1, hf1⟩ : ∃ f1, ja_cp h.2.1 (5 + 2 * pf.toNat + 1) 0 (53 + 1) 0 n = f1 := ⟨_, rfl⟩
  have c1 : ∀ c, c ≠ 54 → f1 c = h.2.1 c := fun c hc => by rw [← hf1]; exact ja_cpF hc
  have fr1 : jfr [k + 1, 54] h.2.1 f1 := by rw [← hf1]; exact jfr_cp (jfr_rf _ _) (by simp)
  rw [hf1] at sx1 ⊢
  have lx1 : jpx (h.1, f1, h.2.2) w g k = lt := by rw [← hlt]; exact jpx_w (c1 _ (by omega))
  have hq1 : jp w g n 53 (h.1, f1, h.2.2) := jp_w hq (c1 _ (by omega))
  refine jt_sI (x := fx) (jv_is (jy_mI (jr_g (jr_lr rfl) rfl h3) hg.1 (jA_i (jA_i jA_0 (jv_li rfl)) jv_ci) fun _ => kX4_numberOf (h := (h.1, f1, h.2.2)) (a := a) (s := 1) hg (by omega) (by omega)) (by exact (congrFun (c1 (P + 2) (by omega)) _).trans N1)) ?_
  refine jt_sI (x := fy) (jv_is (jy_mI (jr_g (jr_lr rfl) rfl h3) hg.1 (jA_i (jA_i jA_0 (jv_li rfl)) jv_ci) fun _ => kX4_numberOf (h := (h.1, f1, h.2.2)) (a := a) (s := 2) hg (by omega) (by omega)) (by exact (congrFun (c1 (P + 2) (by omega)) _).trans N2)) ?_
  refine jt_sI (x := min pw (w - fx)) (jv_is (jy_sI (jA_i (jA_i jA_0 (jv_is (x' := pw) (jy_mI (jr_g (jr_lr rfl) rfl h3) hg.1 (jA_i (jA_i jA_0 (jv_li rfl)) jv_ci) fun _ => kX4_numberOf (h := (h.1, f1, h.2.2)) (a := a) (s := 3) hg (by omega) (by omega)) (by exact (congrFun (c1 (P + 2) (by omega)) _).trans N3))) (jv_w (jv_sub (jv_gF (jr_g (jr_lr rfl) rfl (by exact jG_at (k := 50) (j := 0) (r := 53) hG rfl)) rfl hq1.2.2.2.1) (jv_li rfl)) (by unfold ja_r; omega))) fun _ => kJ9_min) (by rfl)) ?_
  refine jt_sI (x := min ph (g - fy)) (jv_is (jy_sI (jA_i (jA_i jA_0 (jv_is (x' := ph) (jy_mI (jr_g (jr_lr rfl) rfl h3) hg.1 (jA_i (jA_i jA_0 (jv_li rfl)) jv_ci) fun _ => kX4_numberOf (h := (h.1, f1, h.2.2)) (a := a) (s := 4) hg (by omega) (by omega)) (by exact (congrFun (c1 (P + 2) (by omega)) _).trans N4))) (jv_w (jv_sub (jv_gF (jr_g (jr_lr rfl) rfl (by exact jG_at (k := 50) (j := 0) (r := 53) hG rfl)) rfl hq1.2.2.2.2.1) (jv_li rfl)) (by unfold ja_r; omega))) fun _ => kJ9_min) (by rfl)) ?_
  refine jt_sI (x := tx) (jv_is (jy_mI (jr_g (jr_lr rfl) rfl h3) hg.1 (jA_i (jA_i jA_0 (jv_li rfl)) jv_ci) fun _ => kX4_numberOf (h := (h.1, f1, h.2.2)) (a := a) (s := 5) hg (by omega) (by omega)) (by exact (congrFun (c1 (P + 2) (by omega)) _).trans N5)) ?_
  refine jt_sI (x := ty) (jv_is (jy_mI (jr_g (jr_lr rfl) rfl h3) hg.1 (jA_i (jA_i jA_0 (jv_li rfl)) jv_ci) fun _ => kX4_numberOf (h := (h.1, f1, h.2.2)) (a := a) (s := 6) hg (by omega) (by omega)) (by exact (congrFun (c1 (P + 2) (by omega)) _).trans N6)) ?_
  refine jt_sI jv_ci ?_
  refine jb_forc (ny) (fun (j : Nat) L' h' => ∃ (v_dy : Int) (o9_9 : Option ja_W) (u : Nat → Nat → Int), L' = [some (.inr (.inr (some (50)))), some (.inl ((a : Int))), some (.inl (fx)), some (.inl (fy)), some (.inl (min pw (w - fx))), some (.inl (min ph (g - fy))), some (.inl (tx)), some (.inl (ty)), some (.inl (v_dy)), o9_9] ∧ v_dy = (j : Int) ∧ (h.1, u, h.2.2) = h' ∧ (jfr [k + 1, 54] h.2.1 u) ∧ (u 54 = f1 54) ∧ (jpx (h.1, u, h.2.2) w g k = psL src lt w g fx fy tx ty (min pw (w - fx)) (j : Int) 0)) ⟨_, _, _, rfl, (by first | rfl | omega | (simp; done) | (simp; omega)), rfl, (by exact fr1), (by rfl), (by exact lx1.trans psL_0.symm)⟩ ?_ ?_ ?_
  · rintro j h_j _ _ ⟨v_dy0, o9_9, u, rfl, rfl, rfl, fr, u54, ul⟩
    exact jd_eq (jd_lt (jv_li rfl) (jv_li rfl)) (by omega)
  · rintro j h_j _ _ ⟨v_dy0, o9_9, u, rfl, rfl, rfl, fr, u54, ul⟩
    refine jt_sI jv_ci ?_
    refine jb_forc (nx) (fun (i : Nat) L' h' => ∃ (v_dx : Int) (u2 : Nat → Nat → Int), L' = [some (.inr (.inr (some (50)))), some (.inl ((a : Int))), some (.inl (fx)), some (.inl (fy)), some (.inl (min pw (w - fx))), some (.inl (min ph (g - fy))), some (.inl (tx)), some (.inl (ty)), some (.inl ((j : Int))), some (.inl (v_dx))] ∧ v_dx = (i : Int) ∧ (h.1, u2, h.2.2) = h' ∧ (jfr [k + 1, 54] h.2.1 u2) ∧ (u2 54 = f1 54) ∧ (jpx (h.1, u2, h.2.2) w g k = psL src lt w g fx fy tx ty (min pw (w - fx)) (j : Int) (i : Int))) ⟨_, _, rfl, (by first | rfl | omega | (simp; done) | (simp; omega)), rfl, (by exact fr), (by exact u54), (by exact ul)⟩ ?_ ?_ ?_
    · rintro i h_i _ _ ⟨v_dx0, u2, rfl, rfl, rfl, fr2, u254, ul2⟩
      exact jd_eq (jd_lt (jv_li rfl) (jv_li rfl)) (by omega)
    · rintro i h_i _ _ ⟨v_dx0, u2, rfl, rfl, rfl, fr2, u254, ul2⟩
      have hp2 : jp w g n k (h.1, u2, h.2.2) := jp_w hp (fr2 k (by simp; omega))
      have hq2 : jp w g n 53 (h.1, u2, h.2.2) := jp_w hq (fr2 53 (by simp; omega))
      have sx2 : jpx (h.1, u2, h.2.2) w g 53 = src := by rw [← sx1]; exact jpx_w (h := (h.1, f1, h.2.2)) u254
      refine jx_m (jr_g (jr_lr rfl) rfl h4) hp.1 (jA_i (jA_i (jA_i jA_0 (jv_w (jv_add (jv_li rfl) (jv_li rfl)) (by unfold ja_r; omega))) (jv_w (jv_add (jv_li rfl) (jv_li rfl)) (by unfold ja_r; omega))) (jv_is (x' := src (fx + (i : Int)) (fy + (j : Int))) (jy_mI (jr_g (jr_lr rfl) rfl (by exact jG_at (k := 50) (j := 0) (r := 53) hG rfl)) rfl (jA_i (jA_i jA_0 (jv_w (jv_add (jv_li rfl) (jv_li rfl)) (by unfold ja_r; omega))) (jv_w (jv_add (jv_li rfl) (jv_li rfl)) (by unfold ja_r; omega))) fun _ => kX3_getX hq2) (by rw [sx2]))) (kX3_putU (h := (h.1, u2, h.2.2)) hp2 ⟨rfl, ?_⟩)
      exact jt_inc rfl (by first | (unfold ja_r; omega) | (unfold ja_rl; omega) | omega | assumption) ⟨_, _, rfl, (by first | rfl | omega | (simp; done) | (simp; omega)), rfl, (by exact ptU_f fr2 (by simp)), (by exact (ptU_o (by omega)).trans u254), (by 
            unfold ptU
            by_cases z0 : (0 ≤ tx + (i : Int) ∧ tx + (i : Int) < w) ∧ 0 ≤ ty + (j : Int) ∧ ty + (j : Int) < g
            · rw [if_pos z0, jpx_put (by omega) z0.1 z0.2, ul2]; exact psL_p rfl rfl rfl rfl (by omega) (by omega) z0 (by omega)
            · rw [if_neg z0, ul2]; exact psL_s rfl rfl rfl rfl (fun y => z0 y.1))⟩
    · rintro _ _ ⟨v_dx0, u2, rfl, rfl, rfl, fr2, u254, ul2⟩
      exact jt_inc rfl (by first | (unfold ja_r; omega) | (unfold ja_rl; omega) | omega | assumption) ⟨_, _, _, rfl, (by first | rfl | omega | (simp; done) | (simp; omega)), rfl, (by exact fr2), (by exact u254), (by rw [ul2]; exact psL_c fun a b => by unfold psr; omega)⟩
  · rintro _ _ ⟨v_dy0, o9_9, u, rfl, rfl, rfl, fr, u54, ul⟩
    have ulf : jpx (h.1, u, h.2.2) w g k = psL src lt w g fx fy tx ty pw ph 0 := by rw [ul]; exact psL_c fun a b => by unfold psr; omega
    exact q u fr ulf
