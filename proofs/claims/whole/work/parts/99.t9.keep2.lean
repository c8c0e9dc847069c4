set_option maxRecDepth 10000 in
theorem kX1_keep {l : Launch} {d : Nat} {h : ja_H} {Q : ja_Q} {n P k a : Nat} {w g : Int} (hG : jG h.1) (hg : jPg n P h.1) (h3 : h.1 50 3 = some P) (h4 : h.1 50 4 = some k) (hp : jp w g n k h) (hk : k + 1 < 48) (hP : 66 ≤ P) (ha : a < 16) (hl : l99 (jpx h w g k)) {m x y : Int} (N0 : h.2.1 (P + 2) (7 * a + 0) = m) (N1 : h.2.1 (P + 2) (7 * a + 1) = x) (N2 : h.2.1 (P + 2) (7 * a + 2) = y) (hr : (2 ≤ m ∧ m ≤ 50) ∧ (0 ≤ x ∧ x ≤ 99) ∧ (0 ≤ y ∧ y ≤ 99))
    (q : ∀ u, jfr [k + 1] h.2.1 u → jpx (h.1, u, h.2.2) w g k = kpL (jpx h w g k) m (x % 4) (y % 4) w g → Q none (h.1, u, h.2.2)) : ja_C l (d + 3) mX1_keep (js_sh n) [.inr (.inr (some (50))), .inl ((a : Int))] h Q := by
  obtain ⟨z1, z2, z3, x4, x5, hnw, hw4, hw12, hg4, hg12⟩ := id hp
  obtain ⟨lt, hlt⟩ : ∃ lt, jpx h w g k = lt := ⟨_, rfl⟩
  rw [hlt] at hl q
  obtain ⟨x0, hx0⟩ : ∃ x0, x % 4 = x0 := ⟨_, rfl⟩
  obtain ⟨y0, hy0⟩ : ∃ y0, y % 4 = y0 := ⟨_, rfl⟩
  rw [hx0, hy0] at q
  have bx : 0 ≤ x0 ∧ x0 < 4 := by omega
  have by0 : 0 ≤ y0 ∧ y0 < 4 := by omega
  obtain ⟨sx, hsx⟩ : ∃ sx, (w - x0) / 4 * 4 = sx := ⟨_, rfl⟩
  obtain ⟨sy, hsy⟩ : ∃ sy, (g - y0) / 4 * 4 = sy := ⟨_, rfl⟩
  have bsx : 0 ≤ sx ∧ x0 + sx ≤ w := by omega
  have bsy : 0 ≤ sy ∧ y0 + sy ≤ g := by omega
  unfold kpL at q
  rw [hsx, hsy] at q
  obtain ⟨V, hV⟩ : ∃ V : Int → Int → Int, (fun a b => nrm (lt a b) m) = V := ⟨_, rfl⟩
  rw [hV] at q
  refine eX1_keep _ _ fun r_act ho => ?_
  unfold bX1_keep
  unfold ja_r at r_act
  refine jt_sI (x := m) (jv_is (jy_mI (jr_g (jr_lr rfl) rfl h3) hg.1 (jA_i (jA_i jA_0 (jv_li rfl)) jv_ci) fun _ => kX4_numberOf (a := a) (s := 0) hg (by omega) (by omega)) (by exact N0)) ?_
  refine jt_sI (x := x0) (jv_is (jy_sI (jA_i (jA_i jA_0 (jv_is (x' := x) (jy_mI (jr_g (jr_lr rfl) rfl h3) hg.1 (jA_i (jA_i jA_0 (jv_li rfl)) jv_ci) fun _ => kX4_numberOf (a := a) (s := 1) hg (by omega) (by omega)) (by exact N1))) jv_ci) fun _ => kJ9_floorMod (by decide)) (by exact hx0)) ?_
  refine jt_sI (x := y0) (jv_is (jy_sI (jA_i (jA_i jA_0 (jv_is (x' := y) (jy_mI (jr_g (jr_lr rfl) rfl h3) hg.1 (jA_i (jA_i jA_0 (jv_li rfl)) jv_ci) fun _ => kX4_numberOf (a := a) (s := 2) hg (by omega) (by omega)) (by exact N2))) jv_ci) fun _ => kJ9_floorMod (by decide)) (by exact hy0)) ?_
  refine jt_sI (x := x0 + sx) (jv_is (jv_w (jv_add (jv_li rfl) (jv_w (jv_mul (jy_sI (jA_i (jA_i jA_0 (jv_w (jv_sub (jv_gF (jr_g (jr_lr rfl) rfl h4) hp.1 x4) (jv_li rfl)) (by unfold ja_r; omega))) jv_ci) fun _ => kJ9_floorDiv (by decide)) jv_ci) (by unfold ja_r; omega))) (by unfold ja_r; omega)) (by rw [hsx])) ?_
  refine jt_sI (x := y0 + sy) (jv_is (jv_w (jv_add (jv_li rfl) (jv_w (jv_mul (jy_sI (jA_i (jA_i jA_0 (jv_w (jv_sub (jv_gF (jr_g (jr_lr rfl) rfl h4) hp.1 x5) (jv_li rfl)) (by unfold ja_r; omega))) jv_ci) fun _ => kJ9_floorDiv (by decide)) jv_ci) (by unfold ja_r; omega))) (by unfold ja_r; omega)) (by rw [hsy])) ?_
  refine jt_sI (jv_li rfl) ?_
  refine jb_forc (sy.toNat) (fun (j : Nat) L' h' => ∃ (v_y : Int) (o7_8 : Option ja_W) (u : Nat → Nat → Int), L' = [some (.inr (.inr (some (50)))), some (.inl ((a : Int))), some (.inl (m)), some (.inl (x0)), some (.inl (y0)), some (.inl (x0 + sx)), some (.inl (y0 + sy)), some (.inl (v_y)), o7_8] ∧ v_y = y0 + (j : Int) ∧ (h.1, u, h.2.2) = h' ∧ (jfr [k + 1] h.2.1 u) ∧ (jpx (h.1, u, h.2.2) w g k = rgL (rwS x0 (x0 + sx) y0 (j : Int) 0) V lt)) ⟨_, _, _, rfl, (by first | rfl | omega | (simp; done) | (simp; omega)), rfl, (by exact jfr_rf _ _), (by rw [rgL_0 (fun a b => by unfold rwS; simp only [decide_eq_true_eq]; omega)]; exact hlt)⟩ ?_ ?_ ?_
  · rintro j h_j _ _ ⟨v_y0, o7_8, u, rfl, rfl, rfl, fr, ul⟩
    exact jd_eq (jd_lt (jv_li rfl) (jv_li rfl)) (by omega)
  · rintro j h_j _ _ ⟨v_y0, o7_8, u, rfl, rfl, rfl, fr, ul⟩
    refine jt_sI (jv_li rfl) ?_
    refine jb_forc (sx.toNat) (fun (i : Nat) L' h' => ∃ (v_x : Int) (u2 : Nat → Nat → Int), L' = [some (.inr (.inr (some (50)))), some (.inl ((a : Int))), some (.inl (m)), some (.inl (x0)), some (.inl (y0)), some (.inl (x0 + sx)), some (.inl (y0 + sy)), some (.inl (y0 + (j : Int))), some (.inl (v_x))] ∧ v_x = x0 + (i : Int) ∧ (h.1, u2, h.2.2) = h' ∧ (jfr [k + 1] h.2.1 u2) ∧ (jpx (h.1, u2, h.2.2) w g k = rgL (rwS x0 (x0 + sx) y0 (j : Int) (i : Int)) V lt)) ⟨_, _, rfl, (by first | rfl | omega | (simp; done) | (simp; omega)), rfl, (by exact fr), (by exact ul)⟩ ?_ ?_ ?_
    · rintro i h_i _ _ ⟨v_x0, u2, rfl, rfl, rfl, fr2, ul2⟩
      exact jd_eq (jd_lt (jv_li rfl) (jv_li rfl)) (by omega)
    · rintro i h_i _ _ ⟨v_x0, u2, rfl, rfl, rfl, fr2, ul2⟩
      have hp2 : jp w g n k (h.1, u2, h.2.2) := jp_w hp (fr2 k (by simp))
      have cv : jpx (h.1, u2, h.2.2) w g k (x0 + (i : Int)) (y0 + (j : Int)) = lt (x0 + (i : Int)) (y0 + (j : Int)) := by rw [ul2]; exact rgL_n (by unfold rwS; simp only [decide_eq_true_eq]; omega)
      have lb := hl (x0 + (i : Int)) (y0 + (j : Int))
      refine jx_m (jr_g (jr_lr rfl) rfl h4) hp.1 (jA_i (jA_i (jA_i jA_0 (jv_li rfl)) (jv_li rfl)) (jy_sI (jA_i (jA_i jA_0 (jv_is (x' := lt (x0 + (i : Int)) (y0 + (j : Int))) (jy_mI (jr_g (jr_lr rfl) rfl h4) hp.1 (jA_i (jA_i jA_0 (jv_li rfl)) (jv_li rfl)) fun _ => kX3_getX hp2) cv)) (jv_li rfl)) fun _ => kX1_nearestMultiple lb hr.1)) (kX3_put (h := (h.1, u2, h.2.2)) hp2 (fun _ => ⟨rfl, ?_⟩) (fun y => absurd (by omega) y))
      exact jt_inc rfl (by first | (unfold ja_r; omega) | (unfold ja_rl; omega) | omega | assumption) ⟨_, _, rfl, (by first | rfl | omega | (simp; done) | (simp; omega)), rfl, (by exact jfr_up fr2 (by simp)), (by rw [jpx_put (by omega) (by omega) (by omega), ul2]; exact rgL_p (fun a b => by unfold rwS; simp only [decide_eq_true_eq]; omega) (by rw [← hV]))⟩
    · rintro _ _ ⟨v_x0, u2, rfl, rfl, rfl, fr2, ul2⟩
      exact jt_inc rfl (by first | (unfold ja_r; omega) | (unfold ja_rl; omega) | omega | assumption) ⟨_, _, _, rfl, (by first | rfl | omega | (simp; done) | (simp; omega)), rfl, (by exact fr2), (by rw [ul2]; exact rgL_c fun a b => by unfold rwS; simp only [decide_eq_true_eq]; omega)⟩
  · rintro _ _ ⟨v_y0, o7_8, u, rfl, rfl, rfl, fr, ul⟩
    rw [show ((sy.toNat : Nat) : Int) = sy by omega] at ul
    exact q u fr ul
/-- blocks of four: J rows of blocks, I blocks of the next, c cells of the block behind them -/
def bkS (x0 x1 y0 J I c : Int) : Int → Int → Bool := fun a b => decide ((y0 ≤ b ∧ b < y0 + 4 * J ∧ x0 ≤ a ∧ a < x1) ∨ (y0 + 4 * J ≤ b ∧ b < y0 + 4 * J + 4 ∧ x0 ≤ a ∧ a < x0 + 4 * I) ∨ ((x0 + 4 * I ≤ a ∧ a < x0 + 4 * I + 4) ∧ (y0 + 4 * J ≤ b ∧ b < y0 + 4 * J + 4) ∧ 4 * (b - (y0 + 4 * J)) + (a - (x0 + 4 * I)) < c))
set_option maxRecDepth 10000 in
theorem kX12_keep {l : Launch} {d : Nat} {h : ja_H} {Q : ja_Q} {n tx a : Nat} {w g p : Int} (hG : jG h.1) (hm : jm w g h) (hp : 0 ≤ p ∧ p ≤ 4) (htx : tx < 6) (ha : a < 16) (hl : l99 (jmx h w g p)) {m x y : Int} (N1 : h.2.1 93 (1000 * tx + 1 + 12 * a + 1) = m) (N2 : h.2.1 93 (1000 * tx + 1 + 12 * a + 2) = x) (N3 : h.2.1 93 (1000 * tx + 1 + 12 * a + 3) = y) (hr : (2 ≤ m ∧ m ≤ 50) ∧ (0 ≤ x ∧ x ≤ 99) ∧ (0 ≤ y ∧ y ≤ 99))
    (q : ∀ u, jfr [91] h.2.1 u → pcF p h.2.1 u → jmx (h.1, u, h.2.2) w g p = kpL (jmx h w g p) m (x % 4) (y % 4) w g → Q none (h.1, u, h.2.2)) : ja_C l (d + 3) mX12_keep (js_sh n) [.inr (.inr (some (90))), .inl (((1000 * tx + 1 + 12 * a : Nat) : Int)), .inl (p)] h Q := by
  obtain ⟨hw4, hw12, hg4, hg12⟩ := hm.2.2.2
  obtain ⟨lt, hlt⟩ : ∃ lt, jmx h w g p = lt := ⟨_, rfl⟩
  rw [hlt] at hl q
  obtain ⟨x0, hx0⟩ : ∃ x0, x % 4 = x0 := ⟨_, rfl⟩
  obtain ⟨y0, hy0⟩ : ∃ y0, y % 4 = y0 := ⟨_, rfl⟩
  rw [hx0, hy0] at q
  have bx : 0 ≤ x0 ∧ x0 < 4 := by omega
  have by0 : 0 ≤ y0 ∧ y0 < 4 := by omega
  obtain ⟨bxn, hsx⟩ : ∃ bxn : Nat, (w - x0) / 4 = (bxn : Int) := ⟨((w - x0) / 4).toNat, by omega⟩
  obtain ⟨byn, hsy⟩ : ∃ byn : Nat, (g - y0) / 4 = (byn : Int) := ⟨((g - y0) / 4).toNat, by omega⟩
  unfold kpL at q
  rw [hsx, hsy] at q
  obtain ⟨V, hV⟩ : ∃ V : Int → Int → Int, (fun a b => nrm (lt a b) m) = V := ⟨_, rfl⟩
  rw [hV] at q
  have ex0 : x.tmod 4 = x0 := by rw [Int.tmod_eq_emod_of_nonneg (by omega)]; exact hx0
  have ey0 : y.tmod 4 = y0 := by rw [Int.tmod_eq_emod_of_nonneg (by omega)]; exact hy0
  have wd : h.2.1 90 0 = w := hm.2.1
  have hi : h.2.1 90 1 = g := hm.2.2.1
  have t1 : h.2.1 93 (((1000 * tx + 1 + 12 * a : Nat) : Int) + 1).toNat = m := by rw [show (((1000 * tx + 1 + 12 * a : Nat) : Int) + 1).toNat = 1000 * tx + 1 + 12 * a + 1 by omega]; exact N1
  have t2 : h.2.1 93 (((1000 * tx + 1 + 12 * a : Nat) : Int) + 2).toNat = x := by rw [show (((1000 * tx + 1 + 12 * a : Nat) : Int) + 2).toNat = 1000 * tx + 1 + 12 * a + 2 by omega]; exact N2
  have t3 : h.2.1 93 (((1000 * tx + 1 + 12 * a : Nat) : Int) + 3).toNat = y := by rw [show (((1000 * tx + 1 + 12 * a : Nat) : Int) + 3).toNat = 1000 * tx + 1 + 12 * a + 3 by omega]; exact N3
  refine eX12_keep _ _ _ fun r_act r_p ho => ?_
  unfold bX12_keep
  unfold ja_r at r_act r_p
  refine jt_sI (x := m) (jv_is (jv_fI (jr_g (jr_lr rfl) rfl (by exact jG_90 (j := 4) (r := 93) hG rfl)) (jv_w (jv_add (jv_li rfl) jv_ci) (by unfold ja_r; omega)) rfl (by omega) (by omega) t1) (by rfl)) ?_
  refine jt_sI (x := y0) (jv_is (jv_rem (jv_fI (jr_g (jr_lr rfl) rfl (by exact jG_90 (j := 4) (r := 93) hG rfl)) (jv_w (jv_add (jv_li rfl) jv_ci) (by unfold ja_r; omega)) rfl (by omega) (by omega) t3) jv_ci (by decide)) (by exact ey0)) ?_
  refine jb_forc (byn) (fun (J : Nat) L' h' => ∃ (v_y : Int) (o3_5 : Option ja_W) (o3_6 : Option ja_W) (u : Nat → Nat → Int), L' = [some (.inr (.inr (some (90)))), some (.inl (((1000 * tx + 1 + 12 * a : Nat) : Int))), some (.inl (p)), some (.inl (m)), some (.inl (v_y)), o3_5, o3_6] ∧ v_y = y0 + 4 * (J : Int) ∧ (h.1, u, h.2.2) = h' ∧ (jfr [91] h.2.1 u) ∧ (pcF p h.2.1 u) ∧ (jmx (h.1, u, h.2.2) w g p = rgL (bkS x0 (x0 + (bxn : Int) * 4) y0 (J : Int) 0 0) V lt)) ⟨_, _, _, _, rfl, (by first | rfl | omega | (simp; done) | (simp; omega)), rfl, (by exact jfr_rf _ _), (by exact pcF_rf rfl), (by rw [rgL_0 (fun a b => by unfold bkS; simp only [decide_eq_true_eq]; omega)]; exact hlt)⟩ ?_ ?_ ?_
  · rintro J h_J _ _ ⟨v_y0, o3_5, o3_6, u, rfl, rfl, rfl, fr, pf, ul⟩
    exact jd_eq (jd_le (jv_w (jv_add (jv_li rfl) jv_ci) (by unfold ja_r; omega)) (jv_gF (jr_lr rfl) rfl (by exact (congrFun (fr 90 (by simp)) 1).trans hi))) (by omega)
  · rintro J h_J _ _ ⟨v_y0, o3_5, o3_6, u, rfl, rfl, rfl, fr, pf, ul⟩
    have T2 := (congrFun (fr 93 (by simp)) _).trans t2
    refine jt_sI (x := x0) (jv_is (jv_rem (jv_fI (jr_g (jr_lr rfl) rfl (by exact jG_90 (j := 4) (r := 93) hG rfl)) (jv_w (jv_add (jv_li rfl) jv_ci) (by unfold ja_r; omega)) rfl (by omega) (by omega) T2) jv_ci (by decide)) (by exact ex0)) ?_
    refine jb_forc (bxn) (fun (I : Nat) L' h' => ∃ (v_x : Int) (o5_6 : Option ja_W) (u1 : Nat → Nat → Int), L' = [some (.inr (.inr (some (90)))), some (.inl (((1000 * tx + 1 + 12 * a : Nat) : Int))), some (.inl (p)), some (.inl (m)), some (.inl (y0 + 4 * (J : Int))), some (.inl (v_x)), o5_6] ∧ v_x = x0 + 4 * (I : Int) ∧ (h.1, u1, h.2.2) = h' ∧ (jfr [91] h.2.1 u1) ∧ (pcF p h.2.1 u1) ∧ (jmx (h.1, u1, h.2.2) w g p = rgL (bkS x0 (x0 + (bxn : Int) * 4) y0 (J : Int) (I : Int) 0) V lt)) ⟨_, _, _, rfl, (by first | rfl | omega | (simp; done) | (simp; omega)), rfl, (by exact fr), (by exact pf), (by exact ul)⟩ ?_ ?_ ?_
    · rintro I h_I _ _ ⟨v_x0, o5_6, u1, rfl, rfl, rfl, fr1, pf1, ul1⟩
      exact jd_eq (jd_le (jv_w (jv_add (jv_li rfl) jv_ci) (by unfold ja_r; omega)) (jv_gF (jr_lr rfl) rfl (by exact (congrFun (fr1 90 (by simp)) 0).trans wd))) (by omega)
    · rintro I h_I _ _ ⟨v_x0, o5_6, u1, rfl, rfl, rfl, fr1, pf1, ul1⟩
      refine jt_sI jv_ci ?_
      refine jb_forc (16) (fun (c : Nat) L' h' => ∃ (v_q : Int) (u2 : Nat → Nat → Int), L' = [some (.inr (.inr (some (90)))), some (.inl (((1000 * tx + 1 + 12 * a : Nat) : Int))), some (.inl (p)), some (.inl (m)), some (.inl (y0 + 4 * (J : Int))), some (.inl (x0 + 4 * (I : Int))), some (.inl (v_q))] ∧ v_q = (c : Int) ∧ (h.1, u2, h.2.2) = h' ∧ (jfr [91] h.2.1 u2) ∧ (pcF p h.2.1 u2) ∧ (jmx (h.1, u2, h.2.2) w g p = rgL (bkS x0 (x0 + (bxn : Int) * 4) y0 (J : Int) (I : Int) (c : Int)) V lt)) ⟨_, _, rfl, (by first | rfl | omega | (simp; done) | (simp; omega)), rfl, (by exact fr1), (by exact pf1), (by exact ul1)⟩ ?_ ?_ ?_
      · rintro c h_c _ _ ⟨v_q0, u2, rfl, rfl, rfl, fr2, pf2, ul2⟩
        exact jd_eq (jd_lt (jv_li rfl) jv_ci) (by omega)
      · rintro c h_c _ _ ⟨v_q0, u2, rfl, rfl, rfl, fr2, pf2, ul2⟩
        have hm2 : jm w g (h.1, u2, h.2.2) := jm_w hm (fr2 90 (by simp))
        have cm : (c : Int).tmod 4 = (c : Int) % 4 := Int.tmod_eq_emod_of_nonneg (by omega)
        have cd : (c : Int).tdiv 4 = (c : Int) / 4 := Int.tdiv_eq_ediv_of_nonneg (by omega)
        have cv : jmx (h.1, u2, h.2.2) w g p (x0 + 4 * (I : Int) + (c : Int) % 4) (y0 + 4 * (J : Int) + (c : Int) / 4) = lt (x0 + 4 * (I : Int) + (c : Int) % 4) (y0 + 4 * (J : Int) + (c : Int) / 4) := by rw [ul2]; exact rgL_n (by unfold bkS; simp only [decide_eq_true_eq]; omega)
        have lb := hl (x0 + 4 * (I : Int) + (c : Int) % 4) (y0 + 4 * (J : Int) + (c : Int) / 4)
        refine jt_wI (jr_g (jr_lr rfl) rfl (by exact jG_90 (j := 2) (r := 91) hG rfl)) rfl (jy_sI (jA_i (jA_i (jA_i jA_0 (jv_li rfl)) (jv_w (jv_add (jv_li rfl) (jv_is (x' := ((c : Int) % 4)) (jv_rem (jv_li rfl) jv_ci (by decide)) cm)) (by unfold ja_r; omega))) (jv_w (jv_add (jv_li rfl) (jv_is (x' := ((c : Int) / 4)) (jv_w (jv_div (jv_li rfl) jv_ci (by decide)) (by unfold ja_r; omega)) cd)) (by unfold ja_r; omega))) fun _ => kX12_spot hp (by omega) (by omega)) (jy_sI (jA_i (jA_i jA_0 (jv_is (x' := lt (x0 + 4 * (I : Int) + (c : Int) % 4) (y0 + 4 * (J : Int) + (c : Int) / 4)) (jy_mI (jr_lr rfl) rfl (jA_i (jA_i (jA_i jA_0 (jv_li rfl)) (jv_w (jv_add (jv_li rfl) (jv_is (x' := ((c : Int) % 4)) (jv_rem (jv_li rfl) jv_ci (by decide)) cm)) (by unfold ja_r; omega))) (jv_w (jv_add (jv_li rfl) (jv_is (x' := ((c : Int) / 4)) (jv_w (jv_div (jv_li rfl) jv_ci (by decide)) (by unfold ja_r; omega)) cd)) (by unfold ja_r; omega))) fun _ => kX12_lightM hm2 hp (by omega) (by omega)) cv)) (jv_li rfl)) fun _ => kX12_nearestOf lb hr.1) (by omega) (by omega) ?_
        exact jt_inc rfl (by first | (unfold ja_r; omega) | (unfold ja_rl; omega) | omega | assumption) ⟨_, _, rfl, (by first | rfl | omega | (simp; done) | (simp; omega)), rfl, (by exact jfr_up fr2 (by simp)), (by exact pcF_up (w := w) (g := g) pf2 hp.1 (by omega) (by omega) (by omega) (by omega)), (by rw [jmx_put hp (by omega) (by omega) (by omega) (by omega), ul2]; exact rgL_p (fun a b => by unfold bkS; simp only [decide_eq_true_eq]; omega) (by rw [← hV]))⟩
      · rintro _ _ ⟨v_q0, u2, rfl, rfl, rfl, fr2, pf2, ul2⟩
        exact jt_inc rfl (by first | (unfold ja_r; omega) | (unfold ja_rl; omega) | omega | assumption) ⟨_, _, _, rfl, (by first | rfl | omega | (simp; done) | (simp; omega)), rfl, (by exact fr2), (by exact pf2), (by rw [ul2]; exact rgL_c (fun a b => by unfold bkS; simp only [decide_eq_true_eq]; omega))⟩
    · rintro _ _ ⟨v_x0, o5_6, u1, rfl, rfl, rfl, fr1, pf1, ul1⟩
      exact jt_inc rfl (by first | (unfold ja_r; omega) | (unfold ja_rl; omega) | omega | assumption) ⟨_, _, _, _, rfl, (by first | rfl | omega | (simp; done) | (simp; omega)), rfl, (by exact fr1), (by exact pf1), (by rw [ul1]; exact rgL_c (fun a b => by unfold bkS; simp only [decide_eq_true_eq]; omega))⟩
  · rintro _ _ ⟨v_y0, o3_5, o3_6, u, rfl, rfl, rfl, fr, pf, ul⟩
    have ulf : jmx (h.1, u, h.2.2) w g p = rgL (rwS x0 (x0 + (bxn : Int) * 4) y0 ((byn : Int) * 4) 0) V lt := by rw [ul]; exact rgL_c fun a b => by unfold bkS rwS; simp only [decide_eq_true_eq]; omega
    exact q u fr pf ulf
