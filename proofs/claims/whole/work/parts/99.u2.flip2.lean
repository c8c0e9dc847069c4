set_option maxRecDepth 10000 in
theorem kX12_flip {l : Launch} {d : Nat} {h : ja_H} {Q : ja_Q} {n tx a : Nat} {w g p : Int} (hG : jG h.1) (hm : jm w g h) (hp : 0 ≤ p ∧ p ≤ 4) (htx : tx < 6) (ha : a < 16) {x0 y0 wd ht : Int} (N1 : h.2.1 93 (1000 * tx + 1 + 12 * a + 1) = x0) (N2 : h.2.1 93 (1000 * tx + 1 + 12 * a + 2) = y0) (N3 : h.2.1 93 (1000 * tx + 1 + 12 * a + 3) = wd) (N4 : h.2.1 93 (1000 * tx + 1 + 12 * a + 4) = ht) (hr : (0 ≤ x0 ∧ x0 ≤ 99) ∧ (0 ≤ y0 ∧ y0 ≤ 99) ∧ (1 ≤ wd ∧ wd ≤ 99) ∧ (1 ≤ ht ∧ ht ≤ 99))
    (q : ∀ u, jfr [91] h.2.1 u → pcF p h.2.1 u → jmx (h.1, u, h.2.2) w g p = fpL (jmx h w g p) x0 (min (x0 + wd) w) y0 (max y0 (min (y0 + ht) g)) → Q none (h.1, u, h.2.2)) : ja_C l (d + 3) mX12_flip (js_sh n) [.inr (.inr (some (90))), .inl (((1000 * tx + 1 + 12 * a : Nat) : Int)), .inl (p)] h Q := by
  obtain ⟨hw4, hw12, hg4, hg12⟩ := hm.2.2.2
  obtain ⟨lt, hlt⟩ : ∃ lt, jmx h w g p = lt := ⟨_, rfl⟩
  rw [hlt] at q
  obtain ⟨x1, hx1⟩ : ∃ x1, min (x0 + wd) w = x1 := ⟨_, rfl⟩
  obtain ⟨y1, hy1⟩ : ∃ y1, min (y0 + ht) g = y1 := ⟨_, rfl⟩
  rw [hx1, hy1] at q
  obtain ⟨ny, hny⟩ : ∃ ny : Nat, max y0 y1 - y0 = (ny : Int) := ⟨(max y0 y1 - y0).toNat, by omega⟩
  obtain ⟨nx, hnx⟩ : ∃ nx : Nat, ((x1 - x0) / 2).toNat = nx := ⟨_, rfl⟩
  have hnx2 : (0 ≤ (nx : Int) ∧ 2 * (nx : Int) ≤ x1 - x0 ∧ x1 - x0 ≤ 2 * (nx : Int) + 1) ∨ ((nx : Int) = 0 ∧ x1 ≤ x0) := by omega
  unfold fpL at q
  rw [hny] at q
  have wde : h.2.1 90 0 = w := hm.2.1
  have hie : h.2.1 90 1 = g := hm.2.2.1
  have t1 : h.2.1 93 (((1000 * tx + 1 + 12 * a : Nat) : Int) + 1).toNat = x0 := by rw [show (((1000 * tx + 1 + 12 * a : Nat) : Int) + 1).toNat = 1000 * tx + 1 + 12 * a + 1 by omega]; exact N1
  have t2 : h.2.1 93 (((1000 * tx + 1 + 12 * a : Nat) : Int) + 2).toNat = y0 := by rw [show (((1000 * tx + 1 + 12 * a : Nat) : Int) + 2).toNat = 1000 * tx + 1 + 12 * a + 2 by omega]; exact N2
  have t3 : h.2.1 93 (((1000 * tx + 1 + 12 * a : Nat) : Int) + 3).toNat = wd := by rw [show (((1000 * tx + 1 + 12 * a : Nat) : Int) + 3).toNat = 1000 * tx + 1 + 12 * a + 3 by omega]; exact N3
  have t4 : h.2.1 93 (((1000 * tx + 1 + 12 * a : Nat) : Int) + 4).toNat = ht := by rw [show (((1000 * tx + 1 + 12 * a : Nat) : Int) + 4).toNat = 1000 * tx + 1 + 12 * a + 4 by omega]; exact N4
  refine eX12_flip _ _ _ fun r_act r_p ho => ?_
  unfold bX12_flip
  unfold ja_r at r_act r_p
  refine jt_sI (x := x0) (jv_is (jv_fI (jr_g (jr_lr rfl) rfl (by exact jG_90 (j := 4) (r := 93) hG rfl)) (jv_w (jv_add (jv_li rfl) jv_ci) (by unfold ja_r; omega)) rfl (by omega) (by omega) t1) (by rfl)) ?_
  refine jt_sI (x := y0) (jv_is (jv_fI (jr_g (jr_lr rfl) rfl (by exact jG_90 (j := 4) (r := 93) hG rfl)) (jv_w (jv_add (jv_li rfl) jv_ci) (by unfold ja_r; omega)) rfl (by omega) (by omega) t2) (by rfl)) ?_
  refine jt_sI (x := x1) (jv_is (jv_cv (jd_gt (jv_w (jv_add (jv_li rfl) (jv_fI (jr_g (jr_lr rfl) rfl (by exact jG_90 (j := 4) (r := 93) hG rfl)) (jv_w (jv_add (jv_li rfl) jv_ci) (by unfold ja_r; omega)) rfl (by omega) (by omega) t3)) (by unfold ja_r; omega)) (jv_gF (jr_lr rfl) rfl wde)) (fun _ => jv_gF (jr_lr rfl) rfl wde) (fun _ => jv_w (jv_add (jv_li rfl) (jv_fI (jr_g (jr_lr rfl) rfl (by exact jG_90 (j := 4) (r := 93) hG rfl)) (jv_w (jv_add (jv_li rfl) jv_ci) (by unfold ja_r; omega)) rfl (by omega) (by omega) t3)) (by unfold ja_r; omega))) (by split <;> omega)) ?_
  refine jt_sI (x := y1) (jv_is (jv_cv (jd_gt (jv_w (jv_add (jv_li rfl) (jv_fI (jr_g (jr_lr rfl) rfl (by exact jG_90 (j := 4) (r := 93) hG rfl)) (jv_w (jv_add (jv_li rfl) jv_ci) (by unfold ja_r; omega)) rfl (by omega) (by omega) t4)) (by unfold ja_r; omega)) (jv_gF (jr_lr rfl) rfl hie)) (fun _ => jv_gF (jr_lr rfl) rfl hie) (fun _ => jv_w (jv_add (jv_li rfl) (jv_fI (jr_g (jr_lr rfl) rfl (by exact jG_90 (j := 4) (r := 93) hG rfl)) (jv_w (jv_add (jv_li rfl) jv_ci) (by unfold ja_r; omega)) rfl (by omega) (by omega) t4)) (by unfold ja_r; omega))) (by split <;> omega)) ?_
  refine jt_sI (jv_li rfl) ?_
  refine jb_forc (ny) (fun (j : Nat) L' h' => ∃ (v_j : Int) (o6_8 : Option ja_W) (o6_9 : Option ja_W) (o6_10 : Option ja_W) (u : Nat → Nat → Int), L' = [some (.inr (.inr (some (90)))), some (.inl (((1000 * tx + 1 + 12 * a : Nat) : Int))), some (.inl (p)), some (.inl (x0)), some (.inl (y0)), some (.inl (x1)), some (.inl (y1)), some (.inl (v_j)), o6_8, o6_9, o6_10] ∧ v_j = y0 + (j : Int) ∧ (h.1, u, h.2.2) = h' ∧ (jfr [91] h.2.1 u) ∧ (pcF p h.2.1 u) ∧ (jmx (h.1, u, h.2.2) w g p = rgL (fpS x0 x1 y0 (j : Int) 0) (fpV lt x0 x1) lt)) ⟨_, _, _, _, _, rfl, (by first | rfl | omega | (simp; done) | (simp; omega)), rfl, (by exact jfr_rf _ _), (by exact pcF_rf rfl), (by exact hlt.trans fp_0.symm)⟩ ?_ ?_ ?_
  · rintro j h_j _ _ ⟨v_j0, o6_8, o6_9, o6_10, u, rfl, rfl, rfl, fr, pf, ul⟩
    exact jd_eq (jd_lt (jv_li rfl) (jv_li rfl)) (by omega)
  · rintro j h_j _ _ ⟨v_j0, o6_8, o6_9, o6_10, u, rfl, rfl, rfl, fr, pf, ul⟩
    refine jt_sI (x := x0) (jv_is (jv_li rfl) (by rfl)) ?_
    refine jt_sI (x := x1 - 1) (jv_is (jv_w (jv_sub (jv_li rfl) jv_ci) (by unfold ja_r; omega)) (by rfl)) ?_
    refine jb_whl (fun (m : Nat) L' h' => ∃ (v_i : Int) (v_k : Int) (o9_10 : Option ja_W) (u2 : Nat → Nat → Int), L' = [some (.inr (.inr (some (90)))), some (.inl (((1000 * tx + 1 + 12 * a : Nat) : Int))), some (.inl (p)), some (.inl (x0)), some (.inl (y0)), some (.inl (x1)), some (.inl (y1)), some (.inl (y0 + (j : Int))), some (.inl (v_i)), some (.inl (v_k)), o9_10] ∧ v_i = (x0 + ((nx : Int) - (m : Int))) ∧ v_k = (x1 - 1 - ((nx : Int) - (m : Int))) ∧ (h.1, u2, h.2.2) = h' ∧ (m ≤ nx) ∧ (jfr [91] h.2.1 u2) ∧ (pcF p h.2.1 u2) ∧ (jmx (h.1, u2, h.2.2) w g p = rgL (fpS x0 x1 y0 (j : Int) ((nx : Int) - (m : Int))) (fpV lt x0 x1) lt)) ⟨nx, ⟨_, _, _, _, rfl, (by omega), (by omega), rfl, (by omega), (by exact fr), (by exact pf), (by rw [show (nx : Int) - (nx : Int) = 0 by omega]; exact ul)⟩⟩ ?_
    rintro m _ _ ⟨v_i0, v_k0, o9_10, u2, rfl, rfl, rfl, rfl, hmn, fr2, pf2, ul2⟩
    refine (jd_eq (φ' := 0 < m) (jd_lt (jv_li rfl) (jv_li rfl)) (by omega)) _ _ (fun c => ?_) (fun c => ?_)
    · have hii : 0 ≤ ((nx : Int) - (m : Int)) ∧ x0 + ((nx : Int) - (m : Int)) < x1 - 1 - ((nx : Int) - (m : Int)) := by omega
      have hm2 : jm w g (h.1, u2, h.2.2) := jm_w hm (fr2 90 (by simp))
      have cv1 : jmx (h.1, u2, h.2.2) w g p (x0 + ((nx : Int) - (m : Int))) (y0 + (j : Int)) = lt (x0 + ((nx : Int) - (m : Int))) (y0 + (j : Int)) := by rw [ul2]; exact fp_n hii (Or.inl rfl) rfl
      have cv2 : jmx (h.1, u2, h.2.2) w g p (x1 - 1 - ((nx : Int) - (m : Int))) (y0 + (j : Int)) = lt (x1 - 1 - ((nx : Int) - (m : Int))) (y0 + (j : Int)) := by rw [ul2]; exact fp_n hii (Or.inr rfl) rfl
      refine jt_sI (x := lt (x0 + ((nx : Int) - (m : Int))) (y0 + (j : Int))) (jv_is (jy_mI (jr_lr rfl) rfl (jA_i (jA_i (jA_i jA_0 (jv_li rfl)) (jv_li rfl)) (jv_li rfl)) fun _ => kX12_lightM hm2 hp (by omega) (by omega)) (by exact cv1)) ?_
      refine jt_wI (jr_g (jr_lr rfl) rfl (by exact jG_90 (j := 2) (r := 91) hG rfl)) rfl (jy_sI (jA_i (jA_i (jA_i jA_0 (jv_li rfl)) (jv_li rfl)) (jv_li rfl)) fun _ => kX12_spot hp (by omega) (by omega)) (jv_is (x' := lt (x1 - 1 - ((nx : Int) - (m : Int))) (y0 + (j : Int))) (jy_mI (jr_lr rfl) rfl (jA_i (jA_i (jA_i jA_0 (jv_li rfl)) (jv_li rfl)) (jv_li rfl)) fun _ => kX12_lightM hm2 hp (by omega) (by omega)) cv2) (by omega) (by omega) ?_
      obtain ⟨u3, hu3⟩ : ∃ u3, ja_up u2 91 (10 + 144 * p + 12 * (y0 + (j : Int)) + (x0 + ((nx : Int) - (m : Int)))).toNat (lt (x1 - 1 - ((nx : Int) - (m : Int))) (y0 + (j : Int))) = u3 := ⟨_, rfl⟩
      have fr3 : jfr [91] h.2.1 u3 := by rw [← hu3]; exact jfr_up fr2 (by simp)
      have pf3 : pcF p h.2.1 u3 := by rw [← hu3]; exact pcF_up (w := w) (g := g) pf2 hp.1 (by omega) (by omega) (by omega) (by omega)
      have ul3 : jmx (h.1, u3, h.2.2) w g p = rgL (fqS x0 x1 y0 (j : Int) ((nx : Int) - (m : Int))) (fpV lt x0 x1) lt := by
        rw [← hu3, jmx_put hp (by omega) (by omega) (by omega) (by omega), ul2]
        exact fp_1 rfl rfl hii (by omega) rfl
      try dsimp only
      rw [hu3]
      refine jt_wI (jr_g (jr_lr rfl) rfl (by exact jG_90 (j := 2) (r := 91) hG rfl)) rfl (jy_sI (jA_i (jA_i (jA_i jA_0 (jv_li rfl)) (jv_li rfl)) (jv_li rfl)) fun _ => kX12_spot hp (by omega) (by omega)) (jv_li rfl) (by omega) (by omega) ?_
      refine jt_inc rfl (by first | (unfold ja_r; omega) | (unfold ja_rl; omega) | omega | assumption) ?_
      refine jt_inc rfl (by first | (unfold ja_r; omega) | (unfold ja_rl; omega) | omega | assumption) ?_
      exact ⟨m - 1, (by omega), _, _, _, _, rfl, (by omega), (by omega), rfl, (by omega), (by exact jfr_up fr3 (by simp)), (by exact pcF_up (w := w) (g := g) pf3 hp.1 (by omega) (by omega) (by omega) (by omega)), (by rw [jmx_put hp (by omega) (by omega) (by omega) (by omega), ul3, show (nx : Int) - ((m - 1 : Nat) : Int) = (nx : Int) - (m : Int) + 1 by omega]; exact fp_2 rfl rfl hii (by omega) rfl)⟩
    · exact jt_inc rfl (by first | (unfold ja_r; omega) | (unfold ja_rl; omega) | omega | assumption) ⟨_, _, _, _, _, rfl, (by first | rfl | omega | (simp; done) | (simp; omega)), rfl, (by exact fr2), (by exact pf2), (by rw [ul2, show (m : Nat) = 0 by omega]; rw [show (nx : Int) - ((0 : Nat) : Int) = (nx : Int) by omega]; exact fp_row (by omega) hnx2)⟩
  · rintro _ _ ⟨v_j0, o6_8, o6_9, o6_10, u, rfl, rfl, rfl, fr, pf, ul⟩
    rw [fp_e] at ul
    exact q u fr pf ul
