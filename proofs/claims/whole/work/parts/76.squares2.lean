theorem sqN_eq {x y e o i j : Int} : (if e ≠ 0 then (if y < j ∧ j % 4 = o then (1 : Int) else 0) else (if x < i ∧ i % 4 = o then 1 else 0)) = sqN x y e o i j := by
  rcases sqI_d x y e o i j with z | z
  · rw [sqN_t z]; unfold sqI at z; split at z
    · rename_i c; rw [if_pos c, if_pos z]
    · rename_i c; rw [if_neg c, if_pos z]
  · rw [sqN_f z]; unfold sqI at z; split at z
    · rename_i c; rw [if_pos c, if_neg z]
    · rename_i c; rw [if_neg c, if_neg z]
theorem sqB_T {S N : Nat → Int} {i : Nat} (c : 0 < N i ∧ (sqB S N i = -1 ∨ S (sqB S N i).toNat * N i < S i * N (sqB S N i).toNat)) : sqB S N (i + 1) = (i : Int) := by rw [sqB, if_pos c]
theorem sqB_F {S N : Nat → Int} {i : Nat} (c : ¬ (0 < N i ∧ (sqB S N i = -1 ∨ S (sqB S N i).toNat * N i < S i * N (sqB S N i).toNat))) : sqB S N (i + 1) = sqB S N i := by rw [sqB, if_neg c]
def sqC (p x y u v w g : Int) : Prop := (0 ≤ p ∧ p ≤ 4) ∧ (((0 ≤ x ∧ x < w) ∧ 0 ≤ y ∧ y < g) ∧ (1 ≤ u ∧ u ≤ w - x) ∧ 1 ≤ v ∧ v ≤ g - y) ∧ 4 ≤ u ∧ 4 ≤ v
set_option maxRecDepth 10000 in
theorem kX12_squares {l : Launch} {d : Nat} {h : ja_H} {Q : ja_Q} {n : Nat} {p x y u v e w g : Int} {lt : Int → Int → Int} (hG : jG h.1) (hW : jW w g n h.2.1) (hlt : 0 ≤ p ∧ p ≤ 4 → jmx h w g p = lt) (hb : ∀ x y, 0 ≤ lt x y ∧ lt x y ≤ 99) (q1 : sqC p x y u v w g → Q (some (.inl (sqF lt x y u v e))) h) (q2 : ¬ sqC p x y u v w g → Q (some (.inl (-1))) h) : ja_C l (d + 4) mX12_squares (js_sh n) [.inr (.inr (some (90))), .inl (p), .inl (x), .inl (y), .inl (u), .inl (v), .inl (e)] h Q := by
  have hm := jm_of hG hW
  have wr := jW_r hW
  refine eX12_squares _ _ _ _ _ _ _ fun r_picture r_x r_y r_w r_h r_inY ho => ?_
  unfold bX12_squares
  unfold ja_r at r_picture r_x r_y r_w r_h r_inY
  refine jb_if_d (φ := ¬ sqC p x y u v w g) (jd_eq (jd_or (jd_or (jd_or (jd_not (jd_b (jy_sI (jA_i jA_0 (jv_li rfl)) fun _ => kX12_isPicture))) (fun _ => (jd_not (jd_b (jy_mI (jr_lr rfl) rfl (jA_i (jA_i (jA_i (jA_i jA_0 (jv_li rfl)) (jv_li rfl)) (jv_li rfl)) (jv_li rfl)) fun _ => kX12_isField hm))))) (fun _ => (jd_lt (jv_li rfl) jv_ci))) (fun _ => (jd_lt (jv_li rfl) jv_ci))) (by unfold sqC; omega)) (fun c1 => ?_) (fun c1 => ?_)
  · refine jt_rI jv_ci ?_
    exact q2 c1
  · have z := Classical.not_not.mp c1
    obtain ⟨hp0, ⟨⟨hx, hy⟩, hu, hv⟩, hu4, hv4⟩ := id z
    have hlt := hlt hp0
    obtain ⟨S, hS⟩ : ∃ S : Nat → Int, (fun o : Nat => r2 (sqS lt x y e (o : Nat)) x y u.toNat v.toNat) = S := ⟨_, rfl⟩
    obtain ⟨N, hN⟩ : ∃ N : Nat → Int, (fun o : Nat => r2 (sqN x y e (o : Nat)) x y u.toNat v.toNat) = N := ⟨_, rfl⟩
    refine jt_sI jv_ci ?_
    refine jt_sI (x := (if sqB S N 0 = -1 then 0 else S (sqB S N 0).toNat)) (jv_is jv_ci (by rfl)) ?_
    refine jt_sI (x := (if sqB S N 0 = -1 then 1 else N (sqB S N 0).toNat)) (jv_is jv_ci (by rfl)) ?_
    refine jt_sI jv_ci ?_
    refine jb_forc (4) (fun (o : Nat) L' h' => ∃ (v_best : Int) (v_step : Int) (v_pairs : Int) (v_o : Int) (o7_11 : Option ja_W) (o7_12 : Option ja_W) (o7_13 : Option ja_W) (o7_14 : Option ja_W) (o7_15 : Option ja_W), L' = [some (.inr (.inr (some (90)))), some (.inl (p)), some (.inl (x)), some (.inl (y)), some (.inl (u)), some (.inl (v)), some (.inl (e)), some (.inl (v_best)), some (.inl (v_step)), some (.inl (v_pairs)), some (.inl (v_o)), o7_11, o7_12, o7_13, o7_14, o7_15] ∧ v_best = sqB S N o ∧ v_step = (if sqB S N o = -1 then 0 else S (sqB S N o).toNat) ∧ v_pairs = (if sqB S N o = -1 then 1 else N (sqB S N o).toNat) ∧ v_o = (o : Int) ∧ h = h') ⟨_, _, _, _, _, _, _, _, _, rfl, (by rfl), (by first | rfl | omega | (simp; done) | (simp; omega)), (by first | rfl | omega | (simp; done) | (simp; omega)), (by first | rfl | omega | (simp; done) | (simp; omega)), rfl⟩ ?_ ?_ ?_
    · rintro o h_o _ _ ⟨v_best0, v_step0, v_pairs0, v_o0, o7_11, o7_12, o7_13, o7_14, o7_15, rfl, rfl, rfl, rfl, rfl, rfl⟩
      exact jd_eq (jd_lt (jv_li rfl) jv_ci) (by omega)
    · rintro o h_o _ _ ⟨v_best0, v_step0, v_pairs0, v_o0, o7_11, o7_12, o7_13, o7_14, o7_15, rfl, rfl, rfl, rfl, rfl, rfl⟩
      have bS : ∀ o : Nat, 0 ≤ S o ∧ S o ≤ 14256 := fun o => by have := r2_b (by decide) (sqS_b hb x y e (o : Nat)) x y (u := u.toNat) (by omega) v.toNat; rw [← hS]; dsimp only; omega
      have bN : ∀ o : Nat, 0 ≤ N o ∧ N o ≤ 144 := fun o => by have := r2_b (by decide) (sqN_b x y e (o : Nat)) x y (u := u.toNat) (by omega) v.toNat; rw [← hN]; dsimp only; omega
      have eS : r2 (sqS lt x y e (o : Nat)) x y u.toNat v.toNat = S o := congrFun hS o
      have eN : r2 (sqN x y e (o : Nat)) x y u.toNat v.toNat = N o := congrFun hN o
      have bb := sqB_b S N o
      have bSo := bS o
      have bNo := bN o
      have bSb := bS (sqB S N o).toNat
      have bNb := bN (sqB S N o).toNat
      have m1 := jmb (a := S o) (b := (if sqB S N o = -1 then 1 else N (sqB S N o).toNat)) (A := 14256) (B := 144) (by omega) (by split <;> omega)
      have m2 := jmb (a := (if sqB S N o = -1 then 0 else S (sqB S N o).toNat)) (b := N o) (A := 14256) (B := 144) (by split <;> omega) (by omega)
      refine jt_sI jv_ci ?_
      refine jt_sI jv_ci ?_
      refine jt_sI (x := y + ((0 : Nat) : Int)) (jv_is (jv_li rfl) (by omega)) ?_
      refine jb_forc (v.toNat) (fun (m : Nat) L' h' => ∃ (v_sum : Int) (v_n : Int) (v_j : Int) (o11_14 : Option ja_W) (o11_15 : Option ja_W), L' = [some (.inr (.inr (some (90)))), some (.inl (p)), some (.inl (x)), some (.inl (y)), some (.inl (u)), some (.inl (v)), some (.inl (e)), some (.inl (sqB S N o)), some (.inl ((if sqB S N o = -1 then 0 else S (sqB S N o).toNat))), some (.inl ((if sqB S N o = -1 then 1 else N (sqB S N o).toNat))), some (.inl ((o : Int))), some (.inl (v_sum)), some (.inl (v_n)), some (.inl (v_j)), o11_14, o11_15] ∧ v_sum = r2 (sqS lt x y e (o : Nat)) x y u.toNat m ∧ v_n = r2 (sqN x y e (o : Nat)) x y u.toNat m ∧ v_j = y + ((m : Nat) : Int) ∧ h = h') ⟨_, _, _, _, _, rfl, (by rfl), (by rfl), (by first | rfl | omega | (simp; done) | (simp; omega)), rfl⟩ ?_ ?_ ?_
      · rintro m h_m _ _ ⟨v_sum0, v_n0, v_j0, o11_14, o11_15, rfl, rfl, rfl, rfl, rfl⟩
        exact jd_eq (jd_lt (jv_li rfl) (jv_w (jv_add (jv_li rfl) (jv_li rfl)) (by first | (unfold ja_r; omega) | (unfold ja_rl; omega) | omega | assumption))) (by omega)
      · rintro m h_m _ _ ⟨v_sum0, v_n0, v_j0, o11_14, o11_15, rfl, rfl, rfl, rfl, rfl⟩
        have bs1 := r2_b (by decide) (sqS_b hb x y e (o : Nat)) x y (u := u.toNat) (by omega) m
        have bn1 := r2_b (by decide) (sqN_b x y e (o : Nat)) x y (u := u.toNat) (by omega) m
        refine jt_sI (x := x + ((0 : Nat) : Int)) (jv_is (jv_li rfl) (by omega)) ?_
        refine jb_forc (u.toNat) (fun (k : Nat) L' h' => ∃ (v_sum : Int) (v_n : Int) (v_i : Int) (o13_15 : Option ja_W), L' = [some (.inr (.inr (some (90)))), some (.inl (p)), some (.inl (x)), some (.inl (y)), some (.inl (u)), some (.inl (v)), some (.inl (e)), some (.inl (sqB S N o)), some (.inl ((if sqB S N o = -1 then 0 else S (sqB S N o).toNat))), some (.inl ((if sqB S N o = -1 then 1 else N (sqB S N o).toNat))), some (.inl ((o : Int))), some (.inl (v_sum)), some (.inl (v_n)), some (.inl (y + ((m : Nat) : Int))), some (.inl (v_i)), o13_15] ∧ v_sum = r2 (sqS lt x y e (o : Nat)) x y u.toNat m + r1 (sqS lt x y e (o : Nat)) x (y + (m : Nat)) k ∧ v_n = r2 (sqN x y e (o : Nat)) x y u.toNat m + r1 (sqN x y e (o : Nat)) x (y + (m : Nat)) k ∧ v_i = x + ((k : Nat) : Int) ∧ h = h') ⟨_, _, _, _, rfl, (by simp [r1]), (by simp [r1]), (by first | rfl | omega | (simp; done) | (simp; omega)), rfl⟩ ?_ ?_ ?_
        · rintro k h_k _ _ ⟨v_sum0, v_n0, v_i0, o13_15, rfl, rfl, rfl, rfl, rfl⟩
          exact jd_eq (jd_lt (jv_li rfl) (jv_w (jv_add (jv_li rfl) (jv_li rfl)) (by first | (unfold ja_r; omega) | (unfold ja_rl; omega) | omega | assumption))) (by omega)
        · rintro k h_k _ _ ⟨v_sum0, v_n0, v_i0, o13_15, rfl, rfl, rfl, rfl, rfl⟩
          have bs2 := r1_b (sqS_b hb x y e (o : Nat)) x (y + (m : Nat)) k
          have bn2 := r1_b (sqN_b x y e (o : Nat)) x (y + (m : Nat)) k
          have lb := sqD_b hb e (x + (k : Nat)) (y + (m : Nat))
          refine jt_sI (x := sqN x y e (o : Nat) (x + (k : Nat)) (y + (m : Nat))) (jv_is (jv_cv (jd_bt (jv_li rfl)) (fun _ => (jv_cb (jd_and (jd_gt (jv_li rfl) (jv_li rfl)) (fun _ => (jd_eqI (jv_remP (jv_li rfl) jv_ci (by first | (unfold ja_r; omega) | (unfold ja_rl; omega) | omega | assumption) (by decide)) (jv_li rfl)))))) (fun _ => (jv_cb (jd_and (jd_gt (jv_li rfl) (jv_li rfl)) (fun _ => (jd_eqI (jv_remP (jv_li rfl) jv_ci (by first | (unfold ja_r; omega) | (unfold ja_rl; omega) | omega | assumption) (by decide)) (jv_li rfl))))))) (by exact sqN_eq)) ?_
          refine jb_if_d (jd_not (jd_bt (jv_li rfl))) (fun c2 => ?_) (fun c2 => ?_)
          · have zi : ¬ sqI x y e (o : Nat) (x + (k : Nat)) (y + (m : Nat)) := fun w => c2 (by rw [sqN_t w]; decide)
            exact jt_inc rfl (by first | (unfold ja_r; omega) | (unfold ja_rl; omega) | omega | assumption) ⟨_, _, _, _, rfl, (by simp only [r1]; first | (rw [sqS_f zi]; omega) | (rw [sqS_t zi]; omega)), (by simp only [r1]; first | (rw [sqN_f zi]; omega) | (rw [sqN_t zi]; omega)), (by first | rfl | omega | (simp; done) | (simp; omega)), rfl⟩
          · have zi : sqI x y e (o : Nat) (x + (k : Nat)) (y + (m : Nat)) := Classical.byContradiction fun w => c2 fun w2 => w2 (sqN_f w)
            refine jt_inc rfl (by first | (unfold ja_r; omega) | (unfold ja_rl; omega) | omega | assumption) ?_
            have l1 := hb (x + (k : Nat)) (y + (m : Nat))
            have l2 := hb (x + (k : Nat)) (y + (m : Nat) - 1)
            have l3 := hb (x + (k : Nat) - 1) (y + (m : Nat))
            have zi2 := zi
            unfold sqI at zi2
            refine jt_sI (x := r2 (sqS lt x y e (o : Nat)) x y u.toNat m + r1 (sqS lt x y e (o : Nat)) x (y + (m : Nat)) k + sqD lt e (x + (k : Nat)) (y + (m : Nat))) (jv_is (jv_w (jv_add (jv_li rfl) (jv_is (x' := sqD lt e (x + (k : Nat)) (y + (m : Nat))) (jy_sI (jA_i jA_0 (jv_w (jv_sub (jv_is (x' := lt (x + (k : Nat)) (y + (m : Nat))) (jy_mI (jr_lr rfl) rfl (jA_i (jA_i (jA_i jA_0 (jv_li rfl)) (jv_li rfl)) (jv_li rfl)) fun _ => kX12_lightX hG hW hp0 (by omega) (by omega)) (by rw [hlt])) (jv_is (x' := (if e ≠ 0 then lt (x + (k : Nat)) (y + (m : Nat) - 1) else lt (x + (k : Nat) - 1) (y + (m : Nat)))) (jv_cv (jd_bt (jv_li rfl)) (fun ce => (jy_mI (jr_lr rfl) rfl (jA_i (jA_i (jA_i jA_0 (jv_li rfl)) (jv_li rfl)) (jv_w (jv_sub (jv_li rfl) jv_ci) (by first | (unfold ja_r; omega) | (unfold ja_rl; omega) | omega | assumption))) fun _ => kX12_lightX hG hW hp0 (by omega) (by rw [if_pos ce] at zi2; omega))) (fun ce => (jy_mI (jr_lr rfl) rfl (jA_i (jA_i (jA_i jA_0 (jv_li rfl)) (jv_w (jv_sub (jv_li rfl) jv_ci) (by first | (unfold ja_r; omega) | (unfold ja_rl; omega) | omega | assumption))) (jv_li rfl)) fun _ => kX12_lightX hG hW hp0 (by rw [if_neg ce] at zi2; omega) (by omega)))) (by rw [hlt]))) (by split <;> (unfold ja_r; omega)))) fun _ => kX12_abs (by split <;> omega)) rfl)) (by first | (unfold ja_r; omega) | (unfold ja_rl; omega) | omega | assumption)) (by rfl)) ?_
            exact jt_inc rfl (by first | (unfold ja_r; omega) | (unfold ja_rl; omega) | omega | assumption) ⟨_, _, _, _, rfl, (by simp only [r1]; first | (rw [sqS_f zi]; omega) | (rw [sqS_t zi]; omega)), (by simp only [r1]; first | (rw [sqN_f zi]; omega) | (rw [sqN_t zi]; omega)), (by first | rfl | omega | (simp; done) | (simp; omega)), rfl⟩
        · rintro _ _ ⟨v_sum0, v_n0, v_i0, o13_15, rfl, rfl, rfl, rfl, rfl⟩
          exact jt_inc rfl (by first | (unfold ja_r; omega) | (unfold ja_rl; omega) | omega | assumption) ⟨_, _, _, _, _, rfl, (by rfl), (by rfl), (by first | rfl | omega | (simp; done) | (simp; omega)), rfl⟩
      · rintro _ _ ⟨v_sum0, v_n0, v_j0, o11_14, o11_15, rfl, rfl, rfl, rfl, rfl⟩
        rw [eS, eN]
        refine jb_if_d (jd_or (jd_eqI (jv_li rfl) jv_ci) (fun _ => (jd_and (jd_ge (jv_li rfl) jv_ci) (fun _ => (jd_le (jv_w (jv_mul (jv_li rfl) (jv_li rfl)) (by first | (unfold ja_r; omega) | (unfold ja_rl; omega) | omega | assumption)) (jv_w (jv_mul (jv_li rfl) (jv_li rfl)) (by first | (unfold ja_r; omega) | (unfold ja_rl; omega) | omega | assumption))))))) (fun c3 => ?_) (fun c3 => ?_)
        · have cz : ¬ (0 < N o ∧ (sqB S N o = -1 ∨ S (sqB S N o).toNat * N o < S o * N (sqB S N o).toNat)) := by
            rintro ⟨a1, a2⟩
            rcases c3 with c3 | ⟨c3, c4⟩
            · omega
            · rw [if_neg (by omega), if_neg (by omega)] at c4
              rcases a2 with a2 | a2
              · omega
              · omega
          exact jt_inc rfl (by first | (unfold ja_r; omega) | (unfold ja_rl; omega) | omega | assumption) ⟨_, _, _, _, _, _, _, _, _, rfl, (by first | rw [sqB_F cz] | rw [sqB_T cz]), (by first | rw [sqB_F cz] | (rw [sqB_T cz, if_neg (by omega)]; simp)), (by first | rw [sqB_F cz] | (rw [sqB_T cz, if_neg (by omega)]; simp)), (by first | rfl | omega | (simp; done) | (simp; omega)), rfl⟩
        · have cz : (0 < N o ∧ (sqB S N o = -1 ∨ S (sqB S N o).toNat * N o < S o * N (sqB S N o).toNat)) := by
            refine ⟨by omega, ?_⟩
            by_cases z2 : sqB S N o = -1
            · exact Or.inl z2
            · refine Or.inr (Int.not_le.mp fun w => c3 (Or.inr ⟨by omega, ?_⟩))
              rw [if_neg z2, if_neg z2]; exact w
          refine jt_sI (jv_li rfl) ?_
          refine jt_sI (jv_li rfl) ?_
          refine jt_sI (jv_li rfl) ?_
          exact jt_inc rfl (by first | (unfold ja_r; omega) | (unfold ja_rl; omega) | omega | assumption) ⟨_, _, _, _, _, _, _, _, _, rfl, (by first | rw [sqB_F cz] | rw [sqB_T cz]), (by first | rw [sqB_F cz] | (rw [sqB_T cz, if_neg (by omega)]; simp)), (by first | rw [sqB_F cz] | (rw [sqB_T cz, if_neg (by omega)]; simp)), (by first | rfl | omega | (simp; done) | (simp; omega)), rfl⟩
    · rintro _ _ ⟨v_best0, v_step0, v_pairs0, v_o0, o7_11, o7_12, o7_13, o7_14, o7_15, rfl, rfl, rfl, rfl, rfl, rfl⟩
      refine jt_rI (x := sqF lt x y u v e) (jv_is (jv_li rfl) (by unfold sqF; rw [hS, hN])) ?_
      exact q1 z
set_option maxRecDepth 10000 in
theorem kX11_squares {l : Launch} {d : Nat} {h : ja_H} {Q : ja_Q} {n : Nat} {p x y u v e w g : Int} {lt : Int → Int → Int} (hG : jG h.1) (hW : jW w g n h.2.1) (he : e = 0 ∨ e = 1) (hlt : 0 ≤ p ∧ p ≤ 4 → jpx h w g (5 + 2 * p.toNat) = lt) (hb : ∀ x y, 0 ≤ lt x y ∧ lt x y ≤ 99) (q1 : sqC p x y u v w g → ∀ f, jfr [42, 43] h.2.1 f → Q (some (.inl (sqF lt x y u v e))) (h.1, f, h.2.2)) (q2 : ¬ sqC p x y u v w g → Q (some (.inl (-1))) h) : ja_C l (d + 4) mX11_squares (js_sh n) [.inr (.inr (some (0))), .inl (p), .inl (x), .inl (y), .inl (u), .inl (v), .inl (e)] h Q := by
  have hs := jS1_of hG hW
  have wr := jW_r hW
  refine eX11_squares _ _ _ _ _ _ _ fun r_picture r_x r_y r_w r_h r_inY ho => ?_
  unfold bX11_squares
  unfold ja_r at r_picture r_x r_y r_w r_h r_inY
  refine jt_sR (jr_m1 (jr_g (jr_lr rfl) rfl (jG_at hG rfl)) rfl (jv_li rfl) fun _ => kX8_picture hs) ?_
  by_cases c : 0 ≤ p ∧ p ≤ 4
  case neg =>
    rw [jS_pn.mpr c]
    exact jb_if_p (jr_lr rfl _ (by rw [if_pos rfl]; exact jt_rI jv_ci (q2 fun w => c w.1)))
  have hp := jS_now hs c
  rw [jS_e c]
  refine jb_if_d (φ := ¬ sqC p x y u v w g) (jd_eq (jd_or (jd_or (jd_or (jd_isn (jr_lr rfl)) fun _ => (jd_lt (jv_li rfl) jv_ci)) fun _ => (jd_lt (jv_li rfl) jv_ci)) fun _ => jd_not (jd_b (jy_mI (jr_lr rfl) hp.1 (jA_i (jA_i (jA_i (jA_i jA_0 (jv_li rfl)) (jv_li rfl)) (jv_li rfl)) (jv_li rfl)) fun _ => kX3_hasField hp))) (by unfold sqC; simp; omega)) (fun z => ?_) (fun z => ?_)
  · exact jt_rI jv_ci (q2 z)
  have z := Classical.not_not.mp z
  obtain ⟨hp0, ⟨⟨hx, hy⟩, hu, hv⟩, hu4, hv4⟩ := id z
  have hlt := hlt hp0
  rcases he with rfl | rfl
  · refine jx_mI (jr_g (jr_lr rfl) rfl (jG_at hG rfl)) rfl (jA_i (jA_i (jA_i (jA_i (jA_i (jA_r jA_0 (jr_lr rfl)) (jv_li rfl)) (jv_li rfl)) (jv_li rfl)) (jv_li rfl)) (jv_li rfl)) (kX0_steepestOffset0 hG hp (by omega) hlt hb (by omega) (by omega) hu4 hv4 fun f fr => ⟨_, rfl, fun _ => q1 z f fr⟩)
  · refine jx_mI (jr_g (jr_lr rfl) rfl (jG_at hG rfl)) rfl (jA_i (jA_i (jA_i (jA_i (jA_i (jA_r jA_0 (jr_lr rfl)) (jv_li rfl)) (jv_li rfl)) (jv_li rfl)) (jv_li rfl)) (jv_li rfl)) (kX0_steepestOffset1 hG hp (by omega) hlt hb (by omega) (by omega) hu4 hv4 fun f fr => ⟨_, rfl, fun _ => q1 z f fr⟩)
