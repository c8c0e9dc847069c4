set_option maxRecDepth 10000 in
theorem kX12_paste {l : Launch} {d : Nat} {h : ja_H} {Q : ja_Q} {n tx a : Nat} {w g p : Int} (hG : jG h.1) (hm : jm w g h) (hp : 0 ≤ p ∧ p ≤ 4) (htx : tx < 6) (ha : a < 16) {pf fx fy pw ph ux uy : Int} (N1 : h.2.1 93 (1000 * tx + 1 + 12 * a + 1) = pf) (N2 : h.2.1 93 (1000 * tx + 1 + 12 * a + 2) = fx) (N3 : h.2.1 93 (1000 * tx + 1 + 12 * a + 3) = fy) (N4 : h.2.1 93 (1000 * tx + 1 + 12 * a + 4) = pw) (N5 : h.2.1 93 (1000 * tx + 1 + 12 * a + 5) = ph) (N6 : h.2.1 93 (1000 * tx + 1 + 12 * a + 6) = ux) (N7 : h.2.1 93 (1000 * tx + 1 + 12 * a + 7) = uy) (hr : (0 ≤ pf ∧ pf ≤ 4) ∧ (0 ≤ fx ∧ fx ≤ 99) ∧ (0 ≤ fy ∧ fy ≤ 99) ∧ (1 ≤ pw ∧ pw ≤ 99) ∧ (1 ≤ ph ∧ ph ≤ 99) ∧ (0 ≤ ux ∧ ux ≤ 99) ∧ (0 ≤ uy ∧ uy ≤ 99))
    (q : ∀ u, jfr [91, 102] h.2.1 u → pcF p h.2.1 u → jmx (h.1, u, h.2.2) w g p = psL (jmx h w g pf) (jmx h w g p) w g fx fy ux uy pw ph 0 → Q none (h.1, u, h.2.2)) : ja_C l (d + 3) mX12_paste (js_sh n) [.inr (.inr (some (90))), .inl (((1000 * tx + 1 + 12 * a : Nat) : Int)), .inl (p)] h Q := by
  obtain ⟨hw4, hw12, hg4, hg12⟩ := hm.2.2.2
  obtain ⟨lt, hlt⟩ : ∃ lt, jmx h w g p = lt := ⟨_, rfl⟩
  obtain ⟨src, hsrc⟩ : ∃ src, jmx h w g pf = src := ⟨_, rfl⟩
  rw [hlt, hsrc] at q
  have t1 : h.2.1 93 (((1000 * tx + 1 + 12 * a : Nat) : Int) + 1).toNat = pf := by rw [show (((1000 * tx + 1 + 12 * a : Nat) : Int) + 1).toNat = 1000 * tx + 1 + 12 * a + 1 by omega]; exact N1
  have t2 : h.2.1 93 (((1000 * tx + 1 + 12 * a : Nat) : Int) + 2).toNat = fx := by rw [show (((1000 * tx + 1 + 12 * a : Nat) : Int) + 2).toNat = 1000 * tx + 1 + 12 * a + 2 by omega]; exact N2
  have t3 : h.2.1 93 (((1000 * tx + 1 + 12 * a : Nat) : Int) + 3).toNat = fy := by rw [show (((1000 * tx + 1 + 12 * a : Nat) : Int) + 3).toNat = 1000 * tx + 1 + 12 * a + 3 by omega]; exact N3
  have t4 : h.2.1 93 (((1000 * tx + 1 + 12 * a : Nat) : Int) + 4).toNat = pw := by rw [show (((1000 * tx + 1 + 12 * a : Nat) : Int) + 4).toNat = 1000 * tx + 1 + 12 * a + 4 by omega]; exact N4
  have t5 : h.2.1 93 (((1000 * tx + 1 + 12 * a : Nat) : Int) + 5).toNat = ph := by rw [show (((1000 * tx + 1 + 12 * a : Nat) : Int) + 5).toNat = 1000 * tx + 1 + 12 * a + 5 by omega]; exact N5
  have t6 : h.2.1 93 (((1000 * tx + 1 + 12 * a : Nat) : Int) + 6).toNat = ux := by rw [show (((1000 * tx + 1 + 12 * a : Nat) : Int) + 6).toNat = 1000 * tx + 1 + 12 * a + 6 by omega]; exact N6
  have t7 : h.2.1 93 (((1000 * tx + 1 + 12 * a : Nat) : Int) + 7).toNat = uy := by rw [show (((1000 * tx + 1 + 12 * a : Nat) : Int) + 7).toNat = 1000 * tx + 1 + 12 * a + 7 by omega]; exact N7
  refine eX12_paste _ _ _ fun r_act r_p ho => ?_
  unfold bX12_paste
  unfold ja_r at r_act r_p
  refine jt_sI (x := pf) (jv_is (jv_fI (jr_g (jr_lr rfl) rfl (by exact jG_90 (j := 4) (r := 93) hG rfl)) (jv_w (jv_add (jv_li rfl) jv_ci) (by unfold ja_r; omega)) rfl (by omega) (by omega) t1) (by rfl)) ?_
  refine jt_sI jv_ci ?_
  refine jb_forc (144) (fun (k : Nat) L' h' => ∃ (v_k : Int) (o3_5 : Option ja_W) (o3_6 : Option ja_W) (o3_7 : Option ja_W) (o3_8 : Option ja_W) (o3_9 : Option ja_W) (u : Nat → Nat → Int), L' = [some (.inr (.inr (some (90)))), some (.inl (((1000 * tx + 1 + 12 * a : Nat) : Int))), some (.inl (p)), some (.inl (pf)), some (.inl (v_k)), o3_5, o3_6, o3_7, o3_8, o3_9] ∧ v_k = (k : Int) ∧ (h.1, u, h.2.2) = h' ∧ (jfr [102] h.2.1 u) ∧ (∀ c, c < k → u 102 c = h.2.1 91 (10 + 144 * pf + (c : Int)).toNat)) ⟨_, _, _, _, _, _, _, rfl, (by first | rfl | omega | (simp; done) | (simp; omega)), rfl, (by exact jfr_rf _ _), (by exact fun c hc => absurd hc (by omega))⟩ ?_ ?_ ?_
  · rintro k h_k _ _ ⟨v_k0, o3_5, o3_6, o3_7, o3_8, o3_9, u, rfl, rfl, rfl, fr, uc⟩
    exact jd_eq (jd_lt (jv_li rfl) jv_ci) (by omega)
  · rintro k h_k _ _ ⟨v_k0, o3_5, o3_6, o3_7, o3_8, o3_9, u, rfl, rfl, rfl, fr, uc⟩
    have ea : u 91 (10 + 144 * pf + (k : Int)).toNat = h.2.1 91 (10 + 144 * pf + (k : Int)).toNat := by rw [fr 91 (by simp)]
    refine jt_wI (jr_g (jr_lr rfl) rfl (by exact jG_90 (j := 38) (r := 102) hG rfl)) rfl (jv_li rfl) (jv_fI (jr_g (jr_lr rfl) rfl (by exact jG_90 (j := 2) (r := 91) hG rfl)) (jv_w (jv_add (jv_w (jv_add jv_ci (jv_w (jv_mul jv_ci (jv_li rfl)) (by unfold ja_r; omega))) (by unfold ja_r; omega)) (jv_li rfl)) (by unfold ja_r; omega)) rfl (by omega) (by omega) ea) (by omega) (by omega) ?_
    exact jt_inc rfl (by first | (unfold ja_r; omega) | (unfold ja_rl; omega) | omega | assumption) ⟨_, _, _, _, _, _, _, rfl, (by first | rfl | omega | (simp; done) | (simp; omega)), rfl, (by exact jfr_up fr (by simp)), (by 
          intro c hc
          by_cases z : c = k
          · subst z; exact ja_upE rfl (by omega)
          · rw [ja_upO (by omega)]; exact uc c (by omega))⟩
  · rintro _ _ ⟨v_k0, o3_5, o3_6, o3_7, o3_8, o3_9, u, rfl, rfl, rfl, fr, uc⟩
    obtain ⟨f1, hf1⟩ : ∃ f1, u = f1 := ⟨_, rfl⟩
    subst hf1
    have lx1 : jmx (h.1, u, h.2.2) w g p = lt := by rw [← hlt]; exact jmx_w (fr 91 (by simp))
    refine jt_sI jv_ci ?_
    refine jb_forc (ph.toNat) (fun (j : Nat) L' h' => ∃ (v_j : Int) (o6_5 : Option ja_W) (o6_6 : Option ja_W) (o6_7 : Option ja_W) (o6_8 : Option ja_W) (o6_9 : Option ja_W) (u1 : Nat → Nat → Int), L' = [some (.inr (.inr (some (90)))), some (.inl (((1000 * tx + 1 + 12 * a : Nat) : Int))), some (.inl (p)), some (.inl (pf)), some (.inl (v_j)), o6_5, o6_6, o6_7, o6_8, o6_9] ∧ v_j = (j : Int) ∧ (h.1, u1, h.2.2) = h' ∧ (jfr [91, 102] h.2.1 u1) ∧ (u1 102 = u 102) ∧ (pcF p h.2.1 u1) ∧ (jmx (h.1, u1, h.2.2) w g p = psL src lt w g fx fy ux uy pw (j : Int) 0)) ⟨_, _, _, _, _, _, _, rfl, (by first | rfl | omega | (simp; done) | (simp; omega)), rfl, (by exact jfr_sub fr (by simp)), (by rfl), (by exact pcF_rf (fr 91 (by simp))), (by exact lx1.trans psL_0.symm)⟩ ?_ ?_ ?_
    · rintro j h_j _ _ ⟨v_j0, o6_5, o6_6, o6_7, o6_8, o6_9, u1, rfl, rfl, rfl, fr1, u12, pf1, ul1⟩
      have T5 := (congrFun (fr1 93 (by simp)) _).trans t5
      exact jd_eq (jd_lt (jv_li rfl) (jv_fI (jr_g (jr_lr rfl) rfl (by exact jG_90 (j := 4) (r := 93) hG rfl)) (jv_w (jv_add (jv_li rfl) jv_ci) (by unfold ja_r; omega)) rfl (by omega) (by omega) T5)) (by omega)
    · rintro j h_j _ _ ⟨v_j0, o6_5, o6_6, o6_7, o6_8, o6_9, u1, rfl, rfl, rfl, fr1, u12, pf1, ul1⟩
      refine jt_sI jv_ci ?_
      refine jb_forc (pw.toNat) (fun (i : Nat) L' h' => ∃ (v_i : Int) (o8_6 : Option ja_W) (o8_7 : Option ja_W) (o8_8 : Option ja_W) (o8_9 : Option ja_W) (u2 : Nat → Nat → Int), L' = [some (.inr (.inr (some (90)))), some (.inl (((1000 * tx + 1 + 12 * a : Nat) : Int))), some (.inl (p)), some (.inl (pf)), some (.inl ((j : Int))), some (.inl (v_i)), o8_6, o8_7, o8_8, o8_9] ∧ v_i = (i : Int) ∧ (h.1, u2, h.2.2) = h' ∧ (jfr [91, 102] h.2.1 u2) ∧ (u2 102 = u 102) ∧ (pcF p h.2.1 u2) ∧ (jmx (h.1, u2, h.2.2) w g p = psL src lt w g fx fy ux uy pw (j : Int) (i : Int))) ⟨_, _, _, _, _, _, rfl, (by first | rfl | omega | (simp; done) | (simp; omega)), rfl, (by exact fr1), (by exact u12), (by exact pf1), (by exact ul1)⟩ ?_ ?_ ?_
      · rintro i h_i _ _ ⟨v_i0, o8_6, o8_7, o8_8, o8_9, u2, rfl, rfl, rfl, fr2, u22, pf2, ul2⟩
        have T4 := (congrFun (fr2 93 (by simp)) _).trans t4
        exact jd_eq (jd_lt (jv_li rfl) (jv_fI (jr_g (jr_lr rfl) rfl (by exact jG_90 (j := 4) (r := 93) hG rfl)) (jv_w (jv_add (jv_li rfl) jv_ci) (by unfold ja_r; omega)) rfl (by omega) (by omega) T4)) (by omega)
      · rintro i h_i _ _ ⟨v_i0, o8_6, o8_7, o8_8, o8_9, u2, rfl, rfl, rfl, fr2, u22, pf2, ul2⟩
        have T2 := (congrFun (fr2 93 (by simp)) _).trans t2
        have T3 := (congrFun (fr2 93 (by simp)) _).trans t3
        have T6 := (congrFun (fr2 93 (by simp)) _).trans t6
        have T7 := (congrFun (fr2 93 (by simp)) _).trans t7
        have hm2 : jm w g (h.1, u2, h.2.2) := jm_w hm (fr2 90 (by simp))
        refine jt_sI (x := fx + (i : Int)) (jv_is (jv_w (jv_add (jv_fI (jr_g (jr_lr rfl) rfl (by exact jG_90 (j := 4) (r := 93) hG rfl)) (jv_w (jv_add (jv_li rfl) jv_ci) (by unfold ja_r; omega)) rfl (by omega) (by omega) T2) (jv_li rfl)) (by unfold ja_r; omega)) (by rfl)) ?_
        refine jt_sI (x := fy + (j : Int)) (jv_is (jv_w (jv_add (jv_fI (jr_g (jr_lr rfl) rfl (by exact jG_90 (j := 4) (r := 93) hG rfl)) (jv_w (jv_add (jv_li rfl) jv_ci) (by unfold ja_r; omega)) rfl (by omega) (by omega) T3) (jv_li rfl)) (by unfold ja_r; omega)) (by rfl)) ?_
        refine jt_sI (x := ux + (i : Int)) (jv_is (jv_w (jv_add (jv_fI (jr_g (jr_lr rfl) rfl (by exact jG_90 (j := 4) (r := 93) hG rfl)) (jv_w (jv_add (jv_li rfl) jv_ci) (by unfold ja_r; omega)) rfl (by omega) (by omega) T6) (jv_li rfl)) (by unfold ja_r; omega)) (by rfl)) ?_
        refine jt_sI (x := uy + (j : Int)) (jv_is (jv_w (jv_add (jv_fI (jr_g (jr_lr rfl) rfl (by exact jG_90 (j := 4) (r := 93) hG rfl)) (jv_w (jv_add (jv_li rfl) jv_ci) (by unfold ja_r; omega)) rfl (by omega) (by omega) T7) (jv_li rfl)) (by unfold ja_r; omega)) (by rfl)) ?_
        refine jb_if_d (jd_and (jd_b (jy_mI (jr_lr rfl) rfl (jA_i (jA_i jA_0 (jv_li rfl)) (jv_li rfl)) fun _ => kX12_isCell hm2)) (fun _ => jd_b (jy_mI (jr_lr rfl) rfl (jA_i (jA_i jA_0 (jv_li rfl)) (jv_li rfl)) fun _ => kX12_isCell hm2))) (fun c1 => ?_) (fun c1 => ?_)
        · have eb : u2 102 (12 * (fy + (j : Int)) + (fx + (i : Int))).toNat = src (fx + (i : Int)) (fy + (j : Int)) := by
            rw [u22, uc _ (by omega), ← hsrc]
            unfold jmx jm_lt
            rw [if_pos c1.1]
            rw [show 10 + 144 * pf + (((12 * (fy + (j : Int)) + (fx + (i : Int))).toNat : Nat) : Int) = 10 + 144 * pf + 12 * (fy + (j : Int)) + (fx + (i : Int)) by omega]
          refine jt_wI (jr_g (jr_lr rfl) rfl (by exact jG_90 (j := 2) (r := 91) hG rfl)) rfl (jy_sI (jA_i (jA_i (jA_i jA_0 (jv_li rfl)) (jv_li rfl)) (jv_li rfl)) fun _ => kX12_spot hp (by omega) (by omega)) (jv_fI (jr_g (jr_lr rfl) rfl (by exact jG_90 (j := 38) (r := 102) hG rfl)) (jv_w (jv_add (jv_w (jv_mul jv_ci (jv_li rfl)) (by unfold ja_r; omega)) (jv_li rfl)) (by unfold ja_r; omega)) rfl (by omega) (by omega) eb) (by omega) (by omega) ?_
          exact jt_inc rfl (by first | (unfold ja_r; omega) | (unfold ja_rl; omega) | omega | assumption) ⟨_, _, _, _, _, _, rfl, (by first | rfl | omega | (simp; done) | (simp; omega)), rfl, (by first | exact fr2 | exact jfr_up fr2 (by simp)), (by first | exact u22 | (rw [← u22]; funext c; exact ja_upO (by omega))), (by first | exact pf2 | exact pcF_up (w := w) (g := g) pf2 hp.1 (by omega) (by omega) c1.2.1 c1.2.2), (by 
                first
                | (rw [jmx_put hp (by omega) (by omega) c1.2.1 c1.2.2, ul2]; exact psL_p rfl rfl rfl rfl (by omega) (by omega) c1.2 c1.1)
                | (rw [ul2]; exact psL_s rfl rfl rfl rfl (fun y => c1 ⟨y.2, y.1⟩)))⟩
        · exact jt_inc rfl (by first | (unfold ja_r; omega) | (unfold ja_rl; omega) | omega | assumption) ⟨_, _, _, _, _, _, rfl, (by first | rfl | omega | (simp; done) | (simp; omega)), rfl, (by first | exact fr2 | exact jfr_up fr2 (by simp)), (by first | exact u22 | (rw [← u22]; funext c; exact ja_upO (by omega))), (by first | exact pf2 | exact pcF_up (w := w) (g := g) pf2 hp.1 (by omega) (by omega) c1.2.1 c1.2.2), (by 
                first
                | (rw [jmx_put hp (by omega) (by omega) c1.2.1 c1.2.2, ul2]; exact psL_p rfl rfl rfl rfl (by omega) (by omega) c1.2 c1.1)
                | (rw [ul2]; exact psL_s rfl rfl rfl rfl (fun y => c1 ⟨y.2, y.1⟩)))⟩
      · rintro _ _ ⟨v_i0, o8_6, o8_7, o8_8, o8_9, u2, rfl, rfl, rfl, fr2, u22, pf2, ul2⟩
        exact jt_inc rfl (by first | (unfold ja_r; omega) | (unfold ja_rl; omega) | omega | assumption) ⟨_, _, _, _, _, _, _, rfl, (by first | rfl | omega | (simp; done) | (simp; omega)), rfl, (by exact fr2), (by exact u22), (by exact pf2), (by rw [ul2]; exact psL_c fun a b => by unfold psr; omega)⟩
    · rintro _ _ ⟨v_j0, o6_5, o6_6, o6_7, o6_8, o6_9, u1, rfl, rfl, rfl, fr1, u12, pf1, ul1⟩
      have ulf : jmx (h.1, u1, h.2.2) w g p = psL src lt w g fx fy ux uy pw ph 0 := by rw [ul1]; exact psL_c fun a b => by unfold psr; omega
      exact q u1 fr1 pf1 ulf
