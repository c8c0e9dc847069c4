set_option maxRecDepth 10000 in
theorem kX12_oneAct {l : Launch} {d : Nat} {h : ja_H} {Q : ja_Q} {T K N : Nat → Int} {n Ln t0 s A k : Nat} {cl : List Int} {st : List Nat} (hT : raT T Ln t0 s A K N cl st h) (hcl : cl.length ≤ s)
    (q1 : ∀ v f g s', v ≠ 0 → (acs T Ln (6 * Ln + 3) (k + 1) 0 st.length 0 s A K N cl).1 = v → (acs T Ln (6 * Ln + 3) (k + 1) 0 st.length 0 s A K N cl).2.1 = s' → raG t0 h.2.1 f → jnl h.2.2 g → f 90 20 = ((s' : Nat) : Int) → Q (some (.inl v)) (h.1, f, g))
    (q0 : ∀ f g r, r = acs T Ln (6 * Ln + 3) (k + 1) 0 st.length 0 s A K N cl → r.1 = 0 → akC T Ln s ≠ 5 → raG t0 h.2.1 f → jnl h.2.2 g → raT T Ln t0 r.2.1 r.2.2.1 r.2.2.2.1 r.2.2.2.2.1 r.2.2.2.2.2 st (h.1, f, g) → Q (some (.inl 0)) (h.1, f, g))
    (q5 : ∀ f g r, akC T Ln s = 5 → A ≠ 16 → r = nms T Ln (7 * A) [(0, 1, 9)] (nxS T Ln s) N → r.1 = 0 → tkK T Ln r.2.1 = 123 → st.length < 8 → raG t0 h.2.1 f → jnl h.2.2 g → raT T Ln t0 (nxS T Ln r.2.1) (A + 1) (upF K A 5) r.2.2 cl (A :: st) (h.1, f, g) → Q (some (.inl 0)) (h.1, f, g)) : ja_C l (d + 8) mX12_oneAct (js_sh n) [.inr (.inr (some (90)))] h Q := by
  obtain ⟨hB, ⟨h35, hst8, har, hsta⟩, hA16, hXA, htx⟩ := id hT
  obtain ⟨hG, ⟨hL, hL3, hTT, hb⟩, hs, hk, ⟨h24, ht0⟩, ⟨h26, h30⟩, hc⟩ := id hB
  have nb := nxS_b (T := T) hs
  have ak := akM_C (T := T) (Ln := Ln) (s := s)
  have ab := akC_b (T := T) (Ln := Ln) (s := s)
  have hX0 : h.2.1 93 ((t0 : Nat) : Int).toNat = (A : Int) := hXA
  refine eX12_oneAct _ fun ho => ?_
  unfold bX12_oneAct
  refine jt_sI (x := akM T Ln s) (jv_is (jy_mI (jr_lr rfl) rfl jA_0 fun _ => kX12_kindOf hk) (by rfl)) ?_
  refine jb_if_d (φ := akC T Ln s = -1) (jd_eq (jd_lt (jv_li rfl) jv_ci) (by omega)) (fun c1 => ?_) (fun c1 => ?_)
  · refine jt_rI jv_ci ?_
    exact q1 1 h.2.1 h.2.2 s (by decide) (by rw [acs_n c1]) (by rw [acs_n c1]) raG_rf (jnl_rf _) hk.2.1
  · refine jt_sI (x := (A : Int)) (jv_is (jv_fI (jr_g (jr_lr rfl) rfl (by exact jG_90 hG rfl)) (jv_gF (jr_lr rfl) rfl h24) rfl (by omega) (by omega) hX0) (by rfl)) ?_
    refine jb_if_d (φ := A = 16) (jd_eq (jd_eqI (jv_li rfl) jv_ci) (by omega)) (fun c2 => ?_) (fun c2 => ?_)
    · refine jt_rI jv_ci ?_
      exact q1 4 h.2.1 h.2.2 s (by decide) (by rw [acs_16 c1 c2]) (by rw [acs_16 c1 c2]) raG_rf (jnl_rf _) hk.2.1
    · refine jt_pI (jr_lr rfl) (by first | rfl | assumption) (jv_is (x' := ((t0 + 1 + 12 * A : Nat) : Int)) (jv_w (jv_add (jv_w (jv_add (jv_gF (jr_lr rfl) rfl h24) jv_ci) (by unfold ja_r; omega)) (jv_w (jv_mul jv_ci (jv_li rfl)) (by unfold ja_r; omega))) (by unfold ja_r; omega)) (by omega)) ?_
      try dsimp only
      have f32 : ja_up h.2.1 90 32 ((t0 + 1 + 12 * A : Nat) : Int) 90 32 = ((t0 + 1 + 12 * A : Nat) : Int) := ja_upE rfl rfl
      refine jt_wI (jr_g (jr_lr rfl) rfl (by exact jG_90 hG rfl)) rfl (jv_gF (jr_lr rfl) rfl f32) (jv_li rfl) (by omega) (by omega) ?_
      dsimp only
      rw [show ((t0 + 1 + 12 * A : Nat) : Int).toNat = t0 + 1 + 12 * A by omega]
      have f24 : ja_up (ja_up h.2.1 90 32 ((t0 + 1 + 12 * A : Nat) : Int)) 93 (t0 + 1 + 12 * A) (akM T Ln s) 90 24 = (t0 : Int) := by rw [ja_upO (by omega), ja_upO (by omega)]; exact h24
      refine jt_uB (w := ((A + 1 : Nat) : Int)) (jr_g (jr_lr rfl) rfl (by exact jG_90 hG rfl)) rfl (jv_gF (jr_lr rfl) rfl f24) (by omega) (by omega) jv_ci (by dsimp only; rw [show ((t0 : Nat) : Int).toNat = t0 by omega, ja_upO (by omega), ja_upO (by omega), hXA, ja_w_id (by unfold ja_r; omega)]; omega) ?_
      dsimp only
      rw [show ((t0 : Nat) : Int).toNat = t0 by omega]
      refine jt_pI (jr_lr rfl) rfl jv_ci ?_
      dsimp only
      obtain ⟨f1, hf1⟩ : ∃ f1, ja_up (ja_up (ja_up (ja_up h.2.1 90 32 ((t0 + 1 + 12 * A : Nat) : Int)) 93 (t0 + 1 + 12 * A) (akM T Ln s)) 93 t0 ((A + 1 : Nat) : Int)) 90 33 0 = f1 := ⟨_, rfl⟩
      have o : ∀ c j, (c ≠ 90 ∨ (j ≠ 32 ∧ j ≠ 33)) → (c ≠ 93 ∨ (j ≠ t0 ∧ j ≠ t0 + 1 + 12 * A)) → f1 c j = h.2.1 c j := fun c j y1 y2 => by rw [← hf1, ja_upO (by omega), ja_upO (by omega), ja_upO (by omega), ja_upO (by omega)]
      have v32 : f1 90 32 = ((t0 + 1 + 12 * A : Nat) : Int) := by rw [← hf1, ja_upO (by omega), ja_upO (by omega), ja_upO (by omega), ja_upE rfl rfl]
      have v33 : f1 90 33 = ((0 : Nat) : Int) := by rw [← hf1, ja_upE rfl rfl]; rfl
      have v0 : f1 93 t0 = ((A + 1 : Nat) : Int) := by rw [← hf1, ja_upO (by omega), ja_upE rfl rfl]
      have v1 : f1 93 (t0 + 1 + 12 * A) = akM T Ln s := by rw [← hf1, ja_upO (by omega), ja_upO (by omega), ja_upE rfl rfl]
      have fr1 : raF t0 h.2.1 f1 := ⟨by rw [← hf1]; exact jfr_up (jfr_up (jfr_up (jfr_up (jfr_rf _ _) (by simp)) (by simp)) (by simp)) (by simp), fun j hj => o _ _ (by omega) (by omega), fun i hi => o _ _ (by omega) (by omega)⟩
      have hB1 : raB T Ln t0 s cl st.length (h.1, f1, h.2.2) := raB_o hB (fun j hj => o _ _ (by omega) (by omega)) (by funext j; exact o _ _ (by omega) (by omega)) (fun i hi => o _ _ (by omega) (by omega))
      rw [hf1]
      refine jx_m (jr_lr rfl) rfl jA_0 (kX12_nextB (h := (h.1, f1, h.2.2)) hB1 fun f2 g2 frn gr2 hB2 => ⟨rfl, ?_⟩)
      have fr2 : raF t0 h.2.1 f2 := raF_tr fr1 (raF_nf frn)
      have hA2 : raA T Ln t0 (nxS T Ln s) A 0 cl st.length (f1 93) (h.1, f2, g2) := ⟨hB2, by omega, (frn.2 32 (by omega)).trans v32, (frn.2 33 (by omega)).trans v33, frn.1 93 (by simp)⟩
      refine jb_if_d (jd_eqI (jv_li rfl) jv_ci) (fun y4 => ?_) (fun y4 => ?_)
      · have k5 : akC T Ln s = 5 := by omega
        refine jx_mI (jr_lr rfl) rfl (jA_i (jA_i jA_0 jv_ci) jv_ci) (kX12_number (h := (h.1, f2, g2)) hA2 (by omega) (by decide) fun r3 f3 g3 e3 fr3 gr3 w3 => ⟨_, rfl, fun _ => ?_⟩)
        have tw := nm2_1 (T := T) (Ln := Ln) (b := 7 * A) (b' := t0 + 1 + 12 * A) (s := nxS T Ln s) (N := N) (X := f1 93)
        rw [← e3] at tw
        have frA := raF_tr fr2 fr3
        have grA := jnl_tr gr2 gr3
        have ea := acs_5 (kf := 6 * Ln + 3) (k := k) (o := st.length) (e := 0) (K := K) (N := N) (cl := cl) k5 c2
        unfold rpR at ea
        dsimp only at ea
        generalize hrN : nms T Ln (7 * A) [(0, 1, 9)] (nxS T Ln s) N = rN at tw ea
        by_cases y1 : r3.1 = 0
        · refine jb_if_d (jd_ne (jv_li rfl) jv_ci) (fun z => absurd y1 z) (fun _ => ?_)
          obtain ⟨hB3, _, x32, x33, xX⟩ := w3.2 y1
          dsimp only at x32 x33 xX
          have hs3 := hB3.2.2.1
          have k3 : f3 90 21 = tkM (tkK T Ln r3.2.1) := hB3.2.2.2.1.2.2.1
          have m123 := tkM_s (k := tkK T Ln r3.2.1) (v := 123) (by decide)
          have yN : rN.1 = 0 := tw.1.trans y1
          rw [if_pos yN, tw.2.1] at ea
          refine jb_if_d (jd_ne (jv_gF (jr_lr rfl) rfl k3) jv_ci) (fun z => ?_) (fun z => ?_)
          · have z : ¬ tkK T Ln r3.2.1 = 123 := fun y => z (m123.mpr y)
            rw [if_neg z] at ea
            exact jt_rI jv_ci (q1 1 f3 g3 r3.2.1 (by decide) (by rw [ea]) (by rw [ea]) (raG_F frA) grA w3.1.2.2.2.1.2.1)
          · have z : tkK T Ln r3.2.1 = 123 := m123.mp (Classical.not_not.mp z)
            rw [if_pos z] at ea
            have x30 : f3 90 30 = (st.length : Int) := hB3.2.2.2.2.2.1.2
            refine jb_if_d (jd_eqI (jv_gF (jr_lr rfl) rfl x30) jv_ci) (fun z8 => ?_) (fun z8 => ?_)
            · rw [if_pos (by omega)] at ea
              exact jt_rI jv_ci (q1 3 f3 g3 r3.2.1 (by decide) (by rw [ea]) (by rw [ea]) (raG_F frA) grA w3.1.2.2.2.1.2.1)
            · refine jt_uG (w := ((st.length + 1 : Nat) : Int)) (jr_lr rfl) rfl jv_ci (by dsimp only; rw [x30, ja_w_id (by unfold ja_r; omega)]; omega) ?_
              dsimp only
              have x35 : ja_up f3 90 30 ((st.length + 1 : Nat) : Int) 90 35 = (st.length : Int) := by rw [ja_upO (by omega)]; exact (frA.2.1 35 (by omega)).trans h35
              have x32' : ja_up f3 90 30 ((st.length + 1 : Nat) : Int) 90 32 = ((t0 + 1 + 12 * A : Nat) : Int) := by rw [ja_upO (by omega)]; exact x32
              refine jt_wI (jr_g (jr_lr rfl) rfl (by exact jG_90 hG rfl)) rfl (jv_gF (jr_lr rfl) rfl x35) (jv_gF (jr_lr rfl) rfl x32') (by omega) (by omega) ?_
              dsimp only
              rw [show ((st.length : Nat) : Int).toNat = st.length by omega]
              refine jt_uG (w := ((st.length + 1 : Nat) : Int)) (jr_lr rfl) rfl jv_ci (by dsimp only; rw [ja_upO (by omega), x35, ja_w_id (by unfold ja_r; omega)]; omega) ?_
              dsimp only
              obtain ⟨f4, hf4⟩ : ∃ f4, ja_up (ja_up (ja_up f3 90 30 ((st.length + 1 : Nat) : Int)) 99 st.length ((t0 + 1 + 12 * A : Nat) : Int)) 90 35 ((st.length + 1 : Nat) : Int) = f4 := ⟨_, rfl⟩
              have o4 : ∀ c j, (c ≠ 90 ∨ (j ≠ 30 ∧ j ≠ 35)) → (c ≠ 99 ∨ j ≠ st.length) → f4 c j = f3 c j := fun c j y1 y2 => by rw [← hf4, ja_upO (by omega), ja_upO (by omega), ja_upO (by omega)]
              have u30 : f4 90 30 = ((st.length + 1 : Nat) : Int) := by rw [← hf4, ja_upO (by omega), ja_upO (by omega), ja_upE rfl rfl]
              have u35 : f4 90 35 = ((st.length + 1 : Nat) : Int) := by rw [← hf4, ja_upE rfl rfl]
              have u99 : f4 99 st.length = ((t0 + 1 + 12 * A : Nat) : Int) := by rw [← hf4, ja_upO (by omega), ja_upE rfl rfl]
              have fr4 : raG t0 f3 f4 := ⟨by rw [← hf4]; exact jfr_up (jfr_up (jfr_up (jfr_rf _ _) (by simp)) (by simp)) (by simp), fun j hj => o4 _ _ (by omega) (by omega), fun i hi => o4 _ _ (by omega) (by omega)⟩
              have hB4 : raB T Ln t0 r3.2.1 cl (st.length + 1) (h.1, f4, g3) := by
                obtain ⟨zG, ⟨za1, za2, za3, za4⟩, zs, zk, ⟨zb1, zb2⟩, ⟨zc1, zc3⟩, zc⟩ := hB3
                exact ⟨zG, ⟨(o4 _ _ (by omega) (by omega)).trans za1, za2, (by funext j; exact o4 _ _ (by omega) (by omega) : f4 97 = f3 97).trans za3, za4⟩, zs, tkP_o zk (fun j _ _ => o4 _ _ (by omega) (by omega)), ⟨(o4 _ _ (by omega) (by omega)).trans zb1, zb2⟩, ⟨(o4 _ _ (by omega) (by omega)).trans zc1, u30⟩, fun j hj => ⟨(o4 _ _ (by omega) (by omega)).trans (zc j hj).1, (o4 _ _ (by omega) (by omega)).trans (zc j hj).2⟩⟩
              rw [hf4]
              refine jx_m (jr_lr rfl) rfl jA_0 (kX12_nextB (h := (h.1, f4, g3)) hB4 fun f5 g5 fr5 gr5 hB5 => ⟨rfl, ?_⟩)
              have e93 : f5 93 = r3.2.2 := (fr5.1 93 (by simp)).trans ((by funext j; exact o4 _ _ (by omega) (by omega) : f4 93 = f3 93).trans xX)
              refine jt_rI jv_ci (q5 f5 g5 rN k5 c2 hrN.symm yN (by rw [tw.2.1]; exact z) (by omega) (raG_tr (raG_F frA) (raG_tr fr4 (raG_F (raF_nf fr5)))) (jnl_tr grA gr5) ?_)
              rw [tw.2.1]
              refine ⟨hB5, ⟨(fr5.2 35 (by omega)).trans u35, by simp only [List.length_cons]; omega, ⟨(congrFun (fr5.1 99 (by simp)) _).trans u99, ?_⟩, ?_⟩, by omega, ?_, ?_⟩
              · refine arR_o (f := h.2.1) (fun j hj => ?_) har
                exact (congrFun (fr5.1 99 (by simp)) j).trans ((o4 _ _ (by omega) (by omega)).trans (congrFun (frA.1 99 (by simp)) j))
              · intro a ha
                rcases List.mem_cons.mp ha with rfl | ha
                · exact ⟨by omega, by unfold upF; exact if_pos rfl⟩
                · have := hsta a ha
                  refine ⟨by omega, ?_⟩
                  unfold upF
                  rw [if_neg (by omega)]
                  exact this.2
              · show f5 93 t0 = _
                rw [e93, tw.2.2.2.1 t0 (by omega)]; exact v0
              · show txR (f5 93) _ _ _ _ _
                rw [e93]
                refine txR_add htx (fun i h1 h2 => ?_) (fun j hj => tw.2.2.1 j hj) (fun a ha => List.mem_cons_of_mem _ ha) ?_ (fun j hj hj2 => ?_)
                · rw [tw.2.2.2.1 i (by omega)]; exact o _ _ (by omega) (by omega)
                · rw [tw.2.2.2.1 _ (by omega), v1]; omega
                · have hj : j < 2 := hj
                  have : j = 0 := by
                    by_cases zj : j = 1
                    · exact absurd (by simp) (hj2 rfl zj)
                    · omega
                  subst this
                  exact (tw.2.2.2.2 yN 0 (by omega)).symm
        · refine jb_if_d (jd_ne (jv_li rfl) jv_ci) (fun _ => ?_) (fun z => absurd y1 z)
          have yN : ¬ rN.1 = 0 := fun y => y1 (tw.1.symm.trans y)
          rw [if_neg yN] at ea
          exact jt_rI (jv_li rfl) (q1 r3.1 f3 g3 r3.2.1 y1 (by rw [ea]; exact tw.1) (by rw [ea]; exact tw.2.1) (raG_F frA) grA w3.1.2.2.2.1.2.1)
      · refine jb_cv_p ((jd_eqI (jv_li rfl) jv_ci) _ _ (fun y0 => ?_) (fun y0 => ?_))
        · have k1 : akC T Ln s = 1 := by omega
          refine jx_mI (jr_lr rfl) rfl jA_0 (kX12_pasted (h := (h.1, f2, g2)) hA2 fun r3 f3 g3 e3 fr3 gr3 w3 => ⟨_, rfl, fun _ => ?_⟩)
          have tw := nm2_7 (T := T) (Ln := Ln) (b := 7 * A) (b' := t0 + 1 + 12 * A) (s := nxS T Ln s) (N := N) (X := f1 93)
          rw [← e3] at tw
          generalize hrN : paC T Ln (7 * A) (nxS T Ln s) N = rN at tw
          have frA := raF_tr fr2 fr3
          have grA := jnl_tr gr2 gr3
          by_cases y1 : r3.1 = 0
          · refine jb_if_d (jd_ne (jv_li rfl) jv_ci) (fun z => absurd y1 z) (fun _ => ?_)
            obtain ⟨hB3, _, x32, x33, xX⟩ := w3.2 y1
            have k3 : f3 90 21 = tkM (tkK T Ln r3.2.1) := hB3.2.2.2.1.2.2.1
            have m59 := tkM_s (k := tkK T Ln r3.2.1) (v := 59) (by decide)
            have yN : rN.1 = 0 := tw.1.trans y1
            refine jb_if_d (jd_ne (jv_gF (jr_lr rfl) rfl k3) jv_ci) (fun z => ?_) (fun z => ?_)
            · have z : ¬ tkK T Ln r3.2.1 = 59 := fun y => z (m59.mpr y)
              refine jt_rI jv_ci (q1 1 f3 g3 r3.2.1 (by decide) ?_ ?_ (raG_F frA) grA w3.1.2.2.2.1.2.1)
              · rw [acs_1 k1 c2, paR_C, hrN]; unfold nmP lfR; rw [if_pos yN, tw.2.1, if_neg z]
              · rw [acs_1 k1 c2, paR_C, hrN]; unfold nmP lfR; rw [if_pos yN, tw.2.1, if_neg z]
            · have z : tkK T Ln r3.2.1 = 59 := m59.mp (Classical.not_not.mp z)
              refine jx_m (jr_lr rfl) rfl jA_0 (kX12_nextB (h := (h.1, f3, g3)) hB3 fun f4 g4 fr4 gr4 hB4 => ⟨rfl, ?_⟩)
              refine jt_rI jv_ci (q0 f4 g4 _ rfl ?_ (by omega) (raG_F (raF_tr frA (raF_nf fr4))) (jnl_tr grA gr4) ?_)
              · rw [acs_1 k1 c2, paR_C, hrN]; unfold nmP lfR; rw [if_pos yN, tw.2.1, if_pos z]
              · rw [acs_1 k1 c2, paR_C, hrN]
                unfold nmP lfR
                rw [if_pos yN, tw.2.1, if_pos z]
                dsimp only
                have e93 : f4 93 = r3.2.2 := (fr4.1 93 (by simp)).trans xX
                refine raT_mk hT (by omega) hB4 (raF_tr frA (raF_nf fr4)) ?_ ?_
                · rw [e93, tw.2.2.2.1 t0 (by omega)]; exact v0
                · rw [e93]
                  refine txR_add htx (fun i h1 h2 => ?_) (fun j hj => tw.2.2.1 j hj) (fun a ha => ha) ?_ (fun j hj _ => ?_)
                  · rw [tw.2.2.2.1 i (by omega)]; exact o _ _ (by omega) (by omega)
                  · rw [tw.2.2.2.1 _ (by omega), v1]; omega
                  · have hj : j < 7 := hj
                    rw [show msl 1 j = j + 1 by unfold msl; rw [if_neg (by omega), if_neg (by omega), if_neg (by omega)]]
                    exact (tw.2.2.2.2 yN j hj).symm
          · refine jb_if_d (jd_ne (jv_li rfl) jv_ci) (fun _ => ?_) (fun z => absurd y1 z)
            have yN : ¬ rN.1 = 0 := fun y => y1 (tw.1.symm.trans y)
            refine jt_rI (jv_li rfl) (q1 r3.1 f3 g3 r3.2.1 y1 ?_ ?_ (raG_F frA) grA w3.1.2.2.2.1.2.1)
            · rw [acs_1 k1 c2, paR_C, hrN]; unfold nmP lfR; rw [if_neg yN]; exact tw.1
            · rw [acs_1 k1 c2, paR_C, hrN]; unfold nmP lfR; rw [if_neg yN]; exact tw.2.1
        refine jb_cv_p ((jd_eqI (jv_li rfl) jv_ci) _ _ (fun y1 => ?_) (fun y1 => ?_))
        · have k2 : akC T Ln s = 2 := by omega
          have tw := nm2_4 (T := T) (Ln := Ln) (b := 7 * A) (b' := t0 + 1 + 12 * A) (s := nxS T Ln s) (N := N) (X := f1 93)
          have nbx := nms_b (T := T) (b := t0 + 1 + 12 * A) [(0 + 1, 0, 99), (0 + 1 + 1, 0, 99), (0 + 1 + 1 + 1, 1, 99), (0 + 1 + 1 + 1 + 1, 1, 99)] (nxS T Ln s) (f1 93) hB2.2.2.1
          have ea := acs_2 (kf := 6 * Ln + 3) (k := k) (o := st.length) (e := 0) (K := K) (N := N) (cl := cl) k2 c2
          unfold ptR at ea
          dsimp only at ea
          rw [show ∀ x, prs T Ln (6 * Ln + 3) 2 st.length x = pr T Ln 2 st.length x from fun _ => rfl] at ea
          generalize hrN : nms T Ln (7 * A) [(0, 0, 99), (0 + 1, 0, 99), (0 + 2, 1, 99), (0 + 3, 1, 99)] (nxS T Ln s) N = rN at tw ea
          obtain ⟨r1, hr1⟩ : ∃ r1, r1 = nms T Ln (t0 + 1 + 12 * A) [(0 + 1, 0, 99), (0 + 1 + 1, 0, 99), (0 + 1 + 1 + 1, 1, 99), (0 + 1 + 1 + 1 + 1, 1, 99)] (nxS T Ln s) (f1 93) := ⟨_, rfl⟩
          rw [← hr1] at tw nbx
          rw [tw.2.1] at ea
          refine jx_mI (jr_lr rfl) rfl jA_0 (kX12_painted (h := (h.1, f2, g2)) hA2 hst8 (by omega) r1 hr1 (by omega) (fun v s' f3 g3 hv hd fr3 gr3 e20 => ⟨_, rfl, fun _ => ?_⟩) (fun z1 z2 f3 g3 fr3 gr3 hB3 x8 x9 xo => ⟨_, rfl, fun _ => ?_⟩))
          · refine jb_if_d (jd_ne (jv_li rfl) jv_ci) (fun _ => ?_) (fun z => absurd hv z)
            refine jt_rI (jv_li rfl) (q1 v f3 g3 s' hv ?_ ?_ (raG_F (raF_tr fr2 fr3)) (jnl_tr gr2 gr3) e20)
            · rcases hd with ⟨d1, d2, d3⟩ | ⟨d1, d2, d3⟩
              · rw [ea, if_neg (fun y => d1 (tw.1.symm.trans y)), d2]; exact tw.1
              · rw [ea, if_pos (tw.1.trans d1), if_neg (by rw [← d2]; exact hv), d2]
            · rcases hd with ⟨d1, d2, d3⟩ | ⟨d1, d2, d3⟩
              · rw [ea, if_neg (fun y => d1 (tw.1.symm.trans y)), d3]
              · rw [ea, if_pos (tw.1.trans d1), if_neg (by rw [← d2]; exact hv), d3]
          · refine jb_if_d (jd_ne (jv_li rfl) jv_ci) (fun z => absurd rfl z) (fun _ => ?_)
            rw [if_pos (tw.1.trans z1), if_pos z2] at ea
            have hB3' := hB3
            have k3 : f3 90 21 = tkM (tkK T Ln (pr T Ln 2 st.length r1.2.1).2.1) := hB3.2.2.2.1.2.2.1
            have m59 := tkM_s (k := tkK T Ln (pr T Ln 2 st.length r1.2.1).2.1) (v := 59) (by decide)
            have frA := raF_tr fr2 fr3
            have grA := jnl_tr gr2 gr3
            generalize pr T Ln 2 st.length r1.2.1 = p at *
            refine jb_if_d (jd_ne (jv_gF (jr_lr rfl) rfl k3) jv_ci) (fun z => ?_) (fun z => ?_)
            · have z : ¬ tkK T Ln p.2.1 = 59 := fun y => z (m59.mpr y)
              rw [if_neg z] at ea
              exact jt_rI jv_ci (q1 1 f3 g3 p.2.1 (by decide) (by rw [ea]) (by rw [ea]) (raG_F frA) grA hB3.2.2.2.1.2.1)
            · have z : tkK T Ln p.2.1 = 59 := m59.mp (Classical.not_not.mp z)
              rw [if_pos z] at ea
              refine jx_m (jr_lr rfl) rfl jA_0 (kX12_nextB (h := (h.1, f3, g3)) hB3 fun f4 g4 fr4 gr4 hB4 => ⟨rfl, ?_⟩)
              refine jt_rI jv_ci (q0 f4 g4 _ rfl (by rw [ea]) (by omega) (raG_F (raF_tr frA (raF_nf fr4))) (jnl_tr grA gr4) ?_)
              rw [ea]
              dsimp only
              have e93 : f4 93 = f3 93 := fr4.1 93 (by simp)
              refine raT_mk hT (by omega) hB4 (raF_tr frA (raF_nf fr4)) ?_ ?_
              · rw [e93, xo t0 (by omega) (by omega) (by omega), tw.2.2.2.1 t0 (by omega)]; exact v0
              · rw [e93]
                refine txR_add htx (fun i h1 h2 => ?_) (fun j hj => ?_) (fun a ha => ha) ?_ (fun j hj _ => ?_)
                · rw [xo i (by omega) (by omega) (by omega), tw.2.2.2.1 i (by omega)]; exact o _ _ (by omega) (by omega)
                · unfold upF
                  rw [if_neg (by omega), if_neg (by omega)]
                  exact tw.2.2.1 j hj
                · rw [xo _ (by omega) (by omega) (by omega), tw.2.2.2.1 _ (by omega), v1]; omega
                · have hj : j < 6 := hj
                  by_cases z4 : j = 4
                  · subst z4
                    rw [show msl 2 4 = 8 from rfl, x8]
                    unfold upF
                    rw [if_neg (by omega), if_pos rfl]
                  by_cases z5 : j = 5
                  · subst z5
                    rw [show msl 2 5 = 9 from rfl, x9]
                    unfold upF
                    rw [if_pos rfl]
                  · rw [show msl 2 j = j + 1 by unfold msl; rw [if_neg (by omega), if_neg (by omega), if_neg (by omega)]]
                    unfold upF
                    rw [if_neg (by omega), if_neg (by omega), xo _ (by omega) (by omega) (by omega)]
                    exact (tw.2.2.2.2 (tw.1.trans z1) j (by omega)).symm
        refine jb_cv_p ((jd_eqI (jv_li rfl) jv_ci) _ _ (fun y2 => ?_) (fun y2 => ?_))
        · have k3' : akC T Ln s = 3 := by omega
          refine jx_mI (jr_lr rfl) rfl jA_0 (kX12_kept (h := (h.1, f2, g2)) hA2 (by omega) fun r3 f3 g3 e3 fr3 gr3 w3 => ⟨_, rfl, fun _ => ?_⟩)
          have tw := nm2_3 (T := T) (Ln := Ln) (b := 7 * A) (b' := t0 + 1 + 12 * A) (s := nxS T Ln s) (N := N) (X := f1 93)
          rw [← e3] at tw
          generalize hrN : nms T Ln (7 * A) [(0, 2, 50), (1, 0, 99), (2, 0, 99)] (nxS T Ln s) N = rN at tw
          have frA := raF_tr fr2 fr3
          have grA := jnl_tr gr2 gr3
          by_cases y1 : r3.1 = 0
          · refine jb_if_d (jd_ne (jv_li rfl) jv_ci) (fun z => absurd y1 z) (fun _ => ?_)
            obtain ⟨hB3, _, x32, x33, xX⟩ := w3.2 y1
            have k3 : f3 90 21 = tkM (tkK T Ln r3.2.1) := hB3.2.2.2.1.2.2.1
            have m59 := tkM_s (k := tkK T Ln r3.2.1) (v := 59) (by decide)
            have yN : rN.1 = 0 := tw.1.trans y1
            refine jb_if_d (jd_ne (jv_gF (jr_lr rfl) rfl k3) jv_ci) (fun z => ?_) (fun z => ?_)
            · have z : ¬ tkK T Ln r3.2.1 = 59 := fun y => z (m59.mpr y)
              refine jt_rI jv_ci (q1 1 f3 g3 r3.2.1 (by decide) ?_ ?_ (raG_F frA) grA w3.1.2.2.2.1.2.1)
              · rw [acs_3 k3' c2, hrN]; unfold nmP lfR; rw [if_pos yN, tw.2.1, if_neg z]
              · rw [acs_3 k3' c2, hrN]; unfold nmP lfR; rw [if_pos yN, tw.2.1, if_neg z]
            · have z : tkK T Ln r3.2.1 = 59 := m59.mp (Classical.not_not.mp z)
              refine jx_m (jr_lr rfl) rfl jA_0 (kX12_nextB (h := (h.1, f3, g3)) hB3 fun f4 g4 fr4 gr4 hB4 => ⟨rfl, ?_⟩)
              refine jt_rI jv_ci (q0 f4 g4 _ rfl ?_ (by omega) (raG_F (raF_tr frA (raF_nf fr4))) (jnl_tr grA gr4) ?_)
              · rw [acs_3 k3' c2, hrN]; unfold nmP lfR; rw [if_pos yN, tw.2.1, if_pos z]
              · rw [acs_3 k3' c2, hrN]
                unfold nmP lfR
                rw [if_pos yN, tw.2.1, if_pos z]
                dsimp only
                have e93 : f4 93 = r3.2.2 := (fr4.1 93 (by simp)).trans xX
                refine raT_mk hT (by omega) hB4 (raF_tr frA (raF_nf fr4)) ?_ ?_
                · rw [e93, tw.2.2.2.1 t0 (by omega)]; exact v0
                · rw [e93]
                  refine txR_add htx (fun i h1 h2 => ?_) (fun j hj => tw.2.2.1 j hj) (fun a ha => ha) ?_ (fun j hj _ => ?_)
                  · rw [tw.2.2.2.1 i (by omega)]; exact o _ _ (by omega) (by omega)
                  · rw [tw.2.2.2.1 _ (by omega), v1]; omega
                  · have hj : j < 3 := hj
                    rw [show msl 3 j = j + 1 by unfold msl; rw [if_neg (by omega), if_neg (by omega), if_neg (by omega)]]
                    exact (tw.2.2.2.2 yN j hj).symm
          · refine jb_if_d (jd_ne (jv_li rfl) jv_ci) (fun _ => ?_) (fun z => absurd y1 z)
            have yN : ¬ rN.1 = 0 := fun y => y1 (tw.1.symm.trans y)
            refine jt_rI (jv_li rfl) (q1 r3.1 f3 g3 r3.2.1 y1 ?_ ?_ (raG_F frA) grA w3.1.2.2.2.1.2.1)
            · rw [acs_3 k3' c2, hrN]; unfold nmP lfR; rw [if_neg yN]; exact tw.1
            · rw [acs_3 k3' c2, hrN]; unfold nmP lfR; rw [if_neg yN]; exact tw.2.1
        · have k4 : akC T Ln s = 4 := by omega
          refine jx_mI (jr_lr rfl) rfl jA_0 (kX12_field (h := (h.1, f2, g2)) hA2 (by omega) fun r3 f3 g3 e3 fr3 gr3 w3 => ⟨_, rfl, fun _ => ?_⟩)
          have tw := nm2_4 (T := T) (Ln := Ln) (b := 7 * A) (b' := t0 + 1 + 12 * A) (s := nxS T Ln s) (N := N) (X := f1 93)
          rw [← e3] at tw
          generalize hrN : nms T Ln (7 * A) [(0, 0, 99), (0 + 1, 0, 99), (0 + 2, 1, 99), (0 + 3, 1, 99)] (nxS T Ln s) N = rN at tw
          have frA := raF_tr fr2 fr3
          have grA := jnl_tr gr2 gr3
          by_cases y1 : r3.1 = 0
          · refine jb_if_d (jd_ne (jv_li rfl) jv_ci) (fun z => absurd y1 z) (fun _ => ?_)
            obtain ⟨hB3, _, x32, x33, xX⟩ := w3.2 y1
            have k3 : f3 90 21 = tkM (tkK T Ln r3.2.1) := hB3.2.2.2.1.2.2.1
            have m59 := tkM_s (k := tkK T Ln r3.2.1) (v := 59) (by decide)
            have yN : rN.1 = 0 := tw.1.trans y1
            refine jb_if_d (jd_ne (jv_gF (jr_lr rfl) rfl k3) jv_ci) (fun z => ?_) (fun z => ?_)
            · have z : ¬ tkK T Ln r3.2.1 = 59 := fun y => z (m59.mpr y)
              refine jt_rI jv_ci (q1 1 f3 g3 r3.2.1 (by decide) ?_ ?_ (raG_F frA) grA w3.1.2.2.2.1.2.1)
              · rw [acs_4 k4 c2, hrN]; unfold nmP lfR; rw [if_pos yN, tw.2.1, if_neg z]
              · rw [acs_4 k4 c2, hrN]; unfold nmP lfR; rw [if_pos yN, tw.2.1, if_neg z]
            · have z : tkK T Ln r3.2.1 = 59 := m59.mp (Classical.not_not.mp z)
              refine jx_m (jr_lr rfl) rfl jA_0 (kX12_nextB (h := (h.1, f3, g3)) hB3 fun f4 g4 fr4 gr4 hB4 => ⟨rfl, ?_⟩)
              refine jt_rI jv_ci (q0 f4 g4 _ rfl ?_ (by omega) (raG_F (raF_tr frA (raF_nf fr4))) (jnl_tr grA gr4) ?_)
              · rw [acs_4 k4 c2, hrN]; unfold nmP lfR; rw [if_pos yN, tw.2.1, if_pos z]
              · rw [acs_4 k4 c2, hrN]
                unfold nmP lfR
                rw [if_pos yN, tw.2.1, if_pos z]
                dsimp only
                have e93 : f4 93 = r3.2.2 := (fr4.1 93 (by simp)).trans xX
                refine raT_mk hT (by omega) hB4 (raF_tr frA (raF_nf fr4)) ?_ ?_
                · rw [e93, tw.2.2.2.1 t0 (by omega)]; exact v0
                · rw [e93]
                  refine txR_add htx (fun i h1 h2 => ?_) (fun j hj => tw.2.2.1 j hj) (fun a ha => ha) ?_ (fun j hj _ => ?_)
                  · rw [tw.2.2.2.1 i (by omega)]; exact o _ _ (by omega) (by omega)
                  · rw [tw.2.2.2.1 _ (by omega), v1]; omega
                  · have hj : j < 4 := hj
                    rw [show msl 4 j = j + 1 by unfold msl; rw [if_neg (by omega), if_neg (by omega), if_neg (by omega)]]
                    exact (tw.2.2.2.2 yN j hj).symm
          · refine jb_if_d (jd_ne (jv_li rfl) jv_ci) (fun _ => ?_) (fun z => absurd y1 z)
            have yN : ¬ rN.1 = 0 := fun y => y1 (tw.1.symm.trans y)
            refine jt_rI (jv_li rfl) (q1 r3.1 f3 g3 r3.2.1 y1 ?_ ?_ (raG_F frA) grA w3.1.2.2.2.1.2.1)
            · rw [acs_4 k4 c2, hrN]; unfold nmP lfR; rw [if_neg yN]; exact tw.1
            · rw [acs_4 k4 c2, hrN]; unfold nmP lfR; rw [if_neg yN]; exact tw.2.1
