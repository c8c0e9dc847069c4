def txF (t0 : Nat) (I f : Nat → Nat → Int) : Prop := jfr [90, 93, 98, 99] I f ∧ (∀ j, j < 19 ∨ 35 < j → f 90 j = I 90 j) ∧ ∀ i, i < t0 ∨ t0 + 1000 ≤ i → f 93 i = I 93 i
theorem txF_tr {t0 : Nat} {I f g : Nat → Nat → Int} (a : txF t0 I f) (b : raG t0 f g) : txF t0 I g := ⟨jfr_tr a.1 b.1, fun j hj => (b.2.1 j (by omega)).trans (a.2.1 j hj), fun i hi => (b.2.2 i hi).trans (a.2.2 i hi)⟩
theorem txR_close {X X' K N : Nat → Int} {t0 A a : Nat} {st : List Nat} (h : txR X t0 A K N (a :: st)) (hK : K a = 5) (hX : ∀ i, i ≠ t0 + 1 + 12 * a + 10 → X' i = X i) (hv : X' (t0 + 1 + 12 * a + 10) = (A : Int)) : txR X' t0 A K (upF N (7 * a + 1) (A : Int)) st := by
  intro b hb
  obtain ⟨h1, h2⟩ := h b hb
  refine ⟨by rw [hX _ (by omega)]; exact h1, fun j hj hj2 => ?_⟩
  have jb := nsl_b (k := K b)
  have mb := msl_b (k := K b) (j := j) (by omega)
  by_cases z : b = a
  · subst z
    have hj3 : j < 2 := by rw [hK] at hj; exact hj
    by_cases z1 : j = 1
    · subst z1
      rw [hK, show msl 5 1 = 10 from rfl, hv]
      unfold upF
      rw [if_pos rfl]
    · have : j = 0 := by omega
      subst this
      rw [hK, show msl 5 0 = 1 from rfl, hX _ (by omega)]
      unfold upF
      rw [if_neg (by omega)]
      have := h2 0 hj (fun _ y => absurd y (by decide))
      rw [hK] at this
      exact this
  · rw [hX _ (by omega)]
    unfold upF
    rw [if_neg (by omega)]
    refine h2 j hj (fun y1 y2 y3 => ?_)
    rcases List.mem_cons.mp y3 with y | y
    · exact z y
    · exact hj2 y1 y2 y
set_option maxRecDepth 10000 in
theorem kX12_readText {l : Launch} {d n Ln t : Nat} {T K N : Nat → Int} {h : ja_H} {Q : ja_Q} (hG : jG h.1) (hL : h.2.1 90 16 = (Ln : Int)) (hL3 : Ln ≤ 300) (hTT : h.2.1 97 = T) (hb : ∀ j, j < Ln → 0 ≤ T j ∧ T j ≤ 255) (ht : h.2.1 91 3 = (t : Int)) (ht6 : t < 6) (R : acR) (hR : R = txA T Ln K N)
    (q : ∀ f g, txF (1000 * t) h.2.1 f → jnl h.2.2 g → f 90 20 = ((R.2.1 : Nat) : Int) → (R.1 = 0 → f 93 (1000 * t) = (R.2.2.1 : Int) ∧ txR (f 93) (1000 * t) R.2.2.1 R.2.2.2.1 R.2.2.2.2.1 [] ∧ cdR (1000 * t) R.2.2.2.2.2 f) → Q (some (.inl R.1)) (h.1, f, g)) : ja_C l (d + 9) mX12_readText (js_sh n) [.inr (.inr (some 90))] h Q := by
  have h3 : h.2.1 91 (3 : Int).toNat = (t : Int) := ht
  refine eX12_readText _ fun ho => ?_
  unfold bX12_readText
  refine jt_pI (jr_lr rfl) rfl (jv_is (x' := ((1000 * t : Nat) : Int)) (jv_w (jv_mul jv_ci (jv_fI (jr_g (jr_lr rfl) rfl (by exact jG_90 hG rfl)) jv_ci rfl (by decide) (by decide) h3)) (by unfold ja_r; omega)) (by omega)) ?_
  have x24 : ja_up h.2.1 90 24 ((1000 * t : Nat) : Int) 90 24 = ((1000 * t : Nat) : Int) := ja_upE rfl rfl
  refine jt_wI (jr_g (jr_lr rfl) rfl (by exact jG_90 hG rfl)) rfl (jv_gF (jr_lr rfl) rfl x24) jv_ci (by omega) (by omega) ?_
  rw [show ((1000 * t : Nat) : Int).toNat = 1000 * t by omega]
  refine jt_pI (jr_lr rfl) rfl jv_ci ?_
  refine jt_pI (jr_lr rfl) rfl jv_ci ?_
  refine jt_pI (jr_lr rfl) rfl jv_ci ?_
  refine jt_pI (jr_lr rfl) rfl jv_ci ?_
  dsimp only
  obtain ⟨f1, hf1⟩ : ∃ f1, ja_up (ja_up (ja_up (ja_up (ja_up (ja_up h.2.1 90 24 ((1000 * t : Nat) : Int)) 93 (1000 * t) 0) 90 26 0) 90 30 0) 90 35 0) 90 19 0 = f1 := ⟨_, rfl⟩
  have o : ∀ c j, (c ≠ 90 ∨ (j ≠ 24 ∧ j ≠ 26 ∧ j ≠ 30 ∧ j ≠ 35 ∧ j ≠ 19)) → (c ≠ 93 ∨ j ≠ 1000 * t) → f1 c j = h.2.1 c j := fun c j y1 y2 => by rw [← hf1, ja_upO (by omega), ja_upO (by omega), ja_upO (by omega), ja_upO (by omega), ja_upO (by omega), ja_upO (by omega)]
  have v24 : f1 90 24 = ((1000 * t : Nat) : Int) := by rw [← hf1, ja_upO (by omega), ja_upO (by omega), ja_upO (by omega), ja_upO (by omega), ja_upO (by omega), ja_upE rfl rfl]
  have v0 : f1 93 (1000 * t) = ((0 : Nat) : Int) := by rw [← hf1, ja_upO (by omega), ja_upO (by omega), ja_upO (by omega), ja_upO (by omega), ja_upE rfl rfl]; rfl
  have v26 : f1 90 26 = ((0 : Nat) : Int) := by rw [← hf1, ja_upO (by omega), ja_upO (by omega), ja_upO (by omega), ja_upE rfl rfl]; rfl
  have v30 : f1 90 30 = ((0 : Nat) : Int) := by rw [← hf1, ja_upO (by omega), ja_upO (by omega), ja_upE rfl rfl]; rfl
  have v35 : f1 90 35 = ((0 : Nat) : Int) := by rw [← hf1, ja_upO (by omega), ja_upE rfl rfl]; rfl
  have v19 : f1 90 19 = ((0 : Nat) : Int) := by rw [← hf1, ja_upE rfl rfl]; rfl
  have fr1 : txF (1000 * t) h.2.1 f1 := ⟨by rw [← hf1]; exact jfr_up (jfr_up (jfr_up (jfr_up (jfr_up (jfr_up (jfr_rf _ _) (by simp)) (by simp)) (by simp)) (by simp)) (by simp)) (by simp), fun j hj => o _ _ (by omega) (by omega), fun i hi => o _ _ (by omega) (by omega)⟩
  have l1 : f1 90 16 = (Ln : Int) := (o _ _ (by omega) (by omega)).trans hL
  have t1 : f1 97 = T := by rw [← hTT]; funext j; exact o _ _ (by omega) (by omega)
  rw [hf1]
  refine jx_m (jr_lr rfl) rfl jA_0 (kX12_nextToken (h := (h.1, f1, h.2.2)) (a := 0) hG l1 hL3 t1 hb v19 (by omega) fun f2 g2 fr2 gr2 ft => ⟨rfl, ?_⟩)
  have sb : tkS T Ln 0 ≤ Ln := (rnE_b (p := blk) (T := T) (Ln := Ln) 0).2.1 (by omega)
  have c93 : f2 93 = f1 93 := fr2.1 93 (by simp)
  have hT0 : raT T Ln (1000 * t) (tkS T Ln 0) 0 K N [] [] (h.1, f2, g2) := ⟨⟨hG, ⟨(fr2.2 16 (by omega)).trans l1, hL3, (fr2.1 97 (by simp)).trans t1, hb⟩, sb, ft, ⟨(fr2.2 24 (by omega)).trans v24, by omega⟩, ⟨(fr2.2 26 (by omega)).trans v26, (fr2.2 30 (by omega)).trans v30⟩, fun j hj => absurd hj (by simp)⟩, ⟨(fr2.2 35 (by omega)).trans v35, by simp, trivial, by simp⟩, by omega, (congrFun c93 _).trans v0, fun a ha => absurd ha (by omega)⟩
  refine jb_whl (fun m L' h' => ∃ (o1 : Option ja_W) (f g : Nat → Nat → Int) (s A : Nat) (K' N' : Nat → Int) (cl : List Int) (st : List Nat), L' = [some (.inr (.inr (some 90))), o1] ∧ (h.1, f, g) = h' ∧ txF (1000 * t) h.2.1 f ∧ jnl h.2.2 g ∧ raT T Ln (1000 * t) s A K' N' cl st (h.1, f, g) ∧ (s + m = Ln ∧ cl.length ≤ s) ∧ ca T Ln st (ac T Ln 1 st.length (eOf st) s A K' N' cl) = R) ⟨Ln - tkS T Ln 0, none, f2, g2, tkS T Ln 0, 0, K, N, [], [], rfl, rfl, txF_tr fr1 (raG_F (raF_nf fr2)), gr2, hT0, ⟨by omega, by simp⟩, hR.symm⟩ ?_
  rintro m _ _ ⟨o1, f, g, s, A, K', N', cl, st, rfl, rfl, fr, gr, hT, ⟨hm, hcl⟩, hcv⟩
  obtain ⟨hB, ⟨h35, hst8, har, hsta⟩, hA16, hXA, htx⟩ := id hT
  obtain ⟨_, ⟨hL1, _, hT1, _⟩, hs, hk, ⟨h24, ht0⟩, ⟨h26, h30⟩, hc⟩ := id hB
  dsimp only at h35 hXA hL1 hT1 h24 h26 h30
  have k3 : f 90 21 = tkM (tkK T Ln s) := hk.2.2.1
  have k20 : f 90 20 = (s : Int) := hk.2.1
  have m0 := tkM_s (k := tkK T Ln s) (v := 0) (by decide)
  have m125 := tkM_s (k := tkK T Ln s) (v := 125) (by decide)
  have nb := nxS_b (T := T) hs
  refine (jd_ne (jv_gF (jr_lr rfl) rfl k3) jv_ci) _ _ (fun c => ?_) (fun c => ?_)
  · have c : tkK T Ln s ≠ 0 := fun y => c (m0.mpr y)
    have sl := nb.2.2 (tkK_0 c)
    refine jb_if_d (jd_eq (φ' := tkK T Ln s = 125 ∧ 0 < st.length) (jd_and (jd_eqI (jv_gF (jr_lr rfl) rfl k3) jv_ci) (fun _ => jd_gt (jv_gF (jr_lr rfl) rfl h35) jv_ci)) (by rw [m125]; omega)) (fun z => ?_) (fun z => ?_)
    · obtain ⟨a, st2, rfl⟩ : ∃ a st2, st = a :: st2 := by
        cases st with
        | nil => exact absurd z.2 (by simp)
        | cons a st2 => exact ⟨a, st2, rfl⟩
      have ha := hsta a (by simp)
      simp only [List.length_cons] at h35 h30 hst8
      refine jt_uG (w := (st2.length : Int)) (jr_lr rfl) rfl jv_ci (by dsimp only; rw [h35, ja_w_id (by unfold ja_r; omega)]; omega) ?_
      refine jt_uG (w := (st2.length : Int)) (jr_lr rfl) rfl jv_ci (by dsimp only; rw [ja_upO (by omega), h30, ja_w_id (by unfold ja_r; omega)]; omega) ?_
      dsimp only
      obtain ⟨f3, hf3⟩ : ∃ f3, ja_up (ja_up f 90 35 (st2.length : Int)) 90 30 (st2.length : Int) = f3 := ⟨_, rfl⟩
      have o3 : ∀ c j, (c ≠ 90 ∨ (j ≠ 30 ∧ j ≠ 35)) → f3 c j = f c j := fun c j y => by rw [← hf3, ja_upO (by omega), ja_upO (by omega)]
      have y35 : f3 90 35 = (st2.length : Int) := by rw [← hf3, ja_upO (by omega), ja_upE rfl rfl]
      have y30 : f3 90 30 = (st2.length : Int) := by rw [← hf3, ja_upE rfl rfl]
      have y24 : f3 90 24 = ((1000 * t : Nat) : Int) := (o3 _ _ (by omega)).trans h24
      have y99 : f3 99 ((st2.length : Nat) : Int).toNat = ((1000 * t + 1 + 12 * a : Nat) : Int) := by rw [o3 _ _ (by omega)]; exact har.1
      have y0 : f3 93 ((1000 * t : Nat) : Int).toNat = (A : Int) := by rw [o3 _ _ (by omega)]; exact hXA
      rw [hf3]
      refine jt_wI (jr_g (jr_lr rfl) rfl (by exact jG_90 hG rfl)) rfl (jv_w (jv_add (jv_fI (jr_g (jr_lr rfl) rfl (by exact jG_90 hG rfl)) (jv_gF (jr_lr rfl) rfl y35) rfl (by omega) (by omega) y99) jv_ci) (by unfold ja_r; omega)) (jv_fI (jr_g (jr_lr rfl) rfl (by exact jG_90 hG rfl)) (jv_gF (jr_lr rfl) rfl y24) rfl (by omega) (by omega) y0) (by omega) (by omega) ?_
      dsimp only
      rw [show (((1000 * t + 1 + 12 * a : Nat) : Int) + 10).toNat = 1000 * t + 1 + 12 * a + 10 by omega]
      obtain ⟨f4, hf4⟩ : ∃ f4, ja_up f3 93 (1000 * t + 1 + 12 * a + 10) (A : Int) = f4 := ⟨_, rfl⟩
      have o4 : ∀ c j, (c ≠ 93 ∨ j ≠ 1000 * t + 1 + 12 * a + 10) → f4 c j = f3 c j := fun c j y => by rw [← hf4, ja_upO y]
      have z93 : f4 93 (1000 * t + 1 + 12 * a + 10) = (A : Int) := by rw [← hf4, ja_upE rfl rfl]
      have o5 : ∀ c j, (c ≠ 90 ∨ (j ≠ 30 ∧ j ≠ 35)) → (c ≠ 93 ∨ j ≠ 1000 * t + 1 + 12 * a + 10) → f4 c j = f c j := fun c j y1 y2 => (o4 c j y2).trans (o3 c j y1)
      have fr4 : raG (1000 * t) f f4 := ⟨by rw [← hf4, ← hf3]; exact jfr_up (jfr_up (jfr_up (jfr_rf _ _) (by simp)) (by simp)) (by simp), fun j hj => o5 _ _ (by omega) (by omega), fun i hi => o5 _ _ (by omega) (by omega)⟩
      have hB4 : raB T Ln (1000 * t) s cl st2.length (h.1, f4, g) := ⟨hG, ⟨(o5 _ _ (by omega) (by omega)).trans hL1, hL3, (by funext j; exact o5 _ _ (by omega) (by omega) : f4 97 = f 97).trans hT1, hb⟩, hs, tkP_o hk (fun j _ _ => o5 _ _ (by omega) (by omega)), ⟨(o5 _ _ (by omega) (by omega)).trans h24, ht0⟩, ⟨(o5 _ _ (by omega) (by omega)).trans h26, (o4 _ _ (by omega)).trans y30⟩, fun j hj => ⟨(o5 _ _ (by omega) (by omega)).trans (hc j hj).1, (o5 _ _ (by omega) (by omega)).trans (hc j hj).2⟩⟩
      rw [hf4]
      refine jx_m (jr_lr rfl) rfl jA_0 (kX12_nextB (h := (h.1, f4, g)) hB4 fun f5 g5 fr5 gr5 hB5 => ⟨rfl, ?_⟩)
      have e93 : f5 93 = f4 93 := fr5.1 93 (by simp)
      refine ⟨Ln - nxS T Ln s, by omega, o1, f5, g5, nxS T Ln s, A, K', upF N' (7 * a + 1) (A : Int), cl, st2, rfl, rfl, txF_tr fr (raG_tr fr4 (raG_F (raF_nf fr5))), jnl_tr gr gr5, ⟨hB5, ⟨(fr5.2 35 (by omega)).trans ((o4 _ _ (by omega)).trans y35), by omega, ?_, fun b hb => hsta b (List.mem_cons_of_mem _ hb)⟩, hA16, ?_, ?_⟩, ⟨by omega, by omega⟩, ?_⟩
      · exact arR_o (fun j hj => (congrFun (fr5.1 99 (by simp)) j).trans (o5 _ _ (by omega) (by omega))) har.2
      · show f5 93 _ = _
        rw [e93, o5 _ _ (by omega) (by omega)]; exact hXA
      · show txR (f5 93) _ _ _ _ _
        rw [e93]
        exact txR_close htx ha.2 (fun i hi => o5 _ _ (by omega) (by omega)) z93
      · have ee : ac T Ln 1 (a :: st2).length (eOf (a :: st2)) s A K' N' cl = (0, s, A, K', N', cl) := ac_1e (by unfold eOf; rw [if_neg (by simp)]; exact z.1)
        rw [← hcv, ca, ee, if_pos rfl]
    · have hke : tkK T Ln s ≠ eOf st := by
        unfold eOf
        split
        · exact c
        · intro y; exact z ⟨y, by omega⟩
      refine jx_mI (jr_lr rfl) rfl jA_0 (kX12_oneAct (h := (h.1, f, g)) (k := 2 * Ln + 1) hT hcl (fun v f5 g5 s' hv e1 e2 fr5 gr5 e20 => ⟨_, rfl, fun _ => ?_⟩) (fun f5 g5 r er r0 rk fr5 gr5 w5 => ⟨_, rfl, fun _ => ?_⟩) (fun f5 g5 r k5 a16 er r0 rk r8 fr5 gr5 w5 => ⟨_, rfl, fun _ => ?_⟩))
      · refine jb_if_d (jd_ne (jv_li rfl) jv_ci) (fun _ => ?_) (fun y => absurd hv y)
        refine jt_rI (jv_li rfl) ?_
        have e0 : ac T Ln 0 st.length 0 s A K' N' cl = R := by
          rw [← hcv, ac_1 hs hcl hA16 hke]
          have : (ac T Ln 0 st.length 0 s A K' N' cl).1 ≠ 0 := by
            intro y
            apply hv
            rw [← e1]
            exact y
          rw [if_neg this, ca_f this]
        have e1 : R.1 = v := by rw [← e0]; exact e1
        have e2 : R.2.1 = s' := by rw [← e0]; exact e2
        rw [← e1]
        exact q f5 g5 (txF_tr fr fr5) (jnl_tr gr gr5) (by rw [e2]; exact e20) (fun y => absurd (e1.symm.trans y) hv)
      · refine jb_if_d (jd_ne (jv_li rfl) jv_ci) (fun y => absurd rfl y) (fun _ => ?_)
        have e0 : ac T Ln 0 st.length 0 s A K' N' cl = r := er.symm
        have zb := acs_b (T := T) (Ln := Ln) (kf := 6 * Ln + 3) (2 * Ln + 1 + 1) 0 st.length 0 s A K' N' cl hs hcl hA16
        rw [← er] at zb
        have z2 := zb.2.2.2.2.2 rfl r0
        have zl := zb.2.1
        refine ⟨Ln - r.2.1, by omega, _, f5, g5, r.2.1, r.2.2.1, r.2.2.2.1, r.2.2.2.2.1, r.2.2.2.2.2, st, rfl, rfl, txF_tr fr fr5, jnl_tr gr gr5, w5, ⟨by omega, zb.2.2.1⟩, ?_⟩
        rw [← hcv, ac_1 hs hcl hA16 hke, e0, if_pos r0]
      · refine jb_if_d (jd_ne (jv_li rfl) jv_ci) (fun y => absurd rfl y) (fun _ => ?_)
        have b1 := nms_b (T := T) (b := 7 * A) [(0, 1, 9)] (nxS T Ln s) N' nb.2.1
        rw [← er] at b1
        have n1 := nxS_b (T := T) b1.2
        refine ⟨Ln - nxS T Ln r.2.1, by omega, _, f5, g5, nxS T Ln r.2.1, A + 1, upF K' A 5, r.2.2, cl, A :: st, rfl, rfl, txF_tr fr fr5, jnl_tr gr gr5, w5, ⟨by omega, by omega⟩, ?_⟩
        rw [← hcv, ca_5 hs hcl hA16 hke k5 a16 er r0 rk r8]
        rfl
  · have c : tkK T Ln s = 0 := m0.mp (Classical.not_not.mp c)
    refine jt_rI (x := if 0 < st.length then (1 : Int) else 0) (jv_is (jv_cv (jd_gt (jv_gF (jr_lr rfl) rfl h35) jv_ci) (fun _ => jv_ci) (fun _ => jv_ci)) ?_) ?_
    · by_cases z : 0 < st.length
      · rw [if_pos z, if_pos (by omega)]
      · rw [if_neg z, if_neg (by omega)]
    · by_cases z : 0 < st.length
      · rw [if_pos z]
        have e1 : R = (1, s, A, K', N', cl) := by
          have e0 : ac T Ln 0 st.length 0 s A K' N' cl = (1, s, A, K', N', cl) := by
            have : akC T Ln s = -1 := by
              have ab := akC_b (T := T) (Ln := Ln) (s := s)
              by_cases y : akC T Ln s = -1
              · exact y
              · have := akC_k y; omega
            exact acs_n this
          rw [← hcv, ac_1 hs hcl hA16 (by unfold eOf; rw [if_neg (by omega), c]; decide), e0, if_neg (fun y => absurd (show (1 : Int) = 0 from y) (by decide)), ca_f (fun y => absurd (show (1 : Int) = 0 from y) (by decide))]
        have := q f g fr gr (by rw [e1]; exact k20) (by rw [e1]; exact fun y => absurd (show (1 : Int) = 0 from y) (by decide))
        rw [e1] at this
        exact this
      · rw [if_neg z]
        have : st = [] := by cases st with | nil => rfl | cons a b => simp at z
        subst this
        have e1 : R = (0, s, A, K', N', cl) := by rw [← hcv, ca]; exact ac_1e c
        have := q f g fr gr (by rw [e1]; exact k20) (by rw [e1]; exact fun _ => ⟨hXA, htx, hc⟩)
        rw [e1] at this
        exact this
