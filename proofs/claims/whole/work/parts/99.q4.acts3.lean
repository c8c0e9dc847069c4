set_option maxRecDepth 10000 in
theorem kX5_readAct {l : Launch} {n Ln P k kf : Nat} {T : Nat → Int} (ihs : jAs l n T Ln P kf k) (hkf : 6 * Ln + 3 ≤ kf) : jAc l n T Ln P kf (k + 1) := by
  intro D s A o K N cl F Fp h Q hA hcl ho8 hf hD q
  obtain ⟨d, rfl⟩ : ∃ d, D = d + 12 := ⟨D - 12, by omega⟩
  obtain ⟨⟨hG, hg, h6, hP⟩, ⟨hL, hL3, hT, hb⟩, hs, hk, hc⟩ := id hA.1
  have nb := nxS_b (T := T) hs
  rw [acs, if_pos rfl] at q
  refine eX5_readAct _ _ fun ro ho => ?_
  unfold bX5_readAct
  refine jt_sI (jy_mI (jr_lr rfl) rfl jA_0 fun _ => kX5_actKind hG hL hL3 hT hs hk) ?_
  by_cases z : akC T Ln s = -1
  · rw [if_pos z] at q
    refine jb_if_d (jd_eqI (jv_li rfl) jv_ci) (fun _ => ?_) (fun y => absurd z y)
    have w := ac_rd hA rfl (rd_ref (v := 1) hA.1 (by decide)) hs
    simp only [List.append_nil] at w
    exact jx_mI (jr_lr rfl) rfl (jA_i jA_0 jv_ci) (kX5_refuse hG ⟨_, rfl, fun _ => ⟨Or.inl rfl, q _ rfl _ w⟩⟩)
  rw [if_neg z] at q
  have sl := nb.2.2 (tkK_0 (T := T) (by rw [akC_k z]; decide))
  refine jb_if_d (jd_eqI (jv_li rfl) jv_ci) (fun y => absurd y z) (fun _ => ?_)
  refine jx_mI (jr_g (jr_lr rfl) rfl h6) hg.1 (jA_i jA_0 (jv_li rfl)) (kX4_addAct hg hA.2.1.1 hA.2.1.2.1 (fun c16 => ⟨_, rfl, fun _ => ?_⟩) (fun c16 => ⟨_, rfl, fun _ => ?_⟩))
  · rw [if_neg (show ¬ A = 16 by omega)] at q
    refine jb_if_d (jd_eqI (jv_li rfl) jv_ci) (fun y => absurd y (by omega)) (fun _ => ?_)
    obtain ⟨w1, hA1⟩ := ac_act (v := akC T Ln s) hA c16
    generalize ja_up (ja_up h.2.1 (P + 1) A (akC T Ln s)) P 3 ((A : Int) + 1) = f1 at w1 hA1 ⊢
    have hS1 := hA1.1
    refine jx_m (jr_lr rfl) rfl jA_0 (kX5_advance (h := (h.1, f1, h.2.2)) hG hS1.2.1.1 hL3 hS1.2.1.2.2.1 hb hS1.2.2.2.1.1 (tkE_b hs).2.1 fun f2 fr ft => ⟨rfl, ?_⟩)
    have w2 := ac_rd hA1 rfl (rd_adv hS1 fr ft) nb.2.1
    simp only [List.append_nil] at w2
    try dsimp only at w2
    have hA2 : acS n T Ln P (nxS T Ln s) (A + 1) (upF K A (akC T Ln s)) N cl F Fp (h.1, f2, h.2.2) := w2.2
    have fr2 := acF_tr w1 w2.1
    refine jt_sw (jv_li rfl) ?_
    simp only [jb_cs]
    by_cases z1 : akC T Ln s = 1
    · rw [if_pos z1]
      rw [if_pos z1] at q
      refine jx_mI (jr_lr rfl) rfl (jA_i jA_0 (jv_li rfl)) (kX5_readPaste hA2 c16 (fun r er f3 w3 => ⟨_, rfl, fun _ => ⟨?_, ?_⟩⟩))
      · by_cases y : r.1 = 0 <;> simp [y]
      · exact q (lfR (A + 1) (upF K A (akC T Ln s)) cl r) (by rw [er]) f3 ⟨acF_tr fr2 w3.1, w3.2⟩
    rw [if_neg z1]
    rw [if_neg z1] at q
    by_cases z2 : akC T Ln s = 2
    · rw [if_pos z2]
      rw [if_pos z2] at q
      refine jx_mI (jr_lr rfl) rfl (jA_i (jA_i jA_0 (jv_li rfl)) (jv_li rfl)) (kX5_readPaint hA2 c16 (by omega) ho8 hkf (by omega) (fun r er f3 w3 => ⟨_, rfl, fun _ => ⟨?_, ?_⟩⟩))
      · by_cases y : r.1 = 0 <;> simp [y]
      · exact q r er f3 (acG_tr fr2 w3)
    rw [if_neg z2]
    rw [if_neg z2] at q
    by_cases z3 : akC T Ln s = 3
    · rw [if_pos z3]
      rw [if_pos z3] at q
      refine jx_mI (jr_lr rfl) rfl (jA_i jA_0 (jv_li rfl)) (kX5_readKeep hA2 c16 (fun r er f3 w3 => ⟨_, rfl, fun _ => ⟨?_, ?_⟩⟩))
      · by_cases y : r.1 = 0 <;> simp [y]
      · exact q (lfR (A + 1) (upF K A (akC T Ln s)) cl r) (by rw [er]) f3 ⟨acF_tr fr2 w3.1, w3.2⟩
    rw [if_neg z3]
    rw [if_neg z3] at q
    by_cases z4 : akC T Ln s = 4
    · rw [if_pos z4]
      rw [if_pos z4] at q
      refine ⟨_, ?_, fun _ _ _ q => q⟩
      refine jx_mI (jr_lr rfl) rfl (jA_i (jA_i jA_0 (jv_li rfl)) jv_ci) (kX5_readField hA2 c16 (t := 0) (by omega) rfl (fun r1 er f3 w3 => ⟨_, rfl, fun _ => ?_⟩))
      rw [← er] at q
      by_cases e1 : r1.1 = 0
      · rw [if_pos e1, if_neg (by decide)]
        refine jx_mI (jr_lr rfl) rfl (jA_i jA_0 jv_ci) (kX5_passN (acN_S w3 e1) (fun r er2 f4 w4 => ⟨_, rfl, fun _ => ?_⟩))
        have w := q (lfR (A + 1) (upF K A (akC T Ln s)) cl r) (by rw [er2]; unfold nmP; rw [if_pos e1, if_pos rfl]) f4 ⟨acF_tr fr2 (acF_tr w3.1 w4.1), w4.2⟩
        rw [show (lfR (A + 1) (upF K A (akC T Ln s)) cl r).1 = r.1 from rfl] at w
        by_cases e4 : r.1 = 0
        · rw [if_pos e4] at w ⊢
          rw [if_neg (by decide)]
          exact ⟨Or.inr rfl, w⟩
        · rw [if_neg e4] at w ⊢
          rw [if_pos rfl]
          exact ⟨Or.inl rfl, w⟩
      · rw [if_neg e1, if_pos rfl]
        have w := q (lfR (A + 1) (upF K A (akC T Ln s)) cl r1) (by unfold nmP; rw [if_neg e1]) f3 ⟨acF_tr fr2 w3.1, w3.2⟩
        rw [show (lfR (A + 1) (upF K A (akC T Ln s)) cl r1).1 = r1.1 from rfl, if_neg e1] at w
        exact ⟨Or.inl rfl, w⟩
    rw [if_neg z4]
    rw [if_neg z4] at q
    refine jx_mI (jr_lr rfl) rfl (jA_i (jA_i jA_0 (jv_li rfl)) (jv_li rfl)) (kX5_readRepeat (d := d) hA2 (by omega) ho8 ihs (by omega) (by omega) (fun r er f3 w3 => ⟨_, rfl, fun _ => ⟨?_, ?_⟩⟩))
    · by_cases y : r.1 = 0 <;> simp [y]
    · exact q r (by rw [er]; rfl) f3 (acG_tr fr2 w3)
  · rw [if_pos c16] at q
    refine jb_if_d (jd_eqI (jv_li rfl) jv_ci) (fun _ => ?_) (fun y => absurd rfl y)
    have w := ac_rd hA rfl (rd_ref (v := 4) hA.1 (by decide)) hs
    simp only [List.append_nil] at w
    exact jx_mI (jr_lr rfl) rfl (jA_i jA_0 jv_ci) (kX5_refuse hG ⟨_, rfl, fun _ => ⟨Or.inl rfl, q _ rfl _ w⟩⟩)
set_option maxRecDepth 10000 in
theorem kX5_readActs {l : Launch} {n Ln P k kf : Nat} {T : Nat → Int} (ih : ∀ j, j ≤ k → jAc l n T Ln P kf j) : jAs l n T Ln P kf (k + 1) := by
  intro D s A o b K N cl F Fp h Q hA hcl ho8 hf hD q
  obtain ⟨d, rfl⟩ : ∃ d, D = d + 13 := ⟨D - 13, by omega⟩
  obtain ⟨⟨hG, hg, h6, hP⟩, ⟨hL, hL3, hT, hb⟩, hs, hk, hc⟩ := id hA.1
  obtain ⟨R, hR⟩ : ∃ R, acs T Ln kf (k + 1) 1 o (esg b) s A K N cl = R := ⟨_, rfl⟩
  rw [hR] at q
  refine eX5_readActs _ _ _ fun ro _ ho => ?_
  unfold bX5_readActs
  refine jt_sI jv_ci ?_
  refine jb_lpu (fun m L' h' => ∃ (i s' A' j : Nat) (K' N' : Nat → Int) (cl' : List Int) (f : Nat → Nat → Int), L' = [some (.inr (.inr (some 48))), some (.inl (o : Int)), some (.inl b), some (.inl (i : Int))] ∧ (h.1, f, h.2.2) = h' ∧ acF P h.2.1 f ∧ acS n T Ln P s' A' K' N' cl' F Fp (h.1, f, h.2.2) ∧ (cl'.length ≤ s' ∧ i + A ≤ A' ∧ m + i = 17 ∧ 2 * (Ln - s') + 2 ≤ j ∧ j ≤ k + 1) ∧ acs T Ln kf j 1 o (esg b) s' A' K' N' cl' = R) ⟨17, 0, s, A, k + 1, K, N, cl, h.2.1, rfl, rfl, acF_rf, hA, ⟨hcl, by omega, by omega, by omega, by omega⟩, hR⟩ ?_
  intro m L' h' w
  obtain ⟨i, s', A', j, K', N', cl', f, w1, w2, fr, hA', w3, jR⟩ := w
  have a1 := w3.1
  have a2 := w3.2.1
  have a3 := w3.2.2.1
  have j1 := w3.2.2.2.1
  have j2 := w3.2.2.2.2
  clear w3
  subst w1
  subst w2
  obtain ⟨_, ⟨hL1, _, hT1, _⟩, hs1, hk1, hc1⟩ := id hA'.1
  have a16 := hA'.2.1.2.1
  have ej : j = (j - 1) + 1 := by omega
  generalize j - 1 = j0 at ej
  subst ej
  rw [acs, if_neg (by decide)] at jR
  refine (jd_eq (φ' := True) (jd_le (jv_li rfl) jv_ci) (by simp; omega)) _ _ (fun _ => ?_) (fun z => absurd trivial z)
  refine jb_if_d (jd_eqI (jv_gF (jr_lr rfl) rfl hk1.2.1) (jv_cv (jd_bt (jv_li rfl)) (fun _ => jv_ci) (fun _ => jv_ci))) (fun y => ?_) (fun y => ?_)
  · rw [if_pos (show tkK T Ln s' = esg b from y)] at jR
    exact jv_ci _ ⟨Or.inr rfl, by subst jR; exact q _ rfl f ⟨fr, hA'⟩⟩
  · rw [if_neg (show ¬ tkK T Ln s' = esg b from y)] at jR
    refine jb_if_p ?_
    refine jx_mI (jr_lr rfl) rfl (jA_i jA_0 (jv_li rfl)) (ih j0 (by omega) hA' a1 ho8 (by omega) (by omega) (fun z ez f2 w2 => ⟨_, rfl, fun _ => ?_⟩))
    have zb := acs_b (T := T) (Ln := Ln) (kf := kf) j0 0 o 0 s' A' K' N' cl' hs1 a1 a16
    rw [← ez] at zb
    dsimp only at jR
    rw [← ez] at jR
    by_cases e0 : z.1 = 0
    · rw [if_pos e0, if_neg (by decide)]
      rw [if_pos e0] at jR
      have z2 := zb.2.2.2.2.2 rfl e0
      have zl := zb.2.1
      refine jt_inc rfl (by unfold ja_r; omega) ?_
      exact ⟨m - 1, by omega, i + 1, z.2.1, z.2.2.1, j0, z.2.2.2.1, z.2.2.2.2.1, z.2.2.2.2.2, f2, rfl, rfl, acF_tr fr w2.1, acG_S w2 e0, ⟨zb.2.2.1, by omega, by omega, by omega, by omega⟩, jR⟩
    · rw [if_neg e0, if_pos rfl]
      rw [if_neg e0] at jR
      have w := q z jR f2 ⟨acF_tr fr w2.1, w2.2⟩
      rw [if_neg e0] at w
      exact jv_ci _ ⟨Or.inl rfl, w⟩
theorem kX5_readsA {l : Launch} {n Ln P kf : Nat} {T : Nat → Int} (hkf : 6 * Ln + 3 ≤ kf) : ∀ k, jAc l n T Ln P kf k ∧ jAs l n T Ln P kf k := by
  intro k
  induction k using Nat.strongRecOn with
  | _ k ih =>
    cases k with
    | zero => exact ⟨fun _ _ _ hf => absurd hf (by omega), fun _ _ _ hf => absurd hf (by omega)⟩
    | succ k => exact ⟨kX5_readAct (ih k (by omega)).2 hkf, kX5_readActs fun j hj => (ih j (by omega)).1⟩
