theorem jb_lpu {c : ja_EC} {b u : ja_T} {N B C : ja_P} {R : ja_Q} {L : ja_L} {h : ja_H} (I : Nat → ja_P) (h0 : ∃ m, I m L h)
    (hs : ∀ m L h, I m L h → c (b (u (fun L' h' => ∃ m', m' < m ∧ I m' L' h') N N R) N (u (fun L' h' => ∃ m', m' < m ∧ I m' L' h') N N R) R) N L h) : jb_lp c b u N B C R L h :=
  ⟨I, h0, fun m L h hI => ⟨_, _, _, hs m L h hI, fun _ _ q => q, fun _ _ q => q, fun _ _ q => q⟩⟩
set_option maxRecDepth 10000 in
theorem kX5_readProduct {l : Launch} {n Ln P k : Nat} {T : Nat → Int} (ih : ∀ j, j ≤ k → jRd l n T Ln P mX5_readOne 0 1 j) : jRd l n T Ln P mX5_readProduct 1 2 (k + 1) := by
  intro D s c o h Q hS hcs ho8 hf hD q
  obtain ⟨d, rfl⟩ : ∃ d, D = d + 9 := ⟨D - 9, by omega⟩
  obtain ⟨⟨hG, hg, h6, hP⟩, ⟨hL, hL3, hT, hb⟩, hs, hk, hc⟩ := id hS
  have pe : prs T Ln (k + 1) 1 o s = prB (prs T Ln k 0 o s) [] fun t => prs T Ln k 3 o t := by rw [prs]; rfl
  obtain ⟨R, hR⟩ : ∃ R, prs T Ln (k + 1) 1 o s = R := ⟨_, rfl⟩
  rw [hR] at q pe
  refine eX5_readProduct _ _ fun ro ho => ?_
  unfold bX5_readProduct
  refine jb_if_p ?_
  refine jx_mI (jr_lr rfl) rfl (jA_i jA_0 (jv_li rfl)) (ih k (Nat.le_refl k) hS hcs ho8 (by omega) (by omega) (fun f p => ⟨_, rfl, fun _ => ?_⟩))
  have pb := prs_b (T := T) (Ln := Ln) k 0 o s hs
  unfold prB at pe
  by_cases e0 : (prs T Ln k 0 o s).1 = 0
  · rw [if_pos e0, if_neg (by decide)]
    rw [if_pos e0] at pe
    refine jt_sI jv_ci ?_
    refine jb_lpu (fun m L' h' => ∃ (i t j : Nat) (a : prR) (f : Nat → Nat → Int) (o3 : Option ja_W), L' = [some (.inr (.inr (some 48))), some (.inl (o : Int)), some (.inl (i : Int)), o3] ∧ (h.1, f, h.2.2) = h' ∧ rdP T Ln P c a h.2.1 f ∧ (a.1 = 0 ∧ a.2.1 = t ∧ t ≤ Ln ∧ s + a.2.2.length ≤ t ∧ i ≤ t ∧ m + t = Ln) ∧ (6 * (Ln - t) + 1 ≤ j ∧ j ≤ k ∧ R = ((prs T Ln j 3 o t).1, (prs T Ln j 3 o t).2.1, a.2.2 ++ (prs T Ln j 3 o t).2.2))) ⟨Ln - (prs T Ln k 0 o s).2.1, 0, _, k, _, f, _, rfl, rfl, p, ⟨e0, rfl, pb.2.1, pb.2.2, by omega, by omega⟩, by omega, Nat.le_refl k, by rw [pe]; simp⟩ ?_
    intro m L' h' w
    obtain ⟨i, t, j, a, g, o3, w1, w2, pg, w3, w4⟩ := w
    have a1 := w3.1
    have a2 := w3.2.1
    have a3 := w3.2.2.1
    have a4 := w3.2.2.2.1
    have a5 := w3.2.2.2.2.1
    have a6 := w3.2.2.2.2.2
    have j1 := w4.1
    have j2 := w4.2.1
    have jR := w4.2.2
    clear w3 w4
    subst w1
    subst w2
    subst a2
    have hS1 := rd_S hS pg a3
    have hL1 := hS1.2.1.1
    have hT1 := hS1.2.1.2.2.1
    have hk1 := hS1.2.2.2.1
    have nb := nxS_b (T := T) a3
    have kk := tkK_0 (T := T) (Ln := Ln) (s := a.2.1)
    have ej : j = (j - 1) + 1 := by omega
    generalize j - 1 = j0 at ej
    subst ej
    have pr : prs T Ln (j0 + 1) 3 o a.2.1 = if tkK T Ln a.2.1 = 42 ∨ tkK T Ln a.2.1 = 47 then prB (prs T Ln j0 0 o (nxS T Ln a.2.1)) [if tkK T Ln a.2.1 = 42 then 1008 else 1009] fun t => prs T Ln j0 3 o t else (0, a.2.1, []) := by rw [prs]; rfl
    rw [pr] at jR
    refine (jd_eq (φ' := tkK T Ln a.2.1 = 42 ∨ tkK T Ln a.2.1 = 47) (jd_and (jd_lt (jv_li rfl) jv_ci) (fun _ => jd_or (jd_eqI (jv_gF (jr_lr rfl) rfl hk1.2.1) jv_ci) (fun _ => jd_eqI (jv_gF (jr_lr rfl) rfl hk1.2.1) jv_ci))) (by omega)) _ _ (fun z => ?_) (fun z => ?_)
    · rw [if_pos z] at jR
      have sl := nb.2.2 (kk (by omega))
      refine jt_sI (jv_cv (jd_eqI (jv_gF (jr_lr rfl) rfl hk1.2.1) jv_ci) (fun _ => jv_ci) (fun _ => jv_ci)) ?_
      have vr : ja_r (if tkK T Ln a.2.1 = 42 then 1008 else 1009) := by unfold ja_r; split <;> omega
      generalize (if tkK T Ln a.2.1 = 42 then (1008 : Int) else 1009) = v at vr jR ⊢
      refine jx_m (jr_lr rfl) rfl jA_0 (kX5_advance (h := (h.1, g, h.2.2)) hG hL1 hL3 hT1 hb hk1.1 (tkE_b a3).2.1 fun f2 fr ft => ⟨rfl, ?_⟩)
      have p2 := rd_adv hS1 fr ft
      have hS2 := rd_S hS1 p2 nb.2.1
      have pb2 := prs_b (T := T) (Ln := Ln) j0 0 o (nxS T Ln a.2.1) nb.2.1
      refine jb_if_p ?_
      refine jx_mI (jr_lr rfl) rfl (jA_i jA_0 (jv_li rfl)) (ih j0 (by omega) hS2 (by simp only [List.length_nil]; omega) ho8 (by simp only; omega) (by omega) (fun f3 p3 => ⟨_, rfl, fun _ => ?_⟩))
      have p23 := rd_cat a1 pg (rd_cat rfl p2 p3)
      unfold prB at jR
      by_cases e1 : (prs T Ln j0 0 o (nxS T Ln a.2.1)).1 = 0
      · rw [if_pos e1, if_neg (by decide)]
        simp only [if_pos e1] at jR
        have hS3 := rd_S hS p23 pb2.2.1
        refine jx_m (jr_g (jr_lr rfl) rfl h6) hg.1 (jA_i jA_0 (jv_li rfl)) (kX4_addCode (h := (h.1, f3, h.2.2)) hg hS3.2.2.2.2 (by simp only [List.length_append, List.length_nil]; omega) ⟨rfl, ?_⟩)
        have p4 := rd_code (v := v) hS3
        refine jt_inc rfl (by unfold ja_r; omega) ?_
        have p5 := rd_cat (by exact e1) p23 p4
        refine ⟨Ln - (prs T Ln j0 0 o (nxS T Ln a.2.1)).2.1, by omega, i + 1, _, j0, _, _, _, rfl, rfl, p5, ⟨rfl, rfl, pb2.2.1, ?_, ?_, ?_⟩, ?_, by omega, ?_⟩
        · simp only [List.length_append, List.length_nil, List.length_cons]; omega
        · show i + 1 ≤ (prs T Ln j0 0 o (nxS T Ln a.2.1)).2.1
          omega
        · show _ + (prs T Ln j0 0 o (nxS T Ln a.2.1)).2.1 = Ln
          omega
        · show 6 * (Ln - (prs T Ln j0 0 o (nxS T Ln a.2.1)).2.1) + 1 ≤ j0
          omega
        · rw [jR]; simp
      · rw [if_neg e1, if_pos rfl]
        simp only [if_neg e1] at jR
        refine jv_ci _ ⟨Or.inl rfl, ?_⟩
        have w := q f3 (by rw [jR]; simpa only [List.nil_append] using p23)
        rw [jR, if_neg e1] at w
        exact w
    · rw [if_neg z] at jR
      refine jv_ci _ ⟨Or.inr rfl, ?_⟩
      have ea : R = a := by rw [jR, List.append_nil]; exact Prod.ext a1.symm rfl
      have w := q g (by rw [ea]; exact pg)
      rw [ea, if_pos a1] at w
      exact w
  · rw [if_neg e0, if_pos rfl]
    rw [if_neg e0] at pe
    refine jv_ci _ ⟨Or.inl rfl, ?_⟩
    have w := q f (by rw [pe]; exact p)
    rw [pe, if_neg e0] at w
    exact w
set_option maxRecDepth 10000 in
theorem kX5_readSum {l : Launch} {n Ln P k : Nat} {T : Nat → Int} (ih : ∀ j, j ≤ k → jRd l n T Ln P mX5_readProduct 1 2 j) : jRd l n T Ln P mX5_readSum 2 3 (k + 1) := by
  intro D s c o h Q hS hcs ho8 hf hD q
  obtain ⟨d, rfl⟩ : ∃ d, D = d + 10 := ⟨D - 10, by omega⟩
  obtain ⟨⟨hG, hg, h6, hP⟩, ⟨hL, hL3, hT, hb⟩, hs, hk, hc⟩ := id hS
  have pe : prs T Ln (k + 1) 2 o s = prB (prs T Ln k 1 o s) [] fun t => prs T Ln k 4 o t := by rw [prs]; rfl
  obtain ⟨R, hR⟩ : ∃ R, prs T Ln (k + 1) 2 o s = R := ⟨_, rfl⟩
  rw [hR] at q pe
  refine eX5_readSum _ _ fun ro ho => ?_
  unfold bX5_readSum
  refine jb_if_p ?_
  refine jx_mI (jr_lr rfl) rfl (jA_i jA_0 (jv_li rfl)) (ih k (Nat.le_refl k) hS hcs ho8 (by omega) (by omega) (fun f p => ⟨_, rfl, fun _ => ?_⟩))
  have pb := prs_b (T := T) (Ln := Ln) k 1 o s hs
  unfold prB at pe
  by_cases e0 : (prs T Ln k 1 o s).1 = 0
  · rw [if_pos e0, if_neg (by decide)]
    rw [if_pos e0] at pe
    refine jt_sI jv_ci ?_
    refine jb_lpu (fun m L' h' => ∃ (i t j : Nat) (a : prR) (f : Nat → Nat → Int) (o3 : Option ja_W), L' = [some (.inr (.inr (some 48))), some (.inl (o : Int)), some (.inl (i : Int)), o3] ∧ (h.1, f, h.2.2) = h' ∧ rdP T Ln P c a h.2.1 f ∧ (a.1 = 0 ∧ a.2.1 = t ∧ t ≤ Ln ∧ s + a.2.2.length ≤ t ∧ i ≤ t ∧ m + t = Ln) ∧ (6 * (Ln - t) + 1 ≤ j ∧ j ≤ k ∧ R = ((prs T Ln j 4 o t).1, (prs T Ln j 4 o t).2.1, a.2.2 ++ (prs T Ln j 4 o t).2.2))) ⟨Ln - (prs T Ln k 1 o s).2.1, 0, _, k, _, f, _, rfl, rfl, p, ⟨e0, rfl, pb.2.1, pb.2.2, by omega, by omega⟩, by omega, Nat.le_refl k, by rw [pe]; simp⟩ ?_
    intro m L' h' w
    obtain ⟨i, t, j, a, g, o3, w1, w2, pg, w3, w4⟩ := w
    have a1 := w3.1
    have a2 := w3.2.1
    have a3 := w3.2.2.1
    have a4 := w3.2.2.2.1
    have a5 := w3.2.2.2.2.1
    have a6 := w3.2.2.2.2.2
    have j1 := w4.1
    have j2 := w4.2.1
    have jR := w4.2.2
    clear w3 w4
    subst w1
    subst w2
    subst a2
    have hS1 := rd_S hS pg a3
    have hL1 := hS1.2.1.1
    have hT1 := hS1.2.1.2.2.1
    have hk1 := hS1.2.2.2.1
    have nb := nxS_b (T := T) a3
    have kk := tkK_0 (T := T) (Ln := Ln) (s := a.2.1)
    have ej : j = (j - 1) + 1 := by omega
    generalize j - 1 = j0 at ej
    subst ej
    have pr : prs T Ln (j0 + 1) 4 o a.2.1 = if tkK T Ln a.2.1 = 43 ∨ tkK T Ln a.2.1 = 45 then prB (prs T Ln j0 1 o (nxS T Ln a.2.1)) [if tkK T Ln a.2.1 = 43 then 1006 else 1007] fun t => prs T Ln j0 4 o t else (0, a.2.1, []) := by rw [prs]; rfl
    rw [pr] at jR
    refine (jd_eq (φ' := tkK T Ln a.2.1 = 43 ∨ tkK T Ln a.2.1 = 45) (jd_and (jd_lt (jv_li rfl) jv_ci) (fun _ => jd_or (jd_eqI (jv_gF (jr_lr rfl) rfl hk1.2.1) jv_ci) (fun _ => jd_eqI (jv_gF (jr_lr rfl) rfl hk1.2.1) jv_ci))) (by omega)) _ _ (fun z => ?_) (fun z => ?_)
    · rw [if_pos z] at jR
      have sl := nb.2.2 (kk (by omega))
      refine jt_sI (jv_cv (jd_eqI (jv_gF (jr_lr rfl) rfl hk1.2.1) jv_ci) (fun _ => jv_ci) (fun _ => jv_ci)) ?_
      have vr : ja_r (if tkK T Ln a.2.1 = 43 then 1006 else 1007) := by unfold ja_r; split <;> omega
      generalize (if tkK T Ln a.2.1 = 43 then (1006 : Int) else 1007) = v at vr jR ⊢
      refine jx_m (jr_lr rfl) rfl jA_0 (kX5_advance (h := (h.1, g, h.2.2)) hG hL1 hL3 hT1 hb hk1.1 (tkE_b a3).2.1 fun f2 fr ft => ⟨rfl, ?_⟩)
      have p2 := rd_adv hS1 fr ft
      have hS2 := rd_S hS1 p2 nb.2.1
      have pb2 := prs_b (T := T) (Ln := Ln) j0 1 o (nxS T Ln a.2.1) nb.2.1
      refine jb_if_p ?_
      refine jx_mI (jr_lr rfl) rfl (jA_i jA_0 (jv_li rfl)) (ih j0 (by omega) hS2 (by simp only [List.length_nil]; omega) ho8 (by simp only; omega) (by omega) (fun f3 p3 => ⟨_, rfl, fun _ => ?_⟩))
      have p23 := rd_cat a1 pg (rd_cat rfl p2 p3)
      unfold prB at jR
      by_cases e1 : (prs T Ln j0 1 o (nxS T Ln a.2.1)).1 = 0
      · rw [if_pos e1, if_neg (by decide)]
        simp only [if_pos e1] at jR
        have hS3 := rd_S hS p23 pb2.2.1
        refine jx_m (jr_g (jr_lr rfl) rfl h6) hg.1 (jA_i jA_0 (jv_li rfl)) (kX4_addCode (h := (h.1, f3, h.2.2)) hg hS3.2.2.2.2 (by simp only [List.length_append, List.length_nil]; omega) ⟨rfl, ?_⟩)
        have p4 := rd_code (v := v) hS3
        refine jt_inc rfl (by unfold ja_r; omega) ?_
        have p5 := rd_cat (by exact e1) p23 p4
        refine ⟨Ln - (prs T Ln j0 1 o (nxS T Ln a.2.1)).2.1, by omega, i + 1, _, j0, _, _, _, rfl, rfl, p5, ⟨rfl, rfl, pb2.2.1, ?_, ?_, ?_⟩, ?_, by omega, ?_⟩
        · simp only [List.length_append, List.length_nil, List.length_cons]; omega
        · show i + 1 ≤ (prs T Ln j0 1 o (nxS T Ln a.2.1)).2.1
          omega
        · show _ + (prs T Ln j0 1 o (nxS T Ln a.2.1)).2.1 = Ln
          omega
        · show 6 * (Ln - (prs T Ln j0 1 o (nxS T Ln a.2.1)).2.1) + 1 ≤ j0
          omega
        · rw [jR]; simp
      · rw [if_neg e1, if_pos rfl]
        simp only [if_neg e1] at jR
        refine jv_ci _ ⟨Or.inl rfl, ?_⟩
        have w := q f3 (by rw [jR]; simpa only [List.nil_append] using p23)
        rw [jR, if_neg e1] at w
        exact w
    · rw [if_neg z] at jR
      refine jv_ci _ ⟨Or.inr rfl, ?_⟩
      have ea : R = a := by rw [jR, List.append_nil]; exact Prod.ext a1.symm rfl
      have w := q g (by rw [ea]; exact pg)
      rw [ea, if_pos a1] at w
      exact w
  · rw [if_neg e0, if_pos rfl]
    rw [if_neg e0] at pe
    refine jv_ci _ ⟨Or.inl rfl, ?_⟩
    have w := q f (by rw [pe]; exact p)
    rw [pe, if_neg e0] at w
    exact w
theorem kX5_reads {l : Launch} {n Ln P : Nat} {T : Nat → Int} : ∀ k, jRd l n T Ln P mX5_readOne 0 1 k ∧ jRd l n T Ln P mX5_readProduct 1 2 k ∧ jRd l n T Ln P mX5_readSum 2 3 k := by
  intro k
  induction k using Nat.strongRecOn with
  | _ k ih =>
    cases k with
    | zero => exact ⟨fun _ _ _ hf => absurd hf (by omega), fun _ _ _ hf => absurd hf (by omega), fun _ _ _ hf => absurd hf (by omega)⟩
    | succ k => exact ⟨kX5_readOne (ih k (by omega)).1 (ih k (by omega)).2.2, kX5_readProduct fun j hj => (ih j (by omega)).1, kX5_readSum fun j hj => (ih j (by omega)).2.1⟩
