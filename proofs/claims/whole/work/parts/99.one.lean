/-! reading one, from the readings with less fuel -/
def jRd (l : Launch) (n : Nat) (T : Nat → Int) (Ln P : Nat) (M : ja_M) (m w k : Nat) : Prop := ∀ {D s c o : Nat} {h : ja_H} {Q : ja_Q}, rdS n T Ln P s c h → c ≤ s → o ≤ 8 → 6 * (Ln - s) + w ≤ k → 4 * (8 - o) + 7 + w ≤ D → (∀ f, rdP T Ln P c (prs T Ln k m o s) h.2.1 f → Q (some (.inl (if (prs T Ln k m o s).1 = 0 then 1 else 0))) (h.1, f, h.2.2)) → ja_C l D M (js_sh n) [.inr (.inr (some 48)), .inl (o : Int)] h Q
theorem kX5_readTurned {l : Launch} {d n Ln P s c o k : Nat} {T : Nat → Int} {h : ja_H} {Q : ja_Q} (hS : rdS n T Ln P s c h) (hcs : c ≤ s) (ho8 : o ≤ 8) (ih : jRd l n T Ln P mX5_readOne 0 1 k) (h45 : tkK T Ln s = 45) (hf : 6 * (Ln - s) ≤ k) (hD : 4 * (8 - o) ≤ d) (q : ∀ r : prR, r = (if 8 ≤ o then (3, s, []) else prB (prs T Ln k 0 (o + 1) (nxS T Ln s)) [1010] fun t => (0, t, [])) → ∀ f, rdP T Ln P c r h.2.1 f → Q (some (.inl (if r.1 = 0 then 1 else 0))) (h.1, f, h.2.2)) : ja_C l (d + 7) mX5_readTurned (js_sh n) [.inr (.inr (some 48)), .inl (o : Int)] h Q := by
  obtain ⟨⟨hG, hg, h6, hP⟩, ⟨hL, hL3, hT, hb⟩, hs, hk, hc⟩ := id hS
  have nb := nxS_b (T := T) hs
  have sl := nb.2.2 (tkK_0 (T := T) (by omega))
  refine eX5_readTurned _ _ fun ro ho => ?_
  unfold bX5_readTurned
  refine jb_if_p ?_
  refine jx_mI (jr_lr rfl) rfl (jA_i (jA_i jA_0 jv_ci) (jv_li rfl)) (kX5_passOpening hS (fun _ o8 f p => ⟨_, rfl, fun _ => ?_⟩) (fun y => absurd h45 y) (fun _ o8 f p => ⟨_, rfl, fun _ => ?_⟩))
  · rw [if_neg (by decide)]
    have hS1 := rd_S hS p nb.2.1
    have pb := prs_b (T := T) (Ln := Ln) k 0 (o + 1) (nxS T Ln s) nb.2.1
    refine jx_mI (jr_lr rfl) rfl (jA_i jA_0 (jv_is (x' := ((o + 1 : Nat) : Int)) (jv_w (jv_add (jv_li rfl) jv_ci) (by unfold ja_r; omega)) (by omega))) (ih hS1 (by simp only [List.length_nil]; omega) (by omega) (by simp only; omega) (by omega) (fun g pg => ⟨_, rfl, fun _ => ?_⟩))
    have pc := rd_cat rfl p pg
    have hS2 := rd_S hS1 pg pb.2.1
    by_cases e0 : (prs T Ln k 0 (o + 1) (nxS T Ln s)).1 = 0
    · rw [if_pos e0, if_neg (by decide)]
      simp only [List.length_nil, Nat.add_zero] at hS2
      refine jx_m (jr_g (jr_lr rfl) rfl h6) hg.1 (jA_i jA_0 jv_ci) (kX4_addCode (h := (h.1, g, h.2.2)) hg hS2.2.2.2.2 (by omega) ⟨rfl, ?_⟩)
      refine jv_ci _ ⟨Or.inr rfl, ?_⟩
      have pz := rd_code (v := 1010) hS2
      have := rd_cat (a := ((prs T Ln k 0 (o + 1) (nxS T Ln s)).1, (prs T Ln k 0 (o + 1) (nxS T Ln s)).2.1, [] ++ (prs T Ln k 0 (o + 1) (nxS T Ln s)).2.2)) e0 pc pz
      have eq : (if 8 ≤ o then ((3, s, []) : prR) else prB (prs T Ln k 0 (o + 1) (nxS T Ln s)) [1010] fun t => (0, t, [])) = (0, (prs T Ln k 0 (o + 1) (nxS T Ln s)).2.1, (prs T Ln k 0 (o + 1) (nxS T Ln s)).2.2 ++ [1010]) := by
        rw [if_neg (by omega)]; unfold prB; rw [if_pos e0]; simp
      exact q _ eq.symm _ this
    · rw [if_neg e0, if_pos rfl]
      refine jv_ci _ ⟨Or.inl rfl, ?_⟩
      have eq : (if 8 ≤ o then ((3, s, []) : prR) else prB (prs T Ln k 0 (o + 1) (nxS T Ln s)) [1010] fun t => (0, t, [])) = prs T Ln k 0 (o + 1) (nxS T Ln s) := by
        rw [if_neg (by omega)]; unfold prB; rw [if_neg e0]
      have := q _ eq.symm _ pc
      rw [if_neg e0] at this
      exact this
  · rw [if_pos rfl]
    refine jv_ci _ ⟨Or.inl rfl, ?_⟩
    exact q _ (if_pos o8).symm _ p
theorem kX5_readOne {l : Launch} {n Ln P k : Nat} {T : Nat → Int} (ih0 : jRd l n T Ln P mX5_readOne 0 1 k) (ih2 : jRd l n T Ln P mX5_readSum 2 3 k) : jRd l n T Ln P mX5_readOne 0 1 (k + 1) := by
  intro D s c o h Q hS hcs ho8 hf hD q
  obtain ⟨d, rfl⟩ : ∃ d, D = d + 8 := ⟨D - 8, by omega⟩
  obtain ⟨⟨hG, hg, h6, hP⟩, ⟨hL, hL3, hT, hb⟩, hs, hk, hc⟩ := id hS
  have nb := nxS_b (T := T) hs
  have k0 : tkK T Ln s ≠ 0 → s < nxS T Ln s ∧ s < Ln := fun y => ⟨nb.2.2 (tkK_0 y), tkK_0 y⟩
  rw [prs, if_pos rfl] at q
  refine eX5_readOne _ _ fun ro ho => ?_
  unfold bX5_readOne
  refine jt_sw (jv_gF (jr_lr rfl) rfl hk.2.1) ?_
  simp only [jb_cs]
  by_cases z2 : tkK T Ln s = 2
  · rw [if_neg (by omega), if_pos z2]
    rw [if_pos z2] at q
    have sl := k0 (by omega)
    refine jx_mI (jr_lr rfl) rfl jA_0 (kX5_passPlainNumber hS z2 rfl (by omega) (fun y f p => ⟨_, rfl, fun _ => ⟨Or.inr rfl, ?_⟩⟩) (fun y f p => ⟨_, rfl, fun _ => ⟨Or.inl rfl, ?_⟩⟩))
    · rw [if_neg y] at q; exact q f p
    · rw [if_pos y] at q; exact q f p
  · rw [if_neg z2] at q
    by_cases z1 : tkK T Ln s = 1
    · rw [if_pos z1]
      rw [if_pos z1] at q
      have sl := k0 (by omega)
      refine jx_mI (jr_lr rfl) rfl (jA_i jA_0 (jy_mI (jr_lr rfl) rfl jA_0 fun _ => kX5_nameOfWord hG hL hL3 hT hs hk)) (kX5_passName hS nmC_b (by omega) (fun y f p => ⟨_, rfl, fun _ => ⟨Or.inr rfl, ?_⟩⟩) (fun y f p => ⟨_, rfl, fun _ => ⟨Or.inl rfl, ?_⟩⟩))
      · rw [if_neg y] at q; exact q f p
      · rw [if_pos y] at q; exact q f p
    · rw [if_neg z1, if_neg z2]
      rw [if_neg z1] at q
      by_cases z4 : tkK T Ln s = 40
      · rw [if_pos z4]
        rw [if_pos z4] at q
        have sl := k0 (by omega)
        refine ⟨_, ?_, fun _ _ _ q => q⟩
        refine jx_mI (jr_lr rfl) rfl (jA_i (jA_i jA_0 jv_ci) (jv_li rfl)) (kX5_passOpening hS (fun _ o8 f p => ⟨_, rfl, fun _ => ?_⟩) (fun y => absurd z4 y) (fun _ o8 f p => ⟨_, rfl, fun _ => ?_⟩))
        · rw [if_neg (by decide)]
          rw [if_neg (by omega)] at q
          have hS1 := rd_S hS p nb.2.1
          have pb := prs_b (T := T) (Ln := Ln) k 2 (o + 1) (nxS T Ln s) nb.2.1
          refine jx_mI (jr_lr rfl) rfl (jA_i jA_0 (jv_is (x' := ((o + 1 : Nat) : Int)) (jv_w (jv_add (jv_li rfl) jv_ci) (by unfold ja_r; omega)) (by omega))) (ih2 hS1 (by simp only [List.length_nil]; omega) (by omega) (by simp only; omega) (by omega) (fun g pg => ⟨_, rfl, fun _ => ?_⟩))
          have pc := rd_cat rfl p pg
          have hS2 := rd_S hS1 pg pb.2.1
          unfold prB at q
          by_cases e0 : (prs T Ln k 2 (o + 1) (nxS T Ln s)).1 = 0
          · rw [if_pos e0, if_neg (by decide)]
            rw [if_pos e0] at q
            refine jx_mI (jr_lr rfl) rfl (jA_i jA_0 jv_ci) (kX5_pass hS2 (fun y f p => ⟨_, rfl, fun _ => ?_⟩) (fun y f p => ⟨_, rfl, fun _ => ?_⟩))
            · rw [if_neg (by decide)]
              dsimp only at q y
              simp only [if_pos y] at q
              have := rd_cat (a := ((prs T Ln k 2 (o + 1) (nxS T Ln s)).1, (prs T Ln k 2 (o + 1) (nxS T Ln s)).2.1, [] ++ (prs T Ln k 2 (o + 1) (nxS T Ln s)).2.2)) e0 pc (by simpa only [List.length_nil, Nat.add_zero, List.nil_append] using p)
              exact ⟨Or.inr rfl, q f (by simpa only [List.nil_append, List.append_nil] using this)⟩
            · rw [if_pos rfl]
              dsimp only at q y
              simp only [if_neg y] at q
              have := rd_cat (a := ((prs T Ln k 2 (o + 1) (nxS T Ln s)).1, (prs T Ln k 2 (o + 1) (nxS T Ln s)).2.1, [] ++ (prs T Ln k 2 (o + 1) (nxS T Ln s)).2.2)) e0 pc (by simpa only [List.length_nil, Nat.add_zero, List.nil_append] using p)
              exact ⟨Or.inl rfl, q f (by simpa only [List.nil_append, List.append_nil] using this)⟩
          · rw [if_neg e0, if_pos rfl]
            rw [if_neg e0, if_neg e0] at q
            exact ⟨Or.inl rfl, q _ pc⟩
        · rw [if_pos rfl]
          rw [if_pos o8] at q
          exact ⟨Or.inl rfl, q _ p⟩
      · rw [if_neg z4]
        rw [if_neg z4] at q
        by_cases z5 : tkK T Ln s = 45
        · rw [if_pos z5]
          rw [if_pos z5] at q
          refine jx_mI (jr_lr rfl) rfl (jA_i jA_0 (jv_li rfl)) (kX5_readTurned hS hcs ho8 ih0 z5 (by omega) (by omega) (fun r er f p => ⟨_, rfl, fun _ => ⟨?_, ?_⟩⟩))
          · by_cases y : r.1 = 0 <;> simp [y]
          · rw [← er] at q; exact q f p
        · rw [if_neg z5]
          rw [if_neg z5] at q
          exact jx_mI (jr_lr rfl) rfl (jA_i jA_0 jv_ci) (kX5_refuse hG ⟨_, rfl, fun _ => ⟨Or.inl rfl, q _ (rd_ref hS (by decide))⟩⟩)
