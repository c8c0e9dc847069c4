/-- what is to come of the sum, at such a place -/
def cvS (T : Nat → Int) (Ln D : Nat) (b : Int) (s : Nat) (p w : List Int) : prR := if b = 1 then cn T Ln D 0 p (0, s, w) else cn T Ln D 0 p (prB (0, s, w) [] (pr T Ln 0 (D + oc p)))
def smG (T : Nat → Int) (Ln t0 D s : Nat) (p w : List Int) (b : Int) (h : ja_H) : Prop := smS T Ln t0 s p w (D + oc p) b h ∧ pOk 0 p ∧ (b = 1 → ntp p) ∧ D + oc p ≤ 8 ∧ (b = 0 ∨ b = 1)
theorem tkV_R {T : Nat → Int} {Ln s : Nat} (h : tkK T Ln s = 2) : (0 ≤ tkR T s (tkE T Ln s - s) ∧ tkR T s (tkE T Ln s - s) ≤ 1000000) ∧ ((tkR T s (tkE T Ln s - s) ≤ 999 ∧ tkV T s (tkE T Ln s - s) = tkR T s (tkE T Ln s - s)) ∨ (999 < tkR T s (tkE T Ln s - s) ∧ tkV T s (tkE T Ln s - s) = 1000)) := by
  refine tkR_b _ (fun i hi => ?_)
  unfold tkK at h
  by_cases c1 : Ln ≤ s
  · rw [if_pos c1] at h; omega
  rw [if_neg c1] at h
  by_cases c2 : ltr (T s) = true
  · rw [if_pos c2] at h; omega
  rw [if_neg c2] at h
  by_cases c3 : dgt (T s) = true
  · unfold tkE at hi
    rw [if_neg c1, if_neg c2, if_pos c3] at hi
    have := (rnE_b (p := dgt) (T := T) (Ln := Ln) s).2.2 (s + i) (by omega) (by omega)
    exact this
  · rw [if_neg c3] at h
    by_cases c4 : sgn (T s) = true
    · rw [if_pos c4] at h
      unfold sgn at c4
      simp only [decide_eq_true_eq] at c4
      omega
    · rw [if_neg c4] at h; omega
theorem bg_f {T : Nat → Int} {Ln D s : Nat} {p w : List Int} {v : Int} (h : pr T Ln 0 (D + oc p) s = (v, s, [])) (hv : v ≠ 0) : cvS T Ln D 0 s p w = (v, s, w) := by
  unfold cvS
  rw [if_neg (by decide), prB_0, h]
  simp only [List.append_nil]
  exact cn_f _ _ _ hv
theorem bg_1 {T : Nat → Int} {Ln D s s' : Nat} {p w : List Int} {c : Int} (h : pr T Ln 0 (D + oc p) s = (0, s', [c])) : cvS T Ln D 0 s p w = cvS T Ln D 1 s' (spm p (w ++ [c])).1 (spm p (w ++ [c])).2 := by
  unfold cvS
  rw [if_neg (by decide), if_pos rfl, prB_0, h, ← spm_c]
  simp only [List.append_nil]
theorem bg_o {T : Nat → Int} {Ln D s : Nat} {p w : List Int} (hs : s ≤ Ln) (h : tkK T Ln s = 40 ∨ tkK T Ln s = 45) (ho : D + oc p < 8) : cvS T Ln D 0 s p w = cvS T Ln D 0 (nxS T Ln s) ((if tkK T Ln s = 40 then 40 else if tkK T Ln s = 45 then 2 else 0) :: p) w := by
  have nb := nxS_b (T := T) hs
  unfold cvS
  rw [if_neg (by decide), if_neg (by decide), prB_0, pr_00 hs, if_neg (by omega), if_neg (by omega)]
  by_cases z : tkK T Ln s = 40
  · rw [if_pos z, if_pos z, if_neg (by omega), oc_y (Or.inr rfl), cn, if_neg (by decide), if_neg (by decide), if_neg (by decide), if_pos rfl, oc_y (Or.inr rfl)]
    rw [prB_as, prB_as, prB_as, prB_0, pr_2 nb.2.1, pr_1 nb.2.1, prB_as, prB_as]
    simp only [← Nat.add_assoc, prB_as]
  · have z5 : tkK T Ln s = 45 := by omega
    rw [if_neg z, if_neg z, if_pos z5, if_pos z5, if_neg (by omega), oc_y (Or.inl rfl), cn, if_pos rfl]
    rw [prB_as, prB_0]
    simp only [← Nat.add_assoc]
theorem eo_n {c : Int} (h : c ≤ 999) : 0 = eo c ∧ c = ev c := by
  unfold eo ev
  rw [if_pos (by omega), if_pos (by omega)]
  exact ⟨rfl, rfl⟩
theorem eo_m {c : Int} (h : 0 ≤ c ∧ c ≤ 5) : 1 = eo (1000 + c) ∧ c = ev (1000 + c) := by
  unfold eo ev
  rw [if_neg (by omega), if_pos (by omega), if_neg (by omega), if_pos (by omega)]
  exact ⟨rfl, by omega⟩
theorem kX12_nextS {l : Launch} {d n Ln t0 s O : Nat} {T : Nat → Int} {p w : List Int} {b : Int} {h : ja_H} {Q : ja_Q} (hS : smS T Ln t0 s p w O b h) (q : ∀ f g, smF t0 w.length h.2.1 f → jnl h.2.2 g → smS T Ln t0 (nxS T Ln s) p w O b (h.1, f, g) → Q none (h.1, f, g)) : ja_C l (d + 3) mX12_nextToken (js_sh n) [.inr (.inr (some 90))] h Q := by
  obtain ⟨hG, ⟨hL, hL3, hT, hb⟩, hs, hk, _⟩ := id hS
  refine kX12_nextToken hG hL hL3 hT hb hk.1 (tkE_b hs).2.1 fun f g fr gr ft => ?_
  have w := sm_next hS fr ft
  exact q f g w.1 gr w.2
theorem spm_o : ∀ p w, oc (spm p w).1 ≤ oc p
  | [], w => by simp [spm]
  | x :: p, w => by
    unfold spm
    split
    · have := spm_o p (w ++ [1010])
      simp only [oc]; omega
    · exact Nat.le_refl _
theorem spm_g : ∀ p w, w.length ≤ (spm p w).2.length
  | [], w => Nat.le_refl _
  | x :: p, w => by
    unfold spm
    split
    · have := spm_g p (w ++ [1010])
      rw [List.length_append] at this
      omega
    · exact Nat.le_refl _
set_option maxRecDepth 10000 in
theorem kX12_beginOne {l : Launch} {d : Nat} {h : ja_H} {Q : ja_Q} {T : Nat → Int} {n Ln t0 D s : Nat} {p w : List Int} (hg : smG T Ln t0 D s p w 0 h) (hws : w.length + p.length ≤ s) (q0 : ∀ f g s' p' w' b', smF t0 w.length h.2.1 f → jnl h.2.2 g → smG T Ln t0 D s' p' w' b' (h.1, f, g) → s < s' → (w.length ≤ w'.length ∧ w'.length + p'.length ≤ s') → cvS T Ln D 0 s p w = cvS T Ln D b' s' p' w' → Q (some (.inl 0)) (h.1, f, g)) (q1 : ∀ v, v ≠ 0 → cvS T Ln D 0 s p w = (v, s, w) → Q (some (.inl v)) h) : ja_C l (d + 5) mX12_beginOne (js_sh n) [.inr (.inr (some (90)))] h Q := by
  obtain ⟨hS, hpk, hnt, hO8, hb01⟩ := id hg
  obtain ⟨hG, ⟨hL, hL3, hT, hb⟩, hs, hk, ⟨h24, ht0⟩, ⟨h26, h29, h30, h31⟩, hp, hc⟩ := id hS
  obtain ⟨_, _, k3, k4, _⟩ := id hk
  have nb := nxS_b (T := T) hs
  have pl := pOk_l hpk (by omega)
  have kk := tkK_0 (T := T) (Ln := Ln) (s := s)
  refine eX12_beginOne _ fun ho => ?_
  unfold bX12_beginOne
  refine jb_if_d (φ := tkK T Ln s = 2) (jd_eq (jd_eqI (jv_gF (jr_lr rfl) rfl k3) jv_ci) (by exact tkM_1)) (fun c1 => ?_) (fun c1 => ?_)
  · have vr := tkV_R c1
    have k5 := k4 c1
    refine jb_if_d (φ := 999 < tkR T s (tkE T Ln s - s)) (jd_eq (jd_gt (jv_gF (jr_lr rfl) rfl k5) jv_ci) (by rfl)) (fun c2 => ?_) (fun c2 => ?_)
    · refine jt_rI jv_ci ?_
      exact q1 2 (by decide) (bg_f (by rw [pr_00 hs, if_pos c1, if_pos (by omega)]) (by decide))
    · have en := eo_n (c := tkR T s (tkE T Ln s - s)) (by omega)
      refine jx_m (jr_lr rfl) rfl (jA_i (jA_i jA_0 jv_ci) (jv_gF (jr_lr rfl) rfl k5)) (kX12_emit (x := tkR T s (tkE T Ln s - s)) hS (by omega) en.1 en.2 fun f1 a1 a2 => ⟨rfl, ?_⟩)
      refine jx_m (jr_lr rfl) (by first | rfl | assumption) jA_0 (kX12_nextS a2 fun f2 g2 b1 b2 b3 => ⟨rfl, ?_⟩)
      rw [List.length_append] at b1
      refine jx_m (jr_lr rfl) (by first | rfl | assumption) jA_0 (kX12_whole (D := D) b3 rfl (by omega) (by rw [List.length_append]; simp only [List.length_cons, List.length_nil]; omega) (by omega) fun f3 c5 c6 => ⟨rfl, ?_⟩)
      rw [List.length_append] at c5
      refine jt_rI jv_ci ?_
      have sk := spm_k p (w ++ [tkR T s (tkE T Ln s - s)]) hpk
      have sl := nb.2.2 (kk (by omega))
      rw [List.length_append] at sk
      simp only [List.length_cons, List.length_nil] at sk
      have so := spm_o p (w ++ [tkR T s (tkE T Ln s - s)])
      refine q0 _ _ (nxS T Ln s) _ _ 1 (smF_tr a1 (smF_tr b1 c5 (by omega)) (by omega)) b2 ⟨c6, sk.1, fun _ => sk.2.1, by omega, Or.inr rfl⟩ sl ⟨?_, by omega⟩ (bg_1 ?_)
      · have := spm_g p (w ++ [tkR T s (tkE T Ln s - s)])
        rw [List.length_append] at this
        omega
      · rw [pr_00 hs]
        rw [if_pos c1, if_neg (by omega), show tkV T s (tkE T Ln s - s) = tkR T s (tkE T Ln s - s) by omega]
  · refine jb_if_d (φ := nmC T Ln s ≠ -1) (jd_eq (jd_ge (jy_mI (jr_lr rfl) rfl jA_0 fun _ => kX12_nameOf hk) jv_ci) (by 
          have := nmC_b (T := T) (Ln := Ln) (s := s)
          omega)) (fun c3 => ?_) (fun c3 => ?_)
    · have nn := nmC_b (T := T) (Ln := Ln) (s := s)
      have k1 : tkK T Ln s = 1 := Classical.byContradiction fun y => c3 (nmC_k y)
      have en := eo_m (c := nmC T Ln s) (by omega)
      refine jx_m (jr_lr rfl) rfl (jA_i (jA_i jA_0 jv_ci) (jy_mI (jr_lr rfl) rfl jA_0 fun _ => kX12_nameOf hk)) (kX12_emit (x := 1000 + nmC T Ln s) hS (by omega) en.1 en.2 fun f1 a1 a2 => ⟨rfl, ?_⟩)
      refine jx_m (jr_lr rfl) (by first | rfl | assumption) jA_0 (kX12_nextS a2 fun f2 g2 b1 b2 b3 => ⟨rfl, ?_⟩)
      rw [List.length_append] at b1
      refine jx_m (jr_lr rfl) (by first | rfl | assumption) jA_0 (kX12_whole (D := D) b3 rfl (by omega) (by rw [List.length_append]; simp only [List.length_cons, List.length_nil]; omega) (by omega) fun f3 c5 c6 => ⟨rfl, ?_⟩)
      rw [List.length_append] at c5
      refine jt_rI jv_ci ?_
      have sk := spm_k p (w ++ [1000 + nmC T Ln s]) hpk
      have sl := nb.2.2 (kk (by omega))
      rw [List.length_append] at sk
      simp only [List.length_cons, List.length_nil] at sk
      have so := spm_o p (w ++ [1000 + nmC T Ln s])
      refine q0 _ _ (nxS T Ln s) _ _ 1 (smF_tr a1 (smF_tr b1 c5 (by omega)) (by omega)) b2 ⟨c6, sk.1, fun _ => sk.2.1, by omega, Or.inr rfl⟩ sl ⟨?_, by omega⟩ (bg_1 ?_)
      · have := spm_g p (w ++ [1000 + nmC T Ln s])
        rw [List.length_append] at this
        omega
      · rw [pr_00 hs]
        rw [if_neg c1, if_pos k1, if_neg c3]
    · have c3 := Classical.not_not.mp c3
      refine jt_sI (x := (if tkK T Ln s = 40 then 40 else if tkK T Ln s = 45 then 2 else 0)) (jv_is (jv_cv (jd_eq (jd_eqI (jv_gF (jr_lr rfl) rfl k3) jv_ci) (tkM_s (k := tkK T Ln s) (v := 40) (by decide))) (fun _ => jv_ci) (fun _ => jv_cv (jd_eq (jd_eqI (jv_gF (jr_lr rfl) rfl k3) jv_ci) (tkM_s (k := tkK T Ln s) (v := 45) (by decide))) (fun _ => jv_ci) (fun _ => jv_ci))) (by rfl)) ?_
      refine jb_if_d (φ := ¬ (tkK T Ln s = 40 ∨ tkK T Ln s = 45)) (jd_eq (jd_eqI (jv_li rfl) jv_ci) (by split <;> (try split) <;> omega)) (fun c4 => ?_) (fun c4 => ?_)
      · refine jt_rI jv_ci ?_
        refine q1 1 (by decide) (bg_f ?_ (by decide))
        rw [pr_00 hs, if_neg c1]
        split
        · rfl
        · rw [if_neg (by omega), if_neg (by omega)]
      · have c4 := Classical.not_not.mp c4
        refine jb_if_d (φ := 8 ≤ D + oc p) (jd_eq (jd_eqI (jv_gF (jr_lr rfl) rfl h30) jv_ci) (by omega)) (fun c5 => ?_) (fun c5 => ?_)
        · refine jt_rI jv_ci ?_
          refine q1 3 (by decide) (bg_f ?_ (by decide))
          rw [pr_00 hs, if_neg c1, if_neg (by omega)]
          split
          · rfl
          · rw [if_pos (by omega)]
        · refine jt_uG (w := ((D + oc p + 1 : Nat) : Int)) (jr_lr rfl) (by first | rfl | assumption) jv_ci (by (try dsimp only); rw [h30, ja_w_id (by unfold ja_r; omega)]; omega) ?_
          try dsimp only
          obtain ⟨a1, a2⟩ := sm_O (O' := D + oc p + 1) hS rfl
          have hx : (if tkK T Ln s = 40 then (40 : Int) else if tkK T Ln s = 45 then 2 else 0) = 2 ∨ (if tkK T Ln s = 40 then (40 : Int) else if tkK T Ln s = 45 then 2 else 0) = 40 := by split <;> (try split) <;> omega
          have bo := bg_o (w := w) hs c4 (Nat.lt_of_not_le c5)
          generalize ja_up h.2.1 90 30 ((D + oc p + 1 : Nat) : Int) = f1 at a1 a2 ⊢
          generalize (if tkK T Ln s = 40 then (40 : Int) else if tkK T Ln s = 45 then 2 else 0) = x at hx bo ⊢
          refine jx_m (jr_lr rfl) (by first | rfl | assumption) (jA_i jA_0 (jv_li rfl)) (kX12_push a2 (by omega) fun f2 b1 b2 => ⟨rfl, ?_⟩)
          skip
          refine jx_m (jr_lr rfl) (by first | rfl | assumption) jA_0 (kX12_nextS b2 fun f3 g3 d1 d2 d3 => ⟨rfl, ?_⟩)
          skip
          refine jt_rI jv_ci ?_
          have sl := nb.2.2 (kk (by omega))
          have ocx := oc_y (p := p) hx
          refine q0 _ _ (nxS T Ln s) (x :: p) w 0 (smF_tr a1 (smF_tr b1 d1 (by omega)) (by omega)) d2 ⟨?_, ?_, fun y => absurd y (by decide), by omega, Or.inl rfl⟩ sl ⟨by omega, by simp only [List.length_cons]; omega⟩ bo
          · rw [ocx, ← Nat.add_assoc]
            exact d3
          · rcases hx with rfl | rfl
            · exact Or.inr (Or.inr (Or.inr ⟨rfl, rfl, hpk⟩))
            · exact Or.inl ⟨rfl, hpk⟩
