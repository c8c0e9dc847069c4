set_option maxRecDepth 10000 in
theorem kX5_passPlainNumber {l : Launch} {d : Nat} {h : ja_H} {Q : ja_Q} {n Ln P s c : Nat} {T : Nat → Int} (hS : rdS n T Ln P s c h) {v : Int} (h2 : tkK T Ln s = 2) (hv : v = tkV T s (tkE T Ln s - s)) (hc3 : c < 300) (q0 : ¬ 999 < v → ∀ f, rdP T Ln P c (0, nxS T Ln s, [v]) h.2.1 f → Q (some (.inl 1)) (h.1, f, h.2.2)) (q1 : 999 < v → ∀ f, rdP T Ln P c (2, s, []) h.2.1 f → Q (some (.inl 0)) (h.1, f, h.2.2)) : ja_C l (d + 3) mX5_passPlainNumber (js_sh n) [.inr (.inr (some (48)))] h Q := by
  obtain ⟨⟨hG, hg, h6, hP⟩, ⟨hL, hL3, hT, hb⟩, hs, hk, hc⟩ := id hS
  obtain ⟨k1, k2, k3, k4⟩ := id hk
  have eb := tkE_b (T := T) hs
  have k5 := k4 h2
  rw [← hv] at k5
  refine eX5_passPlainNumber _ fun ho => ?_
  unfold bX5_passPlainNumber
  refine jb_if_d (φ := 999 < v) (jd_eq (jd_gt (jv_gF (jr_lr rfl) rfl k5) jv_ci) (by omega)) (fun c1 => ?_) (fun c1 => ?_)
  · refine jx_mI (jr_lr rfl) (by first | rfl | assumption) (jA_i jA_0 jv_ci) (kX5_refuse hG ⟨_, rfl, fun _ => ⟨Or.inl rfl, ?_⟩⟩)
    exact q1 c1 _ (rd_ref hS (by decide))
  · refine jx_m (jr_g (jr_lr rfl) rfl h6) hg.1 (jA_i jA_0 (jv_gF (jr_lr rfl) rfl k5)) (kX4_addCode hg hc (by omega) ⟨rfl, ?_⟩)
    have p0 := rd_code (v := v) hS
    have hS0 := rd_S hS p0 hs
    generalize ja_up (ja_up h.2.1 (P + 3) c (v)) P 4 ((c : Int) + 1) = f0 at p0 hS0 ⊢
    obtain ⟨_, ⟨hL0, _, hT0, _⟩, _, hk0, hc0⟩ := id hS0
    refine jx_m (jr_lr rfl) (by first | rfl | assumption) jA_0 (kX5_advance (h := (h.1, f0, h.2.2)) hG hL0 hL3 hT0 hb hk0.1 eb.2.1 fun f fr ft => ⟨rfl, ?_⟩)
    skip
    refine jv_ci _ ⟨Or.inr rfl, ?_⟩
    exact q0 c1 _ (rd_cat rfl p0 (rd_adv hS0 fr ft))
set_option maxRecDepth 10000 in
theorem kX5_passName {l : Launch} {d : Nat} {h : ja_H} {Q : ja_Q} {n Ln P s c : Nat} {T : Nat → Int} (hS : rdS n T Ln P s c h) {v : Int} (hv : v = -1 ∨ (0 ≤ v ∧ v ≤ 5)) (hc3 : c < 300) (q0 : v ≠ -1 → ∀ f, rdP T Ln P c (0, nxS T Ln s, [1000 + v]) h.2.1 f → Q (some (.inl 1)) (h.1, f, h.2.2)) (q1 : v = -1 → ∀ f, rdP T Ln P c (1, s, []) h.2.1 f → Q (some (.inl 0)) (h.1, f, h.2.2)) : ja_C l (d + 3) mX5_passName (js_sh n) [.inr (.inr (some (48))), .inl (v)] h Q := by
  obtain ⟨⟨hG, hg, h6, hP⟩, ⟨hL, hL3, hT, hb⟩, hs, hk, hc⟩ := id hS
  obtain ⟨k1, k2, k3, k4⟩ := id hk
  have eb := tkE_b (T := T) hs
  refine eX5_passName _ _ fun r_name ho => ?_
  unfold bX5_passName
  unfold ja_r at r_name
  refine jb_if_d (jd_eqI (jv_li rfl) jv_ci) (fun c1 => ?_) (fun c1 => ?_)
  · refine jx_mI (jr_lr rfl) (by first | rfl | assumption) (jA_i jA_0 jv_ci) (kX5_refuse hG ⟨_, rfl, fun _ => ⟨Or.inl rfl, ?_⟩⟩)
    exact q1 c1 _ (rd_ref hS (by decide))
  · refine jx_m (jr_g (jr_lr rfl) rfl h6) hg.1 (jA_i jA_0 (jv_w (jv_add jv_ci (jv_li rfl)) (by first | (unfold ja_r; omega) | (unfold ja_rl; omega) | omega | assumption))) (kX4_addCode hg hc (by omega) ⟨rfl, ?_⟩)
    have p0 := rd_code (v := 1000 + v) hS
    have hS0 := rd_S hS p0 hs
    generalize ja_up (ja_up h.2.1 (P + 3) c (1000 + v)) P 4 ((c : Int) + 1) = f0 at p0 hS0 ⊢
    obtain ⟨_, ⟨hL0, _, hT0, _⟩, _, hk0, hc0⟩ := id hS0
    refine jx_m (jr_lr rfl) (by first | rfl | assumption) jA_0 (kX5_advance (h := (h.1, f0, h.2.2)) hG hL0 hL3 hT0 hb hk0.1 eb.2.1 fun f fr ft => ⟨rfl, ?_⟩)
    skip
    refine jv_ci _ ⟨Or.inr rfl, ?_⟩
    exact q0 c1 _ (rd_cat rfl p0 (rd_adv hS0 fr ft))
