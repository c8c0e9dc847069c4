theorem stl_g {e : Int} : ∀ p w, w.length ≤ (stl e p w).2.length
  | [], w => Nat.le_refl _
  | x :: p, w => by
    unfold stl
    split
    · have := stl_g (e := e) p (w ++ [x + 1003])
      rw [List.length_append] at this
      omega
    · exact Nat.le_refl _
set_option maxRecDepth 10000 in
theorem kX12_behindOne {l : Launch} {d : Nat} {h : ja_H} {Q : ja_Q} {T : Nat → Int} {n Ln t0 D s : Nat} {p w : List Int} (hg : smG T Ln t0 D s p w 1 h) (hws : w.length + p.length ≤ s) (q0 : ∀ f g s' p' w' b', smF t0 w.length h.2.1 f → jnl h.2.2 g → smG T Ln t0 D s' p' w' b' (h.1, f, g) → s < s' → (w.length ≤ w'.length ∧ w'.length + p'.length ≤ s') → cvS T Ln D 1 s p w = cvS T Ln D b' s' p' w' → Q (some (.inl 0)) (h.1, f, g)) (hgo : (tkK T Ln s = 43 ∨ tkK T Ln s = 45 ∨ tkK T Ln s = 42 ∨ tkK T Ln s = 47) ∨ (tkK T Ln s = 41 ∧ (40 : Int) ∈ p)) : ja_C l (d + 4) mX12_behindOne (js_sh n) [.inr (.inr (some (90)))] h Q := by
  obtain ⟨hS, hpk, hnt, hO8, hb01⟩ := id hg
  obtain ⟨hG, ⟨hL, hL3, hT, hb⟩, hs, hk, ⟨h24, ht0⟩, ⟨h26, h29, h30, h31⟩, hp, hc⟩ := id hS
  obtain ⟨_, _, k3, k4, _⟩ := id hk
  have nb := nxS_b (T := T) hs
  have pl := pOk_l hpk (by omega)
  have kk := tkK_0 (T := T) (Ln := Ln) (s := s)
  have hn := hnt rfl
  have m1 := tkM_s (k := tkK T Ln s) (v := 43) (by decide)
  have m2 := tkM_s (k := tkK T Ln s) (v := 45) (by decide)
  have m3 := tkM_s (k := tkK T Ln s) (v := 42) (by decide)
  have m4 := tkM_s (k := tkK T Ln s) (v := 47) (by decide)
  refine eX12_behindOne _ fun ho => ?_
  unfold bX12_behindOne
  refine jt_sI (x := tkM (tkK T Ln s)) (jv_is (jv_gF (jr_lr rfl) rfl k3) (by rfl)) ?_
  refine jb_if_d (φ := tkK T Ln s = 43 ∨ tkK T Ln s = 45) (jd_eq (jd_or (jd_eqI (jv_li rfl) jv_ci) (fun _ => (jd_eqI (jv_li rfl) jv_ci))) (by rw [m1, m2])) (fun c1 => ?_) (fun c1 => ?_)
  · refine jx_m (jr_lr rfl) (by first | rfl | assumption) (jA_i jA_0 jv_ci) (kX12_settle (e := 3) hS (by decide) (pOk_m hpk) (by omega) (by omega) fun f1 a1 a2 => ⟨rfl, ?_⟩)
    obtain ⟨q2, v2, es, ok2, oc2, len2, cv2⟩ := st_plus (T := T) (D := D) (w := w) hs hpk hn c1
    have vg := stl_g (e := 3) p w
    rw [es] at a2 vg
    dsimp only at a2 vg
    have hx : (if tkK T Ln s = 43 then (3 : Int) else 4) = 3 ∨ (if tkK T Ln s = 43 then (3 : Int) else 4) = 4 := by split <;> omega
    refine jx_m (jr_lr rfl) rfl (jA_i jA_0 (jv_cv (jd_eq (jd_eqI (jv_li rfl) jv_ci) m1) (fun _ => jv_ci) (fun _ => jv_ci))) (kX12_push a2 (by omega) fun f2 b1 b2 => ⟨rfl, ?_⟩)
    generalize (if tkK T Ln s = 43 then (3 : Int) else 4) = x at hx ok2 cv2 b2 ⊢
    refine jt_pZ (jr_lr rfl) (by first | rfl | assumption) jv_ci (by first | exact ja_if01 | simp) ?_
    try dsimp only
    obtain ⟨d1, d2⟩ := sm_b (v := 0) b2
    dsimp only at d1 d2
    generalize ja_up f2 90 31 0 = f3 at d1 d2 ⊢
    have zf : smF t0 w.length h.2.1 f3 := smF_tr a1 (smF_tr b1 d1 (by omega)) (by omega)
    obtain ⟨pz, hpz⟩ : ∃ pz, x :: q2 = pz := ⟨_, rfl⟩
    obtain ⟨wz, hwz⟩ : ∃ wz, v2 = wz := ⟨_, rfl⟩
    obtain ⟨bz, hbz⟩ : ∃ bz : Int, 0 = bz := ⟨_, rfl⟩
    have ozz : oc pz = oc p := by rw [← hpz, oc_n (by omega)]; exact oc2
    have zs : smS T Ln t0 s pz wz (D + oc pz) bz (h.1, f3, h.2.2) := by rw [ozz, ← hpz, ← hwz, ← hbz]; exact d2
    have z8 : D + oc pz ≤ 8 := by omega
    have zo : pOk 0 pz := by rw [← hpz]; exact ok2
    have zn : bz = 1 → ntp pz := by rw [← hbz]; exact fun y => absurd y (by decide)
    have zl : w.length ≤ wz.length ∧ wz.length + pz.length ≤ w.length + p.length + 1 := by rw [← hpz, ← hwz]; simp only [List.length_cons]; omega
    have z01 : bz = 0 ∨ bz = 1 := Or.inl hbz.symm
    have zc : cvS T Ln D 1 s p w = cvS T Ln D bz (nxS T Ln s) pz wz := by
      unfold cvS
      rw [if_pos rfl, ← hbz, if_neg (by decide), cv2, ozz, ← hpz, ← hwz, oc2]
    clear hpz hwz hbz cv2 ok2
    refine jx_m (jr_lr rfl) (by first | rfl | assumption) jA_0 (kX12_nextS zs fun f9 g9 n1 n2 n3 => ⟨rfl, ?_⟩)
    skip
    refine jt_rI jv_ci ?_
    have sl := nb.2.2 (kk (by omega))
    exact q0 f9 g9 (nxS T Ln s) pz wz bz (smF_tr zf n1 (by omega)) n2 ⟨n3, zo, zn, z8, z01⟩ sl ⟨zl.1, by omega⟩ zc
  · refine jb_if_d (φ := tkK T Ln s = 42 ∨ tkK T Ln s = 47) (jd_eq (jd_or (jd_eqI (jv_li rfl) jv_ci) (fun _ => (jd_eqI (jv_li rfl) jv_ci))) (by rw [m3, m4])) (fun c2 => ?_) (fun c2 => ?_)
    · refine jx_m (jr_lr rfl) (by first | rfl | assumption) (jA_i jA_0 jv_ci) (kX12_settle (e := 5) hS (by decide) (pOk_m hpk) (by omega) (by omega) fun f1 a1 a2 => ⟨rfl, ?_⟩)
      obtain ⟨q2, v2, es, ok2, oc2, len2, cv2⟩ := st_times (T := T) (D := D) (w := w) hs hpk hn c2
      have vg := stl_g (e := 5) p w
      rw [es] at a2 vg
      dsimp only at a2 vg
      have hx : (if tkK T Ln s = 42 then (5 : Int) else 6) = 5 ∨ (if tkK T Ln s = 42 then (5 : Int) else 6) = 6 := by split <;> omega
      refine jx_m (jr_lr rfl) rfl (jA_i jA_0 (jv_cv (jd_eq (jd_eqI (jv_li rfl) jv_ci) m3) (fun _ => jv_ci) (fun _ => jv_ci))) (kX12_push a2 (by omega) fun f2 b1 b2 => ⟨rfl, ?_⟩)
      generalize (if tkK T Ln s = 42 then (5 : Int) else 6) = x at hx ok2 cv2 b2 ⊢
      refine jt_pZ (jr_lr rfl) (by first | rfl | assumption) jv_ci (by first | exact ja_if01 | simp) ?_
      try dsimp only
      obtain ⟨d1, d2⟩ := sm_b (v := 0) b2
      dsimp only at d1 d2
      generalize ja_up f2 90 31 0 = f3 at d1 d2 ⊢
      have zf : smF t0 w.length h.2.1 f3 := smF_tr a1 (smF_tr b1 d1 (by omega)) (by omega)
      obtain ⟨pz, hpz⟩ : ∃ pz, x :: q2 = pz := ⟨_, rfl⟩
      obtain ⟨wz, hwz⟩ : ∃ wz, v2 = wz := ⟨_, rfl⟩
      obtain ⟨bz, hbz⟩ : ∃ bz : Int, 0 = bz := ⟨_, rfl⟩
      have ozz : oc pz = oc p := by rw [← hpz, oc_n (by omega)]; exact oc2
      have zs : smS T Ln t0 s pz wz (D + oc pz) bz (h.1, f3, h.2.2) := by rw [ozz, ← hpz, ← hwz, ← hbz]; exact d2
      have z8 : D + oc pz ≤ 8 := by omega
      have zo : pOk 0 pz := by rw [← hpz]; exact ok2
      have zn : bz = 1 → ntp pz := by rw [← hbz]; exact fun y => absurd y (by decide)
      have zl : w.length ≤ wz.length ∧ wz.length + pz.length ≤ w.length + p.length + 1 := by rw [← hpz, ← hwz]; simp only [List.length_cons]; omega
      have z01 : bz = 0 ∨ bz = 1 := Or.inl hbz.symm
      have zc : cvS T Ln D 1 s p w = cvS T Ln D bz (nxS T Ln s) pz wz := by
        unfold cvS
        rw [if_pos rfl, ← hbz, if_neg (by decide), cv2, ozz, ← hpz, ← hwz, oc2]
      clear hpz hwz hbz cv2 ok2
      refine jx_m (jr_lr rfl) (by first | rfl | assumption) jA_0 (kX12_nextS zs fun f9 g9 n1 n2 n3 => ⟨rfl, ?_⟩)
      skip
      refine jt_rI jv_ci ?_
      have sl := nb.2.2 (kk (by omega))
      exact q0 f9 g9 (nxS T Ln s) pz wz bz (smF_tr zf n1 (by omega)) n2 ⟨n3, zo, zn, z8, z01⟩ sl ⟨zl.1, by omega⟩ zc
    · have h41 : tkK T Ln s = 41 ∧ (40 : Int) ∈ p := by rcases hgo with y | y <;> first | omega | exact y
      refine jx_m (jr_lr rfl) (by first | rfl | assumption) (jA_i jA_0 jv_ci) (kX12_settle (e := 3) hS (by decide) (pOk_m hpk) (by omega) (by omega) fun f1 a1 a2 => ⟨rfl, ?_⟩)
      obtain ⟨q2, v2, es, ok2, oc2, len2, cv2⟩ := st_close (T := T) (D := D) (w := w) hs hpk hn h41.1 h41.2
      have vg := stl_g (e := 3) p w
      rw [es] at a2 vg
      dsimp only at a2 vg
      have g29 := a2.2.2.2.2.2.1.2.1
      simp only [List.length_cons] at g29
      refine jt_uG (w := (q2.length : Int)) (jr_lr rfl) (by first | rfl | assumption) jv_ci (by (try dsimp only); rw [g29, ja_w_id (by unfold ja_r; omega)]; omega) ?_
      try dsimp only
      obtain ⟨b1, b2⟩ := sm_pop a2 rfl
      dsimp only at b1 b2
      generalize ja_up f1 90 29 (q2.length : Int) = f2 at b1 b2 ⊢
      have g30 := b2.2.2.2.2.2.1.2.2.1
      dsimp only at g30
      refine jt_uG (w := ((D + oc q2 : Nat) : Int)) (jr_lr rfl) (by first | rfl | assumption) jv_ci (by (try dsimp only); rw [g30, ja_w_id (by unfold ja_r; omega)]; omega) ?_
      try dsimp only
      obtain ⟨d1, d2⟩ := sm_O (O' := D + oc q2) b2 rfl
      dsimp only at d1 d2
      generalize ja_up f2 90 30 ((D + oc q2 : Nat) : Int) = f3 at d1 d2 ⊢
      refine jx_m (jr_lr rfl) (by first | rfl | assumption) jA_0 (kX12_whole (D := D) d2 rfl (by omega) (by omega) (by omega) fun f4 x1 x2 => ⟨rfl, ?_⟩)
      have zf : smF t0 w.length h.2.1 f4 := smF_tr a1 (smF_tr b1 (smF_tr d1 x1 (by omega)) (by omega)) (by omega)
      have sk := spm_k q2 v2 ok2
      have so := spm_o q2 v2
      have sg := spm_g q2 v2
      have sc := spm_c (T := T) (Ln := Ln) (D := D) (s := nxS T Ln s) q2 v2
      generalize spm q2 v2 = zz at x2 sk so sg sc
      obtain ⟨pz, wz⟩ := zz
      dsimp only at x2 sk so sg sc
      obtain ⟨bz, hbz⟩ : ∃ bz : Int, 1 = bz := ⟨_, rfl⟩
      have zs : smS T Ln t0 s pz wz (D + oc pz) bz (h.1, f4, h.2.2) := by rw [← hbz]; exact x2
      have z8 : D + oc pz ≤ 8 := by omega
      have zo : pOk 0 pz := sk.1
      have zn : bz = 1 → ntp pz := fun _ => sk.2.1
      have zl : w.length ≤ wz.length ∧ wz.length + pz.length ≤ w.length + p.length + 1 := by omega
      have z01 : bz = 0 ∨ bz = 1 := Or.inr hbz.symm
      have zc : cvS T Ln D 1 s p w = cvS T Ln D bz (nxS T Ln s) pz wz := by
        unfold cvS
        rw [if_pos rfl, ← hbz, if_pos rfl, cv2, sc]
      clear hbz cv2
      refine jx_m (jr_lr rfl) (by first | rfl | assumption) jA_0 (kX12_nextS zs fun f9 g9 n1 n2 n3 => ⟨rfl, ?_⟩)
      skip
      refine jt_rI jv_ci ?_
      have sl := nb.2.2 (kk (by omega))
      exact q0 f9 g9 (nxS T Ln s) pz wz bz (smF_tr zf n1 (by omega)) n2 ⟨n3, zo, zn, z8, z01⟩ sl ⟨zl.1, by omega⟩ zc
/-- the reference ahead of a sum: no word of its pile -/
def raB (T : Nat → Int) (Ln t0 s : Nat) (w : List Int) (O : Nat) (h : ja_H) : Prop := jG h.1 ∧ (h.2.1 90 16 = (Ln : Int) ∧ Ln ≤ 300 ∧ h.2.1 97 = T ∧ ∀ j, j < Ln → 0 ≤ T j ∧ T j ≤ 255) ∧ s ≤ Ln ∧ tkP T Ln s h.2.1 h.2.2 ∧ (h.2.1 90 24 = (t0 : Int) ∧ t0 ≤ 5000) ∧ (h.2.1 90 26 = (w.length : Int) ∧ h.2.1 90 30 = (O : Int)) ∧ cdR t0 w h.2.1
theorem raB_sm {T : Nat → Int} {Ln t0 s O : Nat} {p w : List Int} {b : Int} {h : ja_H} (hS : smS T Ln t0 s p w O b h) : raB T Ln t0 s w O h := ⟨hS.1, hS.2.1, hS.2.2.1, hS.2.2.2.1, hS.2.2.2.2.1, ⟨hS.2.2.2.2.2.1.1, hS.2.2.2.2.2.1.2.2.1⟩, hS.2.2.2.2.2.2.2⟩
theorem sm_nilB {T : Nat → Int} {Ln t0 s O : Nat} {w : List Int} {h : ja_H} (hS : raB T Ln t0 s w O h) : smF t0 w.length h.2.1 (ja_up h.2.1 90 29 0) ∧ smS T Ln t0 s [] w O (h.2.1 90 31) (h.1, ja_up h.2.1 90 29 0, h.2.2) := by
  obtain ⟨hG, ⟨a1, a2, a3, a4⟩, hs, hk, ⟨b1, b2⟩, ⟨c1, c3⟩, hc⟩ := hS
  obtain ⟨g, hg⟩ : ∃ g, ja_up h.2.1 90 29 0 = g := ⟨_, rfl⟩
  have o : ∀ c j, (c ≠ 90 ∨ j ≠ 29) → g c j = h.2.1 c j := fun c j y => by rw [← hg, ja_upO y]
  have e : g 90 29 = 0 := by rw [← hg, ja_upE rfl rfl]
  rw [hg]
  refine ⟨⟨by rw [← hg]; exact jfr_up (jfr_rf _ _) (by simp), fun j hj => o _ _ (by omega), fun i _ => o _ _ (by omega)⟩, hG, ⟨(o _ _ (by omega)).trans a1, a2, by rw [← a3]; funext j; exact o _ _ (by omega), a4⟩, hs, tkP_o hk (fun j _ _ => o _ _ (by omega)), ⟨(o _ _ (by omega)).trans b1, b2⟩, ⟨(o _ _ (by omega)).trans c1, e, (o _ _ (by omega)).trans c3, o _ _ (by omega)⟩, trivial, fun j hj => ⟨(o _ _ (by omega)).trans (hc j hj).1, (o _ _ (by omega)).trans (hc j hj).2⟩⟩
theorem cvS_0 {T : Nat → Int} {Ln D s : Nat} {w : List Int} (hs : s ≤ Ln) : cvS T Ln D 0 s [] w = prB (0, s, w) [] (pr T Ln 2 D) := by
  unfold cvS
  rw [if_neg (by decide), cn, if_pos rfl]
  simp only [oc, Nat.add_zero]
  rw [prB_0 (b := pr T Ln 2 D), pr_2 hs, pr_1 hs, prB_as, prB_as, prB_0, prB_as]
set_option maxRecDepth 10000 in
theorem kX12_summed {l : Launch} {d n Ln t0 D s : Nat} {T : Nat → Int} {w : List Int} {h : ja_H} {Q : ja_Q} (hS : raB T Ln t0 s w D h) (hD : D ≤ 8) (hws : w.length ≤ s) (q : ∀ r f g, r = prB (0, s, w) [] (pr T Ln 2 D) → smF t0 w.length h.2.1 f → jnl h.2.2 g → (∃ O', raB T Ln t0 r.2.1 r.2.2 O' (h.1, f, g) ∧ (r.1 = 0 → O' = D)) → Q (some (.inl r.1)) (h.1, f, g)) : ja_C l (d + 6) mX12_summed (js_sh n) [.inr (.inr (some 90))] h Q := by
  have hG := hS.1
  have hs := hS.2.2.1
  have hL3 := hS.2.1.2.1
  refine eX12_summed _ fun ho => ?_
  unfold bX12_summed
  refine jt_pI (jr_lr rfl) rfl jv_ci ?_
  obtain ⟨e1, e2⟩ := sm_nilB hS
  try dsimp only
  generalize ja_up h.2.1 90 29 0 = f0 at e1 e2 ⊢
  refine jt_pZ (jr_lr rfl) rfl jv_ci (Or.inl rfl) ?_
  obtain ⟨e3, e4⟩ := sm_b (v := 0) e2
  try dsimp only at e3 e4 ⊢
  generalize ja_up f0 90 31 0 = f1 at e3 e4 ⊢
  obtain ⟨R, hR⟩ : ∃ R, prB (0, s, w) [] (pr T Ln 2 D) = R := ⟨_, rfl⟩
  rw [hR] at q
  refine jb_whl (fun m L' h' => ∃ (o1 : Option ja_W) (f g : Nat → Nat → Int) (s' : Nat) (p' w' : List Int) (b' : Int), L' = [some (.inr (.inr (some 90))), o1] ∧ (h.1, f, g) = h' ∧ smF t0 w.length h.2.1 f ∧ jnl h.2.2 g ∧ smG T Ln t0 D s' p' w' b' (h.1, f, g) ∧ (s' + m = Ln ∧ s ≤ s' ∧ w.length ≤ w'.length ∧ w'.length + p'.length ≤ s') ∧ cvS T Ln D b' s' p' w' = R) ⟨Ln - s, none, f1, h.2.2, s, [], w, 0, rfl, rfl, smF_tr e1 e3 (by omega), jnl_rf _, ⟨e4, trivial, fun y => absurd y (by decide), by simp only [oc]; omega, Or.inl rfl⟩, ⟨by omega, by omega, by omega, by simp only [List.length_nil]; omega⟩, by rw [cvS_0 hs, hR]⟩ ?_
  rintro m _ _ ⟨o1, f, g, s', p', w', b', rfl, rfl, fr, gr, hg, ⟨hm, hss, hw1, hw2⟩, hcv⟩
  obtain ⟨hS1, hpk, hnt, hO8, hb01⟩ := id hg
  have h31 : f 90 31 = b' := hS1.2.2.2.2.2.1.2.2.2
  have hs1 := hS1.2.2.1
  have pl := pOk_l hpk (by omega)
  refine (jd_or (jd_not (jd_bt (jv_gF (jr_lr rfl) rfl h31))) (fun _ => jd_b (jy_mI (jr_lr rfl) rfl jA_0 fun _ => kX12_goesOn hS1 (by omega)))) _ _ (fun c => ?_) (fun c => ?_)
  · refine jb_cv_p ((jd_bt (jv_gF (jr_lr rfl) rfl h31)) _ _ (fun y => ?_) (fun y => ?_))
    · have b1 : b' = 1 := by omega
      subst b1
      have hgo : (tkK T Ln s' = 43 ∨ tkK T Ln s' = 45 ∨ tkK T Ln s' = 42 ∨ tkK T Ln s' = 47) ∨ (tkK T Ln s' = 41 ∧ (40 : Int) ∈ p') := by
        rcases c with c | c
        · exact absurd y c
        · exact c
      refine jx_mI (jr_lr rfl) rfl jA_0 (kX12_behindOne (h := (h.1, f, g)) hg hw2 (fun f2 g2 s2 p2 w2 b2 r1 r2 r3 r4 r5 r6 => ⟨_, rfl, fun _ => ?_⟩) hgo)
      refine jb_if_d (jd_ne (jv_li rfl) jv_ci) (fun z => absurd rfl z) (fun _ => ?_)
      have := r3.1.2.2.1
      exact ⟨Ln - s2, by omega, _, f2, g2, s2, p2, w2, b2, rfl, rfl, smF_tr fr r1 hw1, jnl_tr gr r2, r3, ⟨by omega, by omega, by omega, r5.2⟩, by rw [← r6, hcv]⟩
    · have b1 : b' = 0 := by omega
      subst b1
      refine jx_mI (jr_lr rfl) rfl jA_0 (kX12_beginOne (h := (h.1, f, g)) hg hw2 (fun f2 g2 s2 p2 w2 b2 r1 r2 r3 r4 r5 r6 => ⟨_, rfl, fun _ => ?_⟩) (fun v hv r6 => ⟨_, rfl, fun _ => ?_⟩))
      · refine jb_if_d (jd_ne (jv_li rfl) jv_ci) (fun z => absurd rfl z) (fun _ => ?_)
        have := r3.1.2.2.1
        exact ⟨Ln - s2, by omega, _, f2, g2, s2, p2, w2, b2, rfl, rfl, smF_tr fr r1 hw1, jnl_tr gr r2, r3, ⟨by omega, by omega, by omega, r5.2⟩, by rw [← r6, hcv]⟩
      · refine jb_if_d (jd_ne (jv_li rfl) jv_ci) (fun _ => ?_) (fun z => absurd hv z)
        refine jt_rI (jv_li rfl) ?_
        rw [hcv] at r6
        subst r6
        exact q _ f g rfl fr gr ⟨_, raB_sm hS1, fun y => absurd y hv⟩
  · have b1 : b' = 1 := by omega
    subst b1
    have ngo : ¬ ((tkK T Ln s' = 43 ∨ tkK T Ln s' = 45 ∨ tkK T Ln s' = 42 ∨ tkK T Ln s' = 47) ∨ (tkK T Ln s' = 41 ∧ (40 : Int) ∈ p')) := fun y => c (Or.inr y)
    refine jx_m (jr_lr rfl) rfl (jA_i jA_0 jv_ci) (kX12_settle (h := (h.1, f, g)) (e := 3) hS1 (by decide) (pOk_m hpk) (by omega) (by omega) fun f2 a1 a2 => ⟨rfl, ?_⟩)
    obtain ⟨q2, v2, es, hl, hoc, ec⟩ := st_end (T := T) (D := D) (w := w') hs1 hpk (hnt rfl) (by omega) (by omega) (fun y z => ngo (Or.inr ⟨y, z⟩))
    rw [es] at a2
    dsimp only at a2
    have g29 : f2 90 29 = (q2.length : Int) := a2.2.2.2.2.2.1.2.1
    unfold cvS at hcv
    rw [if_pos rfl, ec] at hcv
    subst hcv
    refine jt_rI (jv_is (x' := if q2.length > 0 then (1 : Int) else 0) (jv_cv (jd_gt (jv_gF (jr_lr rfl) rfl g29) jv_ci) (fun _ => jv_ci) (fun _ => jv_ci)) ?_) ?_
    · by_cases z : q2.length > 0
      · rw [if_pos z, if_pos (by omega)]
      · rw [if_neg z, if_neg (by omega)]
    · refine q _ f2 g rfl (smF_tr fr a1 hw1) gr ⟨_, raB_sm a2, fun y => ?_⟩
      have : ¬ q2.length > 0 := fun z => by
        have y : (if q2.length > 0 then (1 : Int) else 0) = 0 := y
        rw [if_pos z] at y
        omega
      have : q2 = [] := by cases q2 with | nil => rfl | cons x y => simp at this
      rw [this] at hoc
      simp only [oc] at hoc
      omega
