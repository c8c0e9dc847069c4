theorem pOk_m : ∀ {m p}, pOk m p → ∀ x ∈ p, (2 ≤ x ∧ x ≤ 6) ∨ x = 40
  | _, [], _ => by simp
  | m, y :: p, h => by
    intro x hx
    rcases List.mem_cons.mp hx with rfl | hz
    · rcases h with ⟨rfl, h⟩ | ⟨h1, h2, h3⟩ | ⟨h1, h2, h3⟩ | ⟨h1, h2, h3⟩ <;> omega
    · rcases h with ⟨rfl, h⟩ | ⟨h1, h2, h3⟩ | ⟨h1, h2, h3⟩ | ⟨h1, h2, h3⟩
      · exact pOk_m h x hz
      · exact pOk_m h3 x hz
      · exact pOk_m h3 x hz
      · exact pOk_m h3 x hz
theorem eo_d {x : Int} (h : 3 ≤ x ∧ x ≤ 6) : x = eo (x + 1003) ∧ 0 = ev (x + 1003) := by
  unfold eo ev
  constructor
  · rw [if_neg (by omega), if_neg (by omega), if_neg (by omega)]; omega
  · rw [if_neg (by omega), if_neg (by omega)]
set_option maxRecDepth 10000 in
theorem kX12_whole {l : Launch} {d : Nat} {h : ja_H} {Q : ja_Q} {T : Nat → Int} {n Ln t0 s O : Nat} {p w : List Int} {b : Int} (hS : smS T Ln t0 s p w O b h) {D : Nat} (hO : O = D + oc p) (hO8 : O ≤ 8) (hw : w.length + p.length < 400) (hp160 : p.length < 160) (q : ∀ f, smF t0 w.length h.2.1 f → smS T Ln t0 s (spm p w).1 (spm p w).2 (D + oc (spm p w).1) 1 (h.1, f, h.2.2) → Q none (h.1, f, h.2.2)) : ja_C l (d + 2) mX12_whole (js_sh n) [.inr (.inr (some (90)))] h Q := by
  obtain ⟨hG, ⟨hL, hL3, hT, hb⟩, hs, hk, ⟨h24, ht0⟩, ⟨h26, h29, h30, h31⟩, hp, hc⟩ := id hS
  refine eX12_whole _ fun ho => ?_
  unfold bX12_whole
  refine jt_pZ (jr_lr rfl) (by first | rfl | assumption) jv_ci (by first | exact ja_if01 | simp) ?_
  try dsimp only
  obtain ⟨e1, e2⟩ := sm_b (v := 1) hS
  generalize ja_up h.2.1 90 31 1 = f0 at e1 e2 ⊢
  refine jb_whl (fun (m : Nat) L' h' => ∃ (f : Nat → Nat → Int), L' = [some (.inr (.inr (some (90))))] ∧ (h.1, f, h.2.2) = h' ∧ (smF t0 w.length h.2.1 f) ∧ (∃ p' w', smS T Ln t0 s p' w' (D + oc p') 1 (h.1, f, h.2.2) ∧ spm p' w' = spm p w ∧ p'.length = m ∧ (w.length ≤ w'.length ∧ D + oc p' ≤ 8 ∧ m < 160) ∧ w'.length + m < 400)) ⟨p.length, ⟨_, rfl, rfl, (by exact e1), (by exact ⟨p, w, by rw [← hO]; exact e2, rfl, rfl, ⟨by omega, by omega, by omega⟩, by omega⟩)⟩⟩ ?_
  rintro m _ _ ⟨f, rfl, rfl, fr, fp⟩
  obtain ⟨p1, w1, hS1, es, em, el, ew⟩ := fp
  obtain ⟨_, _, _, _, _, ⟨_, g29, g30, _⟩, gp, _⟩ := id hS1
  dsimp only at g29 g30
  have ix : ∀ x q, p1 = x :: q → f 98 ((p1.length : Int) - 1).toNat = x := by
    rintro x q rfl
    have := gp.1
    rw [show (((x :: q).length : Int) - 1).toNat = q.length by simp only [List.length_cons]; omega]
    exact this
  have iz : 0 < p1.length → ∃ x q, p1 = x :: q := by
    cases p1 with
    | nil => simp
    | cons x q => exact fun _ => ⟨x, q, rfl⟩
  refine (jd_eq (φ' := ∃ q, p1 = 2 :: q) (jd_and (jd_gt (jv_gF (jr_lr rfl) rfl g29) jv_ci) (fun y => jd_eqI (jv_aI (jr_g (jr_lr rfl) rfl (by exact jG_90 hG rfl)) (jv_w (jv_sub (jv_gF (jr_lr rfl) rfl g29) jv_ci) (by unfold ja_r; omega)) rfl (by omega) (by omega)) jv_ci)) (by 
        dsimp only
        constructor
        · rintro ⟨y1, y2⟩
          obtain ⟨x, q, e⟩ := iz (by omega)
          rw [ix x q e] at y2
          exact ⟨q, by rw [e, y2]⟩
        · rintro ⟨q, e⟩
          exact ⟨by rw [e]; simp only [List.length_cons]; omega, ix 2 q e⟩)) _ _ (fun c => ?_) (fun c => ?_)
  · obtain ⟨p2, rfl⟩ := c
    simp only [List.length_cons] at em g29
    rw [oc_y (Or.inl rfl)] at el g30
    refine jt_uG (w := (p2.length : Int)) (jr_lr rfl) (by first | rfl | assumption) jv_ci (by (try dsimp only); rw [g29, ja_w_id (by unfold ja_r; omega)]; omega) ?_
    try dsimp only
    obtain ⟨a1, a2⟩ := sm_pop hS1 rfl
    dsimp only at a1 a2
    generalize ja_up f 90 29 (p2.length : Int) = f2 at a1 a2 ⊢
    rw [oc_y (Or.inl rfl)] at a2
    have g30 := a2.2.2.2.2.2.1.2.2.1
    dsimp only at g30
    refine jt_uG (w := ((D + oc p2 : Nat) : Int)) (jr_lr rfl) (by first | rfl | assumption) jv_ci (by (try dsimp only); rw [g30, ja_w_id (by unfold ja_r; omega)]; omega) ?_
    try dsimp only
    obtain ⟨b1, b2⟩ := sm_O (O' := D + oc p2) a2 rfl
    dsimp only at b1 b2
    generalize ja_up f2 90 30 ((D + oc p2 : Nat) : Int) = f3 at b1 b2 ⊢
    refine jx_m (jr_lr rfl) (by first | rfl | assumption) (jA_i (jA_i jA_0 jv_ci) jv_ci) (kX12_emit (x := 1010) b2 (by omega) rfl rfl fun f4 k1 k2 => ⟨rfl, ?_⟩)
    skip
    exact ⟨m - 1, (by omega), _, rfl, rfl, (by exact smF_tr fr (smF_tr a1 (smF_tr b1 k1 (by omega)) (by omega)) (by omega)), (by exact ⟨p2, w1 ++ [1010], k2, by rw [← es, spm, if_pos rfl], by omega, ⟨by simp only [List.length_append]; omega, by omega, by omega⟩, by simp only [List.length_append, List.length_cons, List.length_nil]; omega⟩)⟩
  · have e : spm p1 w1 = (p1, w1) := by
      cases p1 with
      | nil => rfl
      | cons x q => unfold spm; rw [if_neg]; rintro rfl; exact c ⟨q, rfl⟩
    exact q f fr (by rw [← es, e]; exact hS1)
set_option maxRecDepth 10000 in
theorem kX12_settle {l : Launch} {d : Nat} {h : ja_H} {Q : ja_Q} {T : Nat → Int} {n Ln t0 s O : Nat} {p w : List Int} {b : Int} (hS : smS T Ln t0 s p w O b h) {e : Int} (he : 3 ≤ e ∧ e ≤ 5) (hpm : ∀ x ∈ p, (2 ≤ x ∧ x ≤ 6) ∨ x = 40) (hw : w.length + p.length < 400) (hp160 : p.length < 160) (q : ∀ f, smF t0 w.length h.2.1 f → smS T Ln t0 s (stl e p w).1 (stl e p w).2 O b (h.1, f, h.2.2) → Q none (h.1, f, h.2.2)) : ja_C l (d + 2) mX12_settle (js_sh n) [.inr (.inr (some (90))), .inl (e)] h Q := by
  obtain ⟨hG, ⟨hL, hL3, hT, hb⟩, hs, hk, ⟨h24, ht0⟩, ⟨h26, h29, h30, h31⟩, hp, hc⟩ := id hS
  refine eX12_settle _ _ fun r_least ho => ?_
  unfold bX12_settle
  unfold ja_r at r_least
  refine jb_whl (fun (m : Nat) L' h' => ∃ (f : Nat → Nat → Int), L' = [some (.inr (.inr (some (90)))), some (.inl (e))] ∧ (h.1, f, h.2.2) = h' ∧ (smF t0 w.length h.2.1 f) ∧ (∃ p' w', smS T Ln t0 s p' w' O b (h.1, f, h.2.2) ∧ stl e p' w' = stl e p w ∧ p'.length = m ∧ (w.length ≤ w'.length ∧ (∀ x ∈ p', (2 ≤ x ∧ x ≤ 6) ∨ x = 40) ∧ m < 160) ∧ w'.length + m < 400)) ⟨p.length, ⟨_, rfl, rfl, (by exact smF_rf), (by exact ⟨p, w, hS, rfl, rfl, ⟨by omega, hpm, hp160⟩, by omega⟩)⟩⟩ ?_
  rintro m _ _ ⟨f, rfl, rfl, fr, fp⟩
  obtain ⟨p1, w1, hS1, es, em, el, ew⟩ := fp
  obtain ⟨_, _, _, _, _, ⟨_, g29, g30, _⟩, gp, _⟩ := id hS1
  dsimp only at g29 g30
  have ix : ∀ x q, p1 = x :: q → f 98 ((p1.length : Int) - 1).toNat = x := by
    rintro x q rfl
    have := gp.1
    rw [show (((x :: q).length : Int) - 1).toNat = q.length by simp only [List.length_cons]; omega]
    exact this
  have iz : 0 < p1.length → ∃ x q, p1 = x :: q := by
    cases p1 with
    | nil => simp
    | cons x q => exact fun _ => ⟨x, q, rfl⟩
  refine (jd_eq (φ' := ∃ x q, p1 = x :: q ∧ x < 40 ∧ e ≤ x) (jd_and (jd_and (jd_gt (jv_gF (jr_lr rfl) rfl g29) jv_ci) (fun y => jd_lt (jv_aI (jr_g (jr_lr rfl) rfl (by exact jG_90 hG rfl)) (jv_w (jv_sub (jv_gF (jr_lr rfl) rfl g29) jv_ci) (by unfold ja_r; omega)) rfl (by omega) (by omega)) jv_ci)) (fun y => jd_ge (jv_aI (jr_g (jr_lr rfl) rfl (by exact jG_90 hG rfl)) (jv_w (jv_sub (jv_gF (jr_lr rfl) rfl g29) jv_ci) (by unfold ja_r; omega)) rfl (by have := y.1; omega) (by omega)) (jv_li rfl))) (by 
        dsimp only
        constructor
        · rintro ⟨⟨y1, y2⟩, y3⟩
          obtain ⟨x, q, e⟩ := iz (by omega)
          rw [ix x q e] at y2 y3
          exact ⟨x, q, e, y2, y3⟩
        · rintro ⟨x, q, e, y2, y3⟩
          rw [ix x q e]
          exact ⟨⟨by rw [e]; simp only [List.length_cons]; omega, y2⟩, y3⟩)) _ _ (fun c => ?_) (fun c => ?_)
  · obtain ⟨x, p2, rfl, y2, y3⟩ := c
    simp only [List.length_cons] at em g29
    have hx := el.2.1 x (by simp)
    refine jt_uG (w := (p2.length : Int)) (jr_lr rfl) (by first | rfl | assumption) jv_ci (by (try dsimp only); rw [g29, ja_w_id (by unfold ja_r; omega)]; omega) ?_
    try dsimp only
    obtain ⟨a1, a2⟩ := sm_pop hS1 rfl
    dsimp only at a1 a2
    have gx : ja_up f 90 29 (p2.length : Int) 98 ((p2.length : Nat) : Int).toNat = x := by rw [ja_upO (by omega)]; exact gp.1
    generalize ja_up f 90 29 (p2.length : Int) = f2 at a1 a2 gx ⊢
    have g29 := a2.2.2.2.2.2.1.2.1
    dsimp only at g29
    have dx := eo_d (x := x) (by omega)
    refine jx_m (jr_lr rfl) rfl (jA_i (jA_i jA_0 (jv_fI (jr_g (jr_lr rfl) rfl (jG_90 hG rfl)) (jv_gF (jr_lr rfl) rfl g29) rfl (by omega) (by omega) gx)) jv_ci) (kX12_emit (x := x + 1003) a2 (by omega) dx.1 dx.2 fun f4 k1 k2 => ⟨rfl, ?_⟩)
    exact ⟨m - 1, (by omega), _, rfl, rfl, (by exact smF_tr fr (smF_tr a1 k1 (by omega)) (by omega)), (by exact ⟨p2, w1 ++ [x + 1003], k2, by rw [← es, stl, if_pos ⟨y2, y3⟩], by omega, ⟨by simp only [List.length_append]; omega, fun z hz => el.2.1 z (List.mem_cons_of_mem _ hz), by omega⟩, by simp only [List.length_append, List.length_cons, List.length_nil]; omega⟩)⟩
  · have ee : stl e p1 w1 = (p1, w1) := by
      cases p1 with
      | nil => rfl
      | cons x q => unfold stl; rw [if_neg]; intro y; exact c ⟨x, q, rfl, y.1, y.2⟩
    exact q f fr (by rw [← es, ee]; exact hS1)
set_option maxRecDepth 10000 in
theorem kX12_hasParen {l : Launch} {d : Nat} {h : ja_H} {Q : ja_Q} {T : Nat → Int} {n Ln t0 s O : Nat} {p w : List Int} {b : Int} (hS : smS T Ln t0 s p w O b h) (hp160 : p.length < 160) (q : Q (some (.inl (if (40 : Int) ∈ p then 1 else 0))) h) : ja_C l (d + 1) mX12_hasParen (js_sh n) [.inr (.inr (some (90)))] h Q := by
  obtain ⟨hG, ⟨hL, hL3, hT, hb⟩, hs, hk, ⟨h24, ht0⟩, ⟨h26, h29, h30, h31⟩, hp, hc⟩ := id hS
  refine eX12_hasParen _ fun ho => ?_
  unfold bX12_hasParen
  refine jt_sI jv_ci ?_
  refine jb_forc (p.length) (fun (k : Nat) L' h' => ∃ (v_k : Int), L' = [some (.inr (.inr (some (90)))), some (.inl (v_k))] ∧ v_k = (k : Int) ∧ h = h' ∧ (∀ j, j < k → h.2.1 98 j ≠ 40)) ⟨_, rfl, (by first | rfl | omega | (simp; done) | (simp; omega)), rfl, (by exact fun j hj => absurd hj (by omega))⟩ ?_ ?_ ?_
  · rintro k h_k _ _ ⟨v_k0, rfl, rfl, rfl, xk⟩
    exact jd_eq (jd_lt (jv_li rfl) (jv_gF (jr_lr rfl) rfl h29)) (by omega)
  · rintro k h_k _ _ ⟨v_k0, rfl, rfl, rfl, xk⟩
    refine jb_if_d (φ := h.2.1 98 k = 40) (jd_eq (jd_eqI (jv_aI (jr_g (jr_lr rfl) rfl (jG_90 hG rfl)) (jv_li rfl) rfl (by omega) (by omega)) jv_ci) (by rfl)) (fun c1 => ?_) (fun c1 => ?_)
    · rw [if_pos ((plR_m hp).mpr ⟨k, h_k, c1⟩)] at q
      refine jv_ci _ ⟨Or.inr rfl, ?_⟩
      exact q
    · exact jt_inc rfl (by first | (unfold ja_r; omega) | (unfold ja_rl; omega) | omega | assumption) ⟨_, rfl, (by first | rfl | omega | (simp; done) | (simp; omega)), rfl, (by 
            intro j hj
            by_cases z : j = k
            · subst z; exact c1
            · exact xk j (by omega))⟩
  · rintro _ _ ⟨v_k0, rfl, rfl, rfl, xk⟩
    rw [if_neg (fun y => by obtain ⟨j, y1, y2⟩ := (plR_m hp).mp y; exact xk j y1 y2)] at q
    refine jv_ci _ ⟨Or.inl rfl, ?_⟩
    exact q
set_option maxRecDepth 10000 in
theorem kX12_goesOn {l : Launch} {d : Nat} {h : ja_H} {Q : ja_Q} {T : Nat → Int} {n Ln t0 s O : Nat} {p w : List Int} {b : Int} (hS : smS T Ln t0 s p w O b h) (hp160 : p.length < 160) (q : Q (some (.inl (if (tkK T Ln s = 43 ∨ tkK T Ln s = 45 ∨ tkK T Ln s = 42 ∨ tkK T Ln s = 47) ∨ (tkK T Ln s = 41 ∧ (40 : Int) ∈ p) then 1 else 0))) h) : ja_C l (d + 2) mX12_goesOn (js_sh n) [.inr (.inr (some (90)))] h Q := by
  obtain ⟨hG, ⟨hL, hL3, hT, hb⟩, hs, hk, ⟨h24, ht0⟩, ⟨h26, h29, h30, h31⟩, hp, hc⟩ := id hS
  obtain ⟨_, _, k3, _, _⟩ := id hk
  have m1 := tkM_s (k := tkK T Ln s) (v := 43) (by decide)
  have m2 := tkM_s (k := tkK T Ln s) (v := 45) (by decide)
  have m3 := tkM_s (k := tkK T Ln s) (v := 42) (by decide)
  have m4 := tkM_s (k := tkK T Ln s) (v := 47) (by decide)
  have m5 := tkM_s (k := tkK T Ln s) (v := 41) (by decide)
  refine eX12_goesOn _ fun ho => ?_
  unfold bX12_goesOn
  refine jt_rZ (φ := (tkK T Ln s = 43 ∨ tkK T Ln s = 45 ∨ tkK T Ln s = 42 ∨ tkK T Ln s = 47) ∨ (tkK T Ln s = 41 ∧ (40 : Int) ∈ p)) (jv_is (jv_cb (jd_eq (jd_or (jd_or (jd_or (jd_or (jd_eqI (jv_gF (jr_lr rfl) rfl k3) jv_ci) (fun _ => jd_eqI (jv_gF (jr_lr rfl) rfl k3) jv_ci)) (fun _ => jd_eqI (jv_gF (jr_lr rfl) rfl k3) jv_ci)) (fun _ => jd_eqI (jv_gF (jr_lr rfl) rfl k3) jv_ci)) (fun _ => jd_and (jd_eqI (jv_gF (jr_lr rfl) rfl k3) jv_ci) (fun _ => jd_b (jy_mI (jr_lr rfl) rfl jA_0 fun _ => kX12_hasParen hS hp160)))) (by rw [m1, m2, m3, m4, m5]))) (by simp only [or_assoc])) ?_
  exact q
