/-! reading a sum: what is read at token s, as (fault, token, code) -/
def nxS (T : Nat → Int) (Ln s : Nat) : Nat := tkS T Ln (tkE T Ln s)
theorem nxS_b {T : Nat → Int} {Ln s : Nat} (hs : s ≤ Ln) : s ≤ nxS T Ln s ∧ nxS T Ln s ≤ Ln ∧ (s < Ln → s < nxS T Ln s) := by
  have b1 := tkE_b (T := T) hs
  have b2 := rnE_b (p := blk) (T := T) (Ln := Ln) (tkE T Ln s)
  unfold nxS tkS
  omega
theorem tkK_0 {T : Nat → Int} {Ln s : Nat} (h : tkK T Ln s ≠ 0) : s < Ln := by
  unfold tkK at h
  split at h
  · omega
  · omega
abbrev prR := Int × Nat × List Int
/-- one reading behind another: the first fault stands -/
def prB (a : prR) (w : List Int) (b : Nat → prR) : prR := if a.1 = 0 then ((b a.2.1).1, (b a.2.1).2.1, a.2.2 ++ w ++ (b a.2.1).2.2) else a
def prs (T : Nat → Int) (Ln : Nat) : Nat → Nat → Nat → Nat → prR
  | 0, _, _, s => (1, s, [])
  | k + 1, m, o, s =>
    if m = 0 then
      if tkK T Ln s = 2 then (if 999 < tkV T s (tkE T Ln s - s) then (2, s, []) else (0, nxS T Ln s, [tkV T s (tkE T Ln s - s)]))
      else if tkK T Ln s = 1 then (if nmC T Ln s = -1 then (1, s, []) else (0, nxS T Ln s, [1000 + nmC T Ln s]))
      else if tkK T Ln s = 40 then (if 8 ≤ o then (3, s, []) else prB (prs T Ln k 2 (o + 1) (nxS T Ln s)) [] fun t => if tkK T Ln t = 41 then (0, nxS T Ln t, []) else (1, t, []))
      else if tkK T Ln s = 45 then (if 8 ≤ o then (3, s, []) else prB (prs T Ln k 0 (o + 1) (nxS T Ln s)) [1010] fun t => (0, t, []))
      else (1, s, [])
    else if m = 1 then prB (prs T Ln k 0 o s) [] fun t => prs T Ln k 3 o t
    else if m = 2 then prB (prs T Ln k 1 o s) [] fun t => prs T Ln k 4 o t
    else if m = 3 then
      if tkK T Ln s = 42 ∨ tkK T Ln s = 47 then prB (prs T Ln k 0 o (nxS T Ln s)) [if tkK T Ln s = 42 then 1008 else 1009] fun t => prs T Ln k 3 o t
      else (0, s, [])
    else
      if tkK T Ln s = 43 ∨ tkK T Ln s = 45 then prB (prs T Ln k 1 o (nxS T Ln s)) [if tkK T Ln s = 43 then 1006 else 1007] fun t => prs T Ln k 4 o t
      else (0, s, [])
theorem prB_b {Ln s j : Nat} {a : prR} {w : List Int} {b : Nat → prR} (ha : s ≤ a.2.1 ∧ a.2.1 ≤ Ln ∧ s + a.2.2.length ≤ a.2.1) (hj : j + w.length ≤ s) (hb : ∀ t, t ≤ Ln → t ≤ (b t).2.1 ∧ (b t).2.1 ≤ Ln ∧ t + (b t).2.2.length ≤ (b t).2.1) : j ≤ (prB a w b).2.1 ∧ (prB a w b).2.1 ≤ Ln ∧ j + (prB a w b).2.2.length ≤ (prB a w b).2.1 := by
  have := hb a.2.1 ha.2.1
  unfold prB
  split
  · simp only [List.length_append]; omega
  · omega
theorem prs_b {T : Nat → Int} {Ln : Nat} : ∀ k m o s, s ≤ Ln → s ≤ (prs T Ln k m o s).2.1 ∧ (prs T Ln k m o s).2.1 ≤ Ln ∧ s + (prs T Ln k m o s).2.2.length ≤ (prs T Ln k m o s).2.1
  | 0, m, o, s, hs => by simp only [prs, List.length_nil]; omega
  | k + 1, m, o, s, hs => by
    have ih := prs_b (T := T) (Ln := Ln) k
    have nb := nxS_b (T := T) hs
    have k0 : tkK T Ln s ≠ 0 → s < nxS T Ln s := fun y => nb.2.2 (tkK_0 y)
    have ni := fun m o => ih m o (nxS T Ln s) nb.2.1
    rw [prs]
    split
    · split
      · rename_i c
        have := k0 (by omega)
        split <;> simp only [List.length_nil, List.length_cons] <;> omega
      · split
        · rename_i c
          have := k0 (by omega)
          split <;> simp only [List.length_nil, List.length_cons] <;> omega
        · split
          · rename_i c
            have := k0 (by omega)
            split
            · simp only [List.length_nil]; omega
            · refine prB_b (s := nxS T Ln s) (ni 2 (o + 1)) (by simp only [List.length_nil]; omega) (fun t ht => ?_)
              have nt := nxS_b (T := T) ht
              split <;> simp only [List.length_nil] <;> omega
          · split
            · rename_i c
              have := k0 (by omega)
              split
              · simp only [List.length_nil]; omega
              · refine prB_b (s := nxS T Ln s) (ni 0 (o + 1)) (by simp only [List.length_nil, List.length_cons]; omega) (fun t ht => ?_)
                simp only [List.length_nil]; omega
            · simp only [List.length_nil]; omega
    · split
      · exact prB_b (s := s) (ih 0 o s hs) (by simp only [List.length_nil]; omega) (fun t ht => ih 3 o t ht)
      · split
        · exact prB_b (s := s) (ih 1 o s hs) (by simp only [List.length_nil]; omega) (fun t ht => ih 4 o t ht)
        · split
          · split
            · rename_i c
              have := k0 (by omega)
              exact prB_b (s := nxS T Ln s) (ni 0 o) (by simp only [List.length_nil, List.length_cons]; omega) (fun t ht => ih 3 o t ht)
            · simp only [List.length_nil]; omega
          · split
            · rename_i c
              have := k0 (by omega)
              exact prB_b (s := nxS T Ln s) (ni 1 o) (by simp only [List.length_nil, List.length_cons]; omega) (fun t ht => ih 4 o t ht)
            · simp only [List.length_nil]; omega
/-- the class's reader at token s, program P, c pieces of code -/
def rdS (n : Nat) (T : Nat → Int) (Ln P s c : Nat) (h : ja_H) : Prop := (jG h.1 ∧ jPg n P h.1 ∧ h.1 48 6 = some P ∧ 66 ≤ P) ∧ (h.2.1 48 1 = (Ln : Int) ∧ Ln ≤ 300 ∧ h.2.1 49 = T ∧ ∀ j, j < Ln → 0 ≤ T j ∧ T j ≤ 255) ∧ s ≤ Ln ∧ tkO T Ln s h.2.1 ∧ h.2.1 P 4 = (c : Int)
/-- what a reading of a sum leaves: its frame, the code, the token, the fault -/
def rdP (T : Nat → Int) (Ln P c : Nat) (r : prR) (I f : Nat → Nat → Int) : Prop :=
  (jfr [48, P, P + 3] I f ∧ (∀ j, j < 2 ∨ (5 < j ∧ j ≠ 8 ∧ j ≠ 9) → f 48 j = I 48 j) ∧ ∀ j, j ≠ 4 → f P j = I P j) ∧
  (f P 4 = ((c + r.2.2.length : Nat) : Int) ∧ (∀ j, j < c → f (P + 3) j = I (P + 3) j) ∧ ∀ j, j < r.2.2.length → f (P + 3) (c + j) = r.2.2.getD j 0) ∧
  tkO T Ln r.2.1 f ∧ (r.1 ≠ 0 → f 48 8 = r.1 ∧ f 48 9 = (r.2.1 : Int)) ∧ (r.1 = 0 → f 48 8 = I 48 8 ∧ f 48 9 = I 48 9)
theorem rd_S {n Ln P s c : Nat} {T : Nat → Int} {h : ja_H} {r : prR} {f : Nat → Nat → Int} (hS : rdS n T Ln P s c h) (p : rdP T Ln P c r h.2.1 f) (hr : r.2.1 ≤ Ln) : rdS n T Ln P r.2.1 (c + r.2.2.length) (h.1, f, h.2.2) := by
  obtain ⟨a1, ⟨a2, a3, a4, a5⟩, a6, a7, a8⟩ := hS
  obtain ⟨⟨p1, p2, p3⟩, ⟨p4, p5, p6⟩, p7, p8, p9⟩ := p
  refine ⟨a1, ⟨?_, a3, ?_, a5⟩, hr, p7, p4⟩
  · show f 48 1 = _
    rw [p2 1 (by omega)]; exact a2
  · show f 49 = _
    have := a1.2.2.2
    rw [p1 49 (by simp; omega)]; exact a4
theorem rd_cat {Ln P c : Nat} {T : Nat → Int} {a b : prR} {I f g : Nat → Nat → Int} (ha : a.1 = 0) (p : rdP T Ln P c a I f) (q : rdP T Ln P (c + a.2.2.length) b f g) : rdP T Ln P c (b.1, b.2.1, a.2.2 ++ b.2.2) I g := by
  obtain ⟨⟨p1, p2, p3⟩, ⟨p4, p5, p6⟩, p7, p8, p9⟩ := p
  obtain ⟨⟨q1, q2, q3⟩, ⟨q4, q5, q6⟩, q7, q8, q9⟩ := q
  refine ⟨⟨jfr_tr p1 q1, fun j hj => (q2 j hj).trans (p2 j hj), fun j hj => (q3 j hj).trans (p3 j hj)⟩, ⟨?_, fun j hj => (q5 j (by omega)).trans (p5 j hj), fun j hj => ?_⟩, q7, q8, fun y => ⟨(q9 y).1.trans (p9 ha).1, (q9 y).2.trans (p9 ha).2⟩⟩
  · rw [q4]; simp only [List.length_append]; omega
  · simp only [List.length_append] at hj
    by_cases z : j < a.2.2.length
    · rw [q5 _ (by omega), p6 j z, List.getD_eq_getElem?_getD, List.getD_eq_getElem?_getD, List.getElem?_append_left z]
    · have := q6 (j - a.2.2.length) (by omega)
      rw [show c + a.2.2.length + (j - a.2.2.length) = c + j by omega] at this
      rw [this, List.getD_eq_getElem?_getD, List.getD_eq_getElem?_getD, List.getElem?_append_right (by omega)]
theorem rd_adv {n Ln P s c : Nat} {T : Nat → Int} {h : ja_H} {f : Nat → Nat → Int} (hS : rdS n T Ln P s c h) (fr : jaf h.2.1 f) (ft : tkO T Ln (nxS T Ln s) f) : rdP T Ln P c (0, nxS T Ln s, []) h.2.1 f := by
  obtain ⟨⟨a1, a2, a3, a9⟩, ⟨b2, b3, b4, b5⟩, a6, a7, a8⟩ := hS
  refine ⟨⟨jfr_sub fr.1 (by simp), fun j hj => fr.2 j (by omega), fun j _ => by rw [fr.1 P (by simp; omega)]⟩, ⟨?_, fun j _ => by rw [fr.1 (P + 3) (by simp; omega)], fun j hj => absurd hj (by simp)⟩, ft, fun y => absurd rfl y, fun _ => ⟨fr.2 8 (by omega), fr.2 9 (by omega)⟩⟩
  rw [fr.1 P (by simp; omega), a8]; rfl
theorem rd_ref {n Ln P s c : Nat} {T : Nat → Int} {h : ja_H} {v : Int} (hS : rdS n T Ln P s c h) (hv : v ≠ 0) : rdP T Ln P c (v, s, []) h.2.1 (ja_up (ja_up h.2.1 48 8 v) 48 9 (h.2.1 48 4)) := by
  obtain ⟨⟨a1, a2, a3, a9⟩, ⟨b2, b3, b4, b5⟩, a6, ⟨k1, k2, k3, k4⟩, a8⟩ := hS
  refine ⟨⟨jfr_up (jfr_up (jfr_rf _ _) (by simp)) (by simp), fun j hj => by rw [ja_upO (by omega), ja_upO (by omega)], fun j _ => by rw [ja_upO (by omega), ja_upO (by omega)]⟩, ⟨?_, fun j _ => by rw [ja_upO (by omega), ja_upO (by omega)], fun j hj => absurd hj (by simp)⟩, ⟨?_, ?_, ?_, fun y => ?_⟩, fun _ => ⟨?_, ?_⟩, fun y => absurd y hv⟩
  · rw [ja_upO (by omega), ja_upO (by omega), a8]; rfl
  · rw [ja_upO (by omega), ja_upO (by omega)]; exact k1
  · rw [ja_upO (by omega), ja_upO (by omega)]; exact k2
  · rw [ja_upO (by omega), ja_upO (by omega)]; exact k3
  · rw [ja_upO (by omega), ja_upO (by omega)]; exact k4 y
  · rw [ja_upO (by omega)]; exact ja_upE rfl rfl
  · rw [ja_upE rfl rfl]; exact k3
theorem rd_code {n Ln P s c : Nat} {T : Nat → Int} {h : ja_H} {v : Int} (hS : rdS n T Ln P s c h) : rdP T Ln P c (0, s, [v]) h.2.1 (ja_up (ja_up h.2.1 (P + 3) c v) P 4 ((c : Int) + 1)) := by
  obtain ⟨⟨a1, a2, a3, a9⟩, ⟨b2, b3, b4, b5⟩, a6, ⟨k1, k2, k3, k4⟩, a8⟩ := hS
  refine ⟨⟨jfr_up (jfr_up (jfr_rf _ _) (by simp)) (by simp), fun j hj => by rw [ja_upO (by omega), ja_upO (by omega)], fun j _ => by rw [ja_upO (by omega), ja_upO (by omega)]⟩, ⟨?_, fun j _ => by rw [ja_upO (by omega), ja_upO (by omega)], fun j hj => ?_⟩, ⟨?_, ?_, ?_, fun y => ?_⟩, fun y => absurd rfl y, fun _ => ⟨?_, ?_⟩⟩
  · rw [ja_upE rfl rfl]; simp
  · simp at hj
    subst hj
    rw [ja_upO (by omega), ja_upE rfl (by omega)]; rfl
  all_goals rw [ja_upO (by omega), ja_upO (by omega)]
  · exact k1
  · exact k2
  · exact k3
  · exact k4 y
set_option maxRecDepth 10000 in
theorem kX5_pass {l : Launch} {d : Nat} {h : ja_H} {Q : ja_Q} {n Ln P s c : Nat} {T : Nat → Int} (hS : rdS n T Ln P s c h) {v : Int} (q0 : tkK T Ln s = v → ∀ f, rdP T Ln P c (0, nxS T Ln s, []) h.2.1 f → Q (some (.inl 1)) (h.1, f, h.2.2)) (q1 : tkK T Ln s ≠ v → ∀ f, rdP T Ln P c (1, s, []) h.2.1 f → Q (some (.inl 0)) (h.1, f, h.2.2)) : ja_C l (d + 3) mX5_pass (js_sh n) [.inr (.inr (some (48))), .inl (v)] h Q := by
  obtain ⟨⟨hG, hg, h6, hP⟩, ⟨hL, hL3, hT, hb⟩, hs, hk, hc⟩ := id hS
  obtain ⟨k1, k2, k3, k4⟩ := id hk
  have eb := tkE_b (T := T) hs
  refine eX5_pass _ _ fun r_sign ho => ?_
  unfold bX5_pass
  unfold ja_r at r_sign
  refine jb_if_d (jd_ne (jv_gF (jr_lr rfl) rfl k2) (jv_li rfl)) (fun c1 => ?_) (fun c1 => ?_)
  · refine jx_mI (jr_lr rfl) (by first | rfl | assumption) (jA_i jA_0 jv_ci) (kX5_refuse hG ⟨_, rfl, fun _ => ⟨Or.inl rfl, ?_⟩⟩)
    exact q1 c1 _ (rd_ref hS (by decide))
  · refine jx_m (jr_lr rfl) (by first | rfl | assumption) jA_0 (kX5_advance hG hL hL3 hT hb k1 eb.2.1 fun f fr ft => ⟨rfl, ?_⟩)
    skip
    refine jv_ci _ ⟨Or.inr rfl, ?_⟩
    exact q0 (Classical.not_not.mp c1) _ (rd_adv hS fr ft)
set_option maxRecDepth 10000 in
theorem kX5_passOpening {l : Launch} {d : Nat} {h : ja_H} {Q : ja_Q} {n Ln P s c : Nat} {T : Nat → Int} (hS : rdS n T Ln P s c h) {v : Int} {o : Nat} (q0 : tkK T Ln s = v → o < 8 → ∀ f, rdP T Ln P c (0, nxS T Ln s, []) h.2.1 f → Q (some (.inl 1)) (h.1, f, h.2.2)) (q1 : tkK T Ln s ≠ v → ∀ f, rdP T Ln P c (1, s, []) h.2.1 f → Q (some (.inl 0)) (h.1, f, h.2.2)) (q3 : tkK T Ln s = v → 8 ≤ o → ∀ f, rdP T Ln P c (3, s, []) h.2.1 f → Q (some (.inl 0)) (h.1, f, h.2.2)) : ja_C l (d + 3) mX5_passOpening (js_sh n) [.inr (.inr (some (48))), .inl (v), .inl ((o : Int))] h Q := by
  obtain ⟨⟨hG, hg, h6, hP⟩, ⟨hL, hL3, hT, hb⟩, hs, hk, hc⟩ := id hS
  obtain ⟨k1, k2, k3, k4⟩ := id hk
  have eb := tkE_b (T := T) hs
  refine eX5_passOpening _ _ _ fun r_sign r_open ho => ?_
  unfold bX5_passOpening
  unfold ja_r at r_sign r_open
  refine jb_if_d (jd_ne (jv_gF (jr_lr rfl) rfl k2) (jv_li rfl)) (fun c1 => ?_) (fun c1 => ?_)
  · refine jx_mI (jr_lr rfl) (by first | rfl | assumption) (jA_i jA_0 jv_ci) (kX5_refuse hG ⟨_, rfl, fun _ => ⟨Or.inl rfl, ?_⟩⟩)
    exact q1 c1 _ (rd_ref hS (by decide))
  · refine jb_if_d (φ := 8 ≤ o) (jd_eq (jd_ge (jv_li rfl) jv_ci) (by omega)) (fun c2 => ?_) (fun c2 => ?_)
    · refine jx_mI (jr_lr rfl) (by first | rfl | assumption) (jA_i jA_0 jv_ci) (kX5_refuse hG ⟨_, rfl, fun _ => ⟨Or.inl rfl, ?_⟩⟩)
      exact q3 (Classical.not_not.mp c1) c2 _ (rd_ref hS (by decide))
    · refine jx_m (jr_lr rfl) (by first | rfl | assumption) jA_0 (kX5_advance hG hL hL3 hT hb k1 eb.2.1 fun f fr ft => ⟨rfl, ?_⟩)
      skip
      refine jv_ci _ ⟨Or.inr rfl, ?_⟩
      exact q0 (Classical.not_not.mp c1) (by omega) _ (rd_adv hS fr ft)
