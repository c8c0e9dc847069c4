/-! about, fault -/
theorem jt_cs {s sd : ja_T} {k z : Int} {r : List (Int × ja_T)} {L : ja_L} {h : ja_H} {N B C : ja_P} {R : ja_Q} (t : z = k → s N B C R L h) (f : z ≠ k → jb_cs r sd z N B C R L h) : jb_cs ((k, s) :: r) sd z N B C R L h := by
  by_cases c : z = k
  · rw [jb_cs, if_pos c]; exact t c
  · rw [jb_cs, if_neg c]; exact f c
theorem jt_csn {sd : ja_T} {z : Int} {L : ja_L} {h : ja_H} {N B C : ja_P} {R : ja_Q} (t : sd N B C R L h) : jb_cs [] sd z N B C R L h := t
def abS (f wt : Nat → Int) (v : Int) : Int := if v = 0 then f 0 else if v = 1 then f 1 else if v = 2 then f 2 else if v = 3 then f 3 else if v = 4 then f 4 else if v = 5 then f 5 else if v = 6 then f 6 else if v = 7 then f 7 else if 10 ≤ v ∧ v ≤ 13 then wt (v - 10).toNat else -1
/-- what about tells, in the reference and in the class -/
def jm_ab (h : ja_H) : Nat → Int
  | 0 => h.2.1 90 0 | 1 => h.2.1 90 1 | 2 => h.2.1 91 0 | 3 => h.2.1 91 1 | 4 => h.2.1 91 2 | 5 => h.2.1 91 3 | 6 => h.2.1 90 16 | _ => h.2.1 91 4
def jc_ab (h : ja_H) : Nat → Int
  | 0 => h.2.1 1 0 | 1 => h.2.1 1 1 | 2 => h.2.1 1 6 | 3 => h.2.1 1 7 | 4 => h.2.1 1 8 | 5 => h.2.1 1 9 | 6 => h.2.1 48 1 | _ => h.2.1 1 5
theorem kX12_about {l : Launch} {d n : Nat} {v w g : Int} {h : ja_H} {Q : ja_Q} (hm : jm w g h) (q : Q (some (.inl (abS (jm_ab h) (fun i => h.2.1 91 (880 + i)) v))) h) : ja_C l (d + 2) mX12_about (js_sh n) [.inr (.inr (some 90)), .inl v] h Q := by
  obtain ⟨m1, m2, m3, m4, m5, m6, m7⟩ := id hm
  have ma : h.1 90 2 = some 91 := by rw [m1]; rfl
  refine eX12_about _ _ fun rv _ => ?_
  unfold ja_r at rv
  unfold bX12_about
  refine jb_if_d (φ := 10 ≤ v ∧ v ≤ 13) (jd_b (jv_c3 (jv_li rfl) jv_ci jv_ci fun _ => kX12_isIn)) (fun c => ?_) (fun c => ?_)
  · unfold abS at q
    rw [if_neg (by omega), if_neg (by omega), if_neg (by omega), if_neg (by omega), if_neg (by omega), if_neg (by omega), if_neg (by omega), if_neg (by omega), if_pos c] at q
    exact jt_rI (jv_is (jv_aI (k := 91) (n := 920) (jr_g (jr_lr rfl) rfl ma) (jv_w (jv_sub (jv_w (jv_add jv_ci (jv_li rfl)) (by first | omega | (unfold ja_r; omega) | (unfold ja_rl; omega) | assumption)) jv_ci) (by first | omega | (unfold ja_r; omega) | (unfold ja_rl; omega) | assumption)) rfl (by omega) (by omega)) (by rw [show (880 + v - 10).toNat = 880 + (v - 10).toNat by omega])) q
  · refine jt_sw (jv_li rfl) ?_
    refine jt_cs (fun e => ?_) fun e0 => jt_cs (fun e => ?_) fun e1 => jt_cs (fun e => ?_) fun e2 => jt_cs (fun e => ?_) fun e3 => jt_cs (fun e => ?_) fun e4 => jt_cs (fun e => ?_) fun e5 => jt_cs (fun e => ?_) fun e6 => jt_cs (fun e => ?_) fun e7 => jt_csn ?_
    · subst e; exact jt_rI (jv_gI (jr_lr rfl) rfl) q
    · subst e; exact jt_rI (jv_gI (jr_lr rfl) rfl) q
    · subst e; exact jt_rI (jv_aI (k := 91) (n := 920) (jr_g (jr_lr rfl) rfl ma) jv_ci rfl (by decide) (by decide)) q
    · subst e; exact jt_rI (jv_aI (k := 91) (n := 920) (jr_g (jr_lr rfl) rfl ma) jv_ci rfl (by decide) (by decide)) q
    · subst e; exact jt_rI (jv_aI (k := 91) (n := 920) (jr_g (jr_lr rfl) rfl ma) jv_ci rfl (by decide) (by decide)) q
    · subst e; exact jt_rI (jv_aI (k := 91) (n := 920) (jr_g (jr_lr rfl) rfl ma) jv_ci rfl (by decide) (by decide)) q
    · subst e; exact jt_rI (jv_gI (jr_lr rfl) rfl) q
    · subst e; exact jt_rI (jv_aI (k := 91) (n := 920) (jr_g (jr_lr rfl) rfl ma) jv_ci rfl (by decide) (by decide)) q
    · unfold abS at q
      rw [if_neg e0, if_neg e1, if_neg e2, if_neg e3, if_neg e4, if_neg e5, if_neg e6, if_neg e7, if_neg c] at q
      exact jt_rI jv_ci q
theorem ja_w10 {v : Int} (rv : -2147483648 ≤ v ∧ v < 2147483648) : (0 ≤ ja_w (v - 10) ∧ ja_w (v - 10) ≤ 3) ↔ (10 ≤ v ∧ v ≤ 13) := by
  unfold ja_w
  rw [Int.bmod_def]
  omega
theorem kX11_about {l : Launch} {d n : Nat} {v w g : Int} {h : ja_H} {Q : ja_Q} (hT : jT h) (hs : jS w g n 1 h) (q : Q (some (.inl (abS (jc_ab h) (fun i => h.2.1 3 i) v))) h) : ja_C l (d + 3) mX11_about (js_sh n) [.inr (.inr (some 0)), .inl v] h Q := by
  obtain ⟨t0, t1, t2, t3, t4, t5, t6, t7, t8⟩ := id hT
  have sw : h.1 1 3 = some 3 := hs.2.1.2.1
  refine eX11_about _ _ fun rv _ => ?_
  unfold ja_r at rv
  unfold bX11_about
  refine jt_sw (jv_li rfl) ?_
  refine jt_cs (fun e => ?_) fun e0 => jt_cs (fun e => ?_) fun e1 => jt_cs (fun e => ?_) fun e2 => jt_cs (fun e => ?_) fun e3 => jt_cs (fun e => ?_) fun e4 => jt_cs (fun e => ?_) fun e5 => jt_cs (fun e => ?_) fun e6 => jt_cs (fun e => ?_) fun e7 => jt_csn ?_
  · subst e; exact jt_rI (jv_gI (jr_g (jr_lr rfl) rfl t0) rfl) q
  · subst e; exact jt_rI (jv_gI (jr_g (jr_lr rfl) rfl t0) rfl) q
  · subst e; exact jt_rI (jv_gI (jr_g (jr_lr rfl) rfl t0) rfl) q
  · subst e; exact jt_rI (jv_gI (jr_g (jr_lr rfl) rfl t0) rfl) q
  · subst e; exact jt_rI (jv_gI (jr_g (jr_lr rfl) rfl t0) rfl) q
  · subst e; exact jt_rI (jv_gI (jr_g (jr_lr rfl) rfl t0) rfl) q
  · subst e; exact jt_rI (jv_gI (jr_g (jr_lr rfl) rfl t7) rfl) q
  · subst e; exact jt_rI (jv_gI (jr_g (jr_lr rfl) rfl t0) rfl) q
  · unfold abS at q
    rw [if_neg e0, if_neg e1, if_neg e2, if_neg e3, if_neg e4, if_neg e5, if_neg e6, if_neg e7] at q
    refine jt_rI (jv_cv (φ := 10 ≤ v ∧ v ≤ 13) (jd_eq (jd_b (jv_c1 (jv_sub (jv_li rfl) jv_ci) fun _ => kX11_isMaker)) (ja_w10 rv)) (fun c => ?_) (fun _ => jv_ci)) q
    exact jv_aI (k := 3) (n := 4) (jr_g (jr_g (jr_lr rfl) rfl t0) rfl sw) (jv_w (jv_sub (jv_li rfl) jv_ci) (by first | omega | (unfold ja_r; omega) | (unfold ja_rl; omega) | assumption)) rfl (by omega) (by omega)
theorem kX11_fault {l : Launch} {d n : Nat} {v : Int} {h : ja_H} {Q : ja_Q} (hT : jT h) (q : Q (some (.inl (if h.2.1 48 7 = 0 ∨ ¬ (0 ≤ v ∧ v ≤ 1) then -1 else if v = 0 then h.2.1 48 8 else h.2.1 48 9))) h) : ja_C l (d + 2) mX11_fault (js_sh n) [.inr (.inr (some 0)), .inl v] h Q := by
  obtain ⟨t0, t1, t2, t3, t4, t5, t6, t7, t8⟩ := id hT
  refine eX11_fault _ _ fun rv _ => ?_
  unfold bX11_fault
  refine jb_if_d (φ := h.2.1 48 7 = 0 ∨ ¬ (0 ≤ v ∧ v ≤ 1)) (jd_eq (jd_or (jd_not (jd_bt (jv_gI (jr_g (jr_lr rfl) rfl t7) rfl))) fun _ => jd_not (jd_b (jv_c3 (jv_li rfl) jv_ci jv_ci fun _ => kX11_within))) (by simp)) (fun c => ?_) (fun c => ?_)
  · rw [if_pos c] at q; exact jt_rI jv_ci q
  · rw [if_neg c] at q
    exact jt_rI (jv_cv (jd_eqI (jv_li rfl) jv_ci) (fun _ => jv_gI (jr_g (jr_lr rfl) rfl t7) rfl) (fun _ => jv_gI (jr_g (jr_lr rfl) rfl t7) rfl)) q
