/-! the class's reader with all of its program: token s, A acts, their kinds K, their numbers N, code cl, fault F at Fp -/
def upF (N : Nat → Int) (i : Nat) (v : Int) : Nat → Int := fun j => if j = i then v else N j
def acS (n : Nat) (T : Nat → Int) (Ln P s A : Nat) (K N : Nat → Int) (cl : List Int) (F Fp : Int) (h : ja_H) : Prop := rdS n T Ln P s cl.length h ∧ (h.2.1 P 3 = (A : Int) ∧ A ≤ 16 ∧ h.2.1 (P + 1) = K ∧ h.2.1 (P + 2) = N) ∧ (∀ j, j < cl.length → h.2.1 (P + 3) j = cl.getD j 0) ∧ h.2.1 48 8 = F ∧ h.2.1 48 9 = Fp
/-- what a reading of acts may change -/
def acF (P : Nat) (I f : Nat → Nat → Int) : Prop := jfr [48, P, P + 1, P + 2, P + 3] I f ∧ ∀ j, j < 2 ∨ (5 < j ∧ j ≠ 8 ∧ j ≠ 9) → f 48 j = I 48 j
theorem acF_rf {P : Nat} {I : Nat → Nat → Int} : acF P I I := ⟨jfr_rf _ _, fun _ _ => rfl⟩
theorem acF_tr {P : Nat} {I f g : Nat → Nat → Int} (a : acF P I f) (b : acF P f g) : acF P I g := ⟨jfr_tr a.1 b.1, fun j hj => (b.2 j hj).trans (a.2 j hj)⟩
theorem ac_rd {n Ln P s A c : Nat} {T K N : Nat → Int} {cl : List Int} {F Fp : Int} {h : ja_H} {r : prR} {f : Nat → Nat → Int} (hA : acS n T Ln P s A K N cl F Fp h) (hc : c = cl.length) (p : rdP T Ln P c r h.2.1 f) (hr : r.2.1 ≤ Ln) : acF P h.2.1 f ∧ acS n T Ln P r.2.1 A K N (cl ++ r.2.2) (if r.1 = 0 then F else r.1) (if r.1 = 0 then Fp else (r.2.1 : Int)) (h.1, f, h.2.2) := by
  subst hc
  obtain ⟨a1, ⟨a2, a3, a4, a5⟩, a6, a7, a8⟩ := hA
  have hS := rd_S a1 p hr
  obtain ⟨⟨p1, p2, p3⟩, ⟨p4, p5, p6⟩, p7, p8, p9⟩ := p
  have hP := a1.1.2.2.2
  refine ⟨⟨jfr_sub p1 (by simp), p2⟩, by rw [List.length_append]; exact hS, ⟨?_, a3, ?_, ?_⟩, fun j hj => ?_, ?_, ?_⟩
  · show f P 3 = _
    rw [p3 3 (by omega)]; exact a2
  · show f (P + 1) = _
    rw [p1 (P + 1) (by simp; omega)]; exact a4
  · show f (P + 2) = _
    rw [p1 (P + 2) (by simp; omega)]; exact a5
  · show f (P + 3) j = _
    rw [List.length_append] at hj
    by_cases z : j < cl.length
    · rw [p5 j z, a6 j z, List.getD_eq_getElem?_getD, List.getD_eq_getElem?_getD, List.getElem?_append_left z]
    · have := p6 (j - cl.length) (by omega)
      rw [show cl.length + (j - cl.length) = j by omega] at this
      rw [this, List.getD_eq_getElem?_getD, List.getD_eq_getElem?_getD, List.getElem?_append_right (by omega)]
  · show f 48 8 = _
    split
    · rename_i y; rw [(p9 y).1]; exact a7
    · rename_i y; exact (p8 y).1
  · show f 48 9 = _
    split
    · rename_i y; rw [(p9 y).2]; exact a8
    · rename_i y; exact (p8 y).2
theorem ac_num {n Ln P s A i : Nat} {T K N : Nat → Int} {cl : List Int} {F Fp v : Int} {h : ja_H} (hA : acS n T Ln P s A K N cl F Fp h) : acF P h.2.1 (ja_up h.2.1 (P + 2) i v) ∧ acS n T Ln P s A K (upF N i v) cl F Fp (h.1, ja_up h.2.1 (P + 2) i v, h.2.2) := by
  obtain ⟨⟨b1, ⟨b2, b3, b4, b5⟩, b6, ⟨k1, k2, k3, k4⟩, b8⟩, ⟨a2, a3, a4, a5⟩, a6, a7, a8⟩ := hA
  have hP := b1.2.2.2
  refine ⟨⟨jfr_up (jfr_rf _ _) (by simp), fun j _ => by rw [ja_upO (by omega)]⟩, ⟨b1, ⟨?_, b3, ?_, b5⟩, b6, ⟨?_, ?_, ?_, fun y => ?_⟩, ?_⟩, ⟨?_, a3, ?_, ?_⟩, fun j hj => ?_, ?_, ?_⟩
  · show ja_up h.2.1 (P + 2) i v 48 1 = _
    rw [ja_upO (by omega)]; exact b2
  · show ja_up h.2.1 (P + 2) i v 49 = _
    rw [← b4]; funext j; exact ja_upO (by omega)
  · show ja_up h.2.1 (P + 2) i v 48 2 = _
    rw [ja_upO (by omega)]; exact k1
  · show ja_up h.2.1 (P + 2) i v 48 3 = _
    rw [ja_upO (by omega)]; exact k2
  · show ja_up h.2.1 (P + 2) i v 48 4 = _
    rw [ja_upO (by omega)]; exact k3
  · show ja_up h.2.1 (P + 2) i v 48 5 = _
    rw [ja_upO (by omega)]; exact k4 y
  · show ja_up h.2.1 (P + 2) i v P 4 = _
    rw [ja_upO (by omega)]; exact b8
  · show ja_up h.2.1 (P + 2) i v P 3 = _
    rw [ja_upO (by omega)]; exact a2
  · show ja_up h.2.1 (P + 2) i v (P + 1) = _
    rw [← a4]; funext j; exact ja_upO (by omega)
  · show ja_up h.2.1 (P + 2) i v (P + 2) = _
    funext j
    unfold upF
    split
    · rename_i y; exact ja_upE rfl y
    · rw [ja_upO (by omega), a5]
  · show ja_up h.2.1 (P + 2) i v (P + 3) j = _
    rw [ja_upO (by omega)]; exact a6 j hj
  · show ja_up h.2.1 (P + 2) i v 48 8 = _
    rw [ja_upO (by omega)]; exact a7
  · show ja_up h.2.1 (P + 2) i v 48 9 = _
    rw [ja_upO (by omega)]; exact a8
set_option maxRecDepth 10000 in
theorem kX5_readNumber {l : Launch} {d : Nat} {h : ja_H} {Q : ja_Q} {n Ln P s A : Nat} {T K N : Nat → Int} {cl : List Int} {F Fp : Int} (hA : acS n T Ln P s A K N cl F Fp h) {a t : Nat} {lo hi v : Int} (ha : a < 16) (ht : t < 7) (hv : v = tkV T s (tkE T Ln s - s)) (q0 : tkK T Ln s = 2 → lo ≤ v ∧ v ≤ hi → ∀ f, acF P h.2.1 f → acS n T Ln P (nxS T Ln s) A K (upF N (7 * a + t) v) cl F Fp (h.1, f, h.2.2) → Q (some (.inl 1)) (h.1, f, h.2.2)) (q1 : tkK T Ln s ≠ 2 → ∀ f, acF P h.2.1 f → acS n T Ln P s A K N cl 1 (s : Int) (h.1, f, h.2.2) → Q (some (.inl 0)) (h.1, f, h.2.2)) (q2 : tkK T Ln s = 2 → ¬ (lo ≤ v ∧ v ≤ hi) → ∀ f, acF P h.2.1 f → acS n T Ln P s A K N cl 2 (s : Int) (h.1, f, h.2.2) → Q (some (.inl 0)) (h.1, f, h.2.2)) : ja_C l (d + 3) mX5_readNumber (js_sh n) [.inr (.inr (some (48))), .inl ((a : Int)), .inl ((t : Int)), .inl (lo), .inl (hi)] h Q := by
  have hS := hA.1
  obtain ⟨⟨hG, hg, h6, hP⟩, ⟨hL, hL3, hT, hb⟩, hs, hk, hc⟩ := id hS
  obtain ⟨k1, k2, k3, k4⟩ := id hk
  have eb := tkE_b (T := T) hs
  have nb := nxS_b (T := T) hs
  refine eX5_readNumber _ _ _ _ _ fun r_act r_slot r_low r_high ho => ?_
  unfold bX5_readNumber
  unfold ja_r at r_act r_slot r_low r_high
  refine jb_if_d (jd_ne (jv_gF (jr_lr rfl) rfl k2) jv_ci) (fun c1 => ?_) (fun c1 => ?_)
  · refine jx_mI (jr_lr rfl) (by first | rfl | assumption) (jA_i jA_0 jv_ci) (kX5_refuse hG ⟨_, rfl, fun _ => ⟨Or.inl rfl, ?_⟩⟩)
    have w := ac_rd hA rfl (rd_ref (v := 1) hS (by decide)) hs
    simp only [List.append_nil] at w
    exact q1 c1 _ w.1 w.2
  · have c1 := Classical.not_not.mp c1
    have k5 := k4 c1
    rw [← hv] at k5
    refine jb_if_d (φ := ¬ (lo ≤ v ∧ v ≤ hi)) (jd_eq (jd_not (jd_b (jy_sI (jA_i (jA_i (jA_i jA_0 (jv_gF (jr_lr rfl) rfl k5)) (jv_li rfl)) (jv_li rfl)) fun _ => kX11_within))) (by rfl)) (fun c2 => ?_) (fun c2 => ?_)
    · refine jx_mI (jr_lr rfl) (by first | rfl | assumption) (jA_i jA_0 jv_ci) (kX5_refuse hG ⟨_, rfl, fun _ => ⟨Or.inl rfl, ?_⟩⟩)
      have w := ac_rd hA rfl (rd_ref (v := 2) hS (by decide)) hs
      simp only [List.append_nil] at w
      exact q2 c1 c2 _ w.1 w.2
    · have c2 := Classical.not_not.mp c2
      refine jx_m (jr_g (jr_lr rfl) rfl h6) hg.1 (jA_i (jA_i (jA_i jA_0 (jv_li rfl)) (jv_li rfl)) (jv_gF (jr_lr rfl) rfl k5)) (kX4_setNumber hg ha ht ⟨rfl, ?_⟩)
      obtain ⟨w1, w2⟩ := ac_num (i := 7 * a + t) (v := v) hA
      generalize ja_up h.2.1 (P + 2) (7 * a + t) v = f0 at w1 w2 ⊢
      have hS0 := w2.1
      refine jx_m (jr_lr rfl) (by first | rfl | assumption) jA_0 (kX5_advance (h := (h.1, f0, h.2.2)) hG hS0.2.1.1 hL3 hS0.2.1.2.2.1 hb hS0.2.2.2.1.1 eb.2.1 fun f fr ft => ⟨rfl, ?_⟩)
      skip
      refine jv_ci _ ⟨Or.inr rfl, ?_⟩
      have w := ac_rd w2 rfl (rd_adv hS0 fr ft) nb.2.1
      simp only [List.append_nil] at w
      exact q0 c1 c2 _ (acF_tr w1 w.1) w.2
