/-! the class's blocks (cell 40): roughness in 41, across, count, median in the slots 3, 4, 5 -/
def jB (n : Nat) (h : ja_H) : Prop := h.1 40 0 = some 41 ∧ h.1 40 1 = some 42 ∧ h.1 40 2 = some 43
theorem kX0_leftOf {l : Launch} {d n : Nat} {b a : Int} {h : ja_H} {Q : ja_Q} (ha : h.2.1 40 3 = a) (hp : 0 < a ∧ a ≤ 3) (hb : 0 ≤ b ∧ b ≤ 9) (q : Q (some (.inl (4 * (b % a)))) h) : ja_C l (d + 1) mX0_leftOf (js_sh n) [.inr (.inr (some 40)), .inl b] h Q := by
  refine eX0_leftOf _ _ fun _ _ => ?_
  unfold bX0_leftOf
  have hm : 0 ≤ b % a ∧ b % a < a := ⟨Int.emod_nonneg b (by omega), Int.emod_lt_of_pos b hp.1⟩
  exact jt_rI (jv_is (jv_cv (φ := True) (x := 4 * (b % a)) (y := 0) (jd_eq (jd_gt (jv_gF (jr_lr rfl) rfl ha) jv_ci) (by simp [hp.1])) (fun _ => jv_is (jv_w (jv_mul (jv_remP (jv_li rfl) (jv_gF (jr_lr rfl) rfl ha) hb.1 hp.1) jv_ci) (by unfold ja_r; omega)) (by omega)) (fun z => (z trivial).elim)) (if_pos trivial)) q
theorem kX0_topOf {l : Launch} {d n : Nat} {b a : Int} {h : ja_H} {Q : ja_Q} (ha : h.2.1 40 3 = a) (hp : 0 < a ∧ a ≤ 3) (hb : 0 ≤ b ∧ b ≤ 9) (q : Q (some (.inl (4 * (b / a)))) h) : ja_C l (d + 1) mX0_topOf (js_sh n) [.inr (.inr (some 40)), .inl b] h Q := by
  refine eX0_topOf _ _ fun _ _ => ?_
  unfold bX0_topOf
  have hm : 0 ≤ b / a ∧ b / a ≤ b := ⟨Int.ediv_nonneg hb.1 (by omega), Int.ediv_le_self a hb.1⟩
  exact jt_rI (jv_is (jv_cv (φ := True) (x := 4 * (b / a)) (y := 0) (jd_eq (jd_gt (jv_gF (jr_lr rfl) rfl ha) jv_ci) (by simp [hp.1])) (fun _ => jv_is (jv_w (jv_mul (jv_divP (jv_li rfl) (jv_gF (jr_lr rfl) rfl ha) hb.1 hp.1 (by unfold ja_r; omega)) jv_ci) (by unfold ja_r; omega)) (by omega)) (fun z => (z trivial).elim)) (if_pos trivial)) q
set_option maxRecDepth 10000 in
theorem kX0_countBelow {l : Launch} {d n m : Nat} {v : Int} {h : ja_H} {Q : ja_Q} (hB : jB n h) (hm : m ≤ 9) (hc : h.2.1 40 4 = (m : Nat)) (q : Q (some (.inl (ct (fun b => h.2.1 41 b) v m))) h) : ja_C l (d + 1) mX0_countBelow (js_sh n) [.inr (.inr (some 40)), .inl v] h Q := by
  obtain ⟨b1, b2, b3⟩ := hB
  refine eX0_countBelow _ _ fun _ _ => ?_
  unfold bX0_countBelow
  refine jt_sI jv_ci (jt_sI jv_ci ?_)
  refine jb_forc m (fun c L' h' => L' = [some (.inr (.inr (some 40))), some (.inl (v)), some (.inl (ct (fun b => h.2.1 41 b) v c)), some (.inl ((c : Nat)))] ∧ h = h') ⟨by simp [ja_set, ja_cl, ja_lg, ct], rfl⟩ ?_ ?_ ?_
  · rintro c hc2 _ _ ⟨rfl, rfl⟩
    exact jd_eq (jd_lt (jv_li rfl) (jv_gF (jr_lr rfl) rfl hc)) (by omega)
  · rintro c hc2 _ _ ⟨rfl, rfl⟩
    have cb := ct_b (fun b => h.2.1 41 b) v c
    have e1 : ((c : Nat) : Int).toNat = c := by omega
    refine jb_if_j (φ := h.2.1 41 c < v) (fun L' h' => L' = [some (.inr (.inr (some 40))), some (.inl (v)), some (.inl (ct (fun b => h.2.1 41 b) v (c + 1))), some (.inl ((c : Nat)))] ∧ h = h') (jd_eq (jd_lt (jv_aI (k := 41) (n := 9) (jr_g (jr_lr rfl) rfl b1) (jv_li rfl) rfl (by omega) (by omega)) (jv_li rfl)) (by rw [e1])) (fun z => ?_) (fun z => ?_) ?_
    · exact jt_inc rfl (by unfold ja_r; omega) ⟨by simp [ja_set, ja_cl, ja_lg, ct, z], rfl⟩
    · exact ⟨by simp [ct, z], rfl⟩
    · rintro _ _ ⟨rfl, rfl⟩
      exact jt_inc rfl (by unfold ja_r; omega) ⟨rfl, rfl⟩
  · rintro _ _ ⟨rfl, rfl⟩
    exact jt_rI (jv_li rfl) q
set_option maxRecDepth 10000 in
theorem kX0_findMedian {l : Launch} {d n m : Nat} {h : ja_H} {Q : ja_Q} (hB : jB n h) (hm : 1 ≤ m ∧ m ≤ 9) (hc : h.2.1 40 4 = (m : Nat)) (hr : ∀ b, b < m → 0 ≤ h.2.1 41 b ∧ h.2.1 41 b ≤ 9504) (q : Q (some (.inl (md (fun b => h.2.1 41 b) m m))) h) : ja_C l (d + 2) mX0_findMedian (js_sh n) [.inr (.inr (some 40))] h Q := by
  obtain ⟨b1, b2, b3⟩ := id hB
  refine eX0_findMedian _ fun _ => ?_
  unfold bX0_findMedian
  generalize hf : (fun b : Nat => h.2.1 41 b) = r at q
  have hfr : ∀ b : Nat, h.2.1 41 b = r b := fun b => by rw [← hf]
  have rd : ∀ (L : ja_L) (b : Nat), b < m → ja_get L 0 = some (.inr (.inr (some 40))) → ja_get L 2 = some (.inl (b : Nat)) → jv (jb_aI (js_sh n) (jb_gR (js_sh n) 0 0 (jb_lr 0)) (jb_li 2)) L h (r b) := fun L b hb g0 g2 => jv_is (jv_aI (k := 41) (n := 9) (jr_g (jr_lr g0) rfl b1) (jv_li g2) rfl (by omega) (by omega)) (by rw [show ((b : Nat) : Int).toNat = b by omega, hfr])
  refine jt_sI (x := ((m : Int) - 1) / 2) (jv_divP (jv_w (jv_sub (jv_gF (jr_lr rfl) rfl hc) jv_ci) (by unfold ja_r; omega)) jv_ci (by omega) (by decide) (by unfold ja_r; omega)) (jt_sI jv_ci ?_)
  refine jb_forc m (fun b L' h' => (∃ o1 o2, L' = [some (.inr (.inr (some 40))), some (.inl (((m : Int) - 1) / 2)), some (.inl ((b : Nat))), o1, o2]) ∧ h = h' ∧ md r m m = md r m (m - b)) ⟨⟨none, none, rfl⟩, rfl, rfl⟩ ?_ ?_ ?_
  · rintro b hb _ _ ⟨⟨o1, o2, rfl⟩, rfl, e⟩
    exact jd_eq (jd_lt (jv_li rfl) (jv_gF (jr_lr rfl) rfl hc)) (by omega)
  · rintro b hb _ _ ⟨⟨o1, o2, rfl⟩, rfl, e⟩
    have vb := hr b hb
    rw [hfr] at vb
    refine jt_sI (x := ct r (r b) m) (jv_m1 (jr_lr rfl) rfl (rd _ b hb rfl rfl) fun _ q => kX0_countBelow hB hm.2 hc (by rw [hf]; exact q)) ?_
    refine jt_sI (x := ct r (r b + 1) m) (jv_m1 (jr_lr rfl) rfl (jv_w (jv_add (rd _ b hb rfl rfl) jv_ci) (by unfold ja_r; omega)) fun _ q => kX0_countBelow hB hm.2 hc (by rw [hf]; exact q)) ?_
    have em : md r m (m - b) = if ct r (r b) m ≤ ((m : Int) - 1) / 2 ∧ ((m : Int) - 1) / 2 < ct r (r b + 1) m then r b else md r m (m - (b + 1)) := by
      rw [show m - b = (m - (b + 1)) + 1 by omega, md, show m - (m - (b + 1) + 1) = b by omega]
    refine jb_if_d (φ := ct r (r b) m ≤ ((m : Int) - 1) / 2 ∧ ((m : Int) - 1) / 2 < ct r (r b + 1) m) (jd_and (jd_le (jv_li rfl) (jv_li rfl)) fun _ => jd_lt (jv_li rfl) (jv_li rfl)) (fun c => ?_) (fun c => ?_)
    · rw [e, em, if_pos c] at q
      exact jt_rI (rd _ b hb rfl rfl) q
    · rw [em, if_neg c] at e
      exact jt_inc rfl (by first | omega | (unfold ja_r; omega) | (unfold ja_rl; omega) | assumption) ⟨⟨_, _, rfl⟩, rfl, e⟩
  · rintro _ _ ⟨⟨o1, o2, rfl⟩, rfl, e⟩
    rw [e, Nat.sub_self] at q
    exact jt_rI jv_ci q
