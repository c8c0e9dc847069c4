/-! the class: light, at, copy, maker, habit, wane, end, fault -/
theorem jt_xm3 {L : ja_L} {h : ja_H} {l : Launch} {d ci k : Nat} {sh : ja_S} {M : ja_M} {r : ja_ER} {e1 e2 e3 : ja_EI} {x y z : Int} {N B C : ja_P} {R : ja_Q} (o : jr r L h (some k)) (hk : sh[k]? = some (0, ci)) (p1 : jv e1 L h x) (p2 : jv e2 L h y) (p3 : jv e3 L h z) (c : ja_C l d M sh [.inr (.inr (some k)), .inl x, .inl y, .inl z] h (fun r h' => r = none ∧ N L h')) : jb_ex (jb_cm l d sh ci M r (jb_ai (jb_ai (jb_ai jb_a0 e1) e2) e3)) N B C R L h := o _ (p1 _ (p2 _ (p3 _ ⟨k, rfl, hk, c⟩)))
/-- now's picture p -/
theorem jS_now {w g : Int} {n : Nat} {h : ja_H} {p : Int} (hs : jS w g n 1 h) (c : 0 ≤ p ∧ p ≤ 4) : jp w g n (5 + 2 * p.toNat) h := by
  have hp := (hs.2.2 p.toNat (by omega)).2
  rw [show 1 + 4 + 2 * p.toNat = 5 + 2 * p.toNat by omega] at hp
  exact hp
theorem jS_e {p : Int} (c : 0 ≤ p ∧ p ≤ 4) : jS_p 1 p = some (5 + 2 * p.toNat) := by rw [jS_ps c]
theorem kX11_light {l : Launch} {d n : Nat} {p x y v w g : Int} {h : ja_H} {Q : ja_Q} (hT : jT h) (hs : jS w g n 1 h) (q1 : ((0 ≤ p ∧ p ≤ 4) ∧ (0 ≤ x ∧ x < w) ∧ (0 ≤ y ∧ y < g) ∧ 0 ≤ v ∧ v ≤ 99) → Q (some (.inl 1)) (h.1, ja_up h.2.1 (6 + 2 * p.toNat) (y * w + x).toNat v, h.2.2)) (q2 : ¬ ((0 ≤ p ∧ p ≤ 4) ∧ (0 ≤ x ∧ x < w) ∧ (0 ≤ y ∧ y < g) ∧ 0 ≤ v ∧ v ≤ 99) → Q (some (.inl 0)) h) : ja_C l (d + 3) mX11_light (js_sh n) [.inr (.inr (some 0)), .inl p, .inl x, .inl y, .inl v] h Q := by
  obtain ⟨t0, t1⟩ := id hT
  refine eX11_light _ _ _ _ _ fun _ _ _ _ _ => ?_
  unfold bX11_light
  refine jt_sR (jr_m1 (jr_g (jr_lr rfl) rfl t0) rfl (jv_li rfl) fun _ => kX8_picture hs) ?_
  by_cases c : 0 ≤ p ∧ p ≤ 4
  · have hp := jS_now hs c
    rw [jS_e c]
    refine jb_if_d (φ := ¬ ((0 ≤ x ∧ x < w) ∧ (0 ≤ y ∧ y < g) ∧ 0 ≤ v ∧ v ≤ 99)) (jd_eq (jd_or (jd_or (jd_isn (jr_lr rfl)) fun _ => jd_not (jd_b (jv_m2 (jr_lr rfl) hp.1 (jv_li rfl) (jv_li rfl) fun _ => kX3_has hp))) fun _ => jd_not (jd_b (jv_c3 (jv_li rfl) jv_ci jv_ci fun _ => kX11_within))) (by simp; omega)) (fun z => ?_) (fun z => ?_)
    · exact jv_ci _ ⟨Or.inl rfl, q2 fun w => z w.2⟩
    · have z := Classical.not_not.mp z
      refine jt_xm3 (jr_lr rfl) hp.1 (jv_li rfl) (jv_li rfl) (jv_li rfl) (kX3_put hp (fun _ => ⟨rfl, ?_⟩) (fun w => absurd ⟨z.1, z.2.1⟩ w))
      rw [show 5 + 2 * p.toNat + 1 = 6 + 2 * p.toNat by omega]
      exact jv_ci _ ⟨Or.inr rfl, q1 ⟨c, z⟩⟩
  · rw [jS_pn.mpr c]
    exact jb_if_p (jr_lr rfl _ (by rw [if_pos rfl]; exact jv_ci _ ⟨Or.inl rfl, q2 fun w => c w.1⟩))
theorem kX11_at {l : Launch} {d n : Nat} {p x y w g : Int} {h : ja_H} {Q : ja_Q} (hT : jT h) (hs : jS w g n 1 h) (q : Q (some (.inl (if (0 ≤ p ∧ p ≤ 4) ∧ (0 ≤ x ∧ x < w) ∧ 0 ≤ y ∧ y < g then jp_lt h w (5 + 2 * p.toNat) x y else -1))) h) : ja_C l (d + 3) mX11_at (js_sh n) [.inr (.inr (some 0)), .inl p, .inl x, .inl y] h Q := by
  obtain ⟨t0, t1⟩ := id hT
  refine eX11_at _ _ _ _ fun _ _ _ _ => ?_
  unfold bX11_at
  refine jt_sR (jr_m1 (jr_g (jr_lr rfl) rfl t0) rfl (jv_li rfl) fun _ => kX8_picture hs) ?_
  by_cases c : 0 ≤ p ∧ p ≤ 4
  · have hp := jS_now hs c
    rw [jS_e c]
    refine jb_if_d (φ := ¬ ((0 ≤ x ∧ x < w) ∧ 0 ≤ y ∧ y < g)) (jd_eq (jd_or (jd_isn (jr_lr rfl)) fun _ => jd_not (jd_b (jv_m2 (jr_lr rfl) hp.1 (jv_li rfl) (jv_li rfl) fun _ => kX3_has hp))) (by simp)) (fun z => ?_) (fun z => ?_)
    · rw [if_neg fun w => z w.2] at q
      exact jt_rI jv_ci q
    · have z := Classical.not_not.mp z
      rw [if_pos ⟨c, z⟩] at q
      exact jt_rI (jv_m2 (jr_lr rfl) hp.1 (jv_li rfl) (jv_li rfl) fun _ => kX3_getI hp z.1 z.2) q
  · rw [jS_pn.mpr c]
    rw [if_neg fun w => c w.1] at q
    exact jb_if_p (jr_lr rfl _ (by rw [if_pos rfl]; exact jt_rI jv_ci q))
theorem kX11_copy {l : Launch} {d n : Nat} {s t w g : Int} {h : ja_H} {Q : ja_Q} (hT : jT h) (hs : jS w g n 1 h) (q1 : (0 ≤ s ∧ s ≤ 4) ∧ 0 ≤ t ∧ t ≤ 4 → Q (some (.inl 1)) (h.1, ja_cp h.2.1 (6 + 2 * s.toNat) 0 (6 + 2 * t.toNat) 0 n, h.2.2)) (q2 : ¬ ((0 ≤ s ∧ s ≤ 4) ∧ 0 ≤ t ∧ t ≤ 4) → Q (some (.inl 0)) h) : ja_C l (d + 3) mX11_copy (js_sh n) [.inr (.inr (some 0)), .inl s, .inl t] h Q := by
  obtain ⟨t0, t1⟩ := id hT
  refine eX11_copy _ _ _ fun _ _ _ => ?_
  unfold bX11_copy
  refine jt_sR (jr_m1 (jr_g (jr_lr rfl) rfl t0) rfl (jv_li rfl) fun _ => kX8_picture hs) (jt_sR (jr_m1 (jr_g (jr_lr rfl) rfl t0) rfl (jv_li rfl) fun _ => kX8_picture hs) ?_)
  refine jb_if_d (φ := ¬ ((0 ≤ s ∧ s ≤ 4) ∧ 0 ≤ t ∧ t ≤ 4)) (jd_eq (jd_or (jd_isn (jr_lr rfl)) fun _ => jd_isn (jr_lr rfl)) (by rw [jS_pn, jS_pn]; omega)) (fun z => ?_) (fun z => ?_)
  · exact jv_ci _ ⟨Or.inl rfl, q2 z⟩
  · have z := Classical.not_not.mp z
    have hp := jS_now hs z.2
    have hp2 := jS_now hs z.1
    rw [jS_e z.1, jS_e z.2]
    refine jt_xm1 (jr_lr rfl) hp.1 (jr_lr rfl) (kX3_become hp hp2 ⟨rfl, ?_⟩)
    rw [show 5 + 2 * s.toNat + 1 = 6 + 2 * s.toNat by omega, show 5 + 2 * t.toNat + 1 = 6 + 2 * t.toNat by omega]
    exact jv_ci _ ⟨Or.inr rfl, q1 z⟩
theorem kX11_maker {l : Launch} {d n : Nat} {m v w g : Int} {h : ja_H} {Q : ja_Q} (hT : jT h) (hs : jS w g n 1 h) (q1 : (0 ≤ m ∧ m ≤ 3) ∧ 0 ≤ v ∧ v ≤ 9 → Q (some (.inl 1)) (h.1, ja_up h.2.1 3 m.toNat v, h.2.2)) (q2 : ¬ ((0 ≤ m ∧ m ≤ 3) ∧ 0 ≤ v ∧ v ≤ 9) → Q (some (.inl 0)) h) : ja_C l (d + 3) mX11_maker (js_sh n) [.inr (.inr (some 0)), .inl m, .inl v] h Q := by
  obtain ⟨t0, t1⟩ := id hT
  have sw : h.1 1 3 = some 3 := hs.2.1.2.1
  refine eX11_maker _ _ _ fun _ _ _ => ?_
  unfold bX11_maker
  refine jb_if_d (φ := ¬ ((0 ≤ m ∧ m ≤ 3) ∧ 0 ≤ v ∧ v ≤ 9)) (jd_eq (jd_or (jd_not (jd_b (jv_c1 (jv_li rfl) fun _ => kX11_isMaker))) (fun _ => (jd_not (jd_b (jv_c3 (jv_li rfl) jv_ci jv_ci fun _ => kX11_within))))) (by omega)) (fun c => ?_) (fun c => ?_)
  · exact jv_ci _ ⟨Or.inl rfl, q2 c⟩
  · have c := Classical.not_not.mp c
    exact jt_wI (k := 3) (n := 4) (jr_g (jr_g (jr_lr rfl) rfl t0) rfl sw) rfl (jv_li rfl) (jv_li rfl) (by omega) (by omega) (jv_ci _ ⟨Or.inr rfl, q1 c⟩)
theorem kX11_habit {l : Launch} {d n : Nat} {m b v w g : Int} {h : ja_H} {Q : ja_Q} (hT : jT h) (hs : jS w g n 1 h) (q1 : (0 ≤ m ∧ m ≤ 3) ∧ (0 ≤ b ∧ b ≤ 5) ∧ 1 ≤ v ∧ v ≤ 99 → Q (some (.inl 1)) (h.1, ja_up h.2.1 4 (m * 6 + b).toNat v, h.2.2)) (q2 : ¬ ((0 ≤ m ∧ m ≤ 3) ∧ (0 ≤ b ∧ b ≤ 5) ∧ 1 ≤ v ∧ v ≤ 99) → Q (some (.inl 0)) h) : ja_C l (d + 3) mX11_habit (js_sh n) [.inr (.inr (some 0)), .inl m, .inl b, .inl v] h Q := by
  obtain ⟨t0, t1⟩ := id hT
  have sw : h.1 1 4 = some 4 := hs.2.1.2.2
  refine eX11_habit _ _ _ _ fun _ _ _ _ => ?_
  unfold bX11_habit
  refine jb_if_d (φ := ¬ ((0 ≤ m ∧ m ≤ 3) ∧ (0 ≤ b ∧ b ≤ 5) ∧ 1 ≤ v ∧ v ≤ 99)) (jd_eq (jd_or (jd_or (jd_not (jd_b (jv_c1 (jv_li rfl) fun _ => kX11_isMaker))) (fun _ => (jd_not (jd_b (jv_c3 (jv_li rfl) jv_ci jv_ci fun _ => kX11_within))))) (fun _ => (jd_not (jd_b (jv_c3 (jv_li rfl) jv_ci jv_ci fun _ => kX11_within))))) (by omega)) (fun c => ?_) (fun c => ?_)
  · exact jv_ci _ ⟨Or.inl rfl, q2 c⟩
  · have c := Classical.not_not.mp c
    exact jt_wI (k := 4) (n := 24) (jr_g (jr_g (jr_lr rfl) rfl t0) rfl sw) rfl (jv_w (jv_add (jv_w (jv_mul (jv_li rfl) jv_ci) (by first | omega | (unfold ja_r; omega) | (unfold ja_rl; omega) | assumption)) (jv_li rfl)) (by first | omega | (unfold ja_r; omega) | (unfold ja_rl; omega) | assumption)) (jv_li rfl) (by omega) (by omega) (jv_ci _ ⟨Or.inr rfl, q1 c⟩)
theorem kX11_wane {l : Launch} {d n : Nat} {v : Int} {h : ja_H} {Q : ja_Q} (hT : jT h) (q1 : 0 ≤ v ∧ v ≤ 100 → Q (some (.inl 1)) (h.1, ja_up h.2.1 1 5 v, h.2.2)) (q2 : ¬ (0 ≤ v ∧ v ≤ 100) → Q (some (.inl 0)) h) : ja_C l (d + 2) mX11_wane (js_sh n) [.inr (.inr (some 0)), .inl v] h Q := by
  obtain ⟨t0, t1⟩ := id hT
  refine eX11_wane _ _ fun _ _ => ?_
  unfold bX11_wane
  refine jb_if_d (φ := ¬ (0 ≤ v ∧ v ≤ 100)) (jd_not (jd_b (jv_c3 (jv_li rfl) jv_ci jv_ci fun _ => kX11_within))) (fun c => ?_) (fun c => ?_)
  · exact jv_ci _ ⟨Or.inl rfl, q2 c⟩
  · have c := Classical.not_not.mp c
    exact jt_pI (k := 1) (jr_g (jr_lr rfl) rfl t0) rfl (jv_li rfl) (jv_ci _ ⟨Or.inr rfl, q1 c⟩)
theorem kX11_end {l : Launch} {d n : Nat} {v : Int} {h : ja_H} {Q : ja_Q} (hT : jT h) (q1 : 0 ≤ v ∧ v ≤ h.2.1 48 1 → Q (some (.inl v)) (h.1, ja_up h.2.1 48 1 v, h.2.2)) (q2 : ¬ (0 ≤ v ∧ v ≤ h.2.1 48 1) → Q (some (.inl (-1))) h) : ja_C l (d + 2) mX11_end (js_sh n) [.inr (.inr (some 0)), .inl v] h Q := by
  obtain ⟨t0, t1, t2, t3, t4, t5, t6, t7, t8⟩ := id hT
  refine eX11_end _ _ fun _ _ => ?_
  unfold bX11_end
  refine jb_if_d (φ := ¬ (0 ≤ v ∧ v ≤ h.2.1 48 1)) (jd_not (jd_b (jv_c3 (jv_li rfl) jv_ci (jv_gF (jr_g (jr_lr rfl) (by first | rfl | assumption) (by first | rfl | assumption)) (by first | rfl | assumption) (by first | rfl | assumption)) fun _ => kX11_within))) (fun c => ?_) (fun c => ?_)
  · exact jt_rI jv_ci (q2 c)
  · have c := Classical.not_not.mp c
    exact jt_pI (k := 48) (jr_g (jr_lr rfl) rfl t7) rfl (jv_li rfl) (jt_rI (jv_li rfl) (q1 c))
