/-! the reference: at, copy, shadow, shine, line, maker, habit, wane, end, fault, image, back -/
theorem kX12_at {l : Launch} {d n : Nat} {p x y w g : Int} {h : ja_H} {Q : ja_Q} (hm : jm w g h) (q : Q (some (.inl (if (0 ≤ p ∧ p ≤ 4) ∧ (0 ≤ x ∧ x < w) ∧ 0 ≤ y ∧ y < g then jm_lt h p x y else -1))) h) : ja_C l (d + 3) mX12_at (js_sh n) [.inr (.inr (some 90)), .inl p, .inl x, .inl y] h Q := by
  obtain ⟨m1, m2, m3, m4, m5, m6, m7⟩ := id hm
  exact eX12_at _ _ _ _ fun r1 r2 r3 _ => jt_rI (jv_cv (jd_and (jd_b (jv_c1 (jv_li rfl) fun _ => kX12_isPicture)) (fun _ => (jd_b (jv_m2 (jr_lr rfl) (by first | rfl | assumption) (jv_li rfl) (jv_li rfl) fun _ => kX12_isCell hm)))) (fun _ => (jv_m3 (jr_lr rfl) (by first | rfl | assumption) (jv_li rfl) (jv_li rfl) (jv_li rfl) fun _ => kX12_lightAt hm (by first | omega | (unfold ja_r; omega) | (unfold ja_rl; omega) | assumption) (by first | omega | (unfold ja_r; omega) | (unfold ja_rl; omega) | assumption) (by first | omega | (unfold ja_r; omega) | (unfold ja_rl; omega) | assumption))) (fun _ => jv_ci)) q
theorem kX12_wane {l : Launch} {d n : Nat} {v w g : Int} {h : ja_H} {Q : ja_Q} (hm : jm w g h) (q1 : 0 ≤ v ∧ v ≤ 100 → Q (some (.inl 1)) (h.1, ja_up h.2.1 91 4 v, h.2.2)) (q2 : ¬ (0 ≤ v ∧ v ≤ 100) → Q (some (.inl 0)) h) : ja_C l (d + 2) mX12_wane (js_sh n) [.inr (.inr (some 90)), .inl v] h Q := by
  obtain ⟨m1, m2, m3, m4, m5, m6, m7⟩ := id hm
  have ma : h.1 90 2 = some 91 := by rw [m1]; rfl
  refine eX12_wane _ _ fun r1 _ => jb_if_d (jd_not (jd_b (jv_c3 (jv_li rfl) jv_ci jv_ci fun _ => kX12_isIn))) (fun c => ?_) (fun c => ?_)
  · exact jv_ci _ ⟨Or.inl rfl, q2 c⟩
  · have c := Classical.not_not.mp c
    exact jt_wI (jr_g (jr_lr rfl) (by first | rfl | assumption) (by first | rfl | assumption)) rfl jv_ci (jv_li rfl) (by decide) (by decide) (jv_ci _ ⟨Or.inr rfl, q1 c⟩)
theorem kX12_isMaker {l : Launch} {d : Nat} {sh : ja_S} {v : Int} {h : ja_H} {Q : ja_Q} (q : Q (some (.inl (if 0 ≤ v ∧ v ≤ 3 then 1 else 0))) h) : ja_C l (d + 2) mX12_isMaker sh [.inl v] h Q :=
  eX12_isMaker _ fun r _ => jt_rZ (jv_c3 (jv_li rfl) jv_ci jv_ci fun _ => kX12_isIn) q
theorem kX12_maker {l : Launch} {d n : Nat} {m v w g : Int} {h : ja_H} {Q : ja_Q} (hm : jm w g h) (q1 : (0 ≤ m ∧ m ≤ 3) ∧ 0 ≤ v ∧ v ≤ 9 → Q (some (.inl 1)) (h.1, ja_up h.2.1 91 (880 + m).toNat v, h.2.2)) (q2 : ¬ ((0 ≤ m ∧ m ≤ 3) ∧ 0 ≤ v ∧ v ≤ 9) → Q (some (.inl 0)) h) : ja_C l (d + 3) mX12_maker (js_sh n) [.inr (.inr (some 90)), .inl m, .inl v] h Q := by
  obtain ⟨m1, m2, m3, m4, m5, m6, m7⟩ := id hm
  have ma : h.1 90 2 = some 91 := by rw [m1]; rfl
  refine eX12_maker _ _ _ fun r1 r2 _ => jb_if_d (φ := ¬ ((0 ≤ m ∧ m ≤ 3) ∧ 0 ≤ v ∧ v ≤ 9)) (jd_eq (jd_or (jd_not (jd_b (jv_c1 (jv_li rfl) fun _ => kX12_isMaker))) (fun _ => (jd_not (jd_b (jv_c3 (jv_li rfl) jv_ci jv_ci fun _ => kX12_isIn))))) (by omega)) (fun c => ?_) (fun c => ?_)
  · exact jv_ci _ ⟨Or.inl rfl, q2 c⟩
  · have c := Classical.not_not.mp c
    exact jt_wI (jr_g (jr_lr rfl) (by first | rfl | assumption) (by first | rfl | assumption)) rfl (jv_w (jv_add jv_ci (jv_li rfl)) (by first | omega | (unfold ja_r; omega) | (unfold ja_rl; omega) | assumption)) (jv_li rfl) (by omega) (by omega) (jv_ci _ ⟨Or.inr rfl, q1 c⟩)
theorem kX12_habit {l : Launch} {d n : Nat} {m b v w g : Int} {h : ja_H} {Q : ja_Q} (hm : jm w g h) (q1 : (0 ≤ m ∧ m ≤ 3) ∧ (0 ≤ b ∧ b ≤ 5) ∧ 1 ≤ v ∧ v ≤ 99 → Q (some (.inl 1)) (h.1, ja_up h.2.1 91 (890 + 6 * m + b).toNat v, h.2.2)) (q2 : ¬ ((0 ≤ m ∧ m ≤ 3) ∧ (0 ≤ b ∧ b ≤ 5) ∧ 1 ≤ v ∧ v ≤ 99) → Q (some (.inl 0)) h) : ja_C l (d + 3) mX12_habit (js_sh n) [.inr (.inr (some 90)), .inl m, .inl b, .inl v] h Q := by
  obtain ⟨m1, m2, m3, m4, m5, m6, m7⟩ := id hm
  have ma : h.1 90 2 = some 91 := by rw [m1]; rfl
  refine eX12_habit _ _ _ _ fun r1 r2 r3 _ => jb_if_d (φ := ¬ ((0 ≤ m ∧ m ≤ 3) ∧ (0 ≤ b ∧ b ≤ 5) ∧ 1 ≤ v ∧ v ≤ 99)) (jd_eq (jd_or (jd_or (jd_not (jd_b (jv_c1 (jv_li rfl) fun _ => kX12_isMaker))) (fun _ => (jd_not (jd_b (jv_c3 (jv_li rfl) jv_ci jv_ci fun _ => kX12_isIn))))) (fun _ => (jd_not (jd_b (jv_c3 (jv_li rfl) jv_ci jv_ci fun _ => kX12_isIn))))) (by omega)) (fun c => ?_) (fun c => ?_)
  · exact jv_ci _ ⟨Or.inl rfl, q2 c⟩
  · have c := Classical.not_not.mp c
    exact jt_wI (jr_g (jr_lr rfl) (by first | rfl | assumption) (by first | rfl | assumption)) rfl (jv_w (jv_add (jv_w (jv_add jv_ci (jv_w (jv_mul jv_ci (jv_li rfl)) (by first | omega | (unfold ja_r; omega) | (unfold ja_rl; omega) | assumption))) (by first | omega | (unfold ja_r; omega) | (unfold ja_rl; omega) | assumption)) (jv_li rfl)) (by first | omega | (unfold ja_r; omega) | (unfold ja_rl; omega) | assumption)) (jv_li rfl) (by omega) (by omega) (jv_ci _ ⟨Or.inr rfl, q1 c⟩)
theorem kX12_end {l : Launch} {d n : Nat} {v w g : Int} {h : ja_H} {Q : ja_Q} (hm : jm w g h) (q1 : 0 ≤ v ∧ v ≤ h.2.1 90 16 → Q (some (.inl v)) (h.1, ja_up h.2.1 90 16 v, h.2.2)) (q2 : ¬ (0 ≤ v ∧ v ≤ h.2.1 90 16) → Q (some (.inl (-1))) h) : ja_C l (d + 2) mX12_end (js_sh n) [.inr (.inr (some 90)), .inl v] h Q := by
  obtain ⟨m1, m2, m3, m4, m5, m6, m7⟩ := id hm
  refine eX12_end _ _ fun r1 _ => jb_if_d (jd_not (jd_b (jv_c3 (jv_li rfl) jv_ci (jv_gF (jr_lr rfl) (by first | rfl | assumption) (by first | rfl | assumption)) fun _ => kX12_isIn))) (fun c => ?_) (fun c => ?_)
  · exact jv_ci _ (q2 c)
  · have c := Classical.not_not.mp c
    exact jt_pI (jr_lr rfl) rfl (jv_li rfl) (jt_rI (jv_li rfl) (q1 c))
theorem kX12_fault {l : Launch} {d n : Nat} {v w g : Int} {h : ja_H} {Q : ja_Q} (hm : jm w g h) (q : Q (some (.inl (if v = 0 then h.2.1 90 17 else if v = 1 then h.2.1 90 18 else -1))) h) : ja_C l (d + 1) mX12_fault (js_sh n) [.inr (.inr (some 90)), .inl v] h Q := by
  exact eX12_fault _ _ fun r1 _ => jt_rI (jv_cv (jd_eqI (jv_li rfl) jv_ci) (fun _ => (jv_gF (jr_lr rfl) (by first | rfl | assumption) (by first | rfl | assumption))) (fun _ => (jv_cv (jd_eqI (jv_li rfl) jv_ci) (fun _ => (jv_gF (jr_lr rfl) (by first | rfl | assumption) (by first | rfl | assumption))) (fun _ => jv_ci)))) q
theorem kX12_shine {l : Launch} {d n : Nat} {v w g : Int} {h : ja_H} {Q : ja_Q} (hm : jm w g h) (h8 : 0 ≤ h.2.1 91 1 ∧ h.2.1 91 1 ≤ 8) (q1 : (0 ≤ v ∧ v ≤ 7) ∧ h.2.1 91 1 < 8 → Q (some (.inl (h.2.1 91 1))) (h.1, ja_up (ja_up h.2.1 91 (820 + h.2.1 91 1).toNat v) 91 1 (h.2.1 91 1 + 1), h.2.2)) (q2 : ¬ ((0 ≤ v ∧ v ≤ 7) ∧ h.2.1 91 1 < 8) → Q (some (.inl (-1))) h) : ja_C l (d + 2) mX12_shine (js_sh n) [.inr (.inr (some 90)), .inl v] h Q := by
  obtain ⟨m1, m2, m3, m4, m5, m6, m7⟩ := id hm
  have ma : h.1 90 2 = some 91 := by rw [m1]; rfl
  generalize hs : h.2.1 91 1 = s at *
  refine eX12_shine _ _ fun r1 _ => jb_if_d (φ := ¬ ((0 ≤ v ∧ v ≤ 7) ∧ s < 8)) (jd_eq (jd_or (jd_not (jd_b (jv_c3 (jv_li rfl) jv_ci jv_ci fun _ => kX12_isIn))) (fun _ => jd_eqI (jv_is (jv_aI (jr_g (jr_lr rfl) (by first | rfl | assumption) (by first | rfl | assumption)) jv_ci (by first | rfl | assumption) (by first | omega | (unfold ja_r; omega) | (unfold ja_rl; omega) | assumption) (by first | omega | (unfold ja_r; omega) | (unfold ja_rl; omega) | assumption)) hs) jv_ci)) (by omega)) (fun c => ?_) (fun c => ?_)
  · exact jv_ci _ (q2 c)
  · have c := Classical.not_not.mp c
    have e1 : ja_up h.2.1 91 (820 + s).toNat v 91 1 = s := by rw [ja_upi (by omega), hs]
    refine jt_wI (jr_g (jr_lr rfl) (by first | rfl | assumption) (by first | rfl | assumption)) rfl (jv_w (jv_add jv_ci (jv_is (jv_aI (jr_g (jr_lr rfl) (by first | rfl | assumption) (by first | rfl | assumption)) jv_ci (by first | rfl | assumption) (by first | omega | (unfold ja_r; omega) | (unfold ja_rl; omega) | assumption) (by first | omega | (unfold ja_r; omega) | (unfold ja_rl; omega) | assumption)) hs)) (by first | omega | (unfold ja_r; omega) | (unfold ja_rl; omega) | assumption)) (jv_li rfl) (by omega) (by omega) ?_
    refine jt_uA (jr_g (jr_lr rfl) (by first | rfl | assumption) (by first | rfl | assumption)) rfl jv_ci (by decide) (by decide) jv_ci ?_
    have e2 : ja_w (ja_up h.2.1 91 (820 + s).toNat v 91 1 + 1) = s + 1 := by rw [e1, ja_w_id (by unfold ja_r; omega)]
    show jb_rI _ _ _ _ _ _ (h.1, ja_up (ja_up h.2.1 91 (820 + s).toNat v) 91 1 (ja_w (ja_up h.2.1 91 (820 + s).toNat v 91 1 + 1)), h.2.2)
    rw [e2]
    refine jt_rI (jv_w (jv_sub (jv_is (jv_aI (jr_g (jr_lr rfl) (by first | rfl | assumption) (by first | rfl | assumption)) jv_ci (by first | rfl | assumption) (by first | omega | (unfold ja_r; omega) | (unfold ja_rl; omega) | assumption) (by first | omega | (unfold ja_r; omega) | (unfold ja_rl; omega) | assumption)) (x' := s + 1) (by simp [ja_up])) jv_ci) (by first | omega | (unfold ja_r; omega) | (unfold ja_rl; omega) | assumption)) ?_
    rw [show s + 1 - 1 = s by omega]
    exact q1 c
/-- a loop that copies: the target's places from b on, from another place's -/
def jm_cpr (f : Nat → Nat → Int) (kd ks bd bs n : Nat) : Nat → Nat → Int := fun k j => if k = kd ∧ bd ≤ j ∧ j < bd + n then f ks (bs + (j - bd)) else f k j
theorem jm_cpr_0 (f : Nat → Nat → Int) (kd ks bd bs : Nat) : jm_cpr f kd ks bd bs 0 = f := by
  funext k j; unfold jm_cpr; rw [if_neg (by omega)]
/-- one step more, where the source's places are outside the target's or the very same -/
theorem jm_cpr_s {f : Nat → Nat → Int} {kd ks bd bs n : Nat} (hd : kd ≠ ks ∨ bd + n ≤ bs + n ∧ bd + n ≤ bs ∨ bs + n < bd ∨ bd = bs) : ja_up (jm_cpr f kd ks bd bs n) kd (bd + n) (jm_cpr f kd ks bd bs n ks (bs + n)) = jm_cpr f kd ks bd bs (n + 1) := by
  have e1 : jm_cpr f kd ks bd bs n ks (bs + n) = f ks (bs + n) := by
    unfold jm_cpr; rw [if_neg]; omega
  funext k j
  rw [e1]
  unfold ja_up jm_cpr
  by_cases a : k = kd
  · by_cases b : j = bd + n
    · rw [if_pos ⟨a, b⟩, if_pos (by omega)]; congr 1; omega
    · rw [if_neg (fun q => b q.2)]
      by_cases c : bd ≤ j ∧ j < bd + n
      · rw [if_pos ⟨a, c⟩, if_pos (by omega)]
      · rw [if_neg (fun q => c q.2), if_neg (by omega)]
  · rw [if_neg (fun q => a q.1), if_neg (fun q => a q.1), if_neg (fun q => a q.1)]
set_option maxRecDepth 10000 in
theorem kX12_copy {l : Launch} {d n : Nat} {s t w g : Int} {h : ja_H} {Q : ja_Q} (hm : jm w g h) (q1 : (0 ≤ s ∧ s ≤ 4) ∧ 0 ≤ t ∧ t ≤ 4 → Q (some (.inl 1)) (h.1, jm_cpr h.2.1 91 91 (10 + 144 * t).toNat (10 + 144 * s).toNat 144, h.2.2)) (q2 : ¬ ((0 ≤ s ∧ s ≤ 4) ∧ 0 ≤ t ∧ t ≤ 4) → Q (some (.inl 0)) h) : ja_C l (d + 3) mX12_copy (js_sh n) [.inr (.inr (some 90)), .inl s, .inl t] h Q := by
  obtain ⟨m1, m2, m3, m4, m5, m6, m7⟩ := id hm
  have ma : h.1 90 2 = some 91 := by rw [m1]; rfl
  refine eX12_copy _ _ _ fun r1 r2 _ => jb_if_d (φ := ¬ ((0 ≤ s ∧ s ≤ 4) ∧ 0 ≤ t ∧ t ≤ 4)) (jd_eq (jd_or (jd_not (jd_b (jv_c1 (jv_li rfl) fun _ => kX12_isPicture))) (fun _ => (jd_not (jd_b (jv_c1 (jv_li rfl) fun _ => kX12_isPicture))))) (by omega)) (fun c => ?_) (fun c => ?_)
  · exact jv_ci _ ⟨Or.inl rfl, q2 c⟩
  · have c := Classical.not_not.mp c
    refine jt_sI jv_ci (jb_forc 144 (fun i L' h' => L' = [some (.inr (.inr (some 90))), some (.inl s), some (.inl t), some (.inl (i : Nat))] ∧ h' = (h.1, jm_cpr h.2.1 91 91 (10 + 144 * t).toNat (10 + 144 * s).toNat i, h.2.2)) ⟨rfl, by rw [jm_cpr_0]⟩ ?_ ?_ ?_)
    · rintro i hi _ _ ⟨rfl, rfl⟩
      exact jd_eq (jd_lt (jv_li rfl) jv_ci) (by omega)
    · rintro i hi _ _ ⟨rfl, rfl⟩
      refine jt_wI (jr_g (jr_lr rfl) (by first | rfl | assumption) (by first | rfl | assumption)) rfl (jv_w (jv_add (jv_w (jv_add jv_ci (jv_w (jv_mul jv_ci (jv_li rfl)) (by first | omega | (unfold ja_r; omega) | (unfold ja_rl; omega) | assumption))) (by first | omega | (unfold ja_r; omega) | (unfold ja_rl; omega) | assumption)) (jv_li rfl)) (by first | omega | (unfold ja_r; omega) | (unfold ja_rl; omega) | assumption)) (jv_aI (jr_g (jr_lr rfl) (by first | rfl | assumption) (by first | rfl | assumption)) (jv_w (jv_add (jv_w (jv_add jv_ci (jv_w (jv_mul jv_ci (jv_li rfl)) (by first | omega | (unfold ja_r; omega) | (unfold ja_rl; omega) | assumption))) (by first | omega | (unfold ja_r; omega) | (unfold ja_rl; omega) | assumption)) (jv_li rfl)) (by first | omega | (unfold ja_r; omega) | (unfold ja_rl; omega) | assumption)) (by first | rfl | assumption) (by first | omega | (unfold ja_r; omega) | (unfold ja_rl; omega) | assumption) (by first | omega | (unfold ja_r; omega) | (unfold ja_rl; omega) | assumption)) (by omega) (by omega) (jt_inc rfl (by first | omega | (unfold ja_r; omega) | (unfold ja_rl; omega) | assumption) ⟨rfl, ?_⟩)
      show (h.1, ja_up (jm_cpr h.2.1 91 91 (10 + 144 * t).toNat (10 + 144 * s).toNat i) 91 (10 + 144 * t + (i : Int)).toNat (jm_cpr h.2.1 91 91 (10 + 144 * t).toNat (10 + 144 * s).toNat i 91 (10 + 144 * s + (i : Int)).toNat), h.2.2) = _
      rw [show (10 + 144 * t + (i : Int)).toNat = (10 + 144 * t).toNat + i by omega, show (10 + 144 * s + (i : Int)).toNat = (10 + 144 * s).toNat + i by omega, jm_cpr_s (by omega)]
    · rintro _ _ ⟨rfl, rfl⟩
      exact jv_ci _ ⟨Or.inr rfl, q1 c⟩
