/-! the cells of both objects, by their numbers -/
def js_sh (n : Nat) : ja_S := [(0, 11), (0, 8), (4, 5), (1, 4), (1, 24), (0, 3), (1, n), (0, 3), (1, n), (0, 3), (1, n), (0, 3), (1, n), (0, 3), (1, n), (0, 8), (4, 5), (1, 4), (1, 24), (0, 3), (1, n), (0, 3), (1, n), (0, 3), (1, n), (0, 3), (1, n), (0, 3), (1, n),
  (0, 7), (1, 726), (1, 726), (1, 726), (1, 3), (0, 2), (1, 10), (1, 10), (1, 10), (1, 10), (1, 81), (0, 0), (1, 9), (1, 4), (1, 4), (0, 10), (2, 144), (1, 4), (0, 6), (0, 5), (1, 300), (0, 1), (1, 64), (1, 6), (0, 3), (1, n), (0, 9), (4, 3), (1, 3), (1, 3), (0, 3), (1, n), (0, 3), (1, n), (0, 3), (1, n),
  (5, 6), (0, 4), (1, 16), (1, 112), (1, 300), (0, 4), (1, 16), (1, 112), (1, 300), (0, 4), (1, 16), (1, 112), (1, 300), (0, 4), (1, 16), (1, 112), (1, 300), (0, 4), (1, 16), (1, 112), (1, 300), (0, 4), (1, 16), (1, 112), (1, 300),
  (0, 12), (1, 920), (1, 920), (1, 6000), (1, 726), (1, 3), (1, 4), (1, 300), (1, 160), (1, 16), (1, 6), (3, 330), (1, 144), (1, 16), (1, 16), (1, 144), (1, 144), (1, 3)]
theorem js_90 (n : Nat) : (js_sh n)[90]? = some (0, 12) := rfl
theorem js_91 (n : Nat) : (js_sh n)[91]? = some (1, 920) := rfl
theorem js_92 (n : Nat) : (js_sh n)[92]? = some (1, 920) := rfl
theorem js_93 (n : Nat) : (js_sh n)[93]? = some (1, 6000) := rfl
theorem js_94 (n : Nat) : (js_sh n)[94]? = some (1, 726) := rfl
theorem js_95 (n : Nat) : (js_sh n)[95]? = some (1, 3) := rfl
theorem js_96 (n : Nat) : (js_sh n)[96]? = some (1, 4) := rfl
theorem js_97 (n : Nat) : (js_sh n)[97]? = some (1, 300) := rfl
theorem js_98 (n : Nat) : (js_sh n)[98]? = some (1, 160) := rfl
theorem js_99 (n : Nat) : (js_sh n)[99]? = some (1, 16) := rfl
theorem js_100 (n : Nat) : (js_sh n)[100]? = some (1, 6) := rfl
theorem js_101 (n : Nat) : (js_sh n)[101]? = some (3, 330) := rfl
theorem js_102 (n : Nat) : (js_sh n)[102]? = some (1, 144) := rfl
theorem js_103 (n : Nat) : (js_sh n)[103]? = some (1, 16) := rfl
theorem js_104 (n : Nat) : (js_sh n)[104]? = some (1, 16) := rfl
theorem js_105 (n : Nat) : (js_sh n)[105]? = some (1, 144) := rfl
theorem js_106 (n : Nat) : (js_sh n)[106]? = some (1, 144) := rfl
theorem js_107 (n : Nat) : (js_sh n)[107]? = some (1, 3) := rfl
/-- the reference's object: its arrays, its sizes -/
def jm_ref : Nat → Option Nat
  | 2 => some 91 | 3 => some 92 | 4 => some 93 | 5 => some 94 | 6 => some 95 | 7 => some 96 | 15 => some 97 | 28 => some 98 | 34 => some 99 | 36 => some 100 | 37 => some 101 | 38 => some 102 | 39 => some 103 | 40 => some 104 | 41 => some 105 | 42 => some 106 | 43 => some 107 | _ => none
def jm (w g : Int) (h : ja_H) : Prop := h.1 90 = jm_ref ∧ h.2.1 90 0 = w ∧ h.2.1 90 1 = g ∧ 4 ≤ w ∧ w ≤ 12 ∧ 4 ≤ g ∧ g ≤ 12
theorem ja_ifb {P : Prop} [Decidable P] : ((if P then (1 : Int) else 0) = 0) = ¬ P := by by_cases h : P <;> simp [h]
theorem ja_if01 {P : Prop} [Decidable P] : ((if P then (1 : Int) else 0) = 0 ∨ (if P then (1 : Int) else 0) = 1) := by by_cases h : P <;> simp [h]
/-! the reference: small methods -/
theorem kX12_isIn {l : Launch} {d : Nat} {sh : ja_S} {v lo hi : Int} {h : ja_H} {Q : ja_Q} (q : Q (some (.inl (if lo ≤ v ∧ v ≤ hi then 1 else 0))) h) : ja_C l (d + 1) mX12_isIn sh [.inl v, .inl lo, .inl hi] h Q :=
  eX12_isIn _ _ _ fun _ _ _ _ => jt_rZ (jv_cb (jd_and (jd_ge (jv_li rfl) (jv_li rfl)) fun _ => jd_le (jv_li rfl) (jv_li rfl))) q
theorem kX12_abs {l : Launch} {d : Nat} {sh : ja_S} {v : Int} {h : ja_H} {Q : ja_Q} (hv : v ≠ -2147483648) (q : Q (some (.inl v.natAbs)) h) : ja_C l (d + 1) mX12_abs sh [.inl v] h Q := by
  refine eX12_abs _ fun r _ => jt_rI (x := v.natAbs) ?_ q
  unfold ja_r at r
  refine jv_is (jv_cv (φ := v < 0) (x := -v) (y := v) (jd_lt (jv_li rfl) jv_ci) (fun _ => jv_w (jv_neg (jv_li rfl)) (by unfold ja_r; omega)) (fun _ => jv_li rfl)) ?_
  split <;> omega
theorem kX12_isPicture {l : Launch} {d : Nat} {sh : ja_S} {v : Int} {h : ja_H} {Q : ja_Q} (q : Q (some (.inl (if 0 ≤ v ∧ v ≤ 4 then 1 else 0))) h) : ja_C l (d + 2) mX12_isPicture sh [.inl v] h Q :=
  eX12_isPicture _ fun r _ => jt_rZ (jv_c3 (jv_li rfl) jv_ci jv_ci fun _ => kX12_isIn) q
theorem kX12_isCell {l : Launch} {d n : Nat} {x y w g : Int} {h : ja_H} {Q : ja_Q} (hm : jm w g h) (q : Q (some (.inl (if (0 ≤ x ∧ x < w) ∧ 0 ≤ y ∧ y < g then 1 else 0))) h) : ja_C l (d + 2) mX12_isCell (js_sh n) [.inr (.inr (some 90)), .inl x, .inl y] h Q := by
  obtain ⟨m1, m2, m3, m4, m5, m6, m7⟩ := hm
  refine eX12_isCell _ _ _ fun r1 r2 _ => jt_rZ (jv_cb (jd_and (φ := 0 ≤ x ∧ x < w) ?_ fun _ => (?_ : jd _ _ _ (0 ≤ y ∧ y < g)))) q
  · exact jd_eq (jd_b (jv_c3 (jv_li rfl) jv_ci (jv_w (jv_is (jv_sub (jv_gI (jr_lr rfl) rfl) jv_ci) (by rw [m2])) (by unfold ja_r; omega)) fun _ => kX12_isIn)) (by omega)
  · exact jd_eq (jd_b (jv_c3 (jv_li rfl) jv_ci (jv_w (jv_is (jv_sub (jv_gI (jr_lr rfl) rfl) jv_ci) (by rw [m3])) (by unfold ja_r; omega)) fun _ => kX12_isIn)) (by omega)
theorem kX12_spot {l : Launch} {d : Nat} {sh : ja_S} {p x y : Int} {h : ja_H} {Q : ja_Q} (hp : 0 ≤ p ∧ p ≤ 4) (hx : 0 ≤ x ∧ x < 12) (hy : 0 ≤ y ∧ y < 12) (q : Q (some (.inl (10 + 144 * p + 12 * y + x))) h) : ja_C l (d + 1) mX12_spot sh [.inl p, .inl x, .inl y] h Q :=
  eX12_spot _ _ _ fun r1 r2 r3 _ => jt_rI (jv_w (jv_add (jv_w (jv_add (jv_w (jv_add jv_ci (jv_w (jv_mul jv_ci (jv_li rfl)) (by unfold ja_r; omega))) (by unfold ja_r; omega)) (jv_w (jv_mul jv_ci (jv_li rfl)) (by unfold ja_r; omega))) (by unfold ja_r; omega)) (jv_li rfl)) (by unfold ja_r; omega)) q
/-- the light of picture p at x, y, in the reference -/
def jm_lt (h : ja_H) (p x y : Int) : Int := h.2.1 91 (10 + 144 * p + 12 * y + x).toNat
theorem kX12_lightAt {l : Launch} {d n : Nat} {p x y w g : Int} {h : ja_H} {Q : ja_Q} (hm : jm w g h) (hp : 0 ≤ p ∧ p ≤ 4) (hx : 0 ≤ x ∧ x < 12) (hy : 0 ≤ y ∧ y < 12) (q : Q (some (.inl (jm_lt h p x y))) h) : ja_C l (d + 2) mX12_lightAt (js_sh n) [.inr (.inr (some 90)), .inl p, .inl x, .inl y] h Q := by
  obtain ⟨m1, m2, m3, m4, m5, m6, m7⟩ := hm
  refine eX12_lightAt _ _ _ _ fun r1 r2 r3 _ => jt_rI (jv_aI (k := 91) (n := 920) (by have := jr_gR (sh := js_sh n) (ci := 12) (j := 2) (h := h) (jr_lr (i := 0) (L := [some (.inr (.inr (some 90))), some (.inl p), some (.inl x), some (.inl y)]) rfl) rfl; rw [m1] at this; exact this) (jv_c3 (jv_li rfl) (jv_li rfl) (jv_li rfl) fun _ => kX12_spot hp hx hy) rfl (by omega) (by omega)) q
/-- what a guard asks -/
theorem kX12_light {l : Launch} {d n : Nat} {p x y v w g : Int} {h : ja_H} {Q : ja_Q} (hm : jm w g h) (q1 : ((0 ≤ p ∧ p ≤ 4) ∧ (0 ≤ x ∧ x < w) ∧ (0 ≤ y ∧ y < g) ∧ 0 ≤ v ∧ v ≤ 99) → Q (some (.inl 1)) (h.1, ja_up h.2.1 91 (10 + 144 * p + 12 * y + x).toNat v, h.2.2)) (q2 : ¬ ((0 ≤ p ∧ p ≤ 4) ∧ (0 ≤ x ∧ x < w) ∧ (0 ≤ y ∧ y < g) ∧ 0 ≤ v ∧ v ≤ 99) → Q (some (.inl 0)) h) : ja_C l (d + 3) mX12_light (js_sh n) [.inr (.inr (some 90)), .inl p, .inl x, .inl y, .inl v] h Q := by
  obtain ⟨m1, m2, m3, m4, m5, m6, m7⟩ := id hm
  have m1' : h.1 90 2 = some 91 := by rw [m1]; rfl
  refine eX12_light _ _ _ _ _ fun r1 r2 r3 r4 _ => ?_
  unfold bX12_light
  refine jb_if_d (φ := ¬ ((0 ≤ p ∧ p ≤ 4) ∧ (0 ≤ x ∧ x < w) ∧ (0 ≤ y ∧ y < g) ∧ 0 ≤ v ∧ v ≤ 99)) (jd_eq (jd_or (jd_or (jd_not (jd_b (jv_c1 (jv_li rfl) fun _ => kX12_isPicture))) (fun _ => (jd_not (jd_b (jv_m2 (jr_lr rfl) (by first | rfl | assumption) (jv_li rfl) (jv_li rfl) fun _ => kX12_isCell hm))))) (fun _ => (jd_not (jd_b (jv_c3 (jv_li rfl) jv_ci jv_ci fun _ => kX12_isIn))))) (by omega)) (fun c => ?_) (fun c => ?_)
  · exact jv_ci _ ⟨Or.inl rfl, q2 c⟩
  · have c := Classical.not_not.mp c
    exact jt_wI (jr_g (jr_lr rfl) (by first | rfl | assumption) (by first | rfl | assumption)) rfl (jv_c3 (jv_li rfl) (jv_li rfl) (jv_li rfl) fun _ => kX12_spot (by first | omega | (unfold ja_r; omega) | (unfold ja_rl; omega) | assumption) (by first | omega | (unfold ja_r; omega) | (unfold ja_rl; omega) | assumption) (by first | omega | (unfold ja_r; omega) | (unfold ja_rl; omega) | assumption)) (jv_li rfl) (by omega) (by omega) (jv_ci _ ⟨Or.inr rfl, q1 c⟩)
