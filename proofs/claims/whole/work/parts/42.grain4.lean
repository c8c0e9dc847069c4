/-! the class: oddness, grain, rough -/
theorem kX0_isOdd {l : Launch} {d n m : Nat} {b t v md0 : Int} {h : ja_H} {Q : ja_Q} (hB : jB n h) (hc : h.2.1 40 4 = (m : Nat)) (hm : m ≤ 9) (hd : h.2.1 40 5 = md0) (hdb : -1 ≤ md0 ∧ md0 ≤ 9504) (hb : 0 ≤ b ∧ b < m) (hv : h.2.1 41 b.toNat = v) (hvb : 0 ≤ v ∧ v ≤ 9504) (ht : 0 ≤ t ∧ t ≤ 99) (q : Q (some (.inl (if od v md0 t then 1 else 0))) h) : ja_C l (d + 2) mX0_isOdd (js_sh n) [.inr (.inr (some 40)), .inl b, .inl t] h Q := by
  obtain ⟨b1, b2, b3⟩ := id hB
  have k1 := od_r (v := v) (by omega) ht
  have k2 := od_r hdb ht
  refine eX0_isOdd _ _ _ fun _ _ _ => ?_
  unfold bX0_isOdd
  refine jb_if_d (φ := False) (jd_eq (jd_not (jd_b (jv_c3 (jv_li rfl) jv_ci (jv_w (jv_sub (jv_gF (jr_lr rfl) rfl hc) jv_ci) (by first | omega | (unfold ja_r; omega) | (unfold ja_rl; omega) | assumption)) fun _ => kX11_within))) (by simp; omega)) (fun z => z.elim) (fun _ => ?_)
  have rd : ∀ L : ja_L, ja_get L 0 = some (.inr (.inr (some 40))) → ja_get L 1 = some (.inl b) → jv (jb_aI (js_sh n) (jb_gR (js_sh n) 0 0 (jb_lr 0)) (jb_li 1)) L h v := fun L g0 g1 => jv_is (jv_aI (k := 41) (n := 9) (jr_g (jr_lr g0) rfl b1) (jv_li g1) rfl (by omega) (by omega)) hv
  exact jt_rZ (jv_cb (jd_or (jd_lt (jv_w (jv_mul (rd _ rfl rfl) (jv_li rfl)) (by first | omega | (unfold ja_r; omega) | (unfold ja_rl; omega) | assumption)) (jv_gF (jr_lr rfl) rfl hd)) fun _ => jd_lt (jv_w (jv_mul (jv_gF (jr_lr rfl) rfl hd) (jv_li rfl)) (by first | omega | (unfold ja_r; omega) | (unfold ja_rl; omega) | assumption)) (rd _ rfl rfl))) q
set_option maxRecDepth 10000 in
theorem kX0_countOdd {l : Launch} {d n m : Nat} {t md0 : Int} {r : Nat → Int} {h : ja_H} {Q : ja_Q} (hB : jB n h) (hc : h.2.1 40 4 = (m : Nat)) (hm : m ≤ 9) (hd : h.2.1 40 5 = md0) (hdb : -1 ≤ md0 ∧ md0 ≤ 9504) (hv : ∀ b, b < m → h.2.1 41 b = r b) (hvb : ∀ b, b < m → 0 ≤ r b ∧ r b ≤ 9504) (ht : 0 ≤ t ∧ t ≤ 99) (q : Q (some (.inl (co r md0 t m))) h) : ja_C l (d + 3) mX0_countOdd (js_sh n) [.inr (.inr (some 40)), .inl t] h Q := by
  obtain ⟨b1, b2, b3⟩ := id hB
  refine eX0_countOdd _ _ fun _ _ => ?_
  unfold bX0_countOdd
  refine jt_sI jv_ci (jt_sI jv_ci ?_)
  refine jb_forc m (fun c L' h' => L' = [some (.inr (.inr (some 40))), some (.inl (t)), some (.inl (co r md0 t c)), some (.inl ((c : Nat)))] ∧ h = h') ⟨by simp [ja_set, ja_cl, ja_lg, co], rfl⟩ ?_ ?_ ?_
  · rintro c hc2 _ _ ⟨rfl, rfl⟩
    exact jd_eq (jd_lt (jv_li rfl) (jv_gF (jr_lr rfl) rfl hc)) (by omega)
  · rintro c hc2 _ _ ⟨rfl, rfl⟩
    have cb := co_b r md0 t c
    refine jb_if_j (φ := od (r c) md0 t) (fun L' h' => L' = [some (.inr (.inr (some 40))), some (.inl (t)), some (.inl (co r md0 t (c + 1))), some (.inl ((c : Nat)))] ∧ h = h') (jd_b (jv_m2 (jr_lr rfl) rfl (jv_li rfl) (jv_li rfl) fun _ => kX0_isOdd hB hc hm hd hdb (by omega) (by rw [show ((c : Nat) : Int).toNat = c by omega]; exact hv c hc2) (hvb c hc2) ht)) (fun z => ?_) (fun z => ?_) ?_
    · exact jt_inc rfl (by unfold ja_r; omega) ⟨by simp only [ja_set, ja_cl, ja_lg, co]; rw [if_pos z]; rfl, rfl⟩
    · exact ⟨by simp only [co]; rw [if_neg z]; simp, rfl⟩
    · rintro _ _ ⟨rfl, rfl⟩
      exact jt_inc rfl (by unfold ja_r; omega) ⟨rfl, rfl⟩
  · rintro _ _ ⟨rfl, rfl⟩
    exact jt_rI (jv_li rfl) q
/-- the class's own object: what its fields refer to -/
def jT (h : ja_H) : Prop := h.1 0 0 = some 1 ∧ h.1 0 1 = some 15 ∧ h.1 0 2 = some 29 ∧ h.1 0 3 = some 34 ∧ h.1 0 4 = some 40 ∧ h.1 0 5 = some 44 ∧ h.1 0 6 = some 47 ∧ h.1 0 7 = some 48 ∧ h.1 0 8 = some 50 ∧ h.1 0 9 = some 55 ∧ h.1 0 10 = some 65
theorem jS_pn {s : Nat} {v : Int} : (jS_p s v = none) ↔ ¬ (0 ≤ v ∧ v ≤ 4) := by unfold jS_p; split <;> simp_all
theorem jS_ps {s : Nat} {v : Int} (h : 0 ≤ v ∧ v ≤ 4) : jS_p s v = some (s + 4 + 2 * v.toNat) := by unfold jS_p; rw [if_pos h]
theorem kX11_rough {l : Launch} {d n : Nat} {p x y u v w g : Int} {h : ja_H} {Q : ja_Q} (hT : jT h) (hs : jS w g n 1 h) (ho : 0 ≤ p ∧ p ≤ 4 → rg_ok (jp_lt h w (5 + 2 * p.toNat)) w g) (q : Q (some (.inl (if (0 ≤ p ∧ p ≤ 4) ∧ ((0 ≤ x ∧ x < w) ∧ 0 ≤ y ∧ y < g) ∧ (1 ≤ u ∧ u ≤ w - x) ∧ 1 ≤ v ∧ v ≤ g - y then rg (jp_lt h w (5 + 2 * p.toNat)) x y u.toNat v.toNat else -1))) h) : ja_C l (d + 3) mX11_rough (js_sh n) [.inr (.inr (some 0)), .inl p, .inl x, .inl y, .inl u, .inl v] h Q := by
  obtain ⟨t0, t1⟩ := id hT
  refine eX11_rough _ _ _ _ _ _ fun _ _ _ _ _ _ => ?_
  unfold bX11_rough
  refine jt_sR (jr_m1 (jr_g (jr_lr rfl) rfl t0) rfl (jv_li rfl) fun _ => kX8_picture hs) ?_
  by_cases c : 0 ≤ p ∧ p ≤ 4
  · have hp := (hs.2.2 p.toNat (by omega)).2
    rw [show 1 + 4 + 2 * p.toNat = 5 + 2 * p.toNat by omega] at hp
    have ho := ho c
    obtain ⟨p1, p2, p3, p4, p5, p6, p7, p8, p9, p10⟩ := id hp
    have ep : jS_p 1 p = some (5 + 2 * p.toNat) := by rw [jS_ps c]
    rw [ep]
    refine jb_if_d (φ := ¬ (((0 ≤ x ∧ x < w) ∧ 0 ≤ y ∧ y < g) ∧ (1 ≤ u ∧ u ≤ w - x) ∧ 1 ≤ v ∧ v ≤ g - y)) (jd_eq (jd_or (jd_isn (jr_lr rfl)) fun _ => jd_not (jd_b (jv_m4 (jr_lr rfl) p1 (jv_li rfl) (jv_li rfl) (jv_li rfl) (jv_li rfl) fun _ => kX3_hasField hp))) (by simp)) (fun z => ?_) (fun z => ?_)
    · rw [if_neg (fun w => z w.2)] at q
      exact jt_rI jv_ci q
    · have z := Classical.not_not.mp z
      rw [if_pos ⟨c, z⟩] at q
      exact jt_rI (jv_m4 (jr_lr rfl) p1 (jv_li rfl) (jv_li rfl) (jv_li rfl) (jv_li rfl) fun _ => kX3_roughness hp ho (by first | omega | (unfold ja_r; omega) | (unfold ja_rl; omega) | assumption) (by first | omega | (unfold ja_r; omega) | (unfold ja_rl; omega) | assumption) (by first | omega | (unfold ja_r; omega) | (unfold ja_rl; omega) | assumption) (by first | omega | (unfold ja_r; omega) | (unfold ja_rl; omega) | assumption)) q
  · rw [jS_pn.mpr c]
    rw [if_neg (fun w => c w.1)] at q
    exact jb_if_p (jr_lr rfl _ (by rw [if_pos rfl]; exact jt_rI jv_ci q))
