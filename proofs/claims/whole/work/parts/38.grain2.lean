/-! the reference: fields, median, oddness, grain -/
theorem kX12_isField {l : Launch} {d n : Nat} {x y u v w g : Int} {h : ja_H} {Q : ja_Q} (hm : jm w g h) (q : Q (some (.inl (if ((0 ≤ x ∧ x < w) ∧ 0 ≤ y ∧ y < g) ∧ (1 ≤ u ∧ u ≤ w - x) ∧ 1 ≤ v ∧ v ≤ g - y then 1 else 0))) h) : ja_C l (d + 3) mX12_isField (js_sh n) [.inr (.inr (some 90)), .inl x, .inl y, .inl u, .inl v] h Q := by
  obtain ⟨m1, m2, m3, m4, m5, m6, m7⟩ := id hm
  refine eX12_isField _ _ _ _ _ fun _ _ _ _ _ => ?_
  unfold bX12_isField
  exact jt_rZ (jv_cb (jd_eq (jd_and (jd_and (jd_and (jd_and (jd_b (jv_m2 (jr_lr rfl) (by first | rfl | assumption) (jv_li rfl) (jv_li rfl) fun _ => kX12_isCell hm)) (fun _ => (jd_ge (jv_li rfl) jv_ci))) (fun _ => (jd_ge (jv_li rfl) jv_ci))) (fun _ => (jd_le (jv_li rfl) (jv_w (jv_sub (jv_gF (jr_lr rfl) (by first | rfl | assumption) (by first | rfl | assumption)) (jv_li rfl)) (by first | omega | (unfold ja_r; omega) | (unfold ja_rl; omega) | assumption))))) (fun _ => (jd_le (jv_li rfl) (jv_w (jv_sub (jv_gF (jr_lr rfl) (by first | rfl | assumption) (by first | rfl | assumption)) (jv_li rfl)) (by first | omega | (unfold ja_r; omega) | (unfold ja_rl; omega) | assumption))))) (by omega))) q
theorem kX12_rough {l : Launch} {d n : Nat} {p x y u v w g : Int} {h : ja_H} {Q : ja_Q} (hm : jm w g h) (ho : 0 ≤ p ∧ p ≤ 4 → rg_ok (jm_lt h p) w g) (q : Q (some (.inl (if (0 ≤ p ∧ p ≤ 4) ∧ ((0 ≤ x ∧ x < w) ∧ 0 ≤ y ∧ y < g) ∧ (1 ≤ u ∧ u ≤ w - x) ∧ 1 ≤ v ∧ v ≤ g - y then rg (jm_lt h p) x y u.toNat v.toNat else -1))) h) : ja_C l (d + 4) mX12_rough (js_sh n) [.inr (.inr (some 90)), .inl p, .inl x, .inl y, .inl u, .inl v] h Q := by
  obtain ⟨m1, m2, m3, m4, m5, m6, m7⟩ := id hm
  refine eX12_rough _ _ _ _ _ _ fun _ _ _ _ _ _ => ?_
  unfold bX12_rough
  exact jt_rI (jv_cv (jd_and (jd_b (jv_c1 (jv_li rfl) fun _ => kX12_isPicture)) (fun _ => (jd_b (jv_m4 (jr_lr rfl) (by first | rfl | assumption) (jv_li rfl) (jv_li rfl) (jv_li rfl) (jv_li rfl) fun _ => kX12_isField hm)))) (fun c => jv_m5 (jr_lr rfl) rfl (jv_li rfl) (jv_li rfl) (jv_li rfl) (jv_li rfl) (jv_li rfl) fun _ => kX12_roughOf hm c.1 (ho c.1) (by omega) (by omega) (by omega) (by omega)) (fun _ => jv_ci)) q
set_option maxRecDepth 10000 in
theorem kX12_median {l : Launch} {d n : Nat} {p w g : Int} {h : ja_H} {Q : ja_Q} (hm : jm w g h) (hp : 0 ≤ p ∧ p ≤ 4) (ho : rg_ok (jm_lt h p) w g) (q : Q (some (.inl (md (fun b => rb (jm_lt h p) w (b : Nat)) (w / 4 * (g / 4)).toNat (w / 4 * (g / 4)).toNat))) h) : ja_C l (d + 5) mX12_median (js_sh n) [.inr (.inr (some 90)), .inl p] h Q := by
  obtain ⟨m1, m2, m3, m4, m5, m6, m7⟩ := id hm
  have kn := bk_n ⟨m4, m5⟩ ⟨m6, m7⟩
  have hn : w / 4 * (g / 4) = ((w / 4 * (g / 4)).toNat : Int) := by omega
  refine eX12_median _ _ fun _ _ => ?_
  unfold bX12_median
  refine jt_sI (jv_m0 (jr_lr rfl) (by first | rfl | assumption)  fun _ => kX12_blocks hm) (jt_sI jv_ci ?_)
  generalize hN : (w / 4 * (g / 4)).toNat = m at q hn
  have hr : ∀ b : Nat, b < m → 0 ≤ rb (jm_lt h p) w (b : Nat) ∧ rb (jm_lt h p) w (b : Nat) ≤ 9504 := fun b hb => rb_b ho ⟨m4, m5⟩ ⟨m6, m7⟩ (by omega)
  rw [hn]
  generalize hf : (fun b : Nat => rb (jm_lt h p) w (b : Nat)) = r at q
  have hfr : ∀ b : Nat, rb (jm_lt h p) w (b : Nat) = r b := fun b => by rw [← hf]
  refine jb_forc m (fun b L' h' => (∃ o1 o2 o3 o4, L' = [some (.inr (.inr (some 90))), some (.inl (p)), some (.inl ((m : Nat))), some (.inl ((b : Nat))), o1, o2, o3, o4]) ∧ h = h' ∧ md r m m = md r m (m - b)) ⟨⟨none, none, none, none, rfl⟩, rfl, rfl⟩ ?_ ?_ ?_
  · rintro b hb _ _ ⟨⟨o1, o2, o3, o4, rfl⟩, rfl, e⟩
    exact jd_eq (jd_lt (jv_li rfl) (jv_li rfl)) (by omega)
  · rintro b hb _ _ ⟨⟨o1, o2, o3, o4, rfl⟩, rfl, e⟩
    have vb := hr b hb
    refine jt_sI (x := r b) (jv_is (jv_m2 (jr_lr rfl) (by first | rfl | assumption) (jv_li rfl) (jv_li rfl) fun _ => kX12_roughBlock hm (by assumption) (by assumption) (by first | omega | (unfold ja_r; omega) | (unfold ja_rl; omega) | assumption)) (hfr b)) (jt_sI jv_ci (jt_sI jv_ci (jt_sI jv_ci ?_)))
    rw [hfr] at vb
    refine jb_forc m (fun c L' h' => L' = [some (.inr (.inr (some 90))), some (.inl (p)), some (.inl ((m : Nat))), some (.inl ((b : Nat))), some (.inl (r b)), some (.inl (ct r (r b) c)), some (.inl (ct r (r b + 1) c)), some (.inl ((c : Nat)))] ∧ h = h') ⟨by simp [ja_set, ja_cl, ja_lg, ct], rfl⟩ ?_ ?_ ?_
    · rintro c hc _ _ ⟨rfl, rfl⟩
      exact jd_eq (jd_lt (jv_li rfl) (jv_li rfl)) (by omega)
    · rintro c hc _ _ ⟨rfl, rfl⟩
      have cb1 := ct_b r (r b) c
      have cb2 := ct_b r (r b + 1) c
      have rc := hr c hc
      rw [hfr] at rc
      refine jt_sI (x := ct r (r b) (c + 1)) (jv_w (jv_add (jv_li rfl) (jv_is (jv_cv (φ := r c < r b) (jd_lt (jv_is (jv_m2 (jr_lr rfl) (by first | rfl | assumption) (jv_li rfl) (jv_li rfl) fun _ => kX12_roughBlock hm (by assumption) (by assumption) (by first | omega | (unfold ja_r; omega) | (unfold ja_rl; omega) | assumption)) (hfr c)) (jv_li rfl)) (fun _ => jv_ci) (fun _ => jv_ci)) rfl)) (by have := ct_b r (r b) (c + 1); unfold ja_r; omega)) ?_
      refine jt_sI (x := ct r (r b + 1) (c + 1)) (jv_is (jv_w (jv_add (jv_li rfl) (jv_cv (φ := r c ≤ r b) (jd_le (jv_is (jv_m2 (jr_lr rfl) (by first | rfl | assumption) (jv_li rfl) (jv_li rfl) fun _ => kX12_roughBlock hm (by assumption) (by assumption) (by first | omega | (unfold ja_r; omega) | (unfold ja_rl; omega) | assumption)) (hfr c)) (jv_li rfl)) (fun _ => jv_ci) (fun _ => jv_ci))) (by unfold ja_r; split <;> omega)) ?_) ?_
      · simp only [ct]
        congr 1
        by_cases z : r c ≤ r b
        · rw [if_pos z, if_pos (by omega)]
        · rw [if_neg z, if_neg (by omega)]
      · exact jt_inc rfl (by first | omega | (unfold ja_r; omega) | (unfold ja_rl; omega) | assumption) ⟨rfl, rfl⟩
    · rintro _ _ ⟨rfl, rfl⟩
      have cb1 := ct_b r (r b) m
      have cb2 := ct_b r (r b + 1) m
      have em : md r m (m - b) = if ct r (r b) m ≤ ((m : Int) - 1) / 2 ∧ ((m : Int) - 1) / 2 < ct r (r b + 1) m then r b else md r m (m - (b + 1)) := by
        rw [show m - b = (m - (b + 1)) + 1 by omega, md, show m - (m - (b + 1) + 1) = b by omega]
      refine jb_if_d (φ := ct r (r b) m ≤ ((m : Int) - 1) / 2 ∧ ((m : Int) - 1) / 2 < ct r (r b + 1) m) (jd_and (jd_le (jv_li rfl) (jv_divP (jv_w (jv_sub (jv_li rfl) jv_ci) (by first | omega | (unfold ja_r; omega) | (unfold ja_rl; omega) | assumption)) jv_ci (by first | omega | (unfold ja_r; omega) | (unfold ja_rl; omega) | assumption) (by first | omega | (unfold ja_r; omega) | (unfold ja_rl; omega) | assumption) (by first | omega | (unfold ja_r; omega) | (unfold ja_rl; omega) | assumption))) (fun _ => (jd_gt (jv_li rfl) (jv_divP (jv_w (jv_sub (jv_li rfl) jv_ci) (by first | omega | (unfold ja_r; omega) | (unfold ja_rl; omega) | assumption)) jv_ci (by first | omega | (unfold ja_r; omega) | (unfold ja_rl; omega) | assumption) (by first | omega | (unfold ja_r; omega) | (unfold ja_rl; omega) | assumption) (by first | omega | (unfold ja_r; omega) | (unfold ja_rl; omega) | assumption))))) (fun c => ?_) (fun c => ?_)
      · rw [e, em, if_pos c] at q
        exact jt_rI (jv_li rfl) q
      · rw [em, if_neg c] at e
        exact jt_inc rfl (by first | omega | (unfold ja_r; omega) | (unfold ja_rl; omega) | assumption) ⟨⟨_, _, _, _, rfl⟩, rfl, e⟩
  · rintro _ _ ⟨⟨o1, o2, o3, o4, rfl⟩, rfl, e⟩
    rw [e, Nat.sub_self] at q
    exact jt_rI jv_ci q
/-- is the block odd, its roughness v, the median m -/
abbrev od (v m t : Int) : Prop := v * t < m ∨ m * t < v
theorem md_b {r : Nat → Int} {n : Nat} (h : ∀ b, b < n → 0 ≤ r b ∧ r b ≤ 9504) : ∀ k, k ≤ n → -1 ≤ md r n k ∧ md r n k ≤ 9504
  | 0, _ => by simp [md]
  | k + 1, hk => by
    have := md_b h k (by omega)
    have := h (n - (k + 1)) (by omega)
    simp only [md]
    split <;> omega
theorem od_r {v t : Int} (hv : -1 ≤ v ∧ v ≤ 9504) (ht : 0 ≤ t ∧ t ≤ 99) : -99 ≤ v * t ∧ v * t ≤ 940896 := by
  have h1 : v * t ≤ 9504 * t := Int.mul_le_mul_of_nonneg_right hv.2 ht.1
  have h2 : -1 * t ≤ v * t := Int.mul_le_mul_of_nonneg_right hv.1 ht.1
  omega
theorem kX12_isOdd {l : Launch} {d n : Nat} {p b t w g : Int} {h : ja_H} {Q : ja_Q} (hm : jm w g h) (hp : 0 ≤ p ∧ p ≤ 4) (ho : rg_ok (jm_lt h p) w g) (hb : 0 ≤ b ∧ b < w / 4 * (g / 4)) (ht : 0 ≤ t ∧ t ≤ 99) (q : Q (some (.inl (if od (rb (jm_lt h p) w b) (md (fun b => rb (jm_lt h p) w (b : Nat)) (w / 4 * (g / 4)).toNat (w / 4 * (g / 4)).toNat) t then 1 else 0))) h) : ja_C l (d + 6) mX12_isOdd (js_sh n) [.inr (.inr (some 90)), .inl p, .inl b, .inl t] h Q := by
  obtain ⟨m1, m2, m3, m4, m5, m6, m7⟩ := id hm
  have kn := bk_n ⟨m4, m5⟩ ⟨m6, m7⟩
  have hv := rb_b ho ⟨m4, m5⟩ ⟨m6, m7⟩ hb
  have hd := md_b (r := fun b => rb (jm_lt h p) w (b : Nat)) (n := (w / 4 * (g / 4)).toNat) (fun b hb => rb_b ho ⟨m4, m5⟩ ⟨m6, m7⟩ (by omega)) _ (Nat.le_refl _)
  have k1 := od_r (v := rb (jm_lt h p) w b) (by omega) ht
  have k2 := od_r hd ht
  refine eX12_isOdd _ _ _ _ fun _ _ _ _ => ?_
  unfold bX12_isOdd
  refine jt_sI (jv_m1 (jr_lr rfl) (by first | rfl | assumption) (jv_li rfl) fun _ => kX12_median hm (by assumption) (by assumption)) (jt_sI (jv_m2 (jr_lr rfl) (by first | rfl | assumption) (jv_li rfl) (jv_li rfl) fun _ => kX12_roughBlock hm (by assumption) (by assumption) (by first | omega | (unfold ja_r; omega) | (unfold ja_rl; omega) | assumption)) ?_)
  exact jt_rZ (jv_cb (jd_or (jd_lt (jv_w (jv_mul (jv_li rfl) (jv_li rfl)) (by first | omega | (unfold ja_r; omega) | (unfold ja_rl; omega) | assumption)) (jv_li rfl)) (fun _ => (jd_lt (jv_w (jv_mul (jv_li rfl) (jv_li rfl)) (by first | omega | (unfold ja_r; omega) | (unfold ja_rl; omega) | assumption)) (jv_li rfl))))) q
