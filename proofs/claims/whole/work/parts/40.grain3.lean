/-! grain -/
def co (r : Nat → Int) (m t : Int) : Nat → Int
  | 0 => 0
  | k + 1 => co r m t k + (if od (r k) m t then 1 else 0)
theorem co_b (r : Nat → Int) (m t : Int) : ∀ k : Nat, 0 ≤ co r m t k ∧ co r m t k ≤ k
  | 0 => by simp [co]
  | k + 1 => by have := co_b r m t k; simp only [co]; split <;> omega
theorem co_c {r r' : Nat → Int} (m t : Int) : ∀ {k : Nat}, (∀ b, b < k → r b = r' b) → co r m t k = co r' m t k
  | 0, _ => rfl
  | k + 1, h => by simp only [co]; rw [co_c m t (k := k) (fun b hb => h b (by omega)), h k (by omega)]
/-- what grain answers of a picture, its blocks' roughness r, their number nb -/
def grS (r : Nat → Int) (nb : Nat) (t what : Int) : Int := if what = 0 then nb else if what = 1 then md r nb nb else if what = 2 then co r (md r nb nb) t nb else if 100 ≤ what ∧ what < 100 + nb then (if od (r (what - 100).toNat) (md r nb nb) t then 1 else 0) else -1
theorem grS_c {r r' : Nat → Int} {nb : Nat} {t what : Int} (h : ∀ b, b < nb → r b = r' b) : grS r nb t what = grS r' nb t what := by
  unfold grS
  rw [md_c h nb (Nat.le_refl _), co_c _ _ h]
  by_cases c : 100 ≤ what ∧ what < 100 + nb
  · rw [h (what - 100).toNat (by omega)]
  · rw [if_neg c, if_neg c]
set_option maxRecDepth 10000 in
theorem kX12_grain {l : Launch} {d n : Nat} {p t v w g : Int} {h : ja_H} {Q : ja_Q} (hm : jm w g h) (ho : 0 ≤ p ∧ p ≤ 4 → rg_ok (jm_lt h p) w g) (q : Q (some (.inl (if (0 ≤ p ∧ p ≤ 4) ∧ 2 ≤ t ∧ t ≤ 99 then grS (fun b => rb (jm_lt h p) w (b : Nat)) (w / 4 * (g / 4)).toNat t v else -1))) h) : ja_C l (d + 7) mX12_grain (js_sh n) [.inr (.inr (some 90)), .inl p, .inl t, .inl v] h Q := by
  obtain ⟨m1, m2, m3, m4, m5, m6, m7⟩ := id hm
  have kn := bk_n ⟨m4, m5⟩ ⟨m6, m7⟩
  generalize hN : (w / 4 * (g / 4)).toNat = m at q
  have hn : w / 4 * (g / 4) = (m : Int) := by omega
  refine eX12_grain _ _ _ _ fun _ _ rv _ => ?_
  unfold ja_r at rv
  unfold bX12_grain
  refine jb_if_d (φ := ¬ ((0 ≤ p ∧ p ≤ 4) ∧ (2 ≤ t ∧ t ≤ 99) ∧ ((0 ≤ v ∧ v ≤ 2) ∨ (100 ≤ v ∧ v ≤ 99 + (m : Int))))) (jd_eq (jd_or (jd_or (jd_not (jd_b (jv_c1 (jv_li rfl) fun _ => kX12_isPicture))) (fun _ => (jd_not (jd_b (jv_c3 (jv_li rfl) jv_ci jv_ci fun _ => kX12_isIn))))) (fun _ => (jd_and (jd_not (jd_b (jv_c3 (jv_li rfl) jv_ci jv_ci fun _ => kX12_isIn))) (fun _ => (jd_not (jd_b (jv_c3 (jv_li rfl) jv_ci (jv_w (jv_add jv_ci (jv_m0 (jr_lr rfl) (by first | rfl | assumption)  fun _ => kX12_blocks hm)) (by first | omega | (unfold ja_r; omega) | (unfold ja_rl; omega) | assumption)) fun _ => kX12_isIn))))))) (by omega)) (fun c => ?_) (fun c => ?_)
  · refine jt_rI jv_ci ?_
    by_cases c1 : (0 ≤ p ∧ p ≤ 4) ∧ 2 ≤ t ∧ t ≤ 99
    · rw [if_pos c1] at q
      unfold grS at q
      rw [if_neg (by omega), if_neg (by omega), if_neg (by omega), if_neg (by omega)] at q
      exact q
    · rw [if_neg c1] at q; exact q
  · have c := Classical.not_not.mp c
    have hp := c.1
    have ho := ho hp
    have ht : 0 ≤ t ∧ t ≤ 99 := by omega
    rw [if_pos ⟨c.1, c.2.1⟩] at q
    unfold grS at q
    refine jb_if_d (φ := v < 2) (jd_lt (jv_li rfl) jv_ci) (fun c2 => ?_) (fun c2 => ?_)
    · refine jt_rI (jv_is (jv_cv (φ := v = 0) (jd_eqI (jv_li rfl) jv_ci) (fun _ => jv_is (jv_m0 (jr_lr rfl) (by first | rfl | assumption)  fun _ => kX12_blocks hm) hn) (fun _ => (jv_m1 (jr_lr rfl) (by first | rfl | assumption) (jv_li rfl) fun _ => kX12_median hm (by assumption) (by assumption)))) rfl) ?_
      rw [hN]
      by_cases z : v = 0
      · rw [if_pos z] at q ⊢; exact q
      · rw [if_neg z, if_pos (by omega)] at q; rw [if_neg z]; exact q
    · refine jb_if_d (φ := 100 ≤ v) (jd_ge (jv_li rfl) jv_ci) (fun c3 => ?_) (fun c3 => ?_)
      · rw [if_neg (by omega), if_neg (by omega), if_neg (by omega), if_pos (by omega)] at q
        refine jt_rI (jv_cv (jd_b (jv_m3 (jr_lr rfl) rfl (jv_li rfl) (jv_w (jv_sub (jv_li rfl) jv_ci) (by first | omega | (unfold ja_r; omega) | (unfold ja_rl; omega) | assumption)) (jv_li rfl) fun _ => kX12_isOdd hm hp ho (by omega) ht)) (fun _ => jv_ci) (fun _ => jv_ci)) ?_
        rw [hN]
        have e9 : ((v - 100).toNat : Int) = v - 100 := by omega
        simp only [e9] at q
        exact q
      · rw [if_neg (by omega), if_neg (by omega), if_pos (by omega)] at q
        refine jt_sI jv_ci (jt_sI jv_ci ?_)
        refine jb_forc m (fun b L' h' => L' = [some (.inr (.inr (some 90))), some (.inl (p)), some (.inl (t)), some (.inl (v)), some (.inl (co (fun b => rb (jm_lt h p) w (b : Nat)) (md (fun b => rb (jm_lt h p) w (b : Nat)) m m) t b)), some (.inl ((b : Nat)))] ∧ h = h') ⟨by simp [ja_set, ja_cl, ja_lg, co], rfl⟩ ?_ ?_ ?_
        · rintro b hb _ _ ⟨rfl, rfl⟩
          exact jd_eq (jd_lt (jv_li rfl) (jv_is (jv_m0 (jr_lr rfl) (by first | rfl | assumption)  fun _ => kX12_blocks hm) hn)) (by omega)
        · rintro b hb _ _ ⟨rfl, rfl⟩
          have cb := co_b (fun b => rb (jm_lt h p) w (b : Nat)) (md (fun b => rb (jm_lt h p) w (b : Nat)) m m) t (b + 1)
          refine jt_sI (x := co (fun b => rb (jm_lt h p) w (b : Nat)) (md (fun b => rb (jm_lt h p) w (b : Nat)) m m) t (b + 1)) (jv_w (jv_add (jv_li rfl) (jv_cv (φ := od (rb (jm_lt h p) w (b : Nat)) (md (fun b => rb (jm_lt h p) w (b : Nat)) m m) t) (jd_b (jv_is (jv_m3 (jr_lr rfl) rfl (jv_li rfl) (jv_li rfl) (jv_li rfl) fun _ => kX12_isOdd hm hp ho (by omega) ht) (by rw [hN]))) (fun _ => jv_ci) (fun _ => jv_ci))) (by unfold ja_r; omega)) ?_
          exact jt_inc rfl (by first | omega | (unfold ja_r; omega) | (unfold ja_rl; omega) | assumption) ⟨rfl, rfl⟩
        · rintro _ _ ⟨rfl, rfl⟩
          exact jt_rI (jv_li rfl) q
