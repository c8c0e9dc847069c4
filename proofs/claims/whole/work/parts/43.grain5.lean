theorem jt_xm1 {L : ja_L} {h : ja_H} {l : Launch} {d ci k : Nat} {sh : ja_S} {M : ja_M} {r r2 : ja_ER} {x : Option Nat} {N B C : ja_P} {R : ja_Q} (o : jr r L h (some k)) (hk : sh[k]? = some (0, ci)) (p : jr r2 L h x) (c : ja_C l d M sh [.inr (.inr (some k)), .inr (.inr x)] h (fun r h' => r = none ∧ N L h')) : jb_ex (jb_cm l d sh ci M r (jb_ar jb_a0 r2)) N B C R L h := o _ (p _ ⟨k, rfl, hk, c⟩)
theorem jMs_ho {h : ja_H} {lt : Int → Int → Int} {w g : Int} {f : Nat → Nat → Int} (h1 : jMs h lt w g f) : jMs h lt w g f := h1
/-- grain: only the cells 40 and 41 change -/
theorem kX11_grain {l : Launch} {d n : Nat} {p t v w g : Int} {h : ja_H} {Q : ja_Q} (hT : jT h) (hB : jB n h) (hs : jS w g n 1 h) (hw : 4 ≤ w ∧ w ≤ 12 ∧ 4 ≤ g ∧ g ≤ 12) (ho : 0 ≤ p ∧ p ≤ 4 → rg_ok (jp_lt h w (5 + 2 * p.toNat)) w g) (q1 : ((0 ≤ p ∧ p ≤ 4) ∧ 2 ≤ t ∧ t ≤ 99) → ∀ f, (∀ k, k ≠ 40 → k ≠ 41 → f k = h.2.1 k) → Q (some (.inl (grS (fun b => rb (jp_lt h w (5 + 2 * p.toNat)) w (b : Nat)) (w / 4 * (g / 4)).toNat t v))) (h.1, f, h.2.2)) (q2 : ¬ ((0 ≤ p ∧ p ≤ 4) ∧ 2 ≤ t ∧ t ≤ 99) → Q (some (.inl (-1))) h) : ja_C l (d + 4) mX11_grain (js_sh n) [.inr (.inr (some 0)), .inl p, .inl t, .inl v] h Q := by
  obtain ⟨t0, t1, t2, t3, t4, t5⟩ := id hT
  refine eX11_grain _ _ _ _ fun _ _ rv _ => ?_
  unfold ja_r at rv
  unfold bX11_grain
  refine jt_sR (jr_m1 (jr_g (jr_lr rfl) rfl t0) rfl (jv_li rfl) fun _ => kX8_picture hs) ?_
  by_cases c : 0 ≤ p ∧ p ≤ 4
  · have hp := (hs.2.2 p.toNat (by omega)).2
    rw [show 1 + 4 + 2 * p.toNat = 5 + 2 * p.toNat by omega] at hp
    have ho := ho c
    obtain ⟨p1, p2, p3, p4, p5, p6, p7, p8, p9, p10⟩ := id hp
    have kn := bk_n ⟨p7, p8⟩ ⟨p9, p10⟩
    have ep : jS_p 1 p = some (5 + 2 * p.toNat) := by rw [jS_ps c]
    rw [ep]
    refine jb_if_d (φ := ¬ (2 ≤ t ∧ t ≤ 99)) (jd_eq (jd_or (jd_isn (jr_lr rfl)) fun _ => jd_not (jd_b (jv_c3 (jv_li rfl) jv_ci jv_ci fun _ => kX11_within))) (by simp)) (fun z => ?_) (fun z => ?_)
    · exact jt_rI jv_ci (q2 fun w => z w.2)
    · have z := Classical.not_not.mp z
      refine jt_xm1 (jr_g (jr_lr rfl) rfl t4) rfl (jr_lr rfl) (kX0_measure hB hp (by omega) ho fun f hf => ⟨rfl, ?_⟩)
      obtain ⟨f1, f2, f3, f4, f5⟩ := hf
      have q := q1 ⟨c, z⟩ f f1
      generalize hN : (w / 4 * (g / 4)).toNat = m at q f5
      have hn : w / 4 * (g / 4) = (m : Int) := by omega
      rw [hn] at f3
      generalize hr : (fun b : Nat => rb (jp_lt h w (5 + 2 * p.toNat)) w (b : Nat)) = r at q f5
      have hfr : ∀ b : Nat, b < m → f 41 b = r b := fun b hb => by rw [f4 b (by omega), ← hr]
      have hrb : ∀ b : Nat, b < m → 0 ≤ r b ∧ r b ≤ 9504 := fun b hb => by rw [← hr]; exact rb_b ho ⟨p7, p8⟩ ⟨p9, p10⟩ (by omega)
      have hmb := md_b hrb m (Nat.le_refl m)
      have hB2 : jB n (h.1, f, h.2.2) := hB
      have tb : ∀ L : ja_L, ja_get L 0 = some (.inr (.inr (some 0))) → jr (jb_gR (js_sh n) 11 4 (jb_lr 0)) L (h.1, f, h.2.2) (some 40) := fun L g0 => jr_g (jr_lr g0) rfl t4
      unfold grS at q
      refine jb_if_d (φ := v = 0) (jd_eqI (jv_li rfl) jv_ci) (fun c0 => ?_) (fun c0 => ?_)
      · rw [if_pos c0] at q
        exact jt_rI (jv_gF (tb _ rfl) rfl f3) q
      · rw [if_neg c0] at q
        refine jb_if_d (φ := v = 1) (jd_eqI (jv_li rfl) jv_ci) (fun c1 => ?_) (fun c1 => ?_)
        · rw [if_pos c1] at q
          exact jt_rI (jv_gF (tb _ rfl) rfl f5) q
        · rw [if_neg c1] at q
          refine jb_if_d (φ := v = 2) (jd_eqI (jv_li rfl) jv_ci) (fun c2 => ?_) (fun c2 => ?_)
          · rw [if_pos c2] at q
            exact jt_rI (jv_m1 (tb _ rfl) rfl (jv_li rfl) fun _ => kX0_countOdd hB2 f3 (by omega) f5 hmb hfr hrb (by omega)) q
          · rw [if_neg c2] at q
            refine jb_if_d (φ := ¬ (100 ≤ v ∧ v < 100 + (m : Int))) (jd_eq (jd_not (jd_b (jv_c3 (jv_li rfl) jv_ci (jv_w (jv_sub (jv_w (jv_add jv_ci (jv_gF (tb _ rfl) rfl f3)) (by first | omega | (unfold ja_r; omega) | (unfold ja_rl; omega) | assumption)) jv_ci) (by first | omega | (unfold ja_r; omega) | (unfold ja_rl; omega) | assumption)) fun _ => kX11_within))) (by omega)) (fun c3 => ?_) (fun c3 => ?_)
            · rw [if_neg c3] at q
              exact jt_rI jv_ci q
            · have c3 := Classical.not_not.mp c3
              rw [if_pos c3] at q
              exact jt_rI (jv_cv (jd_b (jv_m2 (tb _ rfl) rfl (jv_w (jv_sub (jv_li rfl) jv_ci) (by first | omega | (unfold ja_r; omega) | (unfold ja_rl; omega) | assumption)) (jv_li rfl) fun _ => kX0_isOdd hB2 f3 (by omega) f5 hmb (by omega) (hfr (v - 100).toNat (by omega)) (hrb (v - 100).toNat (by omega)) (by omega))) (fun _ => jv_ci) (fun _ => jv_ci)) q
  · rw [jS_pn.mpr c]
    exact jb_if_p (jr_lr rfl _ (by rw [if_pos rfl]; exact jt_rI jv_ci (q2 fun w => c w.1)))
