/-! the class: measuring a picture's blocks -/
theorem jp_up {w g : Int} {n k : Nat} {h : ja_H} {f : Nat → Nat → Int} (hp : jp w g n k h) (hf : f k = h.2.1 k) : jp w g n k (h.1, f, h.2.2) := by
  obtain ⟨p1, p2, p3, p4, p5, p6⟩ := hp
  exact ⟨p1, p2, p3, by show f k 0 = w; rw [hf]; exact p4, by show f k 1 = g; rw [hf]; exact p5, p6⟩
theorem jp_lt_up {h : ja_H} {w : Int} {k : Nat} {f : Nat → Nat → Int} (hf : f (k + 1) = h.2.1 (k + 1)) : jp_lt (h.1, f, h.2.2) w k = jp_lt h w k := by
  funext x y
  show f (k + 1) _ = _
  rw [hf]; rfl
/-- behind measure: f is h's ints but in the cells 40 and 41 -/
def jMs (h : ja_H) (lt : Int → Int → Int) (w g : Int) (f : Nat → Nat → Int) : Prop := (∀ k, k ≠ 40 → k ≠ 41 → f k = h.2.1 k) ∧ f 40 3 = w / 4 ∧ f 40 4 = w / 4 * (g / 4) ∧ (∀ b : Nat, (b : Int) < w / 4 * (g / 4) → f 41 b = rb lt w (b : Nat)) ∧ f 40 5 = md (fun b => rb lt w (b : Nat)) (w / 4 * (g / 4)).toNat (w / 4 * (g / 4)).toNat
set_option maxRecDepth 10000 in
theorem kX0_measure {l : Launch} {d n k0 : Nat} {w g : Int} {h : ja_H} {Q : ja_Q} (hB : jB n h) (hp : jp w g n k0 h) (hk : k0 ≠ 40 ∧ k0 ≠ 41 ∧ k0 + 1 ≠ 40 ∧ k0 + 1 ≠ 41) (ho : rg_ok (jp_lt h w k0) w g) (q : ∀ f, jMs h (jp_lt h w k0) w g f → Q none (h.1, f, h.2.2)) : ja_C l (d + 3) mX0_measure (js_sh n) [.inr (.inr (some 40)), .inr (.inr (some k0))] h Q := by
  obtain ⟨b1, b2, b3⟩ := id hB
  obtain ⟨p1, p2, p3, p4, p5, p6, p7, p8, p9, p10⟩ := id hp
  have kn := bk_n ⟨p7, p8⟩ ⟨p9, p10⟩
  have ka : 1 ≤ w / 4 ∧ w / 4 ≤ 3 := by omega
  have kg : 1 ≤ g / 4 ∧ g / 4 ≤ 3 := by omega
  refine eX0_measure _ _ fun _ => ?_
  unfold bX0_measure
  refine jt_pI (jr_lr rfl) rfl (jv_divP (jv_gF (jr_lr rfl) p1 p4) jv_ci (by first | omega | (unfold ja_r; omega) | (unfold ja_rl; omega) | assumption) (by first | omega | (unfold ja_r; omega) | (unfold ja_rl; omega) | assumption) (by first | omega | (unfold ja_r; omega) | (unfold ja_rl; omega) | assumption)) ?_
  have f0 : ja_up h.2.1 40 3 (w / 4) k0 = h.2.1 k0 := by funext j; exact ja_upn _ _ hk.1
  have g0 : ja_up h.2.1 40 3 (w / 4) k0 1 = g := by rw [f0]; exact p5
  refine jt_pI (x := w / 4 * (g / 4)) (jr_lr rfl) rfl (jv_is (jv_c2 jv_ci (jv_w (jv_mul (jv_gF (jr_lr rfl) rfl (x := w / 4) (by simp [ja_up])) (jv_divP (jv_gF (jr_lr rfl) p1 g0) jv_ci (by first | omega | (unfold ja_r; omega) | (unfold ja_rl; omega) | assumption) (by first | omega | (unfold ja_r; omega) | (unfold ja_rl; omega) | assumption) (by first | omega | (unfold ja_r; omega) | (unfold ja_rl; omega) | assumption))) (by first | omega | (unfold ja_r; omega) | (unfold ja_rl; omega) | assumption)) fun _ => kJ9_min) (by omega)) ?_
  refine jt_sI jv_ci ?_
  generalize hN : (w / 4 * (g / 4)).toNat = m at q
  have hn : w / 4 * (g / 4) = (m : Int) := by omega
  refine jb_forc m (fun i L' h' => L' = [some (.inr (.inr (some 40))), some (.inr (.inr (some k0))), some (.inl ((i : Nat)))] ∧ ∃ f : Nat → Nat → Int, h' = (h.1, f, h.2.2) ∧ (∀ k, k ≠ 40 → k ≠ 41 → f k = h.2.1 k) ∧ f 40 3 = w / 4 ∧ f 40 4 = (m : Nat) ∧ ∀ b : Nat, b < i → f 41 b = rb (jp_lt h w k0) w (b : Nat)) ⟨rfl, _, rfl, ?_, ?_, ?_, fun b hb => absurd hb (Nat.not_lt_zero b)⟩ ?_ ?_ ?_
  · intro k h1 h2; funext j; simp [ja_up, h1]
  · simp [ja_up]
  · simp [ja_up, hn]
  · rintro i hi _ _ ⟨rfl, f, rfl, f1, f2, f3, f4⟩
    exact jd_eq (jd_lt (jv_li rfl) (jv_gF (jr_lr rfl) rfl f3)) (by omega)
  · rintro i hi _ _ ⟨rfl, f, rfl, f1, f2, f3, f4⟩
    have hpf := jp_up (f := f) hp (f1 k0 hk.1 hk.2.1)
    have hlf := jp_lt_up (h := h) (w := w) (k := k0) (f := f) (f1 (k0 + 1) hk.2.2.1 hk.2.2.2)
    have kb := bk_b ⟨p7, p8⟩ ⟨p9, p10⟩ (b := (i : Nat)) (by omega)
    refine jt_wI (k := 41) (n := 9) (x := rb (jp_lt h w k0) w (i : Nat)) (jr_g (jr_lr rfl) rfl b1) rfl (jv_li rfl) ?_ (by omega) (by omega) ?_
    · refine jv_m4 (jr_lr rfl) p1 (jv_m1 (jr_lr rfl) rfl (jv_li rfl) fun _ => kX0_leftOf f2 (by first | omega | (unfold ja_r; omega) | (unfold ja_rl; omega) | assumption) (by first | omega | (unfold ja_r; omega) | (unfold ja_rl; omega) | assumption)) (jv_m1 (jr_lr rfl) rfl (jv_li rfl) fun _ => kX0_topOf f2 (by first | omega | (unfold ja_r; omega) | (unfold ja_rl; omega) | assumption) (by first | omega | (unfold ja_r; omega) | (unfold ja_rl; omega) | assumption)) jv_ci jv_ci fun _ qq => kX3_roughness hpf (by rw [hlf]; exact ho) (by first | omega | (unfold ja_r; omega) | (unfold ja_rl; omega) | assumption) (by first | omega | (unfold ja_r; omega) | (unfold ja_rl; omega) | assumption) (by first | omega | (unfold ja_r; omega) | (unfold ja_rl; omega) | assumption) (by first | omega | (unfold ja_r; omega) | (unfold ja_rl; omega) | assumption) ?_
      rw [hlf]
      exact qq
    · refine jt_inc rfl (by first | omega | (unfold ja_r; omega) | (unfold ja_rl; omega) | assumption) ⟨rfl, _, rfl, ?_, ?_, ?_, ?_⟩
      · intro k h1 h2; funext j; rw [ja_upn _ _ h2]; exact congrFun (f1 k h1 h2) j
      · rw [ja_upn _ _ (by decide)]; exact f2
      · rw [ja_upn _ _ (by decide)]; exact f3
      · intro b hb
        rw [show ((i : Nat) : Int).toNat = i by omega]
        by_cases z : b = i
        · subst z; exact ja_ups
        · rw [ja_upi z]; exact f4 b (by omega)
  · rintro _ _ ⟨rfl, f, rfl, f1, f2, f3, f4⟩
    have he : ∀ b : Nat, b < m → f 41 b = rb (jp_lt h w k0) w (b : Nat) := f4
    refine jt_pI (x := md (fun b => rb (jp_lt h w k0) w (b : Nat)) m m) (jr_lr rfl) rfl (jv_m0 (jr_lr rfl) rfl fun _ qq => kX0_findMedian (m := m) (h := (h.1, f, h.2.2)) hB (by omega) f3 (fun b hb => by show 0 ≤ f 41 b ∧ f 41 b ≤ 9504; rw [he b hb]; exact rb_b ho ⟨p7, p8⟩ ⟨p9, p10⟩ (by omega)) ?_) ?_
    · rw [md_c (r' := fun b => rb (jp_lt h w k0) w (b : Nat)) (fun b hb => he b hb) m (Nat.le_refl m)]
      exact qq
    · refine q _ ⟨?_, ?_, ?_, ?_, ?_⟩
      · intro k h1 h2; funext j; rw [ja_upn _ _ h1]; exact congrFun (f1 k h1 h2) j
      · rw [ja_upi (by decide)]; exact f2
      · rw [ja_upi (by decide), hn]; exact f3
      · intro b hb; rw [ja_upn _ _ (by decide)]; exact he b (by omega)
      · rw [hN]; exact ja_ups
