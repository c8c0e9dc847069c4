/-! row: the light of up to eight cells -/
def rwD (v : Int) : Nat → Int
  | 0 => v
  | i + 1 => rwD v i / 100
theorem rwD_b {v : Int} (h : 0 ≤ v ∧ v ≤ 9999999999999999) : ∀ i, 0 ≤ rwD v i ∧ rwD v i ≤ 9999999999999999
  | 0 => h
  | i + 1 => by have := rwD_b h i; simp only [rwD]; omega
def rwN (x w : Int) : Nat := (min 8 (w - x)).toNat
def rwC (p x y v w g : Int) : Prop := (0 ≤ p ∧ p ≤ 4) ∧ ((0 ≤ x ∧ x < w) ∧ 0 ≤ y ∧ y < g) ∧ 0 ≤ v ∧ v ≤ 9999999999999999
theorem tm100 {x : Int} (h : 0 ≤ x) : x.tmod 100 = x % 100 := Int.tmod_eq_emod_of_nonneg h
theorem tdv100 {x : Int} (h : 0 ≤ x) : x.tdiv 100 = x / 100 := Int.tdiv_eq_ediv_of_nonneg h
set_option maxRecDepth 10000 in
theorem kX11_row {l : Launch} {d : Nat} {h : ja_H} {Q : ja_Q} {n : Nat} {p x y v w g : Int} (hG : jG h.1) (hW : jW w g n h.2.1) (q1 : rwC p x y v w g → ∀ f, jfr [6 + 2 * p.toNat] h.2.1 f → (∀ i : Nat, i < rwN x w → f (6 + 2 * p.toNat) (y * w + (x + i)).toNat = rwD v i % 100) → (∀ j : Nat, (∀ i : Nat, i < rwN x w → j ≠ (y * w + (x + i)).toNat) → f (6 + 2 * p.toNat) j = h.2.1 (6 + 2 * p.toNat) j) → Q (some (.inl (rwN x w : Nat))) (h.1, f, h.2.2)) (q2 : ¬ rwC p x y v w g → Q (some (.inl (-1))) h) : ja_C l (d + 3) mX11_row (js_sh n) [.inr (.inr (some (0))), .inl (p), .inl (x), .inl (y), .inr (.inl (v))] h Q := by
  have hs := jS1_of hG hW
  have wr := jW_r hW
  refine eX11_row _ _ _ _ _ fun r_picture r_x r_y r_figures ho => ?_
  unfold bX11_row
  unfold ja_r at r_picture r_x r_y
  refine jt_sR (jr_m1 (jr_g (jr_lr rfl) rfl (jG_at hG rfl)) rfl (jv_li rfl) fun _ => kX8_picture hs) ?_
  by_cases c : 0 ≤ p ∧ p ≤ 4
  case neg =>
    rw [jS_pn.mpr c]
    exact jb_if_p (jr_lr rfl _ (by rw [if_pos rfl]; exact jt_rI jv_ci (q2 fun w => c w.1)))
  have hp := jS_now hs c
  rw [jS_e c]
  refine jb_if_d (φ := ¬ rwC p x y v w g) (jd_eq (jd_or (jd_or (jd_or (jd_isn (jr_lr rfl)) fun _ => jd_not (jd_b (jv_m2 (jr_lr rfl) hp.1 (jv_li rfl) (jv_li rfl) fun _ => kX3_has hp))) fun _ => jd_ltL (jv_ll rfl) jv_ci) fun _ => jd_gtL (jv_ll rfl) jv_ci) (by unfold rwC; simp; omega)) (fun z => ?_) (fun z => ?_)
  · exact jt_rI jv_ci (q2 z)
  have z := Classical.not_not.mp z
  obtain ⟨z1, z2, z3⟩ := id z
  obtain ⟨p1, p2, p3, p4, p5, p6⟩ := id hp
  refine jt_sI (x := ((rwN x w : Nat) : Int)) (jv_is (jy_sI (jA_i (jA_i jA_0 jv_ci) (jv_w (jv_sub (jv_gF (jr_lr rfl) p1 p4) (jv_li rfl)) (by first | (unfold ja_r; omega) | (unfold ja_rl; omega) | omega | assumption))) fun _ => kJ9_min) (by unfold rwN; omega)) ?_
  refine jt_sL (x := rwD v 0) (jv_is (jv_ll rfl) (by rfl)) ?_
  refine jt_sI jv_ci ?_
  refine jb_forc (rwN x w) (fun (i : Nat) L' h' => ∃ (v_rest : Int) (v_i : Int) (f : Nat → Nat → Int), L' = [some (.inr (.inr (some (0)))), some (.inl (p)), some (.inl (x)), some (.inl (y)), some (.inr (.inl (v))), none, some (.inr (.inr (some (5 + 2 * p.toNat)))), some (.inl (((rwN x w : Nat) : Int))), some (.inr (.inl (v_rest))), none, some (.inl (v_i))] ∧ v_rest = rwD v i ∧ v_i = (i : Int) ∧ (h.1, f, h.2.2) = h' ∧ (jfr [6 + 2 * p.toNat] h.2.1 f) ∧ (∀ i2 : Nat, i2 < i → f (6 + 2 * p.toNat) (y * w + (x + i2)).toNat = rwD v i2 % 100) ∧ (∀ j : Nat, (∀ i2 : Nat, i2 < i → j ≠ (y * w + (x + i2)).toNat) → f (6 + 2 * p.toNat) j = h.2.1 (6 + 2 * p.toNat) j)) ⟨_, _, _, rfl, (by first | rfl | omega | (simp; done) | (simp; omega)), (by first | rfl | omega | (simp; done) | (simp; omega)), rfl, (by exact jfr_rf _ _), (by intro i2 h2; omega), (by intro j hj; rfl)⟩ ?_ ?_ ?_
  · rintro i h_i _ _ ⟨v_rest0, v_i0, f, rfl, rfl, rfl, rfl, fr, f1, f2⟩
    exact jd_eq (jd_lt (jv_li rfl) (jv_li rfl)) (by omega)
  · rintro i h_i _ _ ⟨v_rest0, v_i0, f, rfl, rfl, rfl, rfl, fr, f1, f2⟩
    have rb := rwD_b z3 i
    have hx : x + (i : Int) < w := by unfold rwN at h_i; omega
    have ix := jp_ix (x := x + (i : Int)) (y := y) (w := w) (g := g) (by omega) (by omega) (by omega) (by omega)
    have hpf : jp w g n (5 + 2 * p.toNat) (h.1, f, h.2.2) := jp_up hp (fr _ (by simp <;> omega))
    refine jx_m (jr_lr rfl) p1 (jA_i (jA_i (jA_i jA_0 (jv_w (jv_add (jv_li rfl) (jv_li rfl)) (by first | (unfold ja_r; omega) | (unfold ja_rl; omega) | omega | assumption))) (jv_li rfl)) (jv_is (x' := rwD v i % 100) (jv_w (jv_l2i (jv_remL (jv_ll rfl) jv_ci (by decide))) (by rw [tm100 rb.1]; unfold ja_r; omega)) (tm100 rb.1))) (kX3_put hpf (fun _ => ⟨rfl, ?_⟩) (fun w2 => absurd ⟨⟨by omega, by omega⟩, by omega, by omega⟩ w2))
    rw [show 5 + 2 * p.toNat + 1 = 6 + 2 * p.toNat by omega]
    refine jt_sL (x := rwD v i / 100) (jv_is (jv_wl (jv_divL (jv_ll rfl) jv_ci (by decide)) (by rw [tdv100 rb.1]; unfold ja_rl; omega)) (by exact tdv100 rb.1)) ?_
    exact jt_inc rfl (by first | (unfold ja_r; omega) | (unfold ja_rl; omega) | omega | assumption) ⟨_, _, _, rfl, (by simp only [rwD]), (by first | rfl | omega | (simp; done) | (simp; omega)), rfl, (by exact jfr_up fr (by simp)), (by intro i2 h2; by_cases e : i2 = i; subst e; rw [ja_upE rfl rfl]; rw [ja_upO (by omega)]; exact f1 i2 (by omega)), (by intro j hj; have hj2 := hj i (by omega); rw [ja_upO (by omega)]; exact f2 j fun i2 h2 => hj i2 (by omega))⟩
  · rintro _ _ ⟨v_rest0, v_i0, f, rfl, rfl, rfl, rfl, fr, f1, f2⟩
    refine jt_rI (jv_li rfl) ?_
    exact q1 z f fr f1 f2
set_option maxRecDepth 10000 in
theorem kX12_row {l : Launch} {d : Nat} {h : ja_H} {Q : ja_Q} {n : Nat} {p x y v w g : Int} (hG : jG h.1) (hW : jW w g n h.2.1) (q1 : rwC p x y v w g → ∀ f, jfr [91] h.2.1 f → (∀ i : Nat, i < rwN x w → f 91 (10 + 144 * p + 12 * y + (x + i)).toNat = rwD v i % 100) → (∀ j : Nat, (∀ i : Nat, i < rwN x w → j ≠ (10 + 144 * p + 12 * y + (x + i)).toNat) → f 91 j = h.2.1 91 j) → Q (some (.inl (rwN x w : Nat))) (h.1, f, h.2.2)) (q2 : ¬ rwC p x y v w g → Q (some (.inl (-1))) h) : ja_C l (d + 3) mX12_row (js_sh n) [.inr (.inr (some (90))), .inl (p), .inl (x), .inl (y), .inr (.inl (v))] h Q := by
  have hm := jm_of hG hW
  have wr := jW_r hW
  have w0 := jW_w hW
  refine eX12_row _ _ _ _ _ fun r_picture r_x r_y r_figures ho => ?_
  unfold bX12_row
  unfold ja_r at r_picture r_x r_y
  refine jb_if_d (φ := ¬ rwC p x y v w g) (jd_eq (jd_or (jd_or (jd_or (jd_not (jd_b (jy_sI (jA_i jA_0 (jv_li rfl)) fun _ => kX12_isPicture))) (fun _ => (jd_not (jd_b (jy_mI (jr_lr rfl) (by first | rfl | assumption) (jA_i (jA_i jA_0 (jv_li rfl)) (jv_li rfl)) fun _ => kX12_isCell hm))))) (fun _ => (jd_ltL (jv_ll rfl) jv_ci))) (fun _ => (jd_gtL (jv_ll rfl) jv_ci))) (by unfold rwC; omega)) (fun c1 => ?_) (fun c1 => ?_)
  · refine jt_rI jv_ci ?_
    exact q2 c1
  · have z := Classical.not_not.mp c1
    obtain ⟨z1, z2, z3⟩ := id z
    refine jt_sL (x := rwD v 0) (jv_is (jv_ll rfl) (by rfl)) ?_
    refine jt_sI jv_ci ?_
    refine jb_whl (fun (m : Nat) L' h' => ∃ (v_left : Int) (v_n : Int) (f : Nat → Nat → Int), L' = [some (.inr (.inr (some (90)))), some (.inl (p)), some (.inl (x)), some (.inl (y)), some (.inr (.inl (v))), none, some (.inr (.inl (v_left))), none, some (.inl (v_n))] ∧ v_left = rwD v (rwN x w - m) ∧ v_n = ((rwN x w - m : Nat) : Int) ∧ (h.1, f, h.2.2) = h' ∧ (m ≤ rwN x w) ∧ (jfr [91] h.2.1 f) ∧ (∀ i2 : Nat, i2 < rwN x w - m → f 91 (10 + 144 * p + 12 * y + (x + i2)).toNat = rwD v i2 % 100) ∧ (∀ j : Nat, (∀ i2 : Nat, i2 < rwN x w - m → j ≠ (10 + 144 * p + 12 * y + (x + i2)).toNat) → f 91 j = h.2.1 91 j)) ⟨rwN x w, ⟨_, _, _, rfl, (by rw [Nat.sub_self]), (by omega), rfl, (by exact Nat.le_refl _), (by exact jfr_rf _ _), (by intro i2 h2; omega), (by intro j hj; rfl)⟩⟩ ?_
    rintro m _ _ ⟨v_left0, v_n0, f, rfl, rfl, rfl, rfl, hm0, fr, f1, f2⟩
    have rb := rwD_b z3 (rwN x w - m)
    have w1 : f 90 0 = w := by rw [fr 90 (by decide)]; exact w0
    have nr : (rwN x w : Int) = min 8 (w - x) := by unfold rwN; omega
    refine (jd_eq (φ' := 0 < m) (jd_and (jd_lt (jv_li rfl) jv_ci) (fun _ => (jd_lt (jv_w (jv_add (jv_li rfl) (jv_li rfl)) (by first | (unfold ja_r; omega) | (unfold ja_rl; omega) | omega | assumption)) (jv_gF (jr_lr rfl) (by first | rfl | assumption) (by first | assumption | rfl))))) (by omega)) _ _ (fun c => ?_) (fun c => ?_)
    · refine jt_wI (jr_g (jr_lr rfl) (by first | rfl | assumption) (by first | rfl | assumption | exact jG_at hG rfl | exact jG_90 hG rfl)) (by first | rfl | assumption) (jy_sI (jA_i (jA_i (jA_i jA_0 (jv_li rfl)) (jv_w (jv_add (jv_li rfl) (jv_li rfl)) (by first | (unfold ja_r; omega) | (unfold ja_rl; omega) | omega | assumption))) (jv_li rfl)) fun _ => kX12_spot (by first | (unfold ja_r; omega) | (unfold ja_rl; omega) | omega | assumption) (by first | (unfold ja_r; omega) | (unfold ja_rl; omega) | omega | assumption) (by first | (unfold ja_r; omega) | (unfold ja_rl; omega) | omega | assumption)) (jv_is (x' := rwD v (rwN x w - m) % 100) (jv_w (jv_l2i (jv_remL (jv_ll rfl) jv_ci (by decide))) (by rw [tm100 rb.1]; unfold ja_r; omega)) (tm100 rb.1)) (by first | (unfold ja_r; omega) | (unfold ja_rl; omega) | omega | assumption) (by first | (unfold ja_r; omega) | (unfold ja_rl; omega) | omega | assumption) ?_
      try dsimp only
      refine jt_sL (x := rwD v (rwN x w - m) / 100) (jv_is (jv_wl (jv_divL (jv_ll rfl) jv_ci (by decide)) (by rw [tdv100 rb.1]; unfold ja_rl; omega)) (by exact tdv100 rb.1)) ?_
      refine jt_inc rfl (by first | (unfold ja_r; omega) | (unfold ja_rl; omega) | omega | assumption) ?_
      exact ⟨m - 1, (by omega), _, _, _, rfl, (by rw [show rwN x w - (m - 1) = rwN x w - m + 1 by omega]; simp only [rwD]), (by omega), rfl, (by omega), (by exact jfr_up fr (by decide)), (by intro i2 h2; by_cases e : i2 = rwN x w - m; subst e; rw [ja_upE rfl rfl]; rw [ja_upO (by omega)]; exact f1 i2 (by omega)), (by intro j hj; have hj2 := hj (rwN x w - m) (by omega); rw [ja_upO (by omega)]; exact f2 j fun i2 h2 => hj i2 (by omega))⟩
    · have em : m = 0 := by omega
      subst em
      rw [Nat.sub_zero] at f1 f2
      refine jt_rI (jv_li rfl) ?_
      exact q1 z f fr f1 f2
