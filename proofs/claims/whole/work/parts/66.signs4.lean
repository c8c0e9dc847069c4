set_option maxRecDepth 10000 in
theorem kX12_findLets {l : Launch} {d : Nat} {h : ja_H} {Q : ja_Q} {n s t : Nat} {a : Nat → Int} {v : Int} (hG : jG h.1) (ha : h.2.1 91 = a) (hs : a 0 = (s : Int)) (ht : a 1 = (t : Int)) (hs2 : s ≤ 12) (ht2 : t ≤ 8) (o1 : ∀ k, k < s → shOk a k) (o2 : ∀ k, k < t → 0 ≤ a (820 + k) ∧ a (820 + k) ≤ 7) (q : ∀ f, jfr [94] h.2.1 f → (∀ q : Nat, q < 726 → f 94 q = lvN a v (q : Int) s t) → Q none (h.1, f, h.2.2)) : ja_C l (d + 4) mX12_findLets (js_sh n) [.inr (.inr (some (90))), .inl (v)] h Q := by
  refine eX12_findLets _ _ fun r_set ho => ?_
  unfold bX12_findLets
  unfold ja_r at r_set
  refine jt_sI jv_ci ?_
  refine jb_forc (726) (fun (i : Nat) L' h' => ∃ (v_q : Int) (o2_3 : Option ja_W) (f : Nat → Nat → Int), L' = [some (.inr (.inr (some (90)))), some (.inl (v)), some (.inl (v_q)), o2_3] ∧ v_q = (i : Int) ∧ (h.1, f, h.2.2) = h' ∧ (jfr [94] h.2.1 f) ∧ (∀ q : Nat, q < i → f 94 q = lvN a v (q : Int) s t)) ⟨_, _, _, rfl, (by first | rfl | omega | (simp; done) | (simp; omega)), rfl, (by exact jfr_rf _ _), (by intro q hq; omega)⟩ ?_ ?_ ?_
  · rintro i h_i _ _ ⟨v_q0, o2_3, f, rfl, rfl, rfl, fr, f1⟩
    exact jd_eq (jd_lt (jv_li rfl) jv_ci) (by omega)
  · rintro i h_i _ _ ⟨v_q0, o2_3, f, rfl, rfl, rfl, fr, f1⟩
    refine jt_wI (jr_g (jr_lr rfl) (by first | rfl | assumption) (by first | rfl | assumption | exact jG_at hG rfl | exact jG_90 hG rfl)) (by first | rfl | assumption) (jv_li rfl) jv_ci (by first | (unfold ja_r; omega) | (unfold ja_rl; omega) | omega | assumption) (by first | (unfold ja_r; omega) | (unfold ja_rl; omega) | omega | assumption) ?_
    refine jt_sI jv_ci ?_
    refine jb_forc (s) (fun (j : Nat) L' h' => ∃ (v_k : Int) (g : Nat → Nat → Int), L' = [some (.inr (.inr (some (90)))), some (.inl (v)), some (.inl ((i : Int))), some (.inl (v_k))] ∧ v_k = (j : Int) ∧ (h.1, g, h.2.2) = h' ∧ (jfr [94] h.2.1 g) ∧ (∀ q : Nat, q < i → g 94 q = lvN a v (q : Int) s t) ∧ (g 94 i = lvS a v (i : Int) j)) ⟨_, _, rfl, (by first | rfl | omega | (simp; done) | (simp; omega)), rfl, (by exact jfr_up fr (by decide)), (by intro q hq; rw [ja_upO (by omega)]; exact f1 q hq), (by exact ja_upE rfl (by omega))⟩ ?_ ?_ ?_
    · rintro j h_j _ _ ⟨v_k0, g, rfl, rfl, rfl, gr, gl, gi⟩
      have ga : g 91 = a := by rw [gr 91 (by decide)]; exact ha
      have g0 : g 91 (0 : Int).toNat = (s : Int) := by rw [ga]; exact hs
      have g1 : g 91 (1 : Int).toNat = (t : Int) := by rw [ga]; exact ht
      exact jd_eq (jd_lt (jv_li rfl) (jv_fI (jr_g (jr_lr rfl) (by first | rfl | assumption) (by first | rfl | assumption | exact jG_at hG rfl | exact jG_90 hG rfl)) jv_ci (by first | rfl | assumption) (by first | (unfold ja_r; omega) | (unfold ja_rl; omega) | omega | assumption) (by first | (unfold ja_r; omega) | (unfold ja_rl; omega) | omega | assumption) (by first | assumption | rfl))) (by omega)
    · rintro j h_j _ _ ⟨v_k0, g, rfl, rfl, rfl, gr, gl, gi⟩
      have ga : g 91 = a := by rw [gr 91 (by decide)]; exact ha
      have g0 : g 91 (0 : Int).toNat = (s : Int) := by rw [ga]; exact hs
      have g1 : g 91 (1 : Int).toNat = (t : Int) := by rw [ga]; exact ht
      have lb := l_b (q := (i : Int)) (by omega)
      have gi2 : g 94 ((i : Nat) : Int).toNat = lvS a v (i : Int) j := gi
      refine jb_if_d (φ := jbt v j = true ∧ sS a j (i : Int) ≠ 0) (jd_eq (jd_and (jd_eq (φ' := jbt v j = true) (jd_eqI (jv_and (jv_shr (jv_li rfl) (jv_li rfl)) jv_ci) jv_ci) (by rw [ja_bit (by omega)]; cases jbt v j <;> simp)) (fun _ => (jd_bt (jy_mI (jr_lr rfl) rfl (jA_i (jA_i (jA_i (jA_i jA_0 (jv_li rfl)) (jy_sI (jA_i jA_0 (jv_li rfl)) fun _ => kX12_lampX (by first | (unfold ja_r; omega) | (unfold ja_rl; omega) | omega | assumption))) (jy_sI (jA_i jA_0 (jv_li rfl)) fun _ => kX12_lampY (by first | (unfold ja_r; omega) | (unfold ja_rl; omega) | omega | assumption))) (jy_sI (jA_i jA_0 (jv_li rfl)) fun _ => kX12_lampH (by first | (unfold ja_r; omega) | (unfold ja_rl; omega) | omega | assumption))) fun _ => kX12_shadowLets (h := (h.1, g, h.2.2)) hG ga (by omega) (o1 j (by omega)) (by first | (unfold ja_r; omega) | (unfold ja_rl; omega) | omega | assumption) (by first | (unfold ja_r; omega) | (unfold ja_rl; omega) | omega | assumption) (by first | (unfold ja_r; omega) | (unfold ja_rl; omega) | omega | assumption))))) (by exact Iff.rfl)) (fun c1 => ?_) (fun c1 => ?_)
      · refine jt_uA (jr_g (jr_lr rfl) (by first | rfl | assumption) (by first | rfl | assumption | exact jG_at hG rfl | exact jG_90 hG rfl)) (by first | rfl | assumption) (jv_li rfl) (by first | (unfold ja_r; omega) | (unfold ja_rl; omega) | omega | assumption) (by first | (unfold ja_r; omega) | (unfold ja_rl; omega) | omega | assumption) (jv_shl jv_ci (jv_li rfl)) ?_
        exact jt_inc rfl (by first | (unfold ja_r; omega) | (unfold ja_rl; omega) | omega | assumption) ⟨_, _, rfl, (by first | rfl | omega | (simp; done) | (simp; omega)), rfl, (by first | exact jfr_up gr (by decide) | exact gr), (by first | exact gl | (intro q hq; rw [ja_upO (by omega)]; exact gl q hq)), (by first | (rw [ja_upE rfl (by omega)]; show _ = _; simp only [lvS, c1, and_self, ne_eq, not_false_eq_true, if_true]; rw [← gi2]) | (simp only [lvS]; rw [if_neg c1]; exact gi))⟩
      · exact jt_inc rfl (by first | (unfold ja_r; omega) | (unfold ja_rl; omega) | omega | assumption) ⟨_, _, rfl, (by first | rfl | omega | (simp; done) | (simp; omega)), rfl, (by first | exact jfr_up gr (by decide) | exact gr), (by first | exact gl | (intro q hq; rw [ja_upO (by omega)]; exact gl q hq)), (by first | (rw [ja_upE rfl (by omega)]; show _ = _; simp only [lvS, c1, and_self, ne_eq, not_false_eq_true, if_true]; rw [← gi2]) | (simp only [lvS]; rw [if_neg c1]; exact gi))⟩
    · rintro _ _ ⟨v_k0, g, rfl, rfl, rfl, gr, gl, gi⟩
      refine jt_sI jv_ci ?_
      refine jb_forc (t) (fun (j : Nat) L' h' => ∃ (v_k : Int) (g2 : Nat → Nat → Int), L' = [some (.inr (.inr (some (90)))), some (.inl (v)), some (.inl ((i : Int))), some (.inl (v_k))] ∧ v_k = (j : Int) ∧ (h.1, g2, h.2.2) = h' ∧ (jfr [94] h.2.1 g2) ∧ (∀ q : Nat, q < i → g2 94 q = lvN a v (q : Int) s t) ∧ (g2 94 i = lvN a v (i : Int) s j)) ⟨_, _, rfl, (by first | rfl | omega | (simp; done) | (simp; omega)), rfl, (by exact gr), (by exact gl), (by exact gi)⟩ ?_ ?_ ?_
      · rintro j h_j _ _ ⟨v_k0, g2, rfl, rfl, rfl, gr2, gl2, gii⟩
        have ga : g2 91 = a := by rw [gr2 91 (by decide)]; exact ha
        have g0 : g2 91 (0 : Int).toNat = (s : Int) := by rw [ga]; exact hs
        have g1 : g2 91 (1 : Int).toNat = (t : Int) := by rw [ga]; exact ht
        exact jd_eq (jd_lt (jv_li rfl) (jv_fI (jr_g (jr_lr rfl) (by first | rfl | assumption) (by first | rfl | assumption | exact jG_at hG rfl | exact jG_90 hG rfl)) jv_ci (by first | rfl | assumption) (by first | (unfold ja_r; omega) | (unfold ja_rl; omega) | omega | assumption) (by first | (unfold ja_r; omega) | (unfold ja_rl; omega) | omega | assumption) (by first | assumption | rfl))) (by omega)
      · rintro j h_j _ _ ⟨v_k0, g2, rfl, rfl, rfl, gr2, gl2, gii⟩
        have ga : g2 91 = a := by rw [gr2 91 (by decide)]; exact ha
        have g0 : g2 91 (0 : Int).toNat = (s : Int) := by rw [ga]; exact hs
        have g1 : g2 91 (1 : Int).toNat = (t : Int) := by rw [ga]; exact ht
        have lb := l_b (q := (i : Int)) (by omega)
        have gi2 : g2 94 ((i : Nat) : Int).toNat = lvN a v (i : Int) s j := gii
        refine jb_if_d (φ := jbt v (12 + j) = true ∧ sN a j (i : Int) ≠ 0) (jd_eq (jd_and (jd_eq (φ' := jbt v (12 + j) = true) (jd_eqI (jv_and (jv_shr (jv_li rfl) (jv_w (jv_add jv_ci (jv_li rfl)) (by first | (unfold ja_r; omega) | (unfold ja_rl; omega) | omega | assumption))) jv_ci) jv_ci) (by have e := ja_bit (x := v) (k := 12 + j) (by omega); rw [show ((12 + j : Nat) : Int) = 12 + (j : Int) by omega] at e; rw [e]; cases jbt v (12 + j) <;> simp)) (fun _ => (jd_bt (jy_mI (jr_lr rfl) rfl (jA_i (jA_i (jA_i jA_0 (jv_li rfl)) (jy_sI (jA_i jA_0 (jv_li rfl)) fun _ => kX12_lampX (by first | (unfold ja_r; omega) | (unfold ja_rl; omega) | omega | assumption))) (jy_sI (jA_i jA_0 (jv_li rfl)) fun _ => kX12_lampY (by first | (unfold ja_r; omega) | (unfold ja_rl; omega) | omega | assumption))) fun _ => kX12_shineLets (h := (h.1, g2, h.2.2)) hG ga (by omega) (o2 j (by omega)) (by first | (unfold ja_r; omega) | (unfold ja_rl; omega) | omega | assumption) (by first | (unfold ja_r; omega) | (unfold ja_rl; omega) | omega | assumption))))) (by exact Iff.rfl)) (fun c2 => ?_) (fun c2 => ?_)
        · refine jt_uA (jr_g (jr_lr rfl) (by first | rfl | assumption) (by first | rfl | assumption | exact jG_at hG rfl | exact jG_90 hG rfl)) (by first | rfl | assumption) (jv_li rfl) (by first | (unfold ja_r; omega) | (unfold ja_rl; omega) | omega | assumption) (by first | (unfold ja_r; omega) | (unfold ja_rl; omega) | omega | assumption) (jv_shl jv_ci (jv_w (jv_add jv_ci (jv_li rfl)) (by first | (unfold ja_r; omega) | (unfold ja_rl; omega) | omega | assumption))) ?_
          exact jt_inc rfl (by first | (unfold ja_r; omega) | (unfold ja_rl; omega) | omega | assumption) ⟨_, _, rfl, (by first | rfl | omega | (simp; done) | (simp; omega)), rfl, (by first | exact jfr_up gr2 (by decide) | exact gr2), (by first | exact gl2 | (intro q hq; rw [ja_upO (by omega)]; exact gl2 q hq)), (by first | (rw [ja_upE rfl (by omega)]; show _ = _; simp only [lvN, c2, and_self, ne_eq, not_false_eq_true, if_true]; rw [← gi2]) | (simp only [lvN]; rw [if_neg c2]; exact gii))⟩
        · exact jt_inc rfl (by first | (unfold ja_r; omega) | (unfold ja_rl; omega) | omega | assumption) ⟨_, _, rfl, (by first | rfl | omega | (simp; done) | (simp; omega)), rfl, (by first | exact jfr_up gr2 (by decide) | exact gr2), (by first | exact gl2 | (intro q hq; rw [ja_upO (by omega)]; exact gl2 q hq)), (by first | (rw [ja_upE rfl (by omega)]; show _ = _; simp only [lvN, c2, and_self, ne_eq, not_false_eq_true, if_true]; rw [← gi2]) | (simp only [lvN]; rw [if_neg c2]; exact gii))⟩
      · rintro _ _ ⟨v_k0, g2, rfl, rfl, rfl, gr2, gl2, gii⟩
        exact jt_inc rfl (by first | (unfold ja_r; omega) | (unfold ja_rl; omega) | omega | assumption) ⟨_, _, _, rfl, (by first | rfl | omega | (simp; done) | (simp; omega)), rfl, (by exact gr2), (by intro q hq; by_cases z : q = i; subst z; exact gii; exact gl2 q (by omega))⟩
  · rintro _ _ ⟨v_q0, o2_3, f, rfl, rfl, rfl, fr, f1⟩
    exact q f fr f1
/-- told: the signs of a set are told ones -/
abbrev jtd (s t : Nat) (v : Int) : Prop := ∀ k, k < 32 → jbt v k = true → k < s ∨ (12 ≤ k ∧ k < 12 + t)
def tmk (s t : Nat) : Int := ja_lor ((2 ^ s : Nat) - 1) (ja_shl ((2 ^ t : Nat) - 1) 12)
theorem tmk_b : ∀ s : Fin 13, ∀ t : Fin 9, ∀ k : Fin 32, jbt (tmk s t) k = decide ((k : Nat) < s ∨ (12 ≤ (k : Nat) ∧ (k : Nat) < 12 + t)) := by decide +kernel
theorem jtd_iff {s t : Nat} {v : Int} (hs : s ≤ 12) (ht : t ≤ 8) : ja_land v (ja_lxor (tmk s t) (-1)) = 0 ↔ jtd s t v := by
  have b := fun (k : Nat) (hk : k < 32) => tmk_b ⟨s, by omega⟩ ⟨t, by omega⟩ ⟨k, hk⟩
  constructor
  · intro e k hk hv
    have := congrArg (fun x => jbt x k) e
    simp only [jbt_and, jbt_xor, jbt_m1, jbt_0, hv, hk] at this
    rw [b k hk] at this
    simp at this
    omega
  · intro hd
    refine jbt_ext (ja_land_r _ _) (by unfold ja_r; omega) fun k hk => ?_
    rw [jbt_and, jbt_xor, jbt_m1, jbt_0, b k hk]
    cases hv : jbt v k
    · rfl
    · have := hd k hk hv
      simp [hk, this]
theorem jtd_20 {s t : Nat} {v : Int} (hs : s ≤ 12) (ht : t ≤ 8) (h : jtd s t v) : ∀ k, 20 ≤ k → k < 32 → jbt v k = false := by
  intro k h1 h2
  cases hv : jbt v k
  · rfl
  · have := h k h2 hv; omega
theorem sh1 {s : Nat} (hs : s ≤ 12) : ja_w (ja_shl 1 (s : Int) - 1) = ((2 ^ s : Nat) : Int) - 1 := by
  have h1 : ∀ s : Fin 13, ja_w (ja_shl 1 ((s : Nat) : Int) - 1) = ((2 ^ (s : Nat) : Nat) : Int) - 1 := by decide +kernel
  exact h1 ⟨s, by omega⟩
set_option maxRecDepth 10000 in
theorem kX11_areTold {l : Launch} {d : Nat} {h : ja_H} {Q : ja_Q} {n s t : Nat} {v : Int} (hG : jG h.1) (hs : h.2.1 1 6 = (s : Int)) (ht : h.2.1 1 7 = (t : Int)) (hs2 : s ≤ 12) (ht2 : t ≤ 8) (q : Q (some (.inl (if jtd s t v then 1 else 0))) h) : ja_C l (d + 1) mX11_areTold (js_sh n) [.inr (.inr (some (0))), .inl (v)] h Q := by
  refine eX11_areTold _ _ fun r_set ho => ?_
  unfold bX11_areTold
  unfold ja_r at r_set
  refine jt_sI (x := ((2 ^ s : Nat) : Int) - 1) (jv_is (jv_sub (jv_shl jv_ci (jv_gF (jr_g (jr_lr rfl) rfl (jG_at hG rfl)) rfl hs)) jv_ci) (by exact sh1 hs2)) ?_
  refine jt_sI (jv_shl (jv_is (jv_sub (jv_shl jv_ci (jv_gF (jr_g (jr_lr rfl) rfl (jG_at hG rfl)) rfl ht)) jv_ci) (sh1 (by omega))) jv_ci) ?_
  refine jt_rZ (φ := jtd s t v) (jv_is (jv_cb (jd_eqI (jv_and (jv_li rfl) (jv_xor (jv_or (jv_li rfl) (jv_li rfl)) jv_ci)) jv_ci)) (by have e := jtd_iff (v := v) hs2 ht2; unfold tmk at e; simp only [e])) ?_
  exact q
set_option maxRecDepth 10000 in
theorem kX12_areSigns {l : Launch} {d : Nat} {h : ja_H} {Q : ja_Q} {n s t : Nat} {a : Nat → Int} {v : Int} (hG : jG h.1) (ha : h.2.1 91 = a) (hs : a 0 = (s : Int)) (ht : a 1 = (t : Int)) (hs2 : s ≤ 12) (ht2 : t ≤ 8) (q : Q (some (.inl (if jtd s t v then 1 else 0))) h) : ja_C l (d + 1) mX12_areSigns (js_sh n) [.inr (.inr (some (90))), .inl (v)] h Q := by
  have g0 : h.2.1 91 (0 : Int).toNat = (s : Int) := by rw [ha]; exact hs
  have g1 : h.2.1 91 (1 : Int).toNat = (t : Int) := by rw [ha]; exact ht
  refine eX12_areSigns _ _ fun r_set ho => ?_
  unfold bX12_areSigns
  unfold ja_r at r_set
  refine jt_sI (x := tmk s t) (jv_is (jv_or (jv_is (jv_sub (jv_shl jv_ci (jv_fI (jr_g (jr_lr rfl) rfl (jG_90 hG rfl)) jv_ci rfl (by decide) (by decide) g0)) jv_ci) (sh1 hs2)) (jv_shl (jv_is (jv_sub (jv_shl jv_ci (jv_fI (jr_g (jr_lr rfl) rfl (jG_90 hG rfl)) jv_ci rfl (by decide) (by decide) g1)) jv_ci) (sh1 (by omega))) jv_ci)) (by rfl)) ?_
  refine jt_rZ (φ := jtd s t v) (jv_is (jv_cb (jd_and (jd_ge (jv_li rfl) jv_ci) (fun _ => (jd_eqI (jv_and (jv_li rfl) (jv_xor (jv_li rfl) jv_ci)) jv_ci)))) (by 
        have e := jtd_iff (v := v) hs2 ht2
        have z : jtd s t v → 0 ≤ v := fun w => (jbt_lt20 (x := v) r_set (jtd_20 hs2 ht2 w)).1
        congr 1
        apply propext
        rw [e]
        exact ⟨fun w => w.2, fun w => ⟨z w, w⟩⟩)) ?_
  exact q
