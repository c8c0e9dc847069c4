/-- what text() leaves in the reference: the fault of R, its place, the text's number -/
def tmF (t : Nat) (I f : Nat → Nat → Int) : Prop := jfr [90, 91, 93, 98, 99] I f ∧ (∀ j, j < 16 ∨ 35 < j → f 90 j = I 90 j) ∧ (∀ i, i ≠ 3 → f 91 i = I 91 i) ∧ ∀ i, i < 1000 * t ∨ 1000 * t + 1000 ≤ i → f 93 i = I 93 i
set_option maxRecDepth 10000 in
theorem kX12_text {l : Launch} {d : Nat} {h : ja_H} {Q : ja_Q} {T K N : Nat → Int} {n Ln t : Nat} (hG : jG h.1) (hL : h.2.1 90 16 = (Ln : Int)) (hL3 : Ln ≤ 300) (hTT : h.2.1 97 = T) (hb : ∀ j, j < Ln → 0 ≤ T j ∧ T j ≤ 255) (ht : h.2.1 91 3 = (t : Int)) (ht6 : t ≤ 6) (R : acR) (hR : R = txA T Ln K N)
    (q6 : t = 6 → Q (some (.inl (-1))) h)
    (q : t < 6 → ∀ f g, tmF t h.2.1 f → jnl h.2.2 g → (f 90 16 = 0 ∧ f 90 17 = R.1 ∧ f 90 18 = (if R.1 = 0 then -1 else (R.2.1 : Int)) ∧ f 91 3 = if R.1 = 0 then (t : Int) + 1 else (t : Int)) → (R.1 = 0 → f 93 (1000 * t) = (R.2.2.1 : Int) ∧ txR (f 93) (1000 * t) R.2.2.1 R.2.2.2.1 R.2.2.2.2.1 [] ∧ cdR (1000 * t) R.2.2.2.2.2 f) → Q (some (.inl (if R.1 = 0 then (t : Int) else -1))) (h.1, f, g)) : ja_C l (d + 10) mX12_text (js_sh n) [.inr (.inr (some (90)))] h Q := by
  have h3 : h.2.1 91 (3 : Int).toNat = (t : Int) := ht
  refine eX12_text _ fun ho => ?_
  unfold bX12_text
  refine jb_if_d (φ := t = 6) (jd_eq (jd_eqI (jv_fI (jr_g (jr_lr rfl) rfl (by exact jG_90 hG rfl)) jv_ci rfl (by decide) (by decide) h3) jv_ci) (by omega)) (fun c1 => ?_) (fun c1 => ?_)
  · refine jt_rI jv_ci ?_
    exact q6 c1
  · have t6 : t < 6 := by omega
    refine jp_mI (jr_lr rfl) (jr_lr rfl) rfl rfl jA_0 (kX12_readText hG hL hL3 hTT hb ht t6 R hR fun f1 g1 fr1 gr1 e20 w1 => ⟨_, rfl, fun _ => ?_⟩)
    dsimp only
    obtain ⟨f2, hf2⟩ : ∃ f2, ja_up f1 90 17 R.1 = f2 := ⟨_, rfl⟩
    have o2 : ∀ c j, (c ≠ 90 ∨ j ≠ 17) → f2 c j = f1 c j := fun c j y => by rw [← hf2, ja_upO y]
    have u17 : f2 90 17 = R.1 := by rw [← hf2, ja_upE rfl rfl]
    have u20 : f2 90 20 = ((R.2.1 : Nat) : Int) := (o2 _ _ (by omega)).trans e20
    rw [hf2]
    refine jt_pI (jr_lr rfl) (by first | rfl | assumption) (jv_is (x' := (if R.1 = 0 then -1 else (R.2.1 : Int))) (jv_cv (jd_eqI (jv_gF (jr_lr rfl) rfl u17) jv_ci) (fun _ => jv_ci) (fun _ => (jv_gF (jr_lr rfl) rfl u20))) (by rfl)) ?_
    try dsimp only
    refine jt_pI (jr_lr rfl) (by first | rfl | assumption) jv_ci ?_
    try dsimp only
    obtain ⟨f3, hf3⟩ : ∃ f3, ja_up (ja_up f2 90 18 (if R.1 = 0 then -1 else (R.2.1 : Int))) 90 16 0 = f3 := ⟨_, rfl⟩
    have o3 : ∀ c j, (c ≠ 90 ∨ (j ≠ 16 ∧ j ≠ 17 ∧ j ≠ 18)) → f3 c j = f1 c j := fun c j y => by rw [← hf3, ja_upO (by omega), ja_upO (by omega), o2 _ _ (by omega)]
    have v16 : f3 90 16 = 0 := by rw [← hf3, ja_upE rfl rfl]
    have v18 : f3 90 18 = (if R.1 = 0 then -1 else (R.2.1 : Int)) := by rw [← hf3, ja_upO (by omega), ja_upE rfl rfl]
    have v17 : f3 90 17 = R.1 := by rw [← hf3, ja_upO (by omega), ja_upO (by omega)]; exact u17
    have v3 : f3 91 3 = (t : Int) := (o3 _ _ (by omega)).trans ((congrFun (fr1.1 91 (by simp)) 3).trans ht)
    have fr3 : tmF t h.2.1 f3 := by
      refine ⟨fun k hk => ?_, fun j hj => (o3 _ _ (by omega)).trans (fr1.2.1 j (by omega)), fun i _ => (o3 _ _ (by omega)).trans (congrFun (fr1.1 91 (by simp)) i), fun i hi => (o3 _ _ (by omega)).trans (fr1.2.2 i hi)⟩
      simp only [List.mem_cons, List.not_mem_nil, or_false, not_or] at hk
      funext j
      rw [o3 _ _ (by omega), fr1.1 k (by simp; omega)]
    have e93 : f3 93 = f1 93 := by funext j; exact o3 _ _ (by omega)
    rw [hf3]
    refine jb_if_d (jd_ne (jv_gF (jr_lr rfl) rfl v17) jv_ci) (fun c2 => ?_) (fun c2 => ?_)
    · refine jt_rI jv_ci ?_
      have := q t6 f3 g1 fr3 gr1 ⟨v16, v17, v18, by rw [if_neg c2]; exact v3⟩ (fun y => absurd y c2)
      rw [if_neg c2] at this
      exact this
    · have c2 := Classical.not_not.mp c2
      have h33 : f3 91 (3 : Int).toNat = (t : Int) := v3
      refine jt_uB (w := (t : Int) + 1) (jr_g (jr_lr rfl) rfl (by exact jG_90 hG rfl)) rfl jv_ci (by decide) (by decide) jv_ci (by dsimp only; rw [h33, ja_w_id (by unfold ja_r; omega)]) ?_
      dsimp only
      obtain ⟨f4, hf4⟩ : ∃ f4, ja_up f3 91 (3 : Int).toNat ((t : Int) + 1) = f4 := ⟨_, rfl⟩
      have o4 : ∀ c j, (c ≠ 91 ∨ j ≠ 3) → f4 c j = f3 c j := fun c j y => by rw [← hf4]; exact ja_upO y
      have w3 : f4 91 (3 : Int).toNat = (t : Int) + 1 := by rw [← hf4]; exact ja_upE rfl rfl
      have fr4 : tmF t h.2.1 f4 := by
        refine ⟨fun k hk => ?_, fun j hj => (o4 _ _ (by omega)).trans (fr3.2.1 j (by omega)), fun i hi => (o4 _ _ (by omega)).trans (fr3.2.2.1 i hi), fun i hi => (o4 _ _ (by omega)).trans (fr3.2.2.2 i hi)⟩
        have hk2 := hk
        simp only [List.mem_cons, List.not_mem_nil, or_false, not_or] at hk
        rw [← fr3.1 k hk2]
        funext j
        exact o4 _ _ (by omega)
      rw [hf4]
      refine jt_rI (x := (t : Int)) (jv_is (jv_w (jv_sub (jv_fI (jr_g (jr_lr rfl) rfl (by exact jG_90 hG rfl)) jv_ci rfl (by decide) (by decide) w3) jv_ci) (by unfold ja_r; omega)) (by omega)) ?_
      have e94 : f4 93 = f1 93 := by rw [← e93]; funext j; exact o4 _ _ (by omega)
      have := q t6 f4 g1 fr4 gr1 ⟨(o4 _ _ (by omega)).trans v16, (o4 _ _ (by omega)).trans v17, (o4 _ _ (by omega)).trans v18, by rw [if_pos c2]; exact w3⟩ (fun y => by
        obtain ⟨x1, x2, x3⟩ := w1 y
        refine ⟨by rw [e94]; exact x1, by rw [e94]; exact x2, fun j hj => ?_⟩
        rw [e94]; exact x3 j hj)
      rw [if_pos c2] at this
      exact this
