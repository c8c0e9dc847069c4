theorem acN_S {n Ln P A : Nat} {T K : Nat → Int} {cl : List Int} {F Fp : Int} {r : nmR} {I : Nat → Nat → Int} {h : ja_H} (w : acN n T Ln P A K cl F Fp r I h) (e : r.1 = 0) : acS n T Ln P r.2.1 A K r.2.2 cl F Fp h := by
  have := w.2
  rw [if_pos e, if_pos e] at this
  exact this
set_option maxRecDepth 10000 in
theorem kX5_readField {l : Launch} {d n Ln P s A a t : Nat} {T K N : Nat → Int} {cl : List Int} {F Fp zt : Int} {h : ja_H} {Q : ja_Q} (hA : acS n T Ln P s A K N cl F Fp h) (ha : a < 16) (ht : t < 4) (hz : zt = (t : Int)) (q : ∀ r : nmR, r = nms T Ln (7 * a) [(t, 0, 99), (t + 1, 0, 99), (t + 2, 1, 99), (t + 3, 1, 99)] s N → ∀ f, acN n T Ln P A K cl F Fp r h.2.1 (h.1, f, h.2.2) → Q (some (.inl (if r.1 = 0 then 1 else 0))) (h.1, f, h.2.2)) : ja_C l (d + 4) mX5_readField (js_sh n) [.inr (.inr (some 48)), .inl (a : Int), .inl zt] h Q := by
  refine eX5_readField _ _ _ fun _ _ ho => ?_
  unfold bX5_readField
  refine ⟨_, ?_, fun _ _ _ q => q⟩
  refine jx_mI (jr_lr rfl) rfl (jA_i (jA_i (jA_i (jA_i jA_0 (jv_li rfl)) (jv_li rfl)) jv_ci) jv_ci) (kX5_readNm hA ha (t := t) (by omega) hz (fun f1 w1 => ⟨_, rfl, fun _ => ?_⟩))
  rw [nms_c] at q
  generalize nms T Ln (7 * a) [(t, 0, 99)] s N = r1 at w1 q ⊢
  by_cases e1 : r1.1 = 0
  · rw [if_pos e1, if_neg (by decide)]
    rw [if_pos e1] at q
    refine jx_mI (jr_lr rfl) rfl (jA_i (jA_i (jA_i (jA_i jA_0 (jv_li rfl)) (jv_w (jv_add (jv_li rfl) jv_ci) (by unfold ja_r; omega))) jv_ci) jv_ci) (kX5_readNm (acN_S w1 e1) ha (t := t + 1) (by omega) (by omega) (fun f2 w2 => ⟨_, rfl, fun _ => ?_⟩))
    rw [nms_c] at q
    generalize nms T Ln (7 * a) [(t + 1, 0, 99)] r1.2.1 r1.2.2 = r2 at w2 q ⊢
    by_cases e2 : r2.1 = 0
    · rw [if_pos e2, if_neg (by decide)]
      rw [if_pos e2] at q
      refine ⟨_, ?_, fun _ _ _ q => q⟩
      refine jd_bt (jv_li rfl) _ _ (fun _ => ?_) (fun y => absurd (by decide) y)
      refine jx_mI (jr_lr rfl) rfl (jA_i (jA_i (jA_i (jA_i jA_0 (jv_li rfl)) (jv_w (jv_add (jv_li rfl) jv_ci) (by unfold ja_r; omega))) jv_ci) jv_ci) (kX5_readNm (acN_S w2 e2) ha (t := t + 2) (by omega) (by omega) (fun f3 w3 => ⟨_, rfl, fun _ => ?_⟩))
      rw [nms_c] at q
      generalize nms T Ln (7 * a) [(t + 2, 1, 99)] r2.2.1 r2.2.2 = r3 at w3 q ⊢
      by_cases e3 : r3.1 = 0
      · rw [if_pos e3, if_neg (by decide)]
        rw [if_pos e3] at q
        refine jx_mI (jr_lr rfl) rfl (jA_i (jA_i (jA_i (jA_i jA_0 (jv_li rfl)) (jv_w (jv_add (jv_li rfl) jv_ci) (by unfold ja_r; omega))) jv_ci) jv_ci) (kX5_readNm (acN_S w3 e3) ha (t := t + 3) (by omega) (by omega) (fun f4 w4 => ⟨_, rfl, fun _ => ?_⟩))
        have w := q _ rfl f4 ⟨acF_tr w1.1 (acF_tr w2.1 (acF_tr w3.1 w4.1)), w4.2⟩
        generalize nms T Ln (7 * a) [(t + 3, 1, 99)] r3.2.1 r3.2.2 = r4 at w ⊢
        by_cases e4 : r4.1 = 0
        · rw [if_pos e4] at w ⊢
          rw [if_neg (by decide)]
          exact ⟨Or.inr rfl, w⟩
        · rw [if_neg e4] at w ⊢
          rw [if_pos rfl]
          exact ⟨Or.inl rfl, w⟩
      · rw [if_neg e3, if_pos rfl]
        rw [if_neg e3] at q
        have w := q _ rfl f3 ⟨acF_tr w1.1 (acF_tr w2.1 w3.1), w3.2⟩
        rw [if_neg e3] at w
        exact ⟨Or.inl rfl, w⟩
    · rw [if_neg e2, if_pos rfl]
      rw [if_neg e2] at q
      have w := q _ rfl f2 ⟨acF_tr w1.1 w2.1, w2.2⟩
      rw [if_neg e2] at w
      refine ⟨_, ?_, fun _ _ _ q => q⟩
      refine jd_bt (jv_li rfl) _ _ (fun y => absurd rfl y) (fun _ => ?_)
      exact ⟨Or.inl rfl, w⟩
  · rw [if_neg e1, if_pos rfl]
    rw [if_neg e1] at q
    have w := q _ rfl f1 w1
    rw [if_neg e1] at w
    refine ⟨_, ?_, fun _ _ _ q => q⟩
    refine jd_bt (jv_li rfl) _ _ (fun y => absurd rfl y) (fun _ => ?_)
    exact ⟨Or.inl rfl, w⟩
