set_option maxRecDepth 10000 in
theorem kX5_readKeep {l : Launch} {d n Ln P s A a : Nat} {T K N : Nat → Int} {cl : List Int} {F Fp : Int} {h : ja_H} {Q : ja_Q} (hA : acS n T Ln P s A K N cl F Fp h) (ha : a < 16) (q : ∀ r : nmR, r = nmP T Ln 59 (nms T Ln (7 * a) [(0, 2, 50), (1, 0, 99), (2, 0, 99)] s N) → ∀ f, acN n T Ln P A K cl F Fp r h.2.1 (h.1, f, h.2.2) → Q (some (.inl (if r.1 = 0 then 1 else 0))) (h.1, f, h.2.2)) : ja_C l (d + 4) mX5_readKeep (js_sh n) [.inr (.inr (some 48)), .inl (a : Int)] h Q := by
  have bad : ∀ r : nmR, r.1 ≠ 0 → nmP T Ln 59 r = r := fun r y => by unfold nmP; rw [if_neg y]
  refine eX5_readKeep _ _ fun _ ho => ?_
  unfold bX5_readKeep
  refine ⟨_, ?_, fun _ _ _ q => q⟩
  refine jx_mI (jr_lr rfl) rfl (jA_i (jA_i (jA_i (jA_i jA_0 (jv_li rfl)) jv_ci) jv_ci) jv_ci) (kX5_readNm hA ha (t := 0) (by omega) rfl (fun f1 w1 => ⟨_, rfl, fun _ => ?_⟩))
  rw [nms_c] at q
  generalize nms T Ln (7 * a) [(0, 2, 50)] s N = r1 at w1 q ⊢
  by_cases e1 : r1.1 = 0
  · rw [if_pos e1, if_neg (by decide)]
    rw [if_pos e1] at q
    refine jx_mI (jr_lr rfl) rfl (jA_i (jA_i (jA_i (jA_i jA_0 (jv_li rfl)) jv_ci) jv_ci) jv_ci) (kX5_readNm (acN_S w1 e1) ha (t := 1) (by omega) rfl (fun f2 w2 => ⟨_, rfl, fun _ => ?_⟩))
    rw [nms_c] at q
    generalize nms T Ln (7 * a) [(1, 0, 99)] r1.2.1 r1.2.2 = r2 at w2 q ⊢
    by_cases e2 : r2.1 = 0
    · rw [if_pos e2, if_neg (by decide)]
      rw [if_pos e2] at q
      refine jx_mI (jr_lr rfl) rfl (jA_i (jA_i (jA_i (jA_i jA_0 (jv_li rfl)) jv_ci) jv_ci) jv_ci) (kX5_readNm (acN_S w2 e2) ha (t := 2) (by omega) rfl (fun f3 w3 => ⟨_, rfl, fun _ => ?_⟩))
      generalize nms T Ln (7 * a) [(2, 0, 99)] r2.2.1 r2.2.2 = r3 at w3 q ⊢
      by_cases e3 : r3.1 = 0
      · rw [if_pos e3, if_neg (by decide)]
        refine ⟨_, ?_, fun _ _ _ q => q⟩
        refine jd_bt (jv_li rfl) _ _ (fun _ => ?_) (fun y => absurd (by decide) y)
        refine jx_mI (jr_lr rfl) rfl (jA_i jA_0 jv_ci) (kX5_passN (acN_S w3 e3) (fun r er f4 w4 => ⟨_, rfl, fun _ => ?_⟩))
        have w := q r (by rw [er]; unfold nmP; rw [if_pos e3, if_pos rfl]) f4 (acN_tr (acF_tr w1.1 (acF_tr w2.1 w3.1)) w4)
        by_cases e4 : r.1 = 0
        · rw [if_pos e4] at w ⊢
          rw [if_neg (by decide)]
          exact ⟨Or.inr rfl, w⟩
        · rw [if_neg e4] at w ⊢
          rw [if_pos rfl]
          exact ⟨Or.inl rfl, w⟩
      · rw [if_neg e3, if_pos rfl]
        have w := q r3 (bad _ e3).symm f3 ⟨acF_tr w1.1 (acF_tr w2.1 w3.1), w3.2⟩
        rw [if_neg e3] at w
        refine ⟨_, ?_, fun _ _ _ q => q⟩
        refine jd_bt (jv_li rfl) _ _ (fun y => absurd rfl y) (fun _ => ?_)
        exact ⟨Or.inl rfl, w⟩
    · rw [if_neg e2, if_pos rfl]
      rw [if_neg e2] at q
      have w := q r2 (bad _ e2).symm f2 ⟨acF_tr w1.1 w2.1, w2.2⟩
      rw [if_neg e2] at w
      refine ⟨_, ?_, fun _ _ _ q => q⟩
      refine jd_bt (jv_li rfl) _ _ (fun y => absurd rfl y) (fun _ => ?_)
      exact ⟨Or.inl rfl, w⟩
  · rw [if_neg e1, if_pos rfl]
    rw [if_neg e1] at q
    have w := q r1 (bad _ e1).symm f1 w1
    rw [if_neg e1] at w
    refine ⟨_, ?_, fun _ _ _ q => q⟩
    refine jd_bt (jv_li rfl) _ _ (fun y => absurd rfl y) (fun _ => ?_)
    exact ⟨Or.inl rfl, w⟩
