/-- what a paste reads -/
def paR (T : Nat → Int) (Ln b s : Nat) (N : Nat → Int) : nmR :=
  let r := nms T Ln b [(0, 0, 4), (1, 0, 99), (1 + 1, 0, 99), (1 + 2, 1, 99), (1 + 3, 1, 99)] s N
  if r.1 = 0 then (if tkW T Ln r.2.1 5 = true then nmP T Ln 59 (nms T Ln b [(5, 0, 99), (6, 0, 99)] (nxS T Ln r.2.1) r.2.2) else (1, r.2.1, r.2.2)) else r
set_option maxRecDepth 10000 in
theorem kX5_readPaste {l : Launch} {d n Ln P s A a : Nat} {T K N : Nat → Int} {cl : List Int} {F Fp : Int} {h : ja_H} {Q : ja_Q} (hA : acS n T Ln P s A K N cl F Fp h) (ha : a < 16) (q : ∀ r : nmR, r = paR T Ln (7 * a) s N → ∀ f, acN n T Ln P A K cl F Fp r h.2.1 (h.1, f, h.2.2) → Q (some (.inl (if r.1 = 0 then 1 else 0))) (h.1, f, h.2.2)) : ja_C l (d + 6) mX5_readPaste (js_sh n) [.inr (.inr (some 48)), .inl (a : Int)] h Q := by
  have bad : ∀ r : nmR, r.1 ≠ 0 → nmP T Ln 59 r = r := fun r y => by unfold nmP; rw [if_neg y]
  obtain ⟨⟨hG, hg, h6, hP⟩, ⟨_, hL3, _, hb⟩, hs, _, _⟩ := id hA.1
  unfold paR at q
  dsimp only at q
  refine eX5_readPaste _ _ fun _ ho => ?_
  unfold bX5_readPaste
  refine jb_if_p ?_
  refine jx_mI (jr_lr rfl) rfl (jA_i (jA_i (jA_i (jA_i jA_0 (jv_li rfl)) jv_ci) jv_ci) jv_ci) (kX5_readNm hA ha (t := 0) (by omega) rfl (fun f1 w1 => ⟨_, rfl, fun _ => ?_⟩))
  rw [nms_c] at q
  generalize nms T Ln (7 * a) [(0, 0, 4)] s N = r1 at w1 q ⊢
  by_cases e1 : r1.1 = 0
  · rw [if_pos e1, if_neg (by decide)]
    simp only [if_pos e1] at q
    have hA1 := acN_S w1 e1
    refine jx_mI (jr_lr rfl) rfl (jA_i (jA_i jA_0 (jv_li rfl)) jv_ci) (kX5_readField hA1 ha (t := 1) (by omega) rfl (fun r2 er2 f2 w2 => ⟨_, rfl, fun _ => ?_⟩))
    rw [← er2] at q
    by_cases e2 : r2.1 = 0
    · rw [if_pos e2, if_neg (by decide)]
      simp only [if_pos e2] at q
      have hA2 := acN_S w2 e2
      have hS2 := hA2.1
      refine jb_if_p ?_
      refine jx_mI (jr_lr rfl) rfl (jA_r jA_0 jr_st) (kX5_isWord (h := (h.1, f2, h.2.2)) (i := 5) (by decide) hG hS2.2.1.1 hL3 hS2.2.1.2.2.1 hS2.2.2.1 hS2.2.2.2.1 ⟨_, rfl, fun _ => ?_⟩)
      by_cases e3 : tkW T Ln r2.2.1 5 = true
      · rw [if_pos e3, if_neg (by decide)]
        simp only [if_pos e3] at q
        have nb := nxS_b (T := T) hS2.2.2.1
        refine jx_m (jr_lr rfl) rfl jA_0 (kX5_advance (h := (h.1, f2, h.2.2)) hG hS2.2.1.1 hL3 hS2.2.1.2.2.1 hb hS2.2.2.2.1.1 (tkE_b hS2.2.2.1).2.1 fun f3 fr ft => ⟨rfl, ?_⟩)
        have w3 := ac_rd hA2 rfl (rd_adv hS2 fr ft) nb.2.1
        simp only [List.append_nil] at w3
        have fr3 := acF_tr w1.1 (acF_tr w2.1 w3.1)
        refine ⟨_, ?_, fun _ _ _ q => q⟩
        refine jx_mI (jr_lr rfl) rfl (jA_i (jA_i (jA_i (jA_i jA_0 (jv_li rfl)) jv_ci) jv_ci) jv_ci) (kX5_readNm w3.2 ha (t := 5) (by omega) rfl (fun f4 w4 => ⟨_, rfl, fun _ => ?_⟩))
        dsimp only at w4
        rw [nms_c] at q
        dsimp only
        generalize nms T Ln (7 * a) [(5, 0, 99)] (nxS T Ln r2.2.1) r2.2.2 = r4 at w4 q ⊢
        by_cases e4 : r4.1 = 0
        · rw [if_pos e4, if_neg (by decide)]
          simp only [if_pos e4] at q
          refine jx_mI (jr_lr rfl) rfl (jA_i (jA_i (jA_i (jA_i jA_0 (jv_li rfl)) jv_ci) jv_ci) jv_ci) (kX5_readNm (acN_S w4 e4) ha (t := 6) (by omega) rfl (fun f5 w5 => ⟨_, rfl, fun _ => ?_⟩))
          generalize nms T Ln (7 * a) [(6, 0, 99)] r4.2.1 r4.2.2 = r5 at w5 q ⊢
          by_cases e5 : r5.1 = 0
          · rw [if_pos e5, if_neg (by decide)]
            refine jx_mI (jr_lr rfl) rfl (jA_i jA_0 jv_ci) (kX5_passN (acN_S w5 e5) (fun r er f6 w6 => ⟨_, rfl, fun _ => ?_⟩))
            have w := q r (by rw [er]; unfold nmP; rw [if_pos e5, if_pos rfl]) f6 (acN_tr (acF_tr fr3 (acF_tr w4.1 w5.1)) w6)
            by_cases e6 : r.1 = 0
            · rw [if_pos e6] at w ⊢
              rw [if_neg (by decide)]
              exact ⟨Or.inr rfl, w⟩
            · rw [if_neg e6] at w ⊢
              rw [if_pos rfl]
              exact ⟨Or.inl rfl, w⟩
          · rw [if_neg e5, if_pos rfl]
            have w := q r5 (bad _ e5).symm f5 ⟨acF_tr fr3 (acF_tr w4.1 w5.1), w5.2⟩
            rw [if_neg e5] at w
            exact ⟨Or.inl rfl, w⟩
        · rw [if_neg e4, if_pos rfl]
          simp only [if_neg e4] at q
          have w := q r4 (bad _ e4).symm f4 ⟨acF_tr fr3 w4.1, w4.2⟩
          rw [if_neg e4] at w
          exact ⟨Or.inl rfl, w⟩
      · rw [if_neg e3, if_pos rfl]
        simp only [if_neg e3] at q
        have w := ac_rd hA2 rfl (rd_ref (v := 1) hS2 (by decide)) hS2.2.2.1
        simp only [List.append_nil] at w
        exact jx_mI (jr_lr rfl) rfl (jA_i jA_0 jv_ci) (kX5_refuse (h := (h.1, f2, h.2.2)) hG ⟨_, rfl, fun _ => ⟨Or.inl rfl, q _ rfl _ ⟨acF_tr w1.1 (acF_tr w2.1 w.1), w.2⟩⟩⟩)
    · rw [if_neg e2, if_pos rfl]
      simp only [if_neg e2] at q
      have w := q r2 rfl f2 ⟨acF_tr w1.1 w2.1, w2.2⟩
      rw [if_neg e2] at w
      exact jv_ci _ ⟨Or.inl rfl, w⟩
  · rw [if_neg e1, if_pos rfl]
    simp only [if_neg e1] at q
    have w := q r1 rfl f1 w1
    rw [if_neg e1] at w
    exact jv_ci _ ⟨Or.inl rfl, w⟩
