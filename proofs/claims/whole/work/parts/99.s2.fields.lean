set_option maxRecDepth 10000 in
theorem kX12_corner {l : Launch} {d n Ln t0 s a c O : Nat} {T X : Nat → Int} {w : List Int} {h : ja_H} {Q : ja_Q} (hA : raA T Ln t0 s a c w O X h) (hc7 : c + 2 ≤ 7) (q : ∀ r f g, r = nms T Ln (t0 + 1 + 12 * a) [(c + 1, 0, 99), (c + 1 + 1, 0, 99)] s X → raF t0 h.2.1 f → jnl h.2.2 g → raN T Ln t0 a (c + 1 + 1) w O r (h.1, f, g) → Q (some (.inl r.1)) (h.1, f, g)) : ja_C l (d + 5) mX12_corner (js_sh n) [.inr (.inr (some 90))] h Q := by
  refine eX12_corner _ fun ho => ?_
  unfold bX12_corner
  refine jx_mI (jr_lr rfl) rfl (jA_i (jA_i jA_0 jv_ci) jv_ci) (kX12_number hA (by omega) (by decide) fun r1 f1 g1 e1 fr1 gr1 w1 => ⟨_, rfl, fun _ => ?_⟩)
  rw [nms_c, ← e1] at q
  by_cases y1 : r1.1 = 0
  · rw [if_pos y1] at q
    refine jb_cv_p ((jd_ne (jv_li rfl) jv_ci) _ _ (fun z => absurd y1 z) (fun _ => ?_))
    refine jx_mI (jr_lr rfl) rfl (jA_i (jA_i jA_0 jv_ci) jv_ci) (kX12_number (h := (h.1, f1, g1)) (w1.2 y1) (by omega) (by decide) fun r2 f2 g2 e2 fr2 gr2 w2 => ⟨_, rfl, fun _ => ?_⟩)
    exact q r2 f2 g2 e2 (raF_tr fr1 (fr2)) (jnl_tr gr1 (gr2)) w2
  · rw [if_neg y1] at q
    refine jb_cv_p ((jd_ne (jv_li rfl) jv_ci) _ _ (fun _ => ?_) (fun z => absurd y1 z))
    refine jv_li rfl _ ?_
    exact q r1 f1 g1 rfl (fr1) (gr1) ⟨w1.1, fun y => absurd y y1⟩
set_option maxRecDepth 10000 in
theorem kX12_field {l : Launch} {d n Ln t0 s a c O : Nat} {T X : Nat → Int} {w : List Int} {h : ja_H} {Q : ja_Q} (hA : raA T Ln t0 s a c w O X h) (hc7 : c + 4 ≤ 7) (q : ∀ r f g, r = nms T Ln (t0 + 1 + 12 * a) [(c + 1, 0, 99), (c + 1 + 1, 0, 99), (c + 1 + 1 + 1, 1, 99), (c + 1 + 1 + 1 + 1, 1, 99)] s X → raF t0 h.2.1 f → jnl h.2.2 g → raN T Ln t0 a (c + 1 + 1 + 1 + 1) w O r (h.1, f, g) → Q (some (.inl r.1)) (h.1, f, g)) : ja_C l (d + 5) mX12_field (js_sh n) [.inr (.inr (some 90))] h Q := by
  refine eX12_field _ fun ho => ?_
  unfold bX12_field
  refine jx_mI (jr_lr rfl) rfl (jA_i (jA_i jA_0 jv_ci) jv_ci) (kX12_number hA (by omega) (by decide) fun r1 f1 g1 e1 fr1 gr1 w1 => ⟨_, rfl, fun _ => ?_⟩)
  rw [nms_c, ← e1] at q
  by_cases y1 : r1.1 = 0
  · rw [if_pos y1] at q
    refine jb_cv_p ((jd_ne (jv_li rfl) jv_ci) _ _ (fun z => absurd y1 z) (fun _ => ?_))
    refine jx_mI (jr_lr rfl) rfl (jA_i (jA_i jA_0 jv_ci) jv_ci) (kX12_number (h := (h.1, f1, g1)) (w1.2 y1) (by omega) (by decide) fun r2 f2 g2 e2 fr2 gr2 w2 => ⟨_, rfl, fun _ => ?_⟩)
    rw [nms_c, ← e2] at q
    by_cases y2 : r2.1 = 0
    · rw [if_pos y2] at q
      refine jb_cv_p ((jd_ne (jv_li rfl) jv_ci) _ _ (fun z => absurd y2 z) (fun _ => ?_))
      refine jx_mI (jr_lr rfl) rfl (jA_i (jA_i jA_0 jv_ci) jv_ci) (kX12_number (h := (h.1, f2, g2)) (w2.2 y2) (by omega) (by decide) fun r3 f3 g3 e3 fr3 gr3 w3 => ⟨_, rfl, fun _ => ?_⟩)
      rw [nms_c, ← e3] at q
      by_cases y3 : r3.1 = 0
      · rw [if_pos y3] at q
        refine jb_cv_p ((jd_ne (jv_li rfl) jv_ci) _ _ (fun z => absurd y3 z) (fun _ => ?_))
        refine jx_mI (jr_lr rfl) rfl (jA_i (jA_i jA_0 jv_ci) jv_ci) (kX12_number (h := (h.1, f3, g3)) (w3.2 y3) (by omega) (by decide) fun r4 f4 g4 e4 fr4 gr4 w4 => ⟨_, rfl, fun _ => ?_⟩)
        exact q r4 f4 g4 e4 (raF_tr fr1 (raF_tr fr2 (raF_tr fr3 (fr4)))) (jnl_tr gr1 (jnl_tr gr2 (jnl_tr gr3 (gr4)))) w4
      · rw [if_neg y3] at q
        refine jb_cv_p ((jd_ne (jv_li rfl) jv_ci) _ _ (fun _ => ?_) (fun z => absurd y3 z))
        refine jv_li rfl _ ?_
        exact q r3 f3 g3 rfl (raF_tr fr1 (raF_tr fr2 (fr3))) (jnl_tr gr1 (jnl_tr gr2 (gr3))) ⟨w3.1, fun y => absurd y y3⟩
    · rw [if_neg y2] at q
      refine jb_cv_p ((jd_ne (jv_li rfl) jv_ci) _ _ (fun _ => ?_) (fun z => absurd y2 z))
      refine jv_li rfl _ ?_
      refine jb_cv_p ((jd_ne (jv_li rfl) jv_ci) _ _ (fun _ => ?_) (fun z => absurd y2 z))
      refine jv_li rfl _ ?_
      exact q r2 f2 g2 rfl (raF_tr fr1 (fr2)) (jnl_tr gr1 (gr2)) ⟨w2.1, fun y => absurd y y2⟩
  · rw [if_neg y1] at q
    refine jb_cv_p ((jd_ne (jv_li rfl) jv_ci) _ _ (fun _ => ?_) (fun z => absurd y1 z))
    refine jv_li rfl _ ?_
    refine jb_cv_p ((jd_ne (jv_li rfl) jv_ci) _ _ (fun _ => ?_) (fun z => absurd y1 z))
    refine jv_li rfl _ ?_
    refine jb_cv_p ((jd_ne (jv_li rfl) jv_ci) _ _ (fun _ => ?_) (fun z => absurd y1 z))
    refine jv_li rfl _ ?_
    exact q r1 f1 g1 rfl (fr1) (gr1) ⟨w1.1, fun y => absurd y y1⟩
set_option maxRecDepth 10000 in
theorem kX12_kept {l : Launch} {d n Ln t0 s a c O : Nat} {T X : Nat → Int} {w : List Int} {h : ja_H} {Q : ja_Q} (hA : raA T Ln t0 s a c w O X h) (hc7 : c + 3 ≤ 7) (q : ∀ r f g, r = nms T Ln (t0 + 1 + 12 * a) [(c + 1, 2, 50), (c + 1 + 1, 0, 99), (c + 1 + 1 + 1, 0, 99)] s X → raF t0 h.2.1 f → jnl h.2.2 g → raN T Ln t0 a (c + 1 + 1 + 1) w O r (h.1, f, g) → Q (some (.inl r.1)) (h.1, f, g)) : ja_C l (d + 6) mX12_kept (js_sh n) [.inr (.inr (some 90))] h Q := by
  refine eX12_kept _ fun ho => ?_
  unfold bX12_kept
  refine jx_mI (jr_lr rfl) rfl (jA_i (jA_i jA_0 jv_ci) jv_ci) (kX12_number hA (by omega) (by decide) fun r1 f1 g1 e1 fr1 gr1 w1 => ⟨_, rfl, fun _ => ?_⟩)
  rw [nms_c, ← e1] at q
  by_cases y1 : r1.1 = 0
  · rw [if_pos y1] at q
    refine jb_cv_p ((jd_ne (jv_li rfl) jv_ci) _ _ (fun z => absurd y1 z) (fun _ => ?_))
    refine jx_mI (jr_lr rfl) rfl jA_0 (kX12_corner (h := (h.1, f1, g1)) (w1.2 y1) (by omega) fun r2 f2 g2 e2 fr2 gr2 w2 => ⟨_, rfl, fun _ => ?_⟩)
    exact q r2 f2 g2 e2 (raF_tr fr1 (fr2)) (jnl_tr gr1 (gr2)) w2
  · rw [if_neg y1] at q
    refine jb_cv_p ((jd_ne (jv_li rfl) jv_ci) _ _ (fun _ => ?_) (fun z => absurd y1 z))
    refine jv_li rfl _ ?_
    exact q r1 f1 g1 rfl (fr1) (gr1) ⟨w1.1, fun y => absurd y y1⟩
/-- what a paste reads, as the reference does -/
def paX (T : Nat → Int) (Ln b s : Nat) (X : Nat → Int) : nmR :=
  let r := nms T Ln b [(0 + 1, 0, 4), (0 + 1 + 1, 0, 99), (0 + 1 + 1 + 1, 0, 99), (0 + 1 + 1 + 1 + 1, 1, 99), (0 + 1 + 1 + 1 + 1 + 1, 1, 99)] s X
  if r.1 = 0 then (if tkW T Ln r.2.1 5 = true then nms T Ln b [(0 + 1 + 1 + 1 + 1 + 1 + 1, 0, 99), (0 + 1 + 1 + 1 + 1 + 1 + 1 + 1, 0, 99)] (nxS T Ln r.2.1) r.2.2 else (1, r.2.1, r.2.2)) else r
set_option maxRecDepth 10000 in
theorem kX12_pasted {l : Launch} {d n Ln t0 s a O : Nat} {T X : Nat → Int} {w : List Int} {h : ja_H} {Q : ja_Q} (hA : raA T Ln t0 s a 0 w O X h) (q : ∀ r f g, r = paX T Ln (t0 + 1 + 12 * a) s X → raF t0 h.2.1 f → jnl h.2.2 g → raN T Ln t0 a 7 w O r (h.1, f, g) → Q (some (.inl r.1)) (h.1, f, g)) : ja_C l (d + 6) mX12_pasted (js_sh n) [.inr (.inr (some 90))] h Q := by
  unfold paX at q
  dsimp only at q
  refine eX12_pasted _ fun ho => ?_
  unfold bX12_pasted
  refine jx_mI (jr_lr rfl) rfl (jA_i (jA_i jA_0 jv_ci) jv_ci) (kX12_number hA (by omega) (by decide) fun r1 f1 g1 e1 fr1 gr1 w1 => ⟨_, rfl, fun _ => ?_⟩)
  rw [nms_c, ← e1] at q
  by_cases y1 : r1.1 = 0
  · simp only [if_pos y1] at q
    refine jb_cv_p ((jd_ne (jv_li rfl) jv_ci) _ _ (fun z => absurd y1 z) (fun _ => ?_))
    refine jx_mI (jr_lr rfl) rfl jA_0 (kX12_field (h := (h.1, f1, g1)) (w1.2 y1) (by omega) fun r2 f2 g2 e2 fr2 gr2 w2 => ⟨_, rfl, fun _ => ?_⟩)
    rw [← e2] at q
    by_cases y2 : r2.1 = 0
    · simp only [if_pos y2] at q
      refine jb_if_d (jd_ne (jv_li rfl) jv_ci) (fun z => absurd y2 z) (fun _ => ?_)
      obtain ⟨hB, ha, h32, h33, hX⟩ := w2.2 y2
      have hk : tkP T Ln r2.2.1 f2 g2 := hB.2.2.2.1
      refine jb_if_d (jd_not (jd_b (jy_mI (jr_lr rfl) rfl (jA_l jA_0 jv_ci) fun _ => kX12_isWord (h := (h.1, f2, g2)) (i := 5) hk (by decide) (by decide +kernel)))) (fun z => ?_) (fun z => ?_)
      · simp only [if_neg z] at q
        exact jt_rI jv_ci (q (1, r2.2.1, r2.2.2) f2 g2 rfl (raF_tr fr1 fr2) (jnl_tr gr1 gr2) ⟨w2.1, fun y => absurd (show (1 : Int) = 0 from y) (by decide)⟩)
      · have z := Classical.not_not.mp z
        simp only [if_pos z] at q
        refine jx_m (jr_lr rfl) rfl jA_0 (kX12_nextB (h := (h.1, f2, g2)) hB fun f3 g3 fr3 gr3 hB3 => ⟨rfl, ?_⟩)
        have hA3 : raA T Ln t0 (nxS T Ln r2.2.1) a (0 + 1 + 1 + 1 + 1 + 1) w O r2.2.2 (h.1, f3, g3) := ⟨hB3, ha, (fr3.2 32 (by omega)).trans h32, (fr3.2 33 (by omega)).trans h33, (fr3.1 93 (by simp)).trans hX⟩
        refine jx_mI (jr_lr rfl) rfl jA_0 (kX12_corner (h := (h.1, f3, g3)) hA3 (by omega) fun r4 f4 g4 e4 fr4 gr4 w4 => ⟨_, rfl, fun _ => ?_⟩)
        exact q r4 f4 g4 e4 (raF_tr fr1 (raF_tr fr2 (raF_tr (raF_nf fr3) fr4))) (jnl_tr gr1 (jnl_tr gr2 (jnl_tr gr3 gr4))) w4
    · simp only [if_neg y2] at q
      refine jb_if_d (jd_ne (jv_li rfl) jv_ci) (fun _ => ?_) (fun z => absurd y2 z)
      exact jt_rI (jv_li rfl) (q r2 f2 g2 rfl (raF_tr fr1 fr2) (jnl_tr gr1 gr2) ⟨w2.1, fun y => absurd y y2⟩)
  · simp only [if_neg y1] at q
    refine jb_cv_p ((jd_ne (jv_li rfl) jv_ci) _ _ (fun _ => ?_) (fun z => absurd y1 z))
    refine jv_li rfl _ ?_
    refine jb_if_d (jd_ne (jv_li rfl) jv_ci) (fun _ => ?_) (fun z => absurd y1 z)
    exact jt_rI (jv_li rfl) (q r1 f1 g1 rfl fr1 gr1 ⟨w1.1, fun y => absurd y y1⟩)
