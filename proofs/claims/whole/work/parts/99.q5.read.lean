theorem jG_u6 {R : Nat → Nat → Option Nat} {v : Option Nat} (hG : jG R) : jG (ja_up R 48 6 v) := by
  refine ⟨fun k j r e => ?_, ?_⟩
  · have : ¬ (k = 48 ∧ j = 6) := by
      rintro ⟨rfl, rfl⟩
      exact absurd (show (none : Option Nat) = some r from e) (by simp)
    unfold ja_up
    rw [if_neg this]
    exact hG.1 k j r e
  · funext j
    unfold ja_up
    rw [if_neg (by omega), hG.2]
/-- what is read of a whole tape, with the kinds and numbers that stood there -/
def txA (T : Nat → Int) (Ln : Nat) (K N : Nat → Int) : acR := acs T Ln (6 * Ln + 3) (2 * Ln + 2) 1 0 0 (tkS T Ln 0) 0 K N []
set_option maxRecDepth 10000 in
theorem kX5_read {l : Launch} {d n Ln i P : Nat} {T : Nat → Int} {h : ja_H} {Q : ja_Q} (hG : jG h.1) (hi : i < 6) (hP : P = 66 + 4 * i) (hL : h.2.1 48 1 = (Ln : Int)) (hL3 : Ln ≤ 300) (hT : h.2.1 49 = T) (hb : ∀ j, j < Ln → 0 ≤ T j ∧ T j ≤ 255) (q : ∀ r f, r = txA T Ln (h.2.1 (P + 1)) (h.2.1 (P + 2)) → (jfr [48, P, P + 1, P + 2, P + 3] h.2.1 f ∧ f 48 7 = 1) → acS n T Ln P r.2.1 r.2.2.1 r.2.2.2.1 r.2.2.2.2.1 r.2.2.2.2.2 r.1 (if r.1 = 0 then -1 else (r.2.1 : Int)) (ja_up h.1 48 6 (some P), f, h.2.2) → Q none (ja_up h.1 48 6 (some P), f, h.2.2)) : ja_C l (d + 46) mX5_read (js_sh n) [.inr (.inr (some 48)), .inr (.inr (some P))] h Q := by
  refine eX5_read _ _ fun ho => ?_
  unfold bX5_read
  refine jt_pZ (jr_lr rfl) rfl jv_ci (Or.inr rfl) ?_
  refine jt_pI (jr_lr rfl) rfl jv_ci ?_
  refine jt_pI (jr_lr rfl) rfl jv_ci ?_
  refine jt_pI (jr_lr rfl) rfl jv_ci ?_
  refine jt_pR (jr_lr rfl) rfl (jr_lr rfl) ?_
  dsimp only
  have hG1 := jG_u6 (v := some P) hG
  have h6 : ja_up h.1 48 6 (some P) 48 6 = some P := by unfold ja_up; exact if_pos ⟨rfl, rfl⟩
  generalize ja_up h.1 48 6 (some P) = R1 at q hG1 h6 ⊢
  have hg1 : jPg n P R1 := by rw [hP]; exact jPg_of hG1 hi
  obtain ⟨g0, hg0⟩ : ∃ g0, ja_up (ja_up (ja_up (ja_up h.2.1 48 7 1) 48 2 0) 48 8 0) 48 9 (-1) = g0 := ⟨_, rfl⟩
  rw [hg0]
  refine jx_m (jr_g (jr_lr rfl) rfl h6) hg1.1 jA_0 (kX4_clear (h := (R1, g0, h.2.2)) hg1 ⟨rfl, ?_⟩)
  dsimp only
  obtain ⟨f1, hf1⟩ : ∃ f1, ja_up (ja_up g0 P 3 0) P 4 0 = f1 := ⟨_, rfl⟩
  rw [hf1]
  have o : ∀ c j, (c ≠ P ∨ (j ≠ 3 ∧ j ≠ 4)) → (c ≠ 48 ∨ (j ≠ 7 ∧ j ≠ 2 ∧ j ≠ 8 ∧ j ≠ 9)) → f1 c j = h.2.1 c j := fun c j y1 y2 => by rw [← hf1, ja_upO (by omega), ja_upO (by omega), ← hg0, ja_upO (by omega), ja_upO (by omega), ja_upO (by omega), ja_upO (by omega)]
  have v : ∀ j, f1 48 j = g0 48 j := fun j => by rw [← hf1, ja_upO (by omega), ja_upO (by omega)]
  have v7 : f1 48 7 = 1 := by rw [v, ← hg0, ja_upO (by omega), ja_upO (by omega), ja_upO (by omega), ja_upE rfl rfl]
  have v2 : f1 48 2 = ((0 : Nat) : Int) := by rw [v, ← hg0, ja_upO (by omega), ja_upO (by omega), ja_upE rfl rfl]; rfl
  have v8 : f1 48 8 = 0 := by rw [v, ← hg0, ja_upO (by omega), ja_upE rfl rfl]
  have v9 : f1 48 9 = -1 := by rw [v, ← hg0, ja_upE rfl rfl]
  have p3 : f1 P 3 = ((0 : Nat) : Int) := by rw [← hf1, ja_upO (by omega), ja_upE rfl rfl]; rfl
  have p4 : f1 P 4 = ((0 : Nat) : Int) := by rw [← hf1, ja_upE rfl rfl]; rfl
  have hL1 : f1 48 1 = (Ln : Int) := by rw [o _ _ (by omega) (by omega)]; exact hL
  have hT1 : f1 49 = T := by rw [← hT]; funext j; exact o _ _ (by omega) (by omega)
  have k1 : f1 (P + 1) = h.2.1 (P + 1) := by funext j; exact o _ _ (by omega) (by omega)
  have k2 : f1 (P + 2) = h.2.1 (P + 2) := by funext j; exact o _ _ (by omega) (by omega)
  have fr1 : jfr [48, P, P + 1, P + 2, P + 3] h.2.1 f1 := by
    rw [← hf1, ← hg0]
    exact jfr_up (jfr_up (jfr_up (jfr_up (jfr_up (jfr_up (jfr_rf _ _) (by simp)) (by simp)) (by simp)) (by simp)) (by simp)) (by simp)
  have sb : tkS T Ln 0 ≤ Ln := (rnE_b (p := blk) (T := T) (Ln := Ln) 0).2.1 (by omega)
  refine jx_m (jr_lr rfl) rfl jA_0 (kX5_advance (h := (R1, f1, h.2.2)) (a := 0) hG1 hL1 hL3 hT1 hb v2 (by omega) fun f2 fr ft => ⟨rfl, ?_⟩)
  have c2 : ∀ c, c ≠ 48 → f2 c = f1 c := fun c hc => fr.1 c (by simpa using hc)
  have hA : acS n T Ln P (tkS T Ln 0) 0 (h.2.1 (P + 1)) (h.2.1 (P + 2)) [] 0 (-1) (R1, f2, h.2.2) := by
    refine ⟨⟨⟨hG1, hg1, h6, by omega⟩, ⟨?_, hL3, ?_, hb⟩, sb, ft, ?_⟩, ⟨?_, by omega, ?_, ?_⟩, fun j hj => absurd hj (by simp), ?_, ?_⟩
    · show f2 48 1 = _
      rw [fr.2 1 (by omega)]; exact hL1
    · show f2 49 = _
      rw [c2 49 (by omega)]; exact hT1
    · show f2 P 4 = _
      rw [c2 P (by omega)]; exact p4
    · show f2 P 3 = _
      rw [c2 P (by omega)]; exact p3
    · show f2 (P + 1) = _
      rw [c2 _ (by omega)]; exact k1
    · show f2 (P + 2) = _
      rw [c2 _ (by omega)]; exact k2
    · show f2 48 8 = _
      rw [fr.2 8 (by omega)]; exact v8
    · show f2 48 9 = _
      rw [fr.2 9 (by omega)]; exact v9
  have ih : jAs l n T Ln P (6 * Ln + 3) (2 * Ln + 2) := (kX5_readsA (Nat.le_refl _) _).2
  refine jx_mP (jr_lr rfl) rfl (jA_i (jA_i jA_0 jv_ci) jv_ci) (ih (o := 0) (b := 0) hA (by simp) (by omega) (by omega) (by omega) (fun r er f3 w3 => ⟨_, rfl, fun _ => ?_⟩))
  have w7 : f3 48 7 = 1 := (w3.1.2 7 (by omega)).trans ((fr.2 7 (by omega)).trans v7)
  refine q r f3 er ⟨jfr_tr fr1 (jfr_tr (jfr_sub fr.1 (by simp)) w3.1.1), w7⟩ ?_
  have := w3.2
  rw [show (if r.1 = 0 then 0 else r.1) = r.1 by split <;> omega] at this
  exact this
