/-! the reference while it reads an act: act a, c numbers read, its texts X -/
def raF (t0 : Nat) (I f : Nat → Nat → Int) : Prop := jfr [90, 93, 98] I f ∧ (∀ j, j < 19 ∨ j = 24 ∨ 33 < j → f 90 j = I 90 j) ∧ ∀ i, i < t0 ∨ t0 + 1000 ≤ i → f 93 i = I 93 i
theorem raF_rf {t0 : Nat} {I : Nat → Nat → Int} : raF t0 I I := ⟨jfr_rf _ _, fun _ _ => rfl, fun _ _ => rfl⟩
theorem raF_tr {t0 : Nat} {I f g : Nat → Nat → Int} (a : raF t0 I f) (b : raF t0 f g) : raF t0 I g := ⟨jfr_tr a.1 b.1, fun j hj => (b.2.1 j hj).trans (a.2.1 j hj), fun i hi => (b.2.2 i hi).trans (a.2.2 i hi)⟩
theorem raF_nf {t0 : Nat} {I f : Nat → Nat → Int} (a : jnf I f) : raF t0 I f := ⟨jfr_sub a.1 (by simp), fun j hj => a.2 j (by omega), fun i _ => by rw [a.1 93 (by simp)]⟩
theorem raF_sm {t0 c : Nat} {I f : Nat → Nat → Int} (a : smF t0 c I f) : raF t0 I f := ⟨a.1, fun j hj => a.2.1 j (by omega), fun i hi => a.2.2 i (by omega)⟩
theorem raB_o {T : Nat → Int} {Ln t0 s O : Nat} {w : List Int} {h : ja_H} {f : Nat → Nat → Int} (hB : raB T Ln t0 s w O h) (hf : ∀ j, (j = 16 ∨ (19 ≤ j ∧ j ≤ 22) ∨ j = 24 ∨ j = 26 ∨ j = 30) → f 90 j = h.2.1 90 j) (h97 : f 97 = h.2.1 97) (h93 : ∀ i, t0 + 200 ≤ i → f 93 i = h.2.1 93 i) : raB T Ln t0 s w O (h.1, f, h.2.2) := by
  obtain ⟨hG, ⟨a1, a2, a3, a4⟩, hs, hk, ⟨b1, b2⟩, ⟨c1, c3⟩, hc⟩ := hB
  exact ⟨hG, ⟨(hf _ (by omega)).trans a1, a2, h97.trans a3, a4⟩, hs, tkP_o hk (fun j _ _ => hf _ (by omega)), ⟨(hf _ (by omega)).trans b1, b2⟩, ⟨(hf _ (by omega)).trans c1, (hf _ (by omega)).trans c3⟩, fun j hj => ⟨(h93 _ (by omega)).trans (hc j hj).1, (h93 _ (by omega)).trans (hc j hj).2⟩⟩
theorem kX12_nextB {l : Launch} {d n Ln t0 s O : Nat} {T : Nat → Int} {w : List Int} {h : ja_H} {Q : ja_Q} (hB : raB T Ln t0 s w O h) (q : ∀ f g, jnf h.2.1 f → jnl h.2.2 g → raB T Ln t0 (nxS T Ln s) w O (h.1, f, g) → Q none (h.1, f, g)) : ja_C l (d + 3) mX12_nextToken (js_sh n) [.inr (.inr (some 90))] h Q := by
  obtain ⟨hG, ⟨hL, hL3, hT, hb⟩, hs, hk, ⟨b1, b2⟩, ⟨c1, c3⟩, hc⟩ := id hB
  refine kX12_nextToken hG hL hL3 hT hb hk.1 (tkE_b hs).2.1 fun f g fr gr ft => ?_
  have o : ∀ c j, (c ≠ 90 ∨ j < 19 ∨ 22 < j) → f c j = h.2.1 c j := fun c j y => by
    by_cases z : c = 90
    · subst z; exact fr.2 j (by omega)
    · rw [fr.1 c (by simpa using z)]
  exact q f g fr gr ⟨hG, ⟨(o _ _ (by omega)).trans hL, hL3, by rw [← hT]; funext j; exact o _ _ (by omega), hb⟩, (nxS_b hs).2.1, ft, ⟨(o _ _ (by omega)).trans b1, b2⟩, ⟨(o _ _ (by omega)).trans c1, (o _ _ (by omega)).trans c3⟩, fun j hj => ⟨(o _ _ (by omega)).trans (hc j hj).1, (o _ _ (by omega)).trans (hc j hj).2⟩⟩
def raA (T : Nat → Int) (Ln t0 s a c : Nat) (w : List Int) (O : Nat) (X : Nat → Int) (h : ja_H) : Prop := raB T Ln t0 s w O h ∧ a < 16 ∧ h.2.1 90 32 = ((t0 + 1 + 12 * a : Nat) : Int) ∧ h.2.1 90 33 = (c : Int) ∧ h.2.1 93 = X
def raN (T : Nat → Int) (Ln t0 a c : Nat) (w : List Int) (O : Nat) (r : nmR) (h : ja_H) : Prop := raB T Ln t0 r.2.1 w O h ∧ (r.1 = 0 → raA T Ln t0 r.2.1 a c w O r.2.2 h)
set_option maxRecDepth 10000 in
theorem kX12_number {l : Launch} {d : Nat} {h : ja_H} {Q : ja_Q} {T X : Nat → Int} {n Ln t0 s a c O : Nat} {w : List Int} (hA : raA T Ln t0 s a c w O X h) {lo hi : Int} (hc7 : c < 7) (hhi : hi ≤ 999) (q : ∀ r f g, r = nms T Ln (t0 + 1 + 12 * a) [(c + 1, lo, hi)] s X → raF t0 h.2.1 f → jnl h.2.2 g → raN T Ln t0 a (c + 1) w O r (h.1, f, g) → Q (some (.inl r.1)) (h.1, f, g)) : ja_C l (d + 4) mX12_number (js_sh n) [.inr (.inr (some (90))), .inl (lo), .inl (hi)] h Q := by
  obtain ⟨hB, ha, h32, h33, hX⟩ := id hA
  obtain ⟨hG, ⟨hL, hL3, hT, hb⟩, hs, hk, ⟨h24, ht0⟩, ⟨h26, h30⟩, hc⟩ := id hB
  obtain ⟨_, _, k3, k4, _⟩ := id hk
  have nb := nxS_b (T := T) hs
  refine eX12_number _ _ _ fun r_low r_top ho => ?_
  unfold bX12_number
  unfold ja_r at r_low r_top
  refine jb_if_d (φ := ¬ tkK T Ln s = 2) (jd_eq (jd_ne (jv_gF (jr_lr rfl) rfl k3) jv_ci) (by rw [Ne, tkM_1])) (fun c1 => ?_) (fun c1 => ?_)
  · refine jt_rI jv_ci ?_
    exact q (1, s, X) h.2.1 h.2.2 (by rw [nms, if_neg c1]) raF_rf (jnl_rf _) ⟨hB, fun y => absurd (show (1 : Int) = 0 from y) (by decide)⟩
  · have c1 := Classical.not_not.mp c1
    have vr := tkV_R c1
    have k5 := k4 c1
    refine jb_if_d (φ := ¬ (lo ≤ tkV T s (tkE T Ln s - s) ∧ tkV T s (tkE T Ln s - s) ≤ hi)) (jd_eq (jd_not (jd_b (jy_sI (jA_i (jA_i (jA_i jA_0 (jv_gF (jr_lr rfl) rfl k5)) (jv_li rfl)) (jv_li rfl)) fun _ => kX12_isIn))) (by omega)) (fun c2 => ?_) (fun c2 => ?_)
    · refine jt_rI jv_ci ?_
      exact q (2, s, X) h.2.1 h.2.2 (by rw [nms, if_pos c1, if_neg c2]) raF_rf (jnl_rf _) ⟨hB, fun y => absurd (show (2 : Int) = 0 from y) (by decide)⟩
    · have c2 := Classical.not_not.mp c2
      refine jt_uG (w := ((c + 1 : Nat) : Int)) (jr_lr rfl) (by first | rfl | assumption) jv_ci (by (try dsimp only); rw [h33, ja_w_id (by unfold ja_r; omega)]; omega) ?_
      try dsimp only
      have f32 : ja_up h.2.1 90 33 ((c + 1 : Nat) : Int) 90 32 = ((t0 + 1 + 12 * a : Nat) : Int) := by rw [ja_upO (by omega)]; exact h32
      have f33 : ja_up h.2.1 90 33 ((c + 1 : Nat) : Int) 90 33 = ((c + 1 : Nat) : Int) := ja_upE rfl rfl
      have f22 : ja_up h.2.1 90 33 ((c + 1 : Nat) : Int) 90 22 = tkR T s (tkE T Ln s - s) := by rw [ja_upO (by omega)]; exact k5
      refine jt_wI (jr_g (jr_lr rfl) rfl (by exact jG_90 hG rfl)) rfl (jv_w (jv_add (jv_gF (jr_lr rfl) rfl f32) (jv_gF (jr_lr rfl) rfl f33)) (by unfold ja_r; omega)) (jv_gF (jr_lr rfl) rfl f22) (by omega) (by omega) ?_
      dsimp only
      rw [show (((t0 + 1 + 12 * a : Nat) : Int) + ((c + 1 : Nat) : Int)).toNat = t0 + 1 + 12 * a + (c + 1) by omega]
      obtain ⟨f1, hf1⟩ : ∃ f1, ja_up (ja_up h.2.1 90 33 ((c + 1 : Nat) : Int)) 93 (t0 + 1 + 12 * a + (c + 1)) (tkR T s (tkE T Ln s - s)) = f1 := ⟨_, rfl⟩
      have o : ∀ c' j, (c' ≠ 90 ∨ j ≠ 33) → (c' ≠ 93 ∨ j ≠ t0 + 1 + 12 * a + (c + 1)) → f1 c' j = h.2.1 c' j := fun c' j y z => by rw [← hf1, ja_upO z, ja_upO y]
      have e33 : f1 90 33 = ((c + 1 : Nat) : Int) := by rw [← hf1, ja_upO (by omega), ja_upE rfl rfl]
      have e93 : f1 93 = upF X (t0 + 1 + 12 * a + (c + 1)) (tkV T s (tkE T Ln s - s)) := by
        funext j
        unfold upF
        split
        · rename_i y; rw [← hf1, ja_upE rfl y]; omega
        · rw [o _ _ (by omega) (by omega), hX]
      have fr1 : raF t0 h.2.1 f1 := ⟨by rw [← hf1]; exact jfr_up (jfr_up (jfr_rf _ _) (by simp)) (by simp), fun j hj => o _ _ (by omega) (by omega), fun i hi => o _ _ (by omega) (by omega)⟩
      have hB1 : raB T Ln t0 s w O (h.1, f1, h.2.2) := raB_o hB (fun j hj => o _ _ (by omega) (by omega)) (by funext j; exact o _ _ (by omega) (by omega)) (fun i hi => o _ _ (by omega) (by omega))
      rw [hf1]
      refine jx_m (jr_lr rfl) (by first | rfl | assumption) jA_0 (kX12_nextB hB1 fun f2 g2 fr2 gr2 hB2 => ⟨rfl, ?_⟩)
      skip
      refine jt_rI jv_ci ?_
      refine q (0, nxS T Ln s, upF X (t0 + 1 + 12 * a + (c + 1)) (tkV T s (tkE T Ln s - s))) f2 g2 (by rw [nms, if_pos c1, if_pos c2]; rfl) (raF_tr fr1 (raF_nf fr2)) gr2 ⟨hB2, fun _ => ⟨hB2, ha, ?_, ?_, ?_⟩⟩
      · exact (fr2.2 32 (by omega)).trans ((o _ _ (by omega) (by omega)).trans h32)
      · exact (fr2.2 33 (by omega)).trans e33
      · exact (fr2.1 93 (by simp)).trans e93
