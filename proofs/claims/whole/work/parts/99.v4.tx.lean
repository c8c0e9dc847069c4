theorem tx_wf {T K N C : Nat → Int} {Ln : Nat} {R : acR} (hL : Ln ≤ 300) (hR : R = txA T Ln K N) (h : R.1 = 0) (hC : ∀ j, j < R.2.2.2.2.2.length → C j = R.2.2.2.2.2.getD j 0) : (∃ Dp, wfP R.2.2.1 R.2.2.2.1 R.2.2.2.2.1 C Dp) ∧ ∀ a, a < R.2.2.1 → R.2.2.2.1 a = 2 → 0 ≤ R.2.2.2.2.1 (7 * a + 4) ∧ R.2.2.2.2.1 (7 * a + 5) ≤ (R.2.2.2.2.2.length : Int) := by
  have sb : tkS T Ln 0 ≤ Ln := (rnE_b (p := blk) (T := T) (Ln := Ln) 0).2.1 (by omega)
  unfold txA at hR
  have w := acs_w (T := T) (Ln := Ln) (kf := 6 * Ln + 3) hL (2 * Ln + 2) 1 0 0 (tkS T Ln 0) 0 K N [] (by omega) sb (by simp) (by omega) (by omega)
  have zb := acs_b (T := T) (Ln := Ln) (kf := 6 * Ln + 3) (2 * Ln + 2) 1 0 0 (tkS T Ln 0) 0 K N [] sb (by simp) (by omega)
  rw [← hR] at w zb
  obtain ⟨_, _, _, _, Dp, w5⟩ := w h
  refine ⟨⟨Dp, zb.2.2.2.2.1, fun a ha => ?_⟩, fun a ha k => ?_⟩
  · obtain ⟨_, ⟨h0, h1, h2, h3, h4, h5⟩, h6⟩ := w5 a (by omega) ha
    refine ⟨h0, h1, fun k => ?_, h3, h4, h5⟩
    obtain ⟨g1, g2, g3, g4⟩ := h2 k
    have g6 := h6 k
    exact ⟨g1, g2, g3, wfC_c (fun i hi => hC i (by omega)) g4⟩
  · obtain ⟨_, ⟨h0, h1, h2, h3, h4, h5⟩, h6⟩ := w5 a (by omega) ha
    exact ⟨(h2 k).2.1, h6 k⟩
theorem tx_m {K N C : Nat → Int} {A t : Nat} {cl : List Int} {f : Nat → Nat → Int} (h1 : f 93 (1000 * t) = (A : Int)) (h2 : txR (f 93) (1000 * t) A K N []) (h3 : cdR (1000 * t) cl f) (hC : ∀ j, j < cl.length → C j = cl.getD j 0) (hb : ∀ a, a < A → K a = 2 → 0 ≤ N (7 * a + 4) ∧ N (7 * a + 5) ≤ (cl.length : Int)) : mTx t A K N C (f 93) := by
  refine ⟨h1, h2, fun a ha k i i1 i2 => ?_⟩
  have b := hb a ha k
  have c := h3 i (by omega)
  rw [← hC i (by omega)] at c
  exact c
/-- the same acts with another table of kinds and numbers behind them do the same -/
theorem doT_px {px px' : Int → LT} {p w g : Int} {A : Nat} {K N C : Nat → Int} {lt : LT} (h : px = px') : doT px p A K N C w g lt = doT px' p A K N C w g lt := by rw [h]
