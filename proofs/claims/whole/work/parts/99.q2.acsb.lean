theorem akC_k {T : Nat → Int} {Ln s : Nat} (h : ¬ akC T Ln s = -1) : tkK T Ln s = 1 := by
  by_cases z : tkK T Ln s = 1
  · exact z
  · exfalso
    apply h
    unfold akC
    rw [if_neg (tkW_k z), if_neg (tkW_k z), if_neg (tkW_k z), if_neg (tkW_k z), if_neg (tkW_k z)]
def acB (Ln s A m : Nat) (r : acR) : Prop := s ≤ r.2.1 ∧ r.2.1 ≤ Ln ∧ r.2.2.2.2.2.length ≤ r.2.1 ∧ A ≤ r.2.2.1 ∧ r.2.2.1 ≤ 16 ∧ (m = 0 → r.1 = 0 → s < r.2.1 ∧ A < r.2.2.1)
theorem acB_lf {Ln s t A m : Nat} {K : Nat → Int} {cl : List Int} {r : nmR} (hr : t ≤ r.2.1 ∧ r.2.1 ≤ Ln) (hs : s < t) (hc : cl.length ≤ s) (hA : A < 16) : acB Ln s A m (lfR (A + 1) K cl r) := by
  unfold acB lfR
  dsimp only
  omega
theorem acs_b {T : Nat → Int} {Ln kf : Nat} : ∀ k m o e s A K N cl, s ≤ Ln → cl.length ≤ s → A ≤ 16 → acB Ln s A m (acs T Ln kf k m o e s A K N cl)
  | 0, m, o, e, s, A, K, N, cl, hs, hc, hA => by
    rw [acs]
    exact ⟨Nat.le_refl _, hs, hc, Nat.le_refl _, hA, fun _ y => absurd y (by decide)⟩
  | k + 1, m, o, e, s, A, K, N, cl, hs, hc, hA => by
    have nb := nxS_b (T := T) hs
    rw [acs]
    split
    · split
      · exact ⟨Nat.le_refl _, hs, hc, Nat.le_refl _, hA, fun _ y => absurd y (by decide)⟩
      · rename_i c1
        have sl := nb.2.2 (tkK_0 (by rw [akC_k c1]; decide))
        split
        · exact ⟨Nat.le_refl _, hs, hc, Nat.le_refl _, hA, fun _ y => absurd y (by decide)⟩
        · rename_i c2
          split
          · exact acB_lf (paR_b nb.2.1) sl hc (by omega)
          · split
            · have := ptR_b (T := T) (Ln := Ln) (k := kf) (b := 7 * A) (o := o) (A := A + 1) (K := upF K A (akC T Ln s)) (N := N) (cl := cl) nb.2.1 (by omega)
              unfold acB
              omega
            · split
              · exact acB_lf (nmP_b (nms_b _ _ _ nb.2.1)) sl hc (by omega)
              · split
                · exact acB_lf (nmP_b (nms_b _ _ _ nb.2.1)) sl hc (by omega)
                · have b1 := nms_b (T := T) (b := 7 * A) [(0, 1, 9)] (nxS T Ln s) N nb.2.1
                  dsimp only
                  generalize nms T Ln (7 * A) [(0, 1, 9)] (nxS T Ln s) N = r at b1 ⊢
                  have n1 := nxS_b (T := T) b1.2
                  split
                  · split
                    · split
                      · unfold acB; dsimp only; omega
                      · have ih := acs_b (T := T) (Ln := Ln) (kf := kf) k 1 (o + 1) 125 (nxS T Ln r.2.1) (A + 1) (upF K A (akC T Ln s)) r.2.2 cl n1.2.1 (by omega) (by omega)
                        generalize acs T Ln kf k 1 (o + 1) 125 (nxS T Ln r.2.1) (A + 1) (upF K A (akC T Ln s)) r.2.2 cl = z at ih ⊢
                        obtain ⟨i1, i2, i3, i4, i5, _⟩ := ih
                        have n2 := nxS_b (T := T) i2
                        split
                        · split <;> (unfold acB; dsimp only; omega)
                        · unfold acB; omega
                    · unfold acB; dsimp only; omega
                  · unfold acB; dsimp only; omega
    · rename_i hm
      split
      · exact ⟨Nat.le_refl _, hs, hc, Nat.le_refl _, hA, fun y => absurd y hm⟩
      · have ih := acs_b (T := T) (Ln := Ln) (kf := kf) k 0 o 0 s A K N cl hs hc hA
        dsimp only
        generalize acs T Ln kf k 0 o 0 s A K N cl = z at ih ⊢
        obtain ⟨i1, i2, i3, i4, i5, i6⟩ := ih
        split
        · obtain ⟨j1, j2, j3, j4, j5, _⟩ := acs_b (T := T) (Ln := Ln) (kf := kf) k 1 o e z.2.1 z.2.2.1 z.2.2.2.1 z.2.2.2.2.1 z.2.2.2.2.2 i2 i3 i5
          exact ⟨by omega, j2, j3, by omega, j5, fun y => absurd y hm⟩
        · exact ⟨i1, i2, i3, i4, i5, fun y => absurd y hm⟩
