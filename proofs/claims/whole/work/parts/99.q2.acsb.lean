theorem akC_k {T : Nat → Int} {Ln s : Nat} (h : ¬ akC T Ln s = -1) : tkK T Ln s = 1 := by
  by_cases z : tkK T Ln s = 1
  · exact z
  · exfalso
    apply h
    unfold akC
    rw [if_neg (tkW_k z), if_neg (tkW_k z), if_neg (tkW_k z), if_neg (tkW_k z), if_neg (tkW_k z)]
def acB (Ln s A m : Nat) (r : acR) : Prop := s ≤ r.2.1 ∧ r.2.1 ≤ Ln ∧ r.2.2.2.2.2.length ≤ r.2.1 ∧ A ≤ r.2.2.1 ∧ r.2.2.1 ≤ 16 ∧ (m = 0 → r.1 = 0 → s < r.2.1 ∧ A < r.2.2.1)
theorem acB_lf {Ln s t A m : Nat} {K : Nat → Int} {cl : List Int} {r : nmR} (hr : t ≤ r.2.1 ∧ r.2.1 ≤ Ln) (hs : s < t) (hc : cl.length ≤ s) (hA : A < 16) : acB Ln s A m (lfR (A + 1) K cl r) := by
  unfold acB lfR
  dsimp only
  omega
theorem acB_x {Ln s A m v : Nat} {K N : Nat → Int} {cl : List Int} (hv : v ≠ 0) (hs : s ≤ Ln) (hc : cl.length ≤ s) (hA : A ≤ 16) : acB Ln s A m ((v : Int), s, A, K, N, cl) := ⟨Nat.le_refl _, hs, hc, Nat.le_refl _, hA, fun _ y => by have y : (v : Int) = 0 := y; omega⟩
theorem acs_b {T : Nat → Int} {Ln kf : Nat} : ∀ k m o e s A K N cl, s ≤ Ln → cl.length ≤ s → A ≤ 16 → acB Ln s A m (acs T Ln kf k m o e s A K N cl)
  | 0, m, o, e, s, A, K, N, cl, hs, hc, hA => by
    rw [acs]
    exact acB_x (v := 1) (by decide) hs hc hA
  | k + 1, m, o, e, s, A, K, N, cl, hs, hc, hA => by
    have nb := nxS_b (T := T) hs
    rw [acs]
    by_cases hm : m = 0
    · rw [if_pos hm]
      by_cases c1 : akC T Ln s = -1
      · rw [if_pos c1]; exact acB_x (v := 1) (by decide) hs hc hA
      rw [if_neg c1]
      have sl := nb.2.2 (tkK_0 (by rw [akC_k c1]; decide))
      by_cases c2 : A = 16
      · rw [if_pos c2]; exact acB_x (v := 4) (by decide) hs hc hA
      rw [if_neg c2]
      by_cases c3 : akC T Ln s = 1
      · rw [if_pos c3]; exact acB_lf (paR_b nb.2.1) sl hc (by omega)
      rw [if_neg c3]
      by_cases c4 : akC T Ln s = 2
      · rw [if_pos c4]
        have := ptR_b (T := T) (Ln := Ln) (k := kf) (b := 7 * A) (o := o) (A := A + 1) (K := upF K A (akC T Ln s)) (N := N) (cl := cl) nb.2.1 (by omega)
        unfold acB
        omega
      rw [if_neg c4]
      by_cases c5 : akC T Ln s = 3
      · rw [if_pos c5]; exact acB_lf (nmP_b (nms_b _ _ _ nb.2.1)) sl hc (by omega)
      rw [if_neg c5]
      by_cases c6 : akC T Ln s = 4
      · rw [if_pos c6]; exact acB_lf (nmP_b (nms_b _ _ _ nb.2.1)) sl hc (by omega)
      rw [if_neg c6]
      have b1 := nms_b (T := T) (b := 7 * A) [(0, 1, 9)] (nxS T Ln s) N nb.2.1
      dsimp only
      generalize nms T Ln (7 * A) [(0, 1, 9)] (nxS T Ln s) N = r at b1 ⊢
      have n1 := nxS_b (T := T) b1.2
      by_cases d1 : r.1 = 0
      · rw [if_pos d1]
        by_cases d2 : tkK T Ln r.2.1 = 123
        · rw [if_pos d2]
          by_cases d3 : 8 ≤ o
          · rw [if_pos d3]; unfold acB; dsimp only; omega
          · rw [if_neg d3]
            have ih := acs_b (T := T) (Ln := Ln) (kf := kf) k 1 (o + 1) 125 (nxS T Ln r.2.1) (A + 1) (upF K A (akC T Ln s)) r.2.2 cl n1.2.1 (by omega) (by omega)
            generalize acs T Ln kf k 1 (o + 1) 125 (nxS T Ln r.2.1) (A + 1) (upF K A (akC T Ln s)) r.2.2 cl = z at ih ⊢
            obtain ⟨i1, i2, i3, i4, i5, _⟩ := ih
            have n2 := nxS_b (T := T) i2
            by_cases d4 : z.1 = 0
            · rw [if_pos d4]
              by_cases d5 : tkK T Ln z.2.1 = 125
              · rw [if_pos d5]; unfold acB; dsimp only; omega
              · rw [if_neg d5]; unfold acB; dsimp only; omega
            · rw [if_neg d4]; unfold acB; omega
        · rw [if_neg d2]; unfold acB; dsimp only; omega
      · rw [if_neg d1]; unfold acB; dsimp only; omega
    · rw [if_neg hm]
      by_cases c1 : tkK T Ln s = e
      · rw [if_pos c1]
        exact ⟨Nat.le_refl _, hs, hc, Nat.le_refl _, hA, fun y => absurd y hm⟩
      · rw [if_neg c1]
        have ih := acs_b (T := T) (Ln := Ln) (kf := kf) k 0 o 0 s A K N cl hs hc hA
        dsimp only
        generalize acs T Ln kf k 0 o 0 s A K N cl = z at ih ⊢
        obtain ⟨i1, i2, i3, i4, i5, i6⟩ := ih
        by_cases d4 : z.1 = 0
        · rw [if_pos d4]
          obtain ⟨j1, j2, j3, j4, j5, _⟩ := acs_b (T := T) (Ln := Ln) (kf := kf) k 1 o e z.2.1 z.2.2.1 z.2.2.2.1 z.2.2.2.2.1 z.2.2.2.2.2 i2 i3 i5
          exact ⟨by omega, j2, j3, by omega, j5, fun y => absurd y hm⟩
        · rw [if_neg d4]
          exact ⟨i1, i2, i3, i4, i5, fun y => absurd y hm⟩
