/-! what a reading of acts gives: mode 0 one act, mode 1 acts up to the sign e -/
def lfR (A : Nat) (K : Nat → Int) (cl : List Int) (r : nmR) : acR := (r.1, r.2.1, A, K, r.2.2, cl)
def acs (T : Nat → Int) (Ln kf : Nat) : Nat → Nat → Nat → Int → Nat → Nat → (Nat → Int) → (Nat → Int) → List Int → acR
  | 0, _, _, _, s, A, K, N, cl => (1, s, A, K, N, cl)
  | k + 1, m, o, e, s, A, K, N, cl =>
    if m = 0 then
      if akC T Ln s = -1 then (1, s, A, K, N, cl)
      else if A = 16 then (4, s, A, K, N, cl)
      else if akC T Ln s = 1 then lfR (A + 1) (upF K A (akC T Ln s)) cl (paR T Ln (7 * A) (nxS T Ln s) N)
      else if akC T Ln s = 2 then ptR T Ln kf (7 * A) o (nxS T Ln s) (A + 1) (upF K A (akC T Ln s)) N cl
      else if akC T Ln s = 3 then lfR (A + 1) (upF K A (akC T Ln s)) cl (nmP T Ln 59 (nms T Ln (7 * A) [(0, 2, 50), (1, 0, 99), (2, 0, 99)] (nxS T Ln s) N))
      else if akC T Ln s = 4 then lfR (A + 1) (upF K A (akC T Ln s)) cl (nmP T Ln 59 (nms T Ln (7 * A) [(0, 0, 99), (0 + 1, 0, 99), (0 + 2, 1, 99), (0 + 3, 1, 99)] (nxS T Ln s) N))
      else
        let r := nms T Ln (7 * A) [(0, 1, 9)] (nxS T Ln s) N
        if r.1 = 0 then
          if tkK T Ln r.2.1 = 123 then
            if 8 ≤ o then (3, r.2.1, A + 1, upF K A (akC T Ln s), r.2.2, cl)
            else
              let z := acs T Ln kf k 1 (o + 1) 125 (nxS T Ln r.2.1) (A + 1) (upF K A (akC T Ln s)) r.2.2 cl
              if z.1 = 0 then
                (if tkK T Ln z.2.1 = 125 then (0, nxS T Ln z.2.1, z.2.2.1, z.2.2.2.1, upF z.2.2.2.2.1 (7 * A + 1) (z.2.2.1 : Int), z.2.2.2.2.2) else (1, z.2.1, z.2.2.1, z.2.2.2.1, upF z.2.2.2.2.1 (7 * A + 1) (z.2.2.1 : Int), z.2.2.2.2.2))
              else z
          else (1, r.2.1, A + 1, upF K A (akC T Ln s), r.2.2, cl)
        else (r.1, r.2.1, A + 1, upF K A (akC T Ln s), r.2.2, cl)
    else if tkK T Ln s = e then (0, s, A, K, N, cl)
    else
      let z := acs T Ln kf k 0 o 0 s A K N cl
      if z.1 = 0 then acs T Ln kf k 1 o e z.2.1 z.2.2.1 z.2.2.2.1 z.2.2.2.2.1 z.2.2.2.2.2 else z
theorem nmP_b {T : Nat → Int} {Ln s : Nat} {v : Int} {r : nmR} (h : s ≤ r.2.1 ∧ r.2.1 ≤ Ln) : s ≤ (nmP T Ln v r).2.1 ∧ (nmP T Ln v r).2.1 ≤ Ln := by
  have nb := nxS_b (T := T) h.2
  unfold nmP
  split
  · split <;> dsimp only <;> omega
  · exact h
theorem paR_b {T : Nat → Int} {Ln b s : Nat} {N : Nat → Int} (hs : s ≤ Ln) : s ≤ (paR T Ln b s N).2.1 ∧ (paR T Ln b s N).2.1 ≤ Ln := by
  have b1 := nms_b (T := T) (b := b) [(0, 0, 4), (1, 0, 99), (1 + 1, 0, 99), (1 + 2, 1, 99), (1 + 3, 1, 99)] s N hs
  unfold paR
  dsimp only
  generalize nms T Ln b [(0, 0, 4), (1, 0, 99), (1 + 1, 0, 99), (1 + 2, 1, 99), (1 + 3, 1, 99)] s N = r at b1 ⊢
  have nb := nxS_b (T := T) b1.2
  split
  · split
    · have b2 := nmP_b (T := T) (v := 59) (nms_b (T := T) (b := b) [(5, 0, 99), (6, 0, 99)] (nxS T Ln r.2.1) r.2.2 nb.2.1)
      omega
    · exact b1
  · exact b1
theorem ptR_b {T : Nat → Int} {Ln k b o s A : Nat} {K N : Nat → Int} {cl : List Int} (hs : s ≤ Ln) (hc : cl.length ≤ s) : s ≤ (ptR T Ln k b o s A K N cl).2.1 ∧ (ptR T Ln k b o s A K N cl).2.1 ≤ Ln ∧ (ptR T Ln k b o s A K N cl).2.2.2.2.2.length ≤ (ptR T Ln k b o s A K N cl).2.1 ∧ (ptR T Ln k b o s A K N cl).2.2.1 = A := by
  have b1 := nms_b (T := T) (b := b) [(0, 0, 99), (0 + 1, 0, 99), (0 + 2, 1, 99), (0 + 3, 1, 99)] s N hs
  unfold ptR
  dsimp only
  generalize nms T Ln b [(0, 0, 99), (0 + 1, 0, 99), (0 + 2, 1, 99), (0 + 3, 1, 99)] s N = r at b1 ⊢
  have pb := prs_b (T := T) (Ln := Ln) k 2 o r.2.1 b1.2
  generalize prs T Ln k 2 o r.2.1 = p at pb ⊢
  have nb := nxS_b (T := T) pb.2.1
  split
  · split
    · split <;> refine ⟨?_, ?_, ?_, rfl⟩ <;> (try dsimp only) <;> (try rw [List.length_append]) <;> omega
    · refine ⟨?_, ?_, ?_, rfl⟩ <;> (try dsimp only) <;> (try rw [List.length_append]) <;> omega
  · refine ⟨?_, ?_, ?_, rfl⟩ <;> (try dsimp only) <;> omega
