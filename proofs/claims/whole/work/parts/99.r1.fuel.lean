/-! a sum read with fuel enough, and what is left to read behind it, as the reference's pile has it -/
theorem prB_as {a : prR} {w v : List Int} {b c : Nat → prR} : prB (prB a w b) v c = prB a w (fun t => prB (b t) v c) := by
  unfold prB
  by_cases h1 : a.1 = 0
  · simp only [if_pos h1]
    by_cases h2 : (b a.2.1).1 = 0
    · simp only [if_pos h2, List.append_assoc]
    · simp only [if_neg h2]
  · simp only [if_neg h1]
theorem prB_0 {s : Nat} {w v : List Int} {b : Nat → prR} : prB (0, s, w) v b = ((b s).1, (b s).2.1, w ++ v ++ (b s).2.2) := if_pos rfl
theorem prB_f {a : prR} {v : List Int} {b : Nat → prR} (h : a.1 ≠ 0) : prB a v b = a := if_neg h
theorem prB_cg {a a' : prR} {w : List Int} {b b' : Nat → prR} (h : a = a') (g : a'.1 = 0 → b a'.2.1 = b' a'.2.1) : prB a w b = prB a' w b' := by
  subst h
  unfold prB
  by_cases z : a.1 = 0
  · rw [if_pos z, if_pos z, g z]
  · rw [if_neg z, if_neg z]
def pw (m : Nat) : Nat := if m = 1 then 2 else if m = 2 then 3 else 1
theorem prs_fu {T : Nat → Int} {Ln : Nat} : ∀ k k' m o s, s ≤ Ln → 6 * (Ln - s) + pw m ≤ k → 6 * (Ln - s) + pw m ≤ k' → prs T Ln k m o s = prs T Ln k' m o s
  | 0, k', m, o, s, hs, h1, h2 => by unfold pw at h1; split at h1 <;> (try split at h1) <;> omega
  | k + 1, 0, m, o, s, hs, h1, h2 => by unfold pw at h2; split at h2 <;> (try split at h2) <;> omega
  | k + 1, k' + 1, m, o, s, hs, h1, h2 => by
    have ih := prs_fu (T := T) (Ln := Ln) k k'
    have nb := nxS_b (T := T) hs
    have k0 : tkK T Ln s ≠ 0 → s < nxS T Ln s := fun y => nb.2.2 (tkK_0 y)
    have bs := fun k m o => prs_b (T := T) (Ln := Ln) k m o s hs
    have bn := fun k m o => prs_b (T := T) (Ln := Ln) k m o (nxS T Ln s) nb.2.1
    have w0 : pw 0 = 1 := rfl
    have w1 : pw 1 = 2 := rfl
    have w2 : pw 2 = 3 := rfl
    have w3 : pw 3 = 1 := rfl
    have w4 : pw 4 = 1 := rfl
    have pw1 : 1 ≤ pw m := by unfold pw; split <;> (try split) <;> omega
    rw [prs, prs]
    by_cases m0 : m = 0
    · rw [if_pos m0, if_pos m0]
      split
      · rfl
      · split
        · rfl
        · split
          · rename_i c
            have := k0 (by omega)
            split
            · rfl
            · exact prB_cg (ih 2 (o + 1) _ nb.2.1 (by omega) (by omega)) (fun _ => rfl)
          · split
            · rename_i c
              have := k0 (by omega)
              split
              · rfl
              · exact prB_cg (ih 0 (o + 1) _ nb.2.1 (by omega) (by omega)) (fun _ => rfl)
            · rfl
    · rw [if_neg m0, if_neg m0]
      by_cases m1 : m = 1
      · rw [if_pos m1, if_pos m1]
        subst m1
        have := bs k' 0 o
        exact prB_cg (ih 0 o s hs (by omega) (by omega)) (fun _ => ih 3 o _ (by omega) (by omega) (by omega))
      · rw [if_neg m1, if_neg m1]
        by_cases m2 : m = 2
        · rw [if_pos m2, if_pos m2]
          subst m2
          have := bs k' 1 o
          exact prB_cg (ih 1 o s hs (by omega) (by omega)) (fun _ => ih 4 o _ (by omega) (by omega) (by omega))
        · rw [if_neg m2, if_neg m2]
          split
          · split
            · rename_i c
              have := k0 (by omega)
              have := bn k' 0 o
              exact prB_cg (ih 0 o _ nb.2.1 (by omega) (by omega)) (fun _ => ih 3 o _ (by omega) (by omega) (by omega))
            · rfl
          · split
            · rename_i c
              have := k0 (by omega)
              have := bn k' 1 o
              exact prB_cg (ih 1 o _ nb.2.1 (by omega) (by omega)) (fun _ => ih 4 o _ (by omega) (by omega) (by omega))
            · rfl
/-- with fuel enough -/
def pr (T : Nat → Int) (Ln m o s : Nat) : prR := prs T Ln (6 * Ln + 3) m o s
theorem pr_s {T : Nat → Int} {Ln m o s : Nat} (hs : s ≤ Ln) : pr T Ln m o s = prs T Ln (6 * Ln + 3 + 1) m o s := by
  have : pw m ≤ 3 := by unfold pw; split <;> (try split) <;> omega
  exact prs_fu _ _ m o s hs (by omega) (by omega)
def cls (T : Nat → Int) (Ln t : Nat) : prR := if tkK T Ln t = 41 then (0, nxS T Ln t, []) else (1, t, [])
theorem pr_1 {T : Nat → Int} {Ln o s : Nat} (hs : s ≤ Ln) : pr T Ln 1 o s = prB (pr T Ln 0 o s) [] (pr T Ln 3 o) := by rw [pr_s hs, prs]; rfl
theorem pr_2 {T : Nat → Int} {Ln o s : Nat} (hs : s ≤ Ln) : pr T Ln 2 o s = prB (pr T Ln 1 o s) [] (pr T Ln 4 o) := by rw [pr_s hs, prs]; rfl
theorem pr_3 {T : Nat → Int} {Ln o s : Nat} (hs : s ≤ Ln) : pr T Ln 3 o s = if tkK T Ln s = 42 ∨ tkK T Ln s = 47 then prB (pr T Ln 0 o (nxS T Ln s)) [if tkK T Ln s = 42 then 1008 else 1009] (pr T Ln 3 o) else (0, s, []) := by rw [pr_s hs, prs]; rfl
theorem pr_4 {T : Nat → Int} {Ln o s : Nat} (hs : s ≤ Ln) : pr T Ln 4 o s = if tkK T Ln s = 43 ∨ tkK T Ln s = 45 then prB (pr T Ln 1 o (nxS T Ln s)) [if tkK T Ln s = 43 then 1006 else 1007] (pr T Ln 4 o) else (0, s, []) := by rw [pr_s hs, prs]; rfl
theorem pr_00 {T : Nat → Int} {Ln o s : Nat} (hs : s ≤ Ln) : pr T Ln 0 o s =
      if tkK T Ln s = 2 then (if 999 < tkV T s (tkE T Ln s - s) then (2, s, []) else (0, nxS T Ln s, [tkV T s (tkE T Ln s - s)]))
      else if tkK T Ln s = 1 then (if nmC T Ln s = -1 then (1, s, []) else (0, nxS T Ln s, [1000 + nmC T Ln s]))
      else if tkK T Ln s = 40 then (if 8 ≤ o then (3, s, []) else prB (pr T Ln 2 (o + 1) (nxS T Ln s)) [] (cls T Ln))
      else if tkK T Ln s = 45 then (if 8 ≤ o then (3, s, []) else prB (pr T Ln 0 (o + 1) (nxS T Ln s)) [1010] fun t => (0, t, []))
      else (1, s, []) := by rw [pr_s hs, prs]; rfl
/-- how many stand open on a pile -/
def oc : List Int → Nat
  | [] => 0
  | x :: p => (if x = 2 ∨ x = 40 then 1 else 0) + oc p
/-- what is to be read behind a one (0), a product (1), a sum (2), over a pile -/
def cn (T : Nat → Int) (Ln D : Nat) : Nat → List Int → prR → prR
  | m, [], r => if m = 0 then prB (prB r [] (pr T Ln 3 D)) [] (pr T Ln 4 D) else if m = 1 then prB r [] (pr T Ln 4 D) else r
  | m, x :: p, r =>
    if x = 2 then cn T Ln D 0 p (prB r [1010] fun t => (0, t, []))
    else if x = 5 ∨ x = 6 then cn T Ln D 1 p (prB r [x + 1003] (pr T Ln 3 (D + oc (x :: p))))
    else if x = 3 ∨ x = 4 then cn T Ln D 2 p (prB (if m = 0 then prB r [] (pr T Ln 3 (D + oc (x :: p))) else r) [x + 1003] (pr T Ln 4 (D + oc (x :: p))))
    else cn T Ln D 0 p (prB (if m = 0 then prB (prB r [] (pr T Ln 3 (D + oc (x :: p)))) [] (pr T Ln 4 (D + oc (x :: p))) else if m = 1 then prB r [] (pr T Ln 4 (D + oc (x :: p))) else r) [] (cls T Ln))
theorem cn_f {T : Nat → Int} {Ln D : Nat} : ∀ m p r, r.1 ≠ 0 → cn T Ln D m p r = r
  | m, [], r, h => by simp only [cn, prB_f h]; split <;> (try split) <;> rfl
  | m, x :: p, r, h => by
    have ih := fun m => cn_f (T := T) (Ln := Ln) (D := D) m p r h
    simp only [cn, prB_f h, ite_self]
    split
    · exact ih _
    · split
      · exact ih _
      · split <;> exact ih _
/-- piles as they come -/
def pOk : Nat → List Int → Prop
  | _, [] => True
  | m, x :: p => (x = 40 ∧ pOk 0 p) ∨ ((x = 3 ∨ x = 4) ∧ m ≤ 1 ∧ pOk 2 p) ∨ ((x = 5 ∨ x = 6) ∧ m = 0 ∧ pOk 1 p) ∨ (x = 2 ∧ m = 0 ∧ pOk 0 p)
theorem pOk_0 : ∀ {m p}, pOk m p → pOk 0 p
  | _, [], _ => trivial
  | m, x :: p, h => by
    rcases h with h | ⟨h1, h2, h3⟩ | ⟨h1, h2, h3⟩ | ⟨h1, h2, h3⟩
    · exact Or.inl h
    · exact Or.inr (Or.inl ⟨h1, by omega, h3⟩)
    · exact Or.inr (Or.inr (Or.inl ⟨h1, rfl, h3⟩))
    · exact Or.inr (Or.inr (Or.inr ⟨h1, rfl, h3⟩))
theorem pOk_1 : ∀ {p}, pOk 2 p → pOk 1 p
  | [], _ => trivial
  | x :: p, h => by
    rcases h with h | ⟨h1, h2, h3⟩ | ⟨h1, h2, h3⟩ | ⟨h1, h2, h3⟩
    · exact Or.inl h
    all_goals omega
theorem pOk_l : ∀ {m p}, pOk m p → m ≤ 2 → p.length + m ≤ 3 * oc p + 2
  | m, [], h, hm => by simp only [List.length_nil, oc]; omega
  | m, x :: p, h, hm => by
    simp only [List.length_cons, oc]
    rcases h with ⟨rfl, h⟩ | ⟨h1, h2, h3⟩ | ⟨h1, h2, h3⟩ | ⟨rfl, h2, h3⟩
    · have := pOk_l h (by omega)
      simp; omega
    · have := pOk_l h3 (by omega)
      omega
    · have := pOk_l h3 (by omega)
      omega
    · have := pOk_l h3 (by omega)
      simp; omega
