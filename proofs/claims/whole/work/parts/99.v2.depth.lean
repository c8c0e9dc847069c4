/-! code that is read keeps its stack -/
def sdl : List Int → Nat → Option Nat
  | [], d => some d
  | c :: r, d => if c < 0 ∨ 1010 < c then none else if c < 1006 then (if d < 64 then sdl r (d + 1) else none) else if c = 1010 then (if 1 ≤ d then sdl r d else none) else (if 2 ≤ d then sdl r (d - 1) else none)
theorem sdl_a : ∀ (a b : List Int) (d : Nat), sdl (a ++ b) d = (sdl a d).bind (sdl b)
  | [], b, d => rfl
  | c :: r, b, d => by
    simp only [List.cons_append, sdl]
    by_cases c1 : c < 0 ∨ 1010 < c
    · rw [if_pos c1, if_pos c1]; rfl
    rw [if_neg c1, if_neg c1]
    by_cases c2 : c < 1006
    · rw [if_pos c2, if_pos c2]
      by_cases c3 : d < 64
      · rw [if_pos c3, if_pos c3]; exact sdl_a r b _
      · rw [if_neg c3, if_neg c3]; rfl
    rw [if_neg c2, if_neg c2]
    by_cases c4 : c = 1010
    · rw [if_pos c4, if_pos c4]
      by_cases c3 : 1 ≤ d
      · rw [if_pos c3, if_pos c3]; exact sdl_a r b _
      · rw [if_neg c3, if_neg c3]; rfl
    rw [if_neg c4, if_neg c4]
    by_cases c3 : 2 ≤ d
    · rw [if_pos c3, if_pos c3]; exact sdl_a r b _
    · rw [if_neg c3, if_neg c3]; rfl
theorem sdl_p {c : Int} {d : Nat} (h : 0 ≤ c ∧ c < 1006) (hd : d < 64) : sdl [c] d = some (d + 1) := by
  simp only [sdl]
  rw [if_neg (by omega), if_pos h.2, if_pos hd]
theorem sdl_b {c : Int} {d : Nat} (h : 1006 ≤ c ∧ c ≤ 1009) (hd : 2 ≤ d) : sdl [c] d = some (d - 1) := by
  simp only [sdl]
  rw [if_neg (by omega), if_neg (by omega), if_neg (by omega), if_pos hd]
def sdO (m d : Nat) : Nat := if m ≤ 2 then d + 1 else d
def sdB (m o d : Nat) : Prop := (if m = 1 then d + 2 * (8 - o) + 2 else if m = 2 then d + 2 * (8 - o) + 3 else if m = 4 then d + 2 * (8 - o) + 2 else d + 2 * (8 - o) + 1) ≤ 64 ∧ (3 ≤ m → 1 ≤ d)
theorem prB_i {a : prR} {w : List Int} {b : Nat → prR} (h : (prB a w b).1 = 0) : a.1 = 0 ∧ (b a.2.1).1 = 0 ∧ (prB a w b).2.2 = a.2.2 ++ w ++ (b a.2.1).2.2 := by
  unfold prB at h ⊢
  by_cases z : a.1 = 0
  · rw [if_pos z] at h ⊢; exact ⟨z, h, rfl⟩
  · rw [if_neg z] at h; exact absurd h z
theorem prs_sd {T : Nat → Int} {Ln : Nat} : ∀ k m o s d, m ≤ 4 → o ≤ 8 → sdB m o d → (prs T Ln k m o s).1 = 0 → sdl (prs T Ln k m o s).2.2 d = some (sdO m d)
  | 0, m, o, s, d, _, _, _, h => absurd (show (1 : Int) = 0 from h) (by decide)
  | k + 1, m, o, s, d, hm, ho, hb, h => by
    have ih := prs_sd (T := T) (Ln := Ln) k
    unfold sdB at hb
    by_cases m0 : m = 0
    · subst m0
      rw [if_neg (by decide), if_neg (by decide), if_neg (by decide)] at hb
      rw [prs, if_pos rfl] at h ⊢
      by_cases c2 : tkK T Ln s = 2
      · rw [if_pos c2] at h ⊢
        have vr := tkV_R c2
        by_cases c3 : 999 < tkV T s (tkE T Ln s - s)
        · rw [if_pos c3] at h; exact absurd (show (2 : Int) = 0 from h) (by decide)
        · rw [if_neg c3]
          exact sdl_p (by omega) (by omega)
      rw [if_neg c2] at h ⊢
      by_cases c1 : tkK T Ln s = 1
      · rw [if_pos c1] at h ⊢
        have nb := nmC_b (T := T) (Ln := Ln) (s := s)
        by_cases c3 : nmC T Ln s = -1
        · rw [if_pos c3] at h; exact absurd (show (1 : Int) = 0 from h) (by decide)
        · rw [if_neg c3]
          exact sdl_p (by omega) (by omega)
      rw [if_neg c1] at h ⊢
      by_cases c4 : tkK T Ln s = 40
      · rw [if_pos c4] at h ⊢
        by_cases c8 : 8 ≤ o
        · rw [if_pos c8] at h; exact absurd (show (3 : Int) = 0 from h) (by decide)
        · rw [if_neg c8] at h ⊢
          obtain ⟨h1, h2, h3⟩ := prB_i h
          rw [h3, sdl_a, sdl_a, ih 2 (o + 1) _ d (by omega) (by omega) (by unfold sdB; rw [if_neg (by decide), if_pos rfl]; omega) h1]
          split
          · rfl
          · rename_i y
            rw [if_neg y] at h2
            exact absurd (show (1 : Int) = 0 from h2) (by decide)
      rw [if_neg c4] at h ⊢
      by_cases c5 : tkK T Ln s = 45
      · rw [if_pos c5] at h ⊢
        by_cases c8 : 8 ≤ o
        · rw [if_pos c8] at h; exact absurd (show (3 : Int) = 0 from h) (by decide)
        · rw [if_neg c8] at h ⊢
          obtain ⟨h1, h2, h3⟩ := prB_i h
          rw [h3, sdl_a, sdl_a, ih 0 (o + 1) _ d (by omega) (by omega) (by unfold sdB; rw [if_neg (by decide), if_neg (by decide), if_neg (by decide)]; omega) h1]
          show (sdl [1010] (d + 1)).bind (sdl []) = some (d + 1)
          simp only [sdl]
          rw [if_neg (by omega), if_neg (by omega), if_pos trivial, if_pos (by omega)]
          rfl
      rw [if_neg c5] at h
      exact absurd (show (1 : Int) = 0 from h) (by decide)
    · by_cases m1 : m = 1
      · subst m1
        rw [if_pos rfl] at hb
        rw [prs, if_neg (by decide), if_pos rfl] at h ⊢
        obtain ⟨h1, h2, h3⟩ := prB_i h
        rw [h3, sdl_a, sdl_a, ih 0 o _ d (by omega) ho (by unfold sdB; rw [if_neg (by decide), if_neg (by decide), if_neg (by decide)]; omega) h1]
        exact ih 3 o _ (d + 1) (by omega) ho (by unfold sdB; rw [if_neg (by decide), if_neg (by decide), if_neg (by decide)]; omega) h2
      by_cases m2 : m = 2
      · subst m2
        rw [if_neg (by decide), if_pos rfl] at hb
        rw [prs, if_neg (by decide), if_neg (by decide), if_pos rfl] at h ⊢
        obtain ⟨h1, h2, h3⟩ := prB_i h
        rw [h3, sdl_a, sdl_a, ih 1 o _ d (by omega) ho (by unfold sdB; rw [if_pos rfl]; omega) h1]
        exact ih 4 o _ (d + 1) (by omega) ho (by unfold sdB; rw [if_neg (by decide), if_neg (by decide), if_pos rfl]; omega) h2
      by_cases m3 : m = 3
      · subst m3
        rw [if_neg (by decide), if_neg (by decide), if_neg (by decide)] at hb
        rw [prs, if_neg (by decide), if_neg (by decide), if_neg (by decide), if_pos rfl] at h ⊢
        by_cases c : tkK T Ln s = 42 ∨ tkK T Ln s = 47
        · rw [if_pos c] at h ⊢
          obtain ⟨h1, h2, h3⟩ := prB_i h
          rw [h3, sdl_a, sdl_a, ih 0 o _ d (by omega) ho (by unfold sdB; rw [if_neg (by decide), if_neg (by decide), if_neg (by decide)]; omega) h1]
          show ((some (d + 1)).bind (sdl [if tkK T Ln s = 42 then 1008 else 1009])).bind _ = _
          rw [Option.bind_some, sdl_b (by split <;> omega) (by have := hb.2 (by omega); omega), Option.bind_some]
          exact ih 3 o _ d (by omega) ho (by unfold sdB; rw [if_neg (by decide), if_neg (by decide), if_neg (by decide)]; exact hb) h2
        · rw [if_neg c]; rfl
      · have m4 : m = 4 := by omega
        subst m4
        rw [if_neg (by decide), if_neg (by decide), if_pos rfl] at hb
        rw [prs, if_neg (by decide), if_neg (by decide), if_neg (by decide), if_neg (by decide)] at h ⊢
        by_cases c : tkK T Ln s = 43 ∨ tkK T Ln s = 45
        · rw [if_pos c] at h ⊢
          obtain ⟨h1, h2, h3⟩ := prB_i h
          rw [h3, sdl_a, sdl_a, ih 1 o _ d (by omega) ho (by unfold sdB; rw [if_pos rfl]; omega) h1]
          show ((some (d + 1)).bind (sdl [if tkK T Ln s = 43 then 1006 else 1007])).bind _ = _
          rw [Option.bind_some, sdl_b (by split <;> omega) (by have := hb.2 (by omega); omega), Option.bind_some]
          exact ih 4 o _ d (by omega) ho (by unfold sdB; rw [if_neg (by decide), if_neg (by decide), if_pos rfl]; exact hb) h2
        · rw [if_neg c]; rfl
theorem sdl_w {C : Nat → Int} {f : Nat} : ∀ (c : List Int) (i0 d e : Nat), sdl c d = some e → (∀ i, i < c.length → C (f + (i0 + i)) = c.getD i 0) → dpt C f i0 = d → dpt C f (i0 + c.length) = e ∧ ∀ i, i < c.length → (0 ≤ C (f + (i0 + i)) ∧ C (f + (i0 + i)) ≤ 1010) ∧ (C (f + (i0 + i)) < 1006 → dpt C f (i0 + i) < 64) ∧ (C (f + (i0 + i)) = 1010 → 1 ≤ dpt C f (i0 + i)) ∧ (1006 ≤ C (f + (i0 + i)) → C (f + (i0 + i)) ≠ 1010 → 2 ≤ dpt C f (i0 + i))
  | [], i0, d, e, h, hC, hd => by
    injection h with h
    exact ⟨by rw [← h]; exact hd, fun i hi => absurd hi (by simp)⟩
  | x :: r, i0, d, e, h, hC, hd => by
    have c0 : C (f + i0) = x := hC 0 (by simp)
    simp only [sdl] at h
    have step : ∀ d', dpt C f (i0 + 1) = d' → sdl r d' = some e → ((0 ≤ x ∧ x ≤ 1010) ∧ (x < 1006 → d < 64) ∧ (x = 1010 → 1 ≤ d) ∧ (1006 ≤ x → x ≠ 1010 → 2 ≤ d)) → _ := fun d' h1 h2 hx => by
      have ih := sdl_w (C := C) (f := f) r (i0 + 1) d' e h2 (fun i hi => by
        have := hC (i + 1) (by simp only [List.length_cons]; omega)
        rw [show i0 + 1 + i = i0 + (i + 1) by omega, this]
        rfl) h1
      refine (⟨?_, fun i hi => ?_⟩ : dpt C f (i0 + (x :: r).length) = e ∧ ∀ i, i < (x :: r).length → (0 ≤ C (f + (i0 + i)) ∧ C (f + (i0 + i)) ≤ 1010) ∧ (C (f + (i0 + i)) < 1006 → dpt C f (i0 + i) < 64) ∧ (C (f + (i0 + i)) = 1010 → 1 ≤ dpt C f (i0 + i)) ∧ (1006 ≤ C (f + (i0 + i)) → C (f + (i0 + i)) ≠ 1010 → 2 ≤ dpt C f (i0 + i)))
      · rw [List.length_cons, show i0 + (r.length + 1) = i0 + 1 + r.length by omega]; exact ih.1
      · by_cases z : i = 0
        · subst z
          rw [Nat.add_zero, c0, hd]
          exact hx
        · have := ih.2 (i - 1) (by simp only [List.length_cons] at hi; omega)
          rw [show i0 + 1 + (i - 1) = i0 + i by omega] at this
          exact this
    by_cases c1 : x < 0 ∨ 1010 < x
    · rw [if_pos c1] at h; simp at h
    rw [if_neg c1] at h
    by_cases c2 : x < 1006
    · rw [if_pos c2] at h
      by_cases c3 : d < 64
      · rw [if_pos c3] at h
        exact step (d + 1) (by simp only [dpt]; rw [c0, if_pos c2, hd]) h (by omega)
      · rw [if_neg c3] at h; simp at h
    rw [if_neg c2] at h
    by_cases c4 : x = 1010
    · rw [if_pos c4] at h
      by_cases c3 : 1 ≤ d
      · rw [if_pos c3] at h
        exact step d (by simp only [dpt]; rw [c0, if_neg c2, if_pos c4, hd]) h (by omega)
      · rw [if_neg c3] at h; simp at h
    rw [if_neg c4] at h
    by_cases c3 : 2 ≤ d
    · rw [if_pos c3] at h
      exact step (d - 1) (by simp only [dpt]; rw [c0, if_neg c2, if_neg c4, hd]) h (by omega)
    · rw [if_neg c3] at h; simp at h
/-- a sum that is read, as code from f on -/
theorem prs_wf {T : Nat → Int} {Ln k o s f : Nat} {C : Nat → Int} (ho : o ≤ 8) (h : (prs T Ln k 2 o s).1 = 0) (hC : ∀ i, i < (prs T Ln k 2 o s).2.2.length → C (f + i) = (prs T Ln k 2 o s).2.2.getD i 0) (h3 : f + (prs T Ln k 2 o s).2.2.length ≤ 300) : wfC C f (f + (prs T Ln k 2 o s).2.2.length) := by
  have sd := prs_sd (T := T) (Ln := Ln) k 2 o s 0 (by omega) ho (by unfold sdB; rw [if_neg (by decide), if_pos rfl]; omega) h
  have w := sdl_w (C := C) (f := f) (prs T Ln k 2 o s).2.2 0 0 1 sd (fun i hi => by rw [Nat.zero_add]; exact hC i hi) rfl
  refine ⟨by omega, h3, fun i hi => ?_, ?_⟩
  · have := w.2 i (by omega)
    rw [Nat.zero_add] at this
    exact this
  · have := w.1
    rw [Nat.zero_add] at this
    rw [show f + (prs T Ln k 2 o s).2.2.length - f = (prs T Ln k 2 o s).2.2.length by omega]
    exact this
