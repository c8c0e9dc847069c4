/-! the reference between acts: token s, A acts with kinds K and numbers N, code cl, open repeats st -/
def arR (t0 : Nat) (f : Nat → Nat → Int) : List Nat → Prop
  | [] => True
  | a :: st => f 99 st.length = ((t0 + 1 + 12 * a : Nat) : Int) ∧ arR t0 f st
theorem arR_o {t0 : Nat} {f g : Nat → Nat → Int} : ∀ {st : List Nat}, (∀ j, j < st.length → g 99 j = f 99 j) → arR t0 f st → arR t0 g st
  | [], _, _ => trivial
  | a :: st, h, ⟨x, y⟩ => ⟨(h _ (by simp)).trans x, arR_o (fun j hj => h j (by simp only [List.length_cons]; omega)) y⟩
def raT (T : Nat → Int) (Ln t0 s A : Nat) (K N : Nat → Int) (cl : List Int) (st : List Nat) (h : ja_H) : Prop := raB T Ln t0 s cl st.length h ∧ (h.2.1 90 35 = (st.length : Int) ∧ st.length ≤ 8 ∧ arR t0 h.2.1 st ∧ ∀ a ∈ st, a < A ∧ K a = 5) ∧ A ≤ 16 ∧ h.2.1 93 t0 = (A : Int) ∧ txR (h.2.1 93) t0 A K N st
def raG (t0 : Nat) (I f : Nat → Nat → Int) : Prop := jfr [90, 93, 98, 99] I f ∧ (∀ j, j < 19 ∨ j = 24 ∨ 35 < j → f 90 j = I 90 j) ∧ ∀ i, i < t0 ∨ t0 + 1000 ≤ i → f 93 i = I 93 i
theorem raG_rf {t0 : Nat} {I : Nat → Nat → Int} : raG t0 I I := ⟨jfr_rf _ _, fun _ _ => rfl, fun _ _ => rfl⟩
theorem raG_tr {t0 : Nat} {I f g : Nat → Nat → Int} (a : raG t0 I f) (b : raG t0 f g) : raG t0 I g := ⟨jfr_tr a.1 b.1, fun j hj => (b.2.1 j hj).trans (a.2.1 j hj), fun i hi => (b.2.2 i hi).trans (a.2.2 i hi)⟩
theorem raG_F {t0 : Nat} {I f : Nat → Nat → Int} (a : raF t0 I f) : raG t0 I f := ⟨jfr_sub a.1 (by simp), fun j hj => a.2.1 j (by omega), a.2.2⟩
theorem raT_mk {T K N N' : Nat → Int} {Ln t0 s s' A : Nat} {k : Int} {cl cl' : List Int} {st : List Nat} {h : ja_H} {f g : Nat → Nat → Int} (hT : raT T Ln t0 s A K N cl st h) (hA : A < 16) (hB : raB T Ln t0 s' cl' st.length (h.1, f, g)) (fr : raF t0 h.2.1 f) (hX : f 93 t0 = ((A + 1 : Nat) : Int)) (htx : txR (f 93) t0 (A + 1) (upF K A k) N' st) : raT T Ln t0 s' (A + 1) (upF K A k) N' cl' st (h.1, f, g) := by
  obtain ⟨_, ⟨a1, a2, a3, a4⟩, _⟩ := hT
  refine ⟨hB, ⟨(fr.2.1 35 (by omega)).trans a1, a2, arR_o (fun j _ => congrFun (fr.1 99 (by simp)) j) a3, fun a ha => ?_⟩, by omega, hX, htx⟩
  have := a4 a ha
  refine ⟨by omega, ?_⟩
  unfold upF
  rw [if_neg (by omega)]
  exact this.2
/-- what each kind of act reads -/
theorem acs_n {T : Nat → Int} {Ln kf k o s A : Nat} {e : Int} {K N : Nat → Int} {cl : List Int} (h : akC T Ln s = -1) : acs T Ln kf (k + 1) 0 o e s A K N cl = (1, s, A, K, N, cl) := by rw [acs, if_pos rfl, if_pos h]
theorem acs_16 {T : Nat → Int} {Ln kf k o s A : Nat} {e : Int} {K N : Nat → Int} {cl : List Int} (h : akC T Ln s ≠ -1) (hA : A = 16) : acs T Ln kf (k + 1) 0 o e s A K N cl = (4, s, A, K, N, cl) := by rw [acs, if_pos rfl, if_neg h, if_pos hA]
theorem acs_1 {T : Nat → Int} {Ln kf k o s A : Nat} {e : Int} {K N : Nat → Int} {cl : List Int} (h : akC T Ln s = 1) (hA : A ≠ 16) : acs T Ln kf (k + 1) 0 o e s A K N cl = lfR (A + 1) (upF K A 1) cl (paR T Ln (7 * A) (nxS T Ln s) N) := by rw [acs, if_pos rfl, if_neg (by omega), if_neg hA, if_pos h, h]
theorem acs_2 {T : Nat → Int} {Ln kf k o s A : Nat} {e : Int} {K N : Nat → Int} {cl : List Int} (h : akC T Ln s = 2) (hA : A ≠ 16) : acs T Ln kf (k + 1) 0 o e s A K N cl = ptR T Ln kf (7 * A) o (nxS T Ln s) (A + 1) (upF K A 2) N cl := by rw [acs, if_pos rfl, if_neg (by omega), if_neg hA, if_neg (by omega), if_pos h, h]
theorem acs_3 {T : Nat → Int} {Ln kf k o s A : Nat} {e : Int} {K N : Nat → Int} {cl : List Int} (h : akC T Ln s = 3) (hA : A ≠ 16) : acs T Ln kf (k + 1) 0 o e s A K N cl = lfR (A + 1) (upF K A 3) cl (nmP T Ln 59 (nms T Ln (7 * A) [(0, 2, 50), (1, 0, 99), (2, 0, 99)] (nxS T Ln s) N)) := by rw [acs, if_pos rfl, if_neg (by omega), if_neg hA, if_neg (by omega), if_neg (by omega), if_pos h, h]
theorem acs_4 {T : Nat → Int} {Ln kf k o s A : Nat} {e : Int} {K N : Nat → Int} {cl : List Int} (h : akC T Ln s = 4) (hA : A ≠ 16) : acs T Ln kf (k + 1) 0 o e s A K N cl = lfR (A + 1) (upF K A 4) cl (nmP T Ln 59 (nms T Ln (7 * A) [(0, 0, 99), (0 + 1, 0, 99), (0 + 2, 1, 99), (0 + 3, 1, 99)] (nxS T Ln s) N)) := by rw [acs, if_pos rfl, if_neg (by omega), if_neg hA, if_neg (by omega), if_neg (by omega), if_neg (by omega), if_pos h, h]
theorem acs_5 {T : Nat → Int} {Ln kf k o s A : Nat} {e : Int} {K N : Nat → Int} {cl : List Int} (h : akC T Ln s = 5) (hA : A ≠ 16) : acs T Ln kf (k + 1) 0 o e s A K N cl = rpR T Ln A o (nxS T Ln s) (upF K A 5) N cl (fun t M => acs T Ln kf k 1 (o + 1) 125 t (A + 1) (upF K A 5) M cl) := by rw [acs, if_pos rfl, if_neg (by omega), if_neg hA, if_neg (by omega), if_neg (by omega), if_neg (by omega), if_neg (by omega), h]; rfl
/-- a paste ahead of its sign -/
def paC (T : Nat → Int) (Ln b s : Nat) (N : Nat → Int) : nmR :=
  let r := nms T Ln b [(0, 0, 4), (1, 0, 99), (1 + 1, 0, 99), (1 + 2, 1, 99), (1 + 3, 1, 99)] s N
  if r.1 = 0 then (if tkW T Ln r.2.1 5 = true then nms T Ln b [(5, 0, 99), (6, 0, 99)] (nxS T Ln r.2.1) r.2.2 else (1, r.2.1, r.2.2)) else r
theorem paR_C {T : Nat → Int} {Ln b s : Nat} {N : Nat → Int} : paR T Ln b s N = nmP T Ln 59 (paC T Ln b s N) := by
  unfold paR paC
  dsimp only
  by_cases h1 : (nms T Ln b [(0, 0, 4), (1, 0, 99), (1 + 1, 0, 99), (1 + 2, 1, 99), (1 + 3, 1, 99)] s N).1 = 0
  · rw [if_pos h1, if_pos h1]
    split
    · rfl
    · unfold nmP
      rw [if_neg (fun y => absurd (show (1 : Int) = 0 from y) (by decide))]
  · rw [if_neg h1, if_neg h1]
    unfold nmP
    rw [if_neg h1]
/-- two readings of the same numbers: rN into the class's slots at b, rX into the reference's at b' -/
def nm2 (b b' m : Nat) (N X : Nat → Int) (rN rX : nmR) : Prop := rN.1 = rX.1 ∧ rN.2.1 = rX.2.1 ∧ (∀ j, j < b → rN.2.2 j = N j) ∧ (∀ j, j ≤ b' ∨ b' + 7 < j → rX.2.2 j = X j) ∧ (rN.1 = 0 → ∀ j, j < m → rN.2.2 (b + j) = rX.2.2 (b' + (j + 1)))
theorem nm2_1 {T : Nat → Int} {Ln b b' s : Nat} {N X : Nat → Int} : nm2 b b' 1 N X (nms T Ln b [(0, 1, 9)] s N) (nms T Ln b' [(0 + 1, 1, 9)] s X) := by
  obtain ⟨h1, h2, h3, h4, h5⟩ := nms_two (T := T) (Ln := Ln) (b := b) (b' := b') [(0, 0 + 1, 1, 9)] s N X (by decide) (by decide)
  simp only [List.map_cons, List.map_nil] at h1 h2 h3 h4 h5
  refine ⟨h1, h2, fun j hj => h3 j (fun x hx => ?_), fun j hj => h4 j (fun x hx => ?_), fun e j hj => ?_⟩
  · simp only [List.mem_cons, List.not_mem_nil, or_false] at hx; subst hx; dsimp only; omega
  · simp only [List.mem_cons, List.not_mem_nil, or_false] at hx; subst hx; dsimp only; omega
  · have : j = 0 := by omega
    subst this
    exact h5 e (0, 0 + 1, 1, 9) (by simp)
theorem nm2_3 {T : Nat → Int} {Ln b b' s : Nat} {N X : Nat → Int} : nm2 b b' 3 N X (nms T Ln b [(0, 2, 50), (1, 0, 99), (2, 0, 99)] s N) (nms T Ln b' [(0 + 1, 2, 50), (0 + 1 + 1, 0, 99), (0 + 1 + 1 + 1, 0, 99)] s X) := by
  obtain ⟨h1, h2, h3, h4, h5⟩ := nms_two (T := T) (Ln := Ln) (b := b) (b' := b') [(0, 0 + 1, 2, 50), (1, 0 + 1 + 1, 0, 99), (2, 0 + 1 + 1 + 1, 0, 99)] s N X (by decide) (by decide)
  simp only [List.map_cons, List.map_nil] at h1 h2 h3 h4 h5
  refine ⟨h1, h2, fun j hj => h3 j (fun x hx => ?_), fun j hj => h4 j (fun x hx => ?_), fun e j hj => ?_⟩
  · simp only [List.mem_cons, List.not_mem_nil, or_false] at hx; rcases hx with rfl | rfl | rfl <;> dsimp only <;> omega
  · simp only [List.mem_cons, List.not_mem_nil, or_false] at hx; rcases hx with rfl | rfl | rfl <;> dsimp only <;> omega
  · match j, hj with
    | 0, _ => exact h5 e (0, 0 + 1, 2, 50) (by simp)
    | 1, _ => exact h5 e (1, 0 + 1 + 1, 0, 99) (by simp)
    | 2, _ => exact h5 e (2, 0 + 1 + 1 + 1, 0, 99) (by simp)
theorem nm2_4 {T : Nat → Int} {Ln b b' s : Nat} {N X : Nat → Int} : nm2 b b' 4 N X (nms T Ln b [(0, 0, 99), (0 + 1, 0, 99), (0 + 2, 1, 99), (0 + 3, 1, 99)] s N) (nms T Ln b' [(0 + 1, 0, 99), (0 + 1 + 1, 0, 99), (0 + 1 + 1 + 1, 1, 99), (0 + 1 + 1 + 1 + 1, 1, 99)] s X) := by
  obtain ⟨h1, h2, h3, h4, h5⟩ := nms_two (T := T) (Ln := Ln) (b := b) (b' := b') [(0, 0 + 1, 0, 99), (0 + 1, 0 + 1 + 1, 0, 99), (0 + 2, 0 + 1 + 1 + 1, 1, 99), (0 + 3, 0 + 1 + 1 + 1 + 1, 1, 99)] s N X (by decide) (by decide)
  simp only [List.map_cons, List.map_nil] at h1 h2 h3 h4 h5
  refine ⟨h1, h2, fun j hj => h3 j (fun x hx => ?_), fun j hj => h4 j (fun x hx => ?_), fun e j hj => ?_⟩
  · simp only [List.mem_cons, List.not_mem_nil, or_false] at hx; rcases hx with rfl | rfl | rfl | rfl <;> dsimp only <;> omega
  · simp only [List.mem_cons, List.not_mem_nil, or_false] at hx; rcases hx with rfl | rfl | rfl | rfl <;> dsimp only <;> omega
  · match j, hj with
    | 0, _ => exact h5 e (0, 0 + 1, 0, 99) (by simp)
    | 1, _ => exact h5 e (0 + 1, 0 + 1 + 1, 0, 99) (by simp)
    | 2, _ => exact h5 e (0 + 2, 0 + 1 + 1 + 1, 1, 99) (by simp)
    | 3, _ => exact h5 e (0 + 3, 0 + 1 + 1 + 1 + 1, 1, 99) (by simp)
theorem nm2_7 {T : Nat → Int} {Ln b b' s : Nat} {N X : Nat → Int} : nm2 b b' 7 N X (paC T Ln b s N) (paX T Ln b' s X) := by
  obtain ⟨h1, h2, h3, h4, h5⟩ := nms_two (T := T) (Ln := Ln) (b := b) (b' := b') [(0, 0 + 1, 0, 4), (1, 0 + 1 + 1, 0, 99), (1 + 1, 0 + 1 + 1 + 1, 0, 99), (1 + 2, 0 + 1 + 1 + 1 + 1, 1, 99), (1 + 3, 0 + 1 + 1 + 1 + 1 + 1, 1, 99)] s N X (by decide) (by decide)
  simp only [List.map_cons, List.map_nil] at h1 h2 h3 h4 h5
  unfold paC paX
  dsimp only
  generalize nms T Ln b [(0, 0, 4), (1, 0, 99), (1 + 1, 0, 99), (1 + 2, 1, 99), (1 + 3, 1, 99)] s N = r at h1 h2 h3 h4 h5 ⊢
  generalize nms T Ln b' [(0 + 1, 0, 4), (0 + 1 + 1, 0, 99), (0 + 1 + 1 + 1, 0, 99), (0 + 1 + 1 + 1 + 1, 1, 99), (0 + 1 + 1 + 1 + 1 + 1, 1, 99)] s X = r' at h1 h2 h3 h4 h5 ⊢
  have h3' : ∀ j, (j < b ∨ b + 5 ≤ j) → r.2.2 j = N j := fun j hj => h3 j (fun x hx => by simp only [List.mem_cons, List.not_mem_nil, or_false] at hx; rcases hx with rfl | rfl | rfl | rfl | rfl <;> dsimp only <;> omega)
  have h4' : ∀ j, (j ≤ b' ∨ b' + 6 ≤ j) → r'.2.2 j = X j := fun j hj => h4 j (fun x hx => by simp only [List.mem_cons, List.not_mem_nil, or_false] at hx; rcases hx with rfl | rfl | rfl | rfl | rfl <;> dsimp only <;> omega)
  by_cases c1 : r.1 = 0
  · have c1' : r'.1 = 0 := h1.symm.trans c1
    rw [if_pos c1, if_pos c1', ← h2]
    by_cases c2 : tkW T Ln r.2.1 5 = true
    · rw [if_pos c2, if_pos c2]
      obtain ⟨k1, k2, k3, k4, k5⟩ := nms_two (T := T) (Ln := Ln) (b := b) (b' := b') [(5, 0 + 1 + 1 + 1 + 1 + 1 + 1, 0, 99), (6, 0 + 1 + 1 + 1 + 1 + 1 + 1 + 1, 0, 99)] (nxS T Ln r.2.1) r.2.2 r'.2.2 (by decide) (by decide)
      simp only [List.map_cons, List.map_nil] at k1 k2 k3 k4 k5
      have k3' : ∀ j, (j < b + 5) → _ = r.2.2 j := fun j hj => k3 j (fun x hx => by simp only [List.mem_cons, List.not_mem_nil, or_false] at hx; rcases hx with rfl | rfl <;> dsimp only <;> omega)
      have k4' : ∀ j, (j < b' + 6 ∨ b' + 7 < j) → _ = r'.2.2 j := fun j hj => k4 j (fun x hx => by simp only [List.mem_cons, List.not_mem_nil, or_false] at hx; rcases hx with rfl | rfl <;> dsimp only <;> omega)
      have h5 := h5 c1
      refine ⟨k1, k2, fun j hj => (k3' j (by omega)).trans (h3' j (by omega)), fun j hj => (k4' j (by omega)).trans (h4' j (by omega)), fun e j hj => ?_⟩
      by_cases z : j < 5
      · rw [k3' _ (by omega), k4' _ (by omega)]
        match j, z with
        | 0, _ => exact h5 (0, 0 + 1, 0, 4) (by simp)
        | 1, _ => exact h5 (1, 0 + 1 + 1, 0, 99) (by simp)
        | 2, _ => exact h5 (1 + 1, 0 + 1 + 1 + 1, 0, 99) (by simp)
        | 3, _ => exact h5 (1 + 2, 0 + 1 + 1 + 1 + 1, 1, 99) (by simp)
        | 4, _ => exact h5 (1 + 3, 0 + 1 + 1 + 1 + 1 + 1, 1, 99) (by simp)
      · have : j = 5 ∨ j = 6 := by omega
        rcases this with rfl | rfl
        · exact k5 e (5, 0 + 1 + 1 + 1 + 1 + 1 + 1, 0, 99) (by simp)
        · exact k5 e (6, 0 + 1 + 1 + 1 + 1 + 1 + 1 + 1, 0, 99) (by simp)
    · rw [if_neg c2, if_neg c2]
      exact ⟨rfl, rfl, fun j hj => h3' j (by omega), fun j hj => h4' j (by omega), fun y => absurd (show (1 : Int) = 0 from y) (by decide)⟩
  · have c1' : ¬ r'.1 = 0 := fun y => c1 (h1.trans y)
    rw [if_neg c1, if_neg c1']
    exact ⟨h1, h2, fun j hj => h3' j (by omega), fun j hj => h4' j (by omega), fun y => absurd y c1⟩
