/-! doing with fuel enough; what is left to do behind the open repeats -/
def pOK (A : Nat) (K N : Nat → Int) (m x y r : Nat) : Prop := (m = 0 ∧ ∀ b, x ≤ b → b < y → b < A ∧ (K b = 5 → N (7 * b + 1) ≤ (y : Int))) ∨ (m = 1 ∧ x < A ∧ K x = 5 ∧ N (7 * x + 1) = (y : Int) ∧ r ≤ 9)
def pBd (m x y r : Nat) : Nat := if m = 0 then 11 * (y - x) + 1 else 11 * (y - (x + 1)) + 11 - r
theorem pOK_in {A x e : Nat} {K N C : Nat → Int} {Dp : Nat → Nat} (hw : wfP A K N C Dp) (hx : x < A) (h5 : K x = 5) (he : N (7 * x + 1) = (e : Int)) {r : Nat} : pOK A K N 0 (x + 1) e r := by
  obtain ⟨w1, w2, w3, w4⟩ := (hw.2 x hx).2.2.2.2.2 h5
  rw [he] at w2 w4
  exact Or.inl ⟨rfl, fun b h1 h2 => ⟨by omega, (w4 b (by omega) (by omega)).2⟩⟩
theorem pf_fu {F : Nat → Int → LT → LT} {A : Nat} {K N C : Nat → Int} {Dp : Nat → Nat} (hw : wfP A K N C Dp) : ∀ k k' m x y r s, pOK A K N m x y r → pBd m x y r ≤ k → pBd m x y r ≤ k' → pf F K N k m x y r s = pf F K N k' m x y r s
  | 0, k', m, x, y, r, s, ok, h1, h2 => by unfold pBd at h1; rcases ok with ⟨rfl, _⟩ | ⟨rfl, _, _, _, _⟩ <;> simp at h1 <;> omega
  | k + 1, 0, m, x, y, r, s, ok, h1, h2 => by unfold pBd at h2; rcases ok with ⟨rfl, _⟩ | ⟨rfl, _, _, _, _⟩ <;> simp at h2 <;> omega
  | k + 1, k' + 1, m, x, y, r, s, ok, h1, h2 => by
    unfold pBd at h1 h2
    rcases ok with ⟨rfl, ok⟩ | ⟨rfl, hx, h5, he, hr⟩
    · rw [if_pos rfl] at h1 h2
      rw [pf, pf, if_pos rfl, if_pos rfl]
      by_cases c : x < y ∧ s.2 < 300
      · rw [if_pos c, if_pos c]
        by_cases k5 : K x = 5
        · rw [if_pos k5, if_pos k5]
          obtain ⟨hxA, hxy⟩ := ok x (by omega) (by omega)
          have ww := (hw.2 x hxA).2.2.2.2.2 k5
          have hxy := hxy k5
          obtain ⟨e, hee⟩ : ∃ e : Nat, N (7 * x + 1) = (e : Int) := ⟨(N (7 * x + 1)).toNat, by omega⟩
          rw [hee, show max (x + 1) ((e : Int)).toNat = e by omega]
          rw [hee] at hxy ww
          rw [pf_fu hw k k' 1 x e 0 _ (Or.inr ⟨rfl, hxA, k5, hee, by omega⟩) (by unfold pBd; rw [if_neg (by decide)]; omega) (by unfold pBd; rw [if_neg (by decide)]; omega)]
          exact pf_fu hw k k' 0 e y r _ (Or.inl ⟨rfl, fun b h1 h2 => ok b (by omega) h2⟩) (by unfold pBd; rw [if_pos rfl]; omega) (by unfold pBd; rw [if_pos rfl]; omega)
        · rw [if_neg k5, if_neg k5]
          exact pf_fu hw k k' 0 (x + 1) y r _ (Or.inl ⟨rfl, fun b h1 h2 => ok b (by omega) h2⟩) (by unfold pBd; rw [if_pos rfl]; omega) (by unfold pBd; rw [if_pos rfl]; omega)
      · rw [if_neg c, if_neg c]
    · rw [if_neg (by decide)] at h1 h2
      rw [pf, pf, if_neg (show ¬ (1 : Nat) = 0 by decide), if_neg (show ¬ (1 : Nat) = 0 by decide)]
      by_cases c : (r : Int) < N (7 * x + 0) ∧ s.2 < 300
      · rw [if_pos c, if_pos c]
        have ww := (hw.2 x hx).2.2.2.2.2 h5
        rw [pf_fu hw k k' 0 (x + 1) y r _ (pOK_in hw hx h5 he) (by unfold pBd; rw [if_pos rfl]; omega) (by unfold pBd; rw [if_pos rfl]; omega)]
        exact pf_fu hw k k' 1 x y (r + 1) _ (Or.inr ⟨rfl, hx, h5, he, by omega⟩) (by unfold pBd; rw [if_neg (by decide)]; omega) (by unfold pBd; rw [if_neg (by decide)]; omega)
      · rw [if_neg c, if_neg c]
def pI (F : Nat → Int → LT → LT) (K N : Nat → Int) (m x y r : Nat) (s : dSt) : dSt := pf F K N 200 m x y r s
theorem pI_u {F : Nat → Int → LT → LT} {A m x y r : Nat} {K N C : Nat → Int} {Dp : Nat → Nat} {s : dSt} (hw : wfP A K N C Dp) (ok : pOK A K N m x y r) (hy : y ≤ 16) : pI F K N m x y r s = pf F K N (200 + 1) m x y r s := pf_fu hw _ _ _ _ _ _ _ ok (by unfold pBd; split <;> omega) (by unfold pBd; split <;> omega)
theorem pI_e {F : Nat → Int → LT → LT} {x y r : Nat} {K N : Nat → Int} {s : dSt} (h : ¬ (x < y ∧ s.2 < 300)) : pI F K N 0 x y r s = s := by
  show pf F K N (199 + 1) 0 x y r s = s
  rw [pf, if_pos rfl, if_neg h]
theorem pI_f {F : Nat → Int → LT → LT} {x y r : Nat} {K N : Nat → Int} {s : dSt} (h : ¬ ((r : Int) < N (7 * x + 0) ∧ s.2 < 300)) : pI F K N 1 x y r s = s := by
  show pf F K N (199 + 1) 1 x y r s = s
  rw [pf, if_neg (show ¬ (1 : Nat) = 0 by decide), if_neg h]
theorem pI_1 {F : Nat → Int → LT → LT} {A x y r : Nat} {K N C : Nat → Int} {Dp : Nat → Nat} {s : dSt} (hw : wfP A K N C Dp) (ok : pOK A K N 0 x y r) (hy : y ≤ 16) (h : x < y ∧ s.2 < 300) (k5 : K x ≠ 5) : pI F K N 0 x y r s = pI F K N 0 (x + 1) y r (F x (r : Int) s.1, s.2 + 1) := by
  rw [pI_u hw ok hy, pf, if_pos rfl, if_pos h, if_neg k5]
  rfl
theorem pI_5 {F : Nat → Int → LT → LT} {A x y r e : Nat} {K N C : Nat → Int} {Dp : Nat → Nat} {s : dSt} (hw : wfP A K N C Dp) (ok : pOK A K N 0 x y r) (hy : y ≤ 16) (h : x < y ∧ s.2 < 300) (k5 : K x = 5) (he : N (7 * x + 1) = (e : Int)) (hxe : x + 1 ≤ e) : pI F K N 0 x y r s = pI F K N 0 e y r (pI F K N 1 x e 0 (s.1, s.2 + 1)) := by
  rw [pI_u hw ok hy, pf, if_pos rfl, if_pos h, if_pos k5, he, show max (x + 1) ((e : Int)).toNat = e by omega]
  rfl
theorem pI_r {F : Nat → Int → LT → LT} {A x y r : Nat} {K N C : Nat → Int} {Dp : Nat → Nat} {s : dSt} (hw : wfP A K N C Dp) (ok : pOK A K N 1 x y r) (hy : y ≤ 16) (h : (r : Int) < N (7 * x + 0) ∧ s.2 < 300) : pI F K N 1 x y r s = pI F K N 1 x y (r + 1) (pI F K N 0 (x + 1) y r s) := by
  rw [pI_u hw ok hy, pf, if_neg (show ¬ (1 : Nat) = 0 by decide), if_pos h]
  rfl
def eN (N : Nat → Int) (a : Nat) : Nat := (N (7 * a + 1)).toNat
def cPr (F : Nat → Int → LT → LT) (A : Nat) (K N : Nat → Int) : List (Nat × Nat) → Nat → dSt → dSt
  | [], x, s => pI F K N 0 x A 0 s
  | (a, r) :: st, x, s => cPr F A K N st (eN N a) (pI F K N 1 a (eN N a) (r + 1) (pI F K N 0 x (eN N a) r s))
theorem cPr_3 {F : Nat → Int → LT → LT} {A : Nat} {K N : Nat → Int} : ∀ st x s, 300 ≤ s.2 → cPr F A K N st x s = s
  | [], x, s, h => pI_e (by omega)
  | (a, r) :: st, x, s, h => by rw [cPr, pI_e (by omega), pI_f (by omega)]; exact cPr_3 st _ s h
/-- the stack of open repeats with place x -/
def stO (A : Nat) (K N : Nat → Int) (Dp : Nat → Nat) : Nat → List (Nat × Nat) → Prop
  | x, [] => x ≤ A
  | x, (a, r) :: st => (a < A ∧ K a = 5 ∧ a + 1 ≤ x ∧ x ≤ eN N a ∧ (r : Int) < N (7 * a + 0) ∧ st.length ≤ Dp a) ∧ stO A K N Dp (eN N a) st
def rdO : List (Nat × Nat) → Nat
  | [] => 0
  | (_, r) :: _ => r
def tpE (A : Nat) (N : Nat → Int) : List (Nat × Nat) → Nat
  | [] => A
  | (a, _) :: _ => eN N a
theorem stO_A {A : Nat} {K N C : Nat → Int} {Dp : Nat → Nat} (hw : wfP A K N C Dp) : ∀ {x st}, stO A K N Dp x st → x ≤ tpE A N st ∧ tpE A N st ≤ A ∧ pOK A K N 0 x (tpE A N st) (rdO st) ∧ st.length ≤ 8 ∧ rdO st ≤ 9
  | x, [], h => ⟨h, Nat.le_refl _, Or.inl ⟨rfl, fun b _ h2 => ⟨h2, fun y => ((hw.2 b h2).2.2.2.2.2 y).2.1.2⟩⟩, by simp, by simp [rdO]⟩
  | x, (a, r) :: st, ⟨⟨h1, h2, h3, h4, h5, h6⟩, h7⟩ => by
    obtain ⟨w1, w2, w3, w4⟩ := (hw.2 a h1).2.2.2.2.2 h2
    have he : N (7 * a + 1) = (eN N a : Int) := by unfold eN; omega
    have ii := stO_A hw h7
    refine ⟨h4, by simp only [tpE]; omega, Or.inl ⟨rfl, fun b y1 y2 => ?_⟩, by simp only [List.length_cons]; omega, by simp only [rdO]; omega⟩
    simp only [tpE] at y2 ⊢
    exact ⟨by omega, fun k5 => by rw [← he]; exact (w4 b (by omega) (by omega)).2 k5⟩
/-- one act, or a repeat opened -/
theorem cPr_1 {F : Nat → Int → LT → LT} {A x : Nat} {K N C : Nat → Int} {Dp : Nat → Nat} {s : dSt} {st : List (Nat × Nat)} (hw : wfP A K N C Dp) (ho : stO A K N Dp x st) (hx : x < tpE A N st) (h3 : s.2 < 300) (k5 : K x ≠ 5) : cPr F A K N st x s = cPr F A K N st (x + 1) (F x (rdO st : Int) s.1, s.2 + 1) := by
  have hA := hw.1
  obtain ⟨_, h2, h4, _⟩ := stO_A hw ho
  cases st with
  | nil => simp only [cPr]; exact pI_1 hw h4 (by omega) ⟨hx, h3⟩ k5
  | cons y st =>
    obtain ⟨a, r⟩ := y
    have h2' : eN N a ≤ A := h2
    simp only [cPr]
    rw [show pI F K N 0 x (eN N a) r s = pI F K N 0 (x + 1) (eN N a) r (F x (rdO ((a, r) :: st) : Int) s.1, s.2 + 1) from pI_1 hw h4 (by omega) ⟨hx, h3⟩ k5]
theorem cPr_5 {F : Nat → Int → LT → LT} {A x : Nat} {K N C : Nat → Int} {Dp : Nat → Nat} {s : dSt} {st : List (Nat × Nat)} (hw : wfP A K N C Dp) (ho : stO A K N Dp x st) (hx : x < tpE A N st) (h3 : s.2 < 300) (k5 : K x = 5) : cPr F A K N st x s = cPr F A K N ((x, 0) :: st) (x + 1) (s.1, s.2 + 1) ∧ stO A K N Dp (x + 1) ((x, 0) :: st) := by
  have hA := hw.1
  obtain ⟨_, h2, h4, _⟩ := stO_A hw ho
  have hxA : x < A := by omega
  obtain ⟨w1, w2, w3, w4⟩ := (hw.2 x hxA).2.2.2.2.2 k5
  have he : N (7 * x + 1) = (eN N x : Int) := by unfold eN; omega
  have hxe : x + 1 ≤ eN N x := by omega
  have key : ∀ (s' : dSt), pI F K N 1 x (eN N x) 0 s' = pI F K N 1 x (eN N x) (0 + 1) (pI F K N 0 (x + 1) (eN N x) 0 s') := fun s' => by
    by_cases z : s'.2 < 300
    · exact pI_r hw (Or.inr ⟨rfl, hxA, k5, he, by omega⟩) (by omega) ⟨by omega, z⟩
    · rw [pI_f (by omega), pI_e (s := s') (by omega), pI_f (by omega)]
  have ok0 : x + 1 ≤ eN N x ∧ eN N x ≤ tpE A N st := by
    rcases h4 with ⟨_, h4⟩ | ⟨h4, _⟩
    · have := (h4 x (Nat.le_refl _) hx).2 k5
      omega
    · omega
  constructor
  · rw [cPr]
    rw [← key]
    cases st with
    | nil => simp only [cPr]; exact pI_5 hw h4 (by omega) ⟨hx, h3⟩ k5 he hxe
    | cons y st =>
      obtain ⟨a, r⟩ := y
      have h2' : eN N a ≤ A := h2
      simp only [cPr]
      rw [show pI F K N 0 x (eN N a) r s = pI F K N 0 (eN N x) (eN N a) r (pI F K N 1 x (eN N x) 0 (s.1, s.2 + 1)) from pI_5 hw h4 (by omega) ⟨hx, h3⟩ k5 he hxe]
  · refine ⟨⟨hxA, k5, Nat.le_refl _, hxe, by omega, ?_⟩, ?_⟩
    · cases st with
      | nil => simp
      | cons y st =>
        obtain ⟨a, r⟩ := y
        obtain ⟨⟨g1, g2, g3, g4, g5, g6⟩, g7⟩ := ho
        obtain ⟨v1, v2, v3, v4⟩ := (hw.2 a g1).2.2.2.2.2 g2
        have hea : N (7 * a + 1) = (eN N a : Int) := by unfold eN; omega
        have hx' : x < eN N a := hx
        have := (v4 x (by omega) (by omega)).1
        simp only [List.length_cons]
        omega
    · cases st with
      | nil => exact (show eN N x ≤ A from ok0.2)
      | cons y st =>
        obtain ⟨a, r⟩ := y
        obtain ⟨⟨g1, g2, g3, g4, g5, g6⟩, g7⟩ := ho
        exact ⟨⟨g1, g2, by omega, ok0.2, g5, g6⟩, g7⟩
/-- a round is through -/
theorem cPr_r {F : Nat → Int → LT → LT} {A a r : Nat} {K N C : Nat → Int} {Dp : Nat → Nat} {s : dSt} {st : List (Nat × Nat)} (hw : wfP A K N C Dp) (ho : stO A K N Dp (eN N a) ((a, r) :: st)) : (((r + 1 : Nat) : Int) < N (7 * a + 0) → cPr F A K N ((a, r) :: st) (eN N a) s = cPr F A K N ((a, r + 1) :: st) (a + 1) s ∧ stO A K N Dp (a + 1) ((a, r + 1) :: st)) ∧ (¬ ((r + 1 : Nat) : Int) < N (7 * a + 0) → cPr F A K N ((a, r) :: st) (eN N a) s = cPr F A K N st (eN N a) s ∧ stO A K N Dp (eN N a) st) := by
  have hA := hw.1
  obtain ⟨⟨g1, g2, g3, g4, g5, g6⟩, g7⟩ := id ho
  obtain ⟨v1, v2, v3, v4⟩ := (hw.2 a g1).2.2.2.2.2 g2
  have hea : N (7 * a + 1) = (eN N a : Int) := by unfold eN; omega
  have hb := stO_A hw g7
  constructor
  · intro c
    refine ⟨?_, ⟨g1, g2, Nat.le_refl _, by omega, c, g6⟩, g7⟩
    by_cases z : s.2 < 300
    · rw [cPr, cPr, pI_e (by omega), pI_r hw (Or.inr ⟨rfl, g1, g2, hea, by omega⟩) (by omega) ⟨c, z⟩]
    · rw [cPr_3 _ _ _ (by omega), cPr_3 _ _ _ (by omega)]
  · intro c
    refine ⟨?_, g7⟩
    rw [cPr, pI_e (by omega), pI_f (fun y => c y.1)]
