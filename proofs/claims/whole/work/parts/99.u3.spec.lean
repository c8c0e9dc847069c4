/-! doing a text: one act (not a repeat), then acts and rounds -/
abbrev LT := Int → Int → Int
def a1 (px : Int → LT) (p : Int) (K N C : Nat → Int) (w g : Int) (a : Nat) (rd : Int) (lt : LT) : LT :=
  if K a = 1 then psL (if N (7 * a + 0) = p then lt else px (N (7 * a + 0))) lt w g (N (7 * a + 1)) (N (7 * a + 2)) (N (7 * a + 5)) (N (7 * a + 6)) (N (7 * a + 3)) (N (7 * a + 4)) 0
  else if K a = 2 then pnA (ptF C (N (7 * a + 4)).toNat (N (7 * a + 5)).toNat rd) lt (N (7 * a + 0)) (N (7 * a + 1)) (min (N (7 * a + 0) + N (7 * a + 2)) w - N (7 * a + 0)).toNat (min (N (7 * a + 1) + N (7 * a + 3)) g - N (7 * a + 1)).toNat
  else if K a = 3 then kpL lt (N (7 * a + 0)) (N (7 * a + 1) % 4) (N (7 * a + 2) % 4) w g
  else fpL lt (N (7 * a + 0)) (min (N (7 * a + 0) + N (7 * a + 2)) w) (N (7 * a + 1)) (max (N (7 * a + 1)) (min (N (7 * a + 1) + N (7 * a + 3)) g))
abbrev bt (v lo hi : Int) : Prop := lo ≤ v ∧ v ≤ hi
/-- an act as it is read -/
def wfA (A : Nat) (K N C : Nat → Int) (Dp : Nat → Nat) (a : Nat) : Prop := bt (K a) 1 5 ∧
  (K a = 1 → bt (N (7 * a + 0)) 0 4 ∧ bt (N (7 * a + 1)) 0 99 ∧ bt (N (7 * a + 2)) 0 99 ∧ bt (N (7 * a + 3)) 1 99 ∧ bt (N (7 * a + 4)) 1 99 ∧ bt (N (7 * a + 5)) 0 99 ∧ bt (N (7 * a + 6)) 0 99) ∧
  (K a = 2 → (bt (N (7 * a + 0)) 0 99 ∧ bt (N (7 * a + 1)) 0 99 ∧ bt (N (7 * a + 2)) 1 99 ∧ bt (N (7 * a + 3)) 1 99) ∧ 0 ≤ N (7 * a + 4) ∧ 0 ≤ N (7 * a + 5) ∧ wfC C (N (7 * a + 4)).toNat (N (7 * a + 5)).toNat) ∧
  (K a = 3 → bt (N (7 * a + 0)) 2 50 ∧ bt (N (7 * a + 1)) 0 99 ∧ bt (N (7 * a + 2)) 0 99) ∧
  (K a = 4 → bt (N (7 * a + 0)) 0 99 ∧ bt (N (7 * a + 1)) 0 99 ∧ bt (N (7 * a + 2)) 1 99 ∧ bt (N (7 * a + 3)) 1 99) ∧
  (K a = 5 → bt (N (7 * a + 0)) 1 9 ∧ bt (N (7 * a + 1)) ((a : Int) + 1) (A : Int) ∧ Dp a ≤ 7 ∧ ∀ c, a < c → (c : Int) < N (7 * a + 1) → Dp a + 1 ≤ Dp c ∧ (K c = 5 → N (7 * c + 1) ≤ N (7 * a + 1)))
def wfP (A : Nat) (K N C : Nat → Int) (Dp : Nat → Nat) : Prop := A ≤ 16 ∧ ∀ a, a < A → wfA A K N C Dp a
theorem a1_b {px : Int → LT} {p w g rd : Int} {K N C : Nat → Int} {A a : Nat} {Dp : Nat → Nat} {lt : LT} (hw : wfA A K N C Dp a) (h1 : ∀ r, l99 (px r)) (h2 : l99 lt) : l99 (a1 px p K N C w g a rd lt) := by
  unfold a1
  split
  · refine psL_b ?_ h2
    split
    · exact h2
    · exact h1 _
  · split
    · exact pnA_b h2 ptF_b _
    · split
      · rename_i c; exact kpL_b h2 (hw.2.2.2.1 c).1
      · exact fpL_b h2
abbrev dSt := LT × Nat
def pf (F : Nat → Int → LT → LT) (K N : Nat → Int) : Nat → Nat → Nat → Nat → Nat → dSt → dSt
  | 0, _, _, _, _, s => s
  | k + 1, m, x, y, r, s =>
    if m = 0 then
      if x < y ∧ s.2 < 300 then
        if K x = 5 then pf F K N k 0 (max (x + 1) (N (7 * x + 1)).toNat) y r (pf F K N k 1 x (max (x + 1) (N (7 * x + 1)).toNat) 0 (s.1, s.2 + 1))
        else pf F K N k 0 (x + 1) y r (F x (r : Int) s.1, s.2 + 1)
      else s
    else if (r : Int) < N (7 * x + 0) ∧ s.2 < 300 then pf F K N k 1 x y (r + 1) (pf F K N k 0 (x + 1) y r s) else s
/-- the class's Doer at work on picture p (cell k), program P -/
def dS (n P k : Nat) (p w g : Int) (K N C : Nat → Int) (px : Int → LT) (lt : LT) (dn : Nat) (h : ja_H) : Prop := (jG h.1 ∧ jPg n P h.1 ∧ h.1 50 3 = some P ∧ h.1 50 4 = some k ∧ h.1 50 5 = some 1) ∧ jW w g n h.2.1 ∧ (h.2.1 (P + 1) = K ∧ h.2.1 (P + 2) = N ∧ h.2.1 (P + 3) = C) ∧ h.2.1 50 6 = (dn : Int) ∧ jpx h w g k = lt ∧ ∀ r : Int, 0 ≤ r → r ≤ 4 → r ≠ p → jpx h w g (5 + 2 * r.toNat) = px r
def fD (k : Nat) (I u : Nat → Nat → Int) : Prop := jfr [k + 1, 50, 51, 52, 54] I u ∧ ∀ j, j ≠ 6 → u 50 j = I 50 j
theorem fD_rf {k : Nat} {I : Nat → Nat → Int} : fD k I I := ⟨jfr_rf _ _, fun _ _ => rfl⟩
theorem fD_tr {k : Nat} {I u v : Nat → Nat → Int} (a : fD k I u) (b : fD k u v) : fD k I v := ⟨jfr_tr a.1 b.1, fun j hj => (b.2 j hj).trans (a.2 j hj)⟩
theorem fD_of {k : Nat} {I u : Nat → Nat → Int} {S : List Nat} (a : jfr S I u) (h : ∀ c ∈ S, c ∈ [k + 1, 51, 52, 54]) (hk : k + 1 < 48) : fD k I u := ⟨jfr_sub a (fun c hc => by have := h c hc; simp only [List.mem_cons, List.not_mem_nil, or_false] at this ⊢; omega), fun j _ => congrFun (a 50 (fun y => by have := h 50 y; simp only [List.mem_cons, List.not_mem_nil, or_false] at this; omega)) j⟩
theorem dS_mk {n P k dn dn' : Nat} {p w g : Int} {K N C : Nat → Int} {px : Int → LT} {lt lt' : LT} {h : ja_H} {u : Nat → Nat → Int} (hd : dS n P k p w g K N C px lt dn h) (hp : 0 ≤ p ∧ p ≤ 4) (hk : k = 5 + 2 * p.toNat) (hP : 66 ≤ P ∧ P ≤ 86) (fr : fD k h.2.1 u) (h6 : u 50 6 = (dn' : Int)) (hl : jpx (h.1, u, h.2.2) w g k = lt') : dS n P k p w g K N C px lt' dn' (h.1, u, h.2.2) := by
  obtain ⟨a, hW, ⟨b1, b2, b3⟩, c, d, e⟩ := hd
  have o : ∀ c, (c ≠ k + 1 ∧ c ≠ 50 ∧ c ≠ 51 ∧ c ≠ 52 ∧ c ≠ 54) → u c = h.2.1 c := fun c hc => fr.1 c (by simp only [List.mem_cons, List.not_mem_nil, or_false]; omega)
  refine ⟨a, jW_fr hW (fun j _ => congrFun (o 90 (by omega)) j) (fun j _ => congrFun (o 1 (by omega)) j) (fun c hc => o c (by simp only [List.mem_cons, List.not_mem_nil, or_false] at hc; omega)), ⟨(o _ (by omega)).trans b1, (o _ (by omega)).trans b2, (o _ (by omega)).trans b3⟩, h6, hl, fun r h0 h4 hr => ?_⟩
  rw [← e r h0 h4 hr]
  exact jpx_w (o _ (by omega))
