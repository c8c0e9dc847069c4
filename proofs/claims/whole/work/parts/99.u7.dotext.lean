/-! the reference doing a text -/
def goR (t0 : Nat) (f : Nat → Nat → Int) : List (Nat × Nat) → Prop
  | [] => True
  | (a, r) :: st => (f 103 st.length = ((t0 + 1 + 12 * a : Nat) : Int) ∧ f 104 st.length = (r : Int)) ∧ goR t0 f st
theorem goR_o {t0 : Nat} {f g : Nat → Nat → Int} : ∀ {st : List (Nat × Nat)}, (∀ j, j < st.length → g 103 j = f 103 j ∧ g 104 j = f 104 j) → goR t0 f st → goR t0 g st
  | [], _, _ => trivial
  | (a, r) :: st, h, ⟨⟨x1, x2⟩, y⟩ => ⟨⟨(h _ (by simp)).1.trans x1, (h _ (by simp)).2.trans x2⟩, goR_o (fun j hj => h j (by simp only [List.length_cons]; omega)) y⟩
/-- the text tx in the reference -/
def mTx (tx A : Nat) (K N C : Nat → Int) (X : Nat → Int) : Prop := X (1000 * tx) = (A : Int) ∧ txR X (1000 * tx) A K N [] ∧ ∀ a, a < A → K a = 2 → ∀ i : Nat, N (7 * a + 4) ≤ (i : Int) → (i : Int) < N (7 * a + 5) → X (1000 * tx + 200 + 2 * i) = eo (C i) ∧ X (1000 * tx + 200 + 2 * i + 1) = ev (C i)
theorem mTx_k {tx A a : Nat} {K N C X : Nat → Int} (h : mTx tx A K N C X) (ha : a < A) : X (1000 * tx + 1 + 12 * a) = K a - 1 := (h.2.1 a ha).1
theorem mTx_n {tx A a j : Nat} {K N C X : Nat → Int} (h : mTx tx A K N C X) (ha : a < A) (hj : j < nsl (K a)) : X (1000 * tx + 1 + 12 * a + msl (K a) j) = N (7 * a + j) := (h.2.1 a ha).2 j hj (fun _ _ => by simp)
/-- what changes -/
def fM (p : Int) (I f : Nat → Nat → Int) : Prop := jfr [91, 100, 102, 103, 104] I f ∧ pcF p I f
theorem fM_rf {p : Int} {I : Nat → Nat → Int} : fM p I I := ⟨jfr_rf _ _, pcF_rf rfl⟩
theorem fM_tr {p : Int} {I f g : Nat → Nat → Int} (a : fM p I f) (b : fM p f g) : fM p I g := ⟨jfr_tr a.1 b.1, pcF_tr a.2 b.2⟩
theorem fM_of {p : Int} {I f : Nat → Nat → Int} {S : List Nat} (a : jfr S I f) (h : ∀ c ∈ S, c ∈ [100, 102, 103, 104]) : fM p I f := ⟨jfr_sub a (fun c hc => by have := h c hc; simp only [List.mem_cons, List.not_mem_nil, or_false] at this ⊢; omega), pcF_rf (a 91 (fun y => by have := h 91 y; simp only [List.mem_cons, List.not_mem_nil, or_false] at this; omega))⟩
theorem jmx_pc {p r w g : Int} {h : ja_H} {f e : Nat → Nat → Int} (a : pcF p h.2.1 f) (hp : 0 ≤ p) (hr : 0 ≤ r) (hw : w ≤ 12) (hg : g ≤ 12) (hn : r ≠ p) : jmx (h.1, f, e) w g r = jmx h w g r := by
  funext x y
  unfold jmx jm_lt
  split
  · dsimp only
    exact a _ (by omega)
  · rfl
/-- the reference at work: place x, open repeats st, light lt, dn acts done -/
def mS (tx A : Nat) (p w g : Int) (K N C : Nat → Int) (Dp : Nat → Nat) (px : Int → LT) (x : Nat) (st : List (Nat × Nat)) (lt : LT) (h : ja_H) : Prop := jG h.1 ∧ jm w g h ∧ mTx tx A K N C (h.2.1 93) ∧ stO A K N Dp x st ∧ goR (1000 * tx) h.2.1 st ∧ (jmx h w g p = lt ∧ l99 lt) ∧ ∀ r : Int, 0 ≤ r → r ≤ 4 → r ≠ p → jmx h w g r = px r
theorem mS_o {tx A x : Nat} {p w g : Int} {K N C : Nat → Int} {Dp : Nat → Nat} {px : Int → LT} {st : List (Nat × Nat)} {lt lt' : LT} {h : ja_H} {f e : Nat → Nat → Int} {x' : Nat} {st' : List (Nat × Nat)} (hm : mS tx A p w g K N C Dp px x st lt h) (hp : 0 ≤ p ∧ p ≤ 4) (fr : fM p h.2.1 f) (ho : stO A K N Dp x' st') (hg : goR (1000 * tx) f st') (hl : jmx (h.1, f, e) w g p = lt') (hl9 : l99 lt') : mS tx A p w g K N C Dp px x' st' lt' (h.1, f, e) := by
  obtain ⟨a, b, c, _, _, _, i⟩ := hm
  have bb := b.2.2.2
  refine ⟨a, jm_w b (fr.1 90 (by simp)), by rw [show (h.1, f, e).2.1 93 = h.2.1 93 from fr.1 93 (by simp)]; exact c, ho, hg, ⟨hl, hl9⟩, fun r h0 h4 hr => ?_⟩
  rw [← i r h0 h4 hr]
  exact jmx_pc fr.2 hp.1 h0 bb.2.1 bb.2.2.2 hr
def mu (N : Nat → Int) : List (Nat × Nat) → Nat
  | [] => 0
  | (a, r) :: st => 1 + (10 - r) + mu N st
