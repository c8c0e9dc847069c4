/-! the reference's steps over a pile -/
def stl (e : Int) : List Int → List Int → List Int × List Int
  | [], w => ([], w)
  | x :: p, w => if x < 40 ∧ e ≤ x then stl e p (w ++ [x + 1003]) else (x :: p, w)
def spm : List Int → List Int → List Int × List Int
  | [], w => ([], w)
  | x :: p, w => if x = 2 then spm p (w ++ [1010]) else (x :: p, w)
def ntp (p : List Int) : Prop := ∀ x q, p = x :: q → x ≠ 2
theorem spm_c {T : Nat → Int} {Ln D s : Nat} : ∀ p w, cn T Ln D 0 p (0, s, w) = cn T Ln D 0 (spm p w).1 (0, s, (spm p w).2)
  | [], w => rfl
  | x :: p, w => by
    unfold spm
    split
    · rename_i h
      rw [← spm_c p (w ++ [1010]), cn, if_pos h, prB_0]
      simp
    · rfl
theorem spm_k : ∀ p w, pOk 0 p → pOk 0 (spm p w).1 ∧ ntp (spm p w).1 ∧ (spm p w).2.length + (spm p w).1.length = w.length + p.length
  | [], w, h => ⟨trivial, fun _ _ y => absurd y (by simp [spm]), by simp [spm]⟩
  | x :: p, w, h => by
    unfold spm
    split
    · rename_i y
      have := spm_k p (w ++ [1010]) (by rcases h with ⟨rfl, h⟩ | ⟨h1, h2, h3⟩ | ⟨h1, h2, h3⟩ | ⟨h1, h2, h3⟩; all_goals first | omega | exact h3)
      refine ⟨this.1, this.2.1, ?_⟩
      rw [this.2.2]; simp only [List.length_append, List.length_cons, List.length_nil]; omega
    · rename_i y
      exact ⟨h, fun z q e => by injection e with e1 e2; rw [← e1]; exact y, rfl⟩
theorem cn_1 {T : Nat → Int} {Ln D m : Nat} {p : List Int} {r : prR} (h : pOk 1 p) (hm : m = 0) : cn T Ln D m p r = cn T Ln D 1 p (prB r [] (pr T Ln 3 (D + oc p))) := by
  subst hm
  cases p with
  | nil => simp only [cn, oc, Nat.add_zero]; rfl
  | cons x p =>
    rw [cn, cn]
    rcases h with ⟨rfl, h⟩ | ⟨h1, h2, h3⟩ | ⟨h1, h2, h3⟩ | ⟨h1, h2, h3⟩
    · rfl
    · simp only [if_neg (show ¬ x = 2 by omega), if_neg (show ¬ (x = 5 ∨ x = 6) by omega), if_pos h1]
      rfl
    · omega
    · omega
theorem cn_2 {T : Nat → Int} {Ln D m : Nat} {p : List Int} {r : prR} (h : pOk 2 p) (hm : m = 1) : cn T Ln D m p r = cn T Ln D 2 p (prB r [] (pr T Ln 4 (D + oc p))) := by
  subst hm
  cases p with
  | nil => simp only [cn, oc, Nat.add_zero]; rfl
  | cons x p =>
    rw [cn, cn]
    rcases h with ⟨rfl, h⟩ | ⟨h1, h2, h3⟩ | ⟨h1, h2, h3⟩ | ⟨h1, h2, h3⟩
    · rfl
    all_goals omega
theorem stl_5 {p w : List Int} (h : pOk 1 p) : stl 5 p w = (p, w) := by
  cases p with
  | nil => rfl
  | cons x p =>
    unfold stl
    rw [if_neg]
    rcases h with ⟨rfl, h⟩ | ⟨h1, h2, h3⟩ | ⟨h1, h2, h3⟩ | ⟨h1, h2, h3⟩ <;> omega
theorem stl_3 {p w : List Int} (h : pOk 2 p) : stl 3 p w = (p, w) := by
  cases p with
  | nil => rfl
  | cons x p =>
    unfold stl
    rw [if_neg]
    rcases h with ⟨rfl, h⟩ | ⟨h1, h2, h3⟩ | ⟨h1, h2, h3⟩ | ⟨h1, h2, h3⟩ <;> omega
/-- a pile whose one is read: at most a deed of a product, then at most one of a sum -/
theorem pl_5 {p : List Int} (h : pOk 0 p) (hn : ntp p) : pOk 1 p ∨ ∃ x q, p = x :: q ∧ (x = 5 ∨ x = 6) ∧ pOk 1 q := by
  cases p with
  | nil => exact Or.inl trivial
  | cons x p =>
    rcases h with ⟨rfl, h⟩ | ⟨h1, h2, h3⟩ | ⟨h1, h2, h3⟩ | ⟨h1, h2, h3⟩
    · exact Or.inl (Or.inl ⟨rfl, h⟩)
    · exact Or.inl (Or.inr (Or.inl ⟨h1, by omega, h3⟩))
    · exact Or.inr ⟨x, p, rfl, h1, h3⟩
    · exact absurd h1 (hn x p rfl)
theorem pl_3 {p : List Int} (h : pOk 1 p) : pOk 2 p ∨ ∃ x q, p = x :: q ∧ (x = 3 ∨ x = 4) ∧ pOk 2 q := by
  cases p with
  | nil => exact Or.inl trivial
  | cons x p =>
    rcases h with ⟨rfl, h⟩ | ⟨h1, h2, h3⟩ | ⟨h1, h2, h3⟩ | ⟨h1, h2, h3⟩
    · exact Or.inl (Or.inl ⟨rfl, h⟩)
    · exact Or.inr ⟨x, p, rfl, h1, h3⟩
    · omega
    · omega
theorem oc_n {x : Int} {p : List Int} (h : x ≠ 2 ∧ x ≠ 40) : oc (x :: p) = oc p := by simp only [oc]; rw [if_neg (by omega)]; omega
theorem oc_y {x : Int} {p : List Int} (h : x = 2 ∨ x = 40) : oc (x :: p) = oc p + 1 := by simp only [oc]; rw [if_pos h]; omega
/-- the product is through -/
theorem st_5 {T : Nat → Int} {Ln D s : Nat} {p w : List Int} (hs : s ≤ Ln) (h : pOk 0 p) (hn : ntp p) (k : ¬ (tkK T Ln s = 42 ∨ tkK T Ln s = 47)) : ∃ q v, stl 5 p w = (q, v) ∧ pOk 1 q ∧ oc q = oc p ∧ v.length + q.length = w.length + p.length ∧ stl 3 p w = stl 3 q v ∧ cn T Ln D 0 p (0, s, w) = cn T Ln D 1 q (0, s, v) := by
  rcases pl_5 h hn with h1 | ⟨x, q, rfl, hx, h1⟩
  · refine ⟨p, w, stl_5 h1, h1, rfl, rfl, rfl, ?_⟩
    rw [cn_1 h1 rfl, prB_0, pr_3 hs, if_neg k]
    simp
  · refine ⟨q, w ++ [x + 1003], ?_, h1, (oc_n (by omega)).symm, by simp only [List.length_append, List.length_cons, List.length_nil]; omega, ?_, ?_⟩
    · unfold stl
      rw [if_pos (by omega)]; exact stl_5 h1
    · rw [stl, if_pos (by omega)]
    · rw [cn, if_neg (by omega), if_pos hx, prB_0, pr_3 hs, if_neg k]
      simp
theorem st_3 {T : Nat → Int} {Ln D s : Nat} {p w : List Int} (hs : s ≤ Ln) (h : pOk 0 p) (hn : ntp p) (k : ¬ (tkK T Ln s = 42 ∨ tkK T Ln s = 47)) (k2 : ¬ (tkK T Ln s = 43 ∨ tkK T Ln s = 45)) : ∃ q v, stl 3 p w = (q, v) ∧ pOk 2 q ∧ oc q = oc p ∧ v.length + q.length = w.length + p.length ∧ cn T Ln D 0 p (0, s, w) = cn T Ln D 2 q (0, s, v) := by
  obtain ⟨q, v, _, h1, ho, hl, e3, ec⟩ := st_5 (T := T) (D := D) (w := w) hs h hn k
  rw [e3, ec]
  rcases pl_3 h1 with h2 | ⟨x, q', rfl, hx, h2⟩
  · refine ⟨q, v, stl_3 h2, h2, ho, hl, ?_⟩
    rw [cn_2 h2 rfl, prB_0, pr_4 hs, if_neg k2]
    simp
  · refine ⟨q', v ++ [x + 1003], ?_, h2, by rw [← ho]; exact (oc_n (by omega)).symm, by simp only [List.length_append, List.length_cons, List.length_nil] at *; omega, ?_⟩
    · unfold stl
      rw [if_pos (by omega)]; exact stl_3 h2
    · rw [cn, if_neg (by omega), if_neg (by omega), if_pos hx, if_neg (by decide), prB_0, pr_4 hs, if_neg k2]
      simp
theorem st_times {T : Nat → Int} {Ln D s : Nat} {p w : List Int} (hs : s ≤ Ln) (h : pOk 0 p) (hn : ntp p) (k : tkK T Ln s = 42 ∨ tkK T Ln s = 47) : ∃ q v, stl 5 p w = (q, v) ∧ pOk 0 ((if tkK T Ln s = 42 then 5 else 6) :: q) ∧ oc q = oc p ∧ v.length + q.length = w.length + p.length ∧ cn T Ln D 0 p (0, s, w) = cn T Ln D 0 ((if tkK T Ln s = 42 then 5 else 6) :: q) (prB (0, nxS T Ln s, v) [] (pr T Ln 0 (D + oc q))) := by
  have nb := nxS_b (T := T) hs
  have hop : (if tkK T Ln s = 42 then (5 : Int) else 6) = 5 ∨ (if tkK T Ln s = 42 then (5 : Int) else 6) = 6 := by split <;> omega
  have hoq : (if tkK T Ln s = 42 then (5 : Int) else 6) + 1003 = (if tkK T Ln s = 42 then (1008 : Int) else 1009) := by split <;> omega
  generalize (if tkK T Ln s = 42 then (5 : Int) else 6) = x' at hop hoq ⊢
  have fin : ∀ q v, pOk 1 q → cn T Ln D 1 q (prB (0, s, v) [] (pr T Ln 3 (D + oc q))) = cn T Ln D 0 (x' :: q) (prB (0, nxS T Ln s, v) [] (pr T Ln 0 (D + oc q))) := by
    intro q v h1
    rw [cn, if_neg (by omega), if_pos hop, hoq, oc_n (by omega)]
    rw [prB_as, prB_0, prB_0, pr_3 hs, if_pos k]
  rcases pl_5 h hn with h1 | ⟨x, q, rfl, hx, h1⟩
  · refine ⟨p, w, stl_5 h1, Or.inr (Or.inr (Or.inl ⟨hop, rfl, h1⟩)), rfl, rfl, ?_⟩
    rw [cn_1 h1 rfl]
    exact fin p w h1
  · refine ⟨q, w ++ [x + 1003], ?_, Or.inr (Or.inr (Or.inl ⟨hop, rfl, h1⟩)), (oc_n (by omega)).symm, by simp only [List.length_append, List.length_cons, List.length_nil]; omega, ?_⟩
    · unfold stl
      rw [if_pos (by omega)]; exact stl_5 h1
    · rw [← fin q _ h1, cn, if_neg (by omega), if_pos hx, prB_0, prB_0, oc_n (by omega)]
      simp
theorem st_plus {T : Nat → Int} {Ln D s : Nat} {p w : List Int} (hs : s ≤ Ln) (h : pOk 0 p) (hn : ntp p) (k : tkK T Ln s = 43 ∨ tkK T Ln s = 45) : ∃ q v, stl 3 p w = (q, v) ∧ pOk 0 ((if tkK T Ln s = 43 then 3 else 4) :: q) ∧ oc q = oc p ∧ v.length + q.length = w.length + p.length ∧ cn T Ln D 0 p (0, s, w) = cn T Ln D 0 ((if tkK T Ln s = 43 then 3 else 4) :: q) (prB (0, nxS T Ln s, v) [] (pr T Ln 0 (D + oc q))) := by
  have nb := nxS_b (T := T) hs
  have hop : (if tkK T Ln s = 43 then (3 : Int) else 4) = 3 ∨ (if tkK T Ln s = 43 then (3 : Int) else 4) = 4 := by split <;> omega
  have hoq : (if tkK T Ln s = 43 then (3 : Int) else 4) + 1003 = (if tkK T Ln s = 43 then (1006 : Int) else 1007) := by split <;> omega
  generalize (if tkK T Ln s = 43 then (3 : Int) else 4) = x' at hop hoq ⊢
  have fin : ∀ q v, pOk 2 q → cn T Ln D 2 q (prB (0, s, v) [] (pr T Ln 4 (D + oc q))) = cn T Ln D 0 (x' :: q) (prB (0, nxS T Ln s, v) [] (pr T Ln 0 (D + oc q))) := by
    intro q v h1
    rw [cn, if_neg (by omega), if_neg (by omega), if_pos hop, hoq, oc_n (by omega), if_pos rfl]
    rw [prB_as, prB_as, prB_0, prB_0, pr_4 hs, if_pos k, pr_1 nb.2.1, prB_as]
  obtain ⟨q, v, _, h1, ho, hl, e3, ec⟩ := st_5 (T := T) (D := D) (w := w) hs h hn (by omega)
  rw [e3, ec]
  rcases pl_3 h1 with h2 | ⟨x, q', rfl, hx, h2⟩
  · refine ⟨q, v, stl_3 h2, Or.inr (Or.inl ⟨hop, by omega, h2⟩), ho, hl, ?_⟩
    rw [cn_2 h2 rfl]
    exact fin q v h2
  · refine ⟨q', v ++ [x + 1003], ?_, Or.inr (Or.inl ⟨hop, by omega, h2⟩), by rw [← ho]; exact (oc_n (by omega)).symm, by simp only [List.length_append, List.length_cons, List.length_nil] at *; omega, ?_⟩
    · unfold stl
      rw [if_pos (by omega)]; exact stl_3 h2
    · rw [← fin q' _ h2, cn, if_neg (by omega), if_neg (by omega), if_pos hx, if_neg (by decide), prB_0, prB_0, oc_n (by omega)]
      simp
theorem st_close {T : Nat → Int} {Ln D s : Nat} {p w : List Int} (hs : s ≤ Ln) (h : pOk 0 p) (hn : ntp p) (k : tkK T Ln s = 41) (hp : (40 : Int) ∈ p) : ∃ q v, stl 3 p w = (40 :: q, v) ∧ pOk 0 q ∧ oc q + 1 = oc p ∧ v.length + q.length + 1 = w.length + p.length ∧ cn T Ln D 0 p (0, s, w) = cn T Ln D 0 q (0, nxS T Ln s, v) := by
  have hm : ∀ x : Int, ∀ q, p = x :: q → x ≠ 40 → (40 : Int) ∈ q := fun x q e hx => by
    rw [e] at hp
    rcases List.mem_cons.mp hp with y | y
    · exact absurd y.symm hx
    · exact y
  obtain ⟨q, v, e3, h2, ho, hl, ec⟩ := st_3 (T := T) (D := D) (w := w) hs h hn (by omega) (by omega)
  have hq : (40 : Int) ∈ q := by
    rcases pl_5 h hn with h1 | ⟨x, q1, rfl, hx, h1⟩
    · rcases pl_3 h1 with h3 | ⟨y, q2, rfl, hy, h3⟩
      · rw [stl_3 h3] at e3; injection e3 with e _; rw [← e]; exact hp
      · rw [stl, if_pos (by omega), stl_3 h3] at e3; injection e3 with e _; rw [← e]; exact hm _ _ rfl (by omega)
    · have hq1 := hm _ _ rfl (by omega)
      rw [stl, if_pos (by omega)] at e3
      rcases pl_3 h1 with h3 | ⟨y, q2, rfl, hy, h3⟩
      · rw [stl_3 h3] at e3; injection e3 with e _; rw [← e]; exact hq1
      · rw [stl, if_pos (by omega), stl_3 h3] at e3
        injection e3 with e _
        rw [← e]
        rcases List.mem_cons.mp hq1 with y' | y'
        · omega
        · exact y'
  cases q with
  | nil => simp at hq
  | cons x q =>
    rcases h2 with ⟨rfl, h2⟩ | ⟨h1, h2, h3⟩ | ⟨h1, h2, h3⟩ | ⟨h1, h2, h3⟩
    · refine ⟨q, v, e3, h2, by rw [← ho, oc_y (by omega)], by simp only [List.length_cons] at hl; omega, ?_⟩
      rw [ec, cn, if_neg (by decide), if_neg (by decide), if_neg (by decide), if_neg (by decide), if_neg (by decide), prB_0]
      unfold cls
      rw [if_pos k]
      simp
    all_goals omega
theorem st_end {T : Nat → Int} {Ln D s : Nat} {p w : List Int} (hs : s ≤ Ln) (h : pOk 0 p) (hn : ntp p) (k : ¬ (tkK T Ln s = 42 ∨ tkK T Ln s = 47)) (k2 : ¬ (tkK T Ln s = 43 ∨ tkK T Ln s = 45)) (k3 : tkK T Ln s = 41 → (40 : Int) ∉ p) : ∃ q v, stl 3 p w = (q, v) ∧ v.length + q.length = w.length + p.length ∧ oc q = oc p ∧ cn T Ln D 0 p (0, s, w) = (if q.length > 0 then 1 else 0, s, v) := by
  obtain ⟨q, v, e3, h2, ho, hl, ec⟩ := st_3 (T := T) (D := D) (w := w) hs h hn k k2
  refine ⟨q, v, e3, hl, ho, ?_⟩
  rw [ec]
  have sub : ∀ (e : Int) p w, ∀ x ∈ (stl e p w).1, x ∈ p := by
    intro e p
    induction p with
    | nil => intro w x hx; simp [stl] at hx
    | cons y p ih =>
      intro w x hx
      unfold stl at hx
      split at hx
      · exact List.mem_cons_of_mem _ (ih _ x hx)
      · exact hx
  cases q with
  | nil => rfl
  | cons x q =>
    rcases h2 with ⟨rfl, h2⟩ | ⟨h1, h2, h3⟩ | ⟨h1, h2, h3⟩ | ⟨h1, h2, h3⟩
    · have k4 : ¬ tkK T Ln s = 41 := fun y => k3 y (sub 3 p w 40 (by rw [e3]; simp))
      rw [cn, if_neg (by decide), if_neg (by decide), if_neg (by decide), if_neg (by decide), if_neg (by decide), prB_0]
      unfold cls
      rw [if_neg k4, cn_f _ _ _ (fun y => absurd (show (1 : Int) = 0 from y) (by decide))]
      simp
    all_goals omega
