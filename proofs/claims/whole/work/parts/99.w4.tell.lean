/-! the digits of a story's number, the first first -/
def dgs (T : Nat) : Nat → Nat → List Nat
  | 0, _ => []
  | n + 1, c => (c / T ^ n) :: dgs T n (c % T ^ n)
theorem dgs_s {T n i c : Nat} (hc : c < T ^ n) : dgs T (n + 1) (i * T ^ n + c) = i :: dgs T n c := by
  have hp : 0 < T ^ n := by omega
  simp only [dgs]
  rw [Nat.mul_comm i, Nat.mul_add_mod, Nat.mod_eq_of_lt hc, Nat.mul_add_div hp, Nat.div_eq_of_lt hc, Nat.add_zero]
theorem okS_iff {D : Nat → LT → LT} {T n c : Nat} {gl lt : LT} : okS D T gl n c lt = true ↔ sq D T n c lt = gl := by
  unfold okS
  exact @decide_eq_true_iff _ (Classical.propDecidable _)
theorem cnt_le {P : Nat → Bool} : ∀ m, cnt P m ≤ m
  | 0 => Nat.le_refl _
  | m + 1 => by
    have := cnt_le (P := P) m
    simp only [cnt]
    split <;> omega
/-- the first story found: dn texts that were told, then the digits of x -/
def fsP (T rem dn x : Nat) (tl f : Nat → Int) : Prop := (∀ j, j < dn → f j = tl j) ∧ ∀ j, j < rem → f (dn + j) = (((dgs T rem x).getD j 0 : Nat) : Int)
def fsA (c m : Nat) (P : Nat → Bool) (T rem dn : Nat) (tl f0 f : Nat → Int) : Prop := (c = 0 ∧ cnt P m > 0 → fsP T rem dn (lst P m) tl f) ∧ (¬ (c = 0 ∧ cnt P m > 0) → f = f0)
theorem fsA_s {D : Nat → LT → LT} {T r i c dn : Nat} {gl lt : LT} {tl tl1 f0 f1 f2 : Nat → Int} (a : fsA c (i * T ^ r) (fun x => okS D T gl (r + 1) x lt) T (r + 1) dn tl f0 f1) (b : fsA (c + cnt (fun x => okS D T gl (r + 1) x lt) (i * T ^ r)) (T ^ r) (fun x => okS D T gl r x (D i lt)) T r (dn + 1) tl1 f1 f2) (ht : ∀ j, j < dn → tl1 j = tl j) (hi : tl1 dn = (i : Int)) : fsA c ((i + 1) * T ^ r) (fun x => okS D T gl (r + 1) x lt) T (r + 1) dn tl f0 f2 := by
  have et := cnt_t (D := D) (T := T) (n := r) (i := i) (gl := gl) (lt := lt)
  refine ⟨?_, ?_⟩
  · rintro ⟨hc, hm⟩
    subst hc
    rw [lst_t hm]
    by_cases z : cnt (fun x => okS D T gl (r + 1) x lt) (i * T ^ r) > 0
    · rw [if_pos z, b.2 (by omega)]
      exact a.1 ⟨rfl, z⟩
    · rw [if_neg z]
      have hm2 : cnt (fun x => okS D T gl r x (D i lt)) (T ^ r) > 0 := by omega
      obtain ⟨b1, b2⟩ := b.1 ⟨by omega, hm2⟩
      have hx := (lst_s _ hm2).1
      refine ⟨fun j hj => (b1 j (by omega)).trans (ht j hj), fun j hj => ?_⟩
      rw [dgs_s hx]
      cases j with
      | zero => exact (b1 dn (by omega)).trans hi
      | succ j =>
        have := b2 j (by omega)
        rw [show dn + (j + 1) = dn + 1 + j by omega]
        simpa using this
  · intro hn
    have e2 : f2 = f1 := b.2 (by omega)
    have e1 : f1 = f0 := a.2 (by omega)
    rw [e2, e1]
theorem fsA_0 {c : Nat} {P : Nat → Bool} {T rem dn : Nat} {tl f0 : Nat → Int} : fsA c 0 P T rem dn tl f0 f0 := ⟨fun h => absurd h.2 (by simp [cnt]), fun _ => rfl⟩
/-- what telling may change -/
def fT (k dn : Nat) (I u : Nat → Nat → Int) : Prop := jfr [k + 1, 50, 51, 52, 54, 55, 57, 58, 60, 62, 64] I u ∧ (∀ j, j ≠ 9 → u 55 j = I 55 j) ∧ (∀ j, j < dn → u 57 j = I 57 j) ∧ ∀ i, i < dn → u (60 + 2 * i) = I (60 + 2 * i)
theorem fT_rf {k dn : Nat} {I : Nat → Nat → Int} : fT k dn I I := ⟨jfr_rf _ _, fun _ _ => rfl, fun _ _ => rfl, fun _ _ => rfl⟩
theorem fT_tr {k dn : Nat} {I u v : Nat → Nat → Int} (a : fT k dn I u) (b : fT k dn u v) : fT k dn I v := ⟨jfr_tr a.1 b.1, fun j hj => (b.2.1 j hj).trans (a.2.1 j hj), fun j hj => (b.2.2.1 j hj).trans (a.2.2.1 j hj), fun j hj => (b.2.2.2 j hj).trans (a.2.2.2 j hj)⟩
theorem fT_m {k dn dn' : Nat} {I u : Nat → Nat → Int} (a : fT k dn' I u) (h : dn ≤ dn') : fT k dn I u := ⟨a.1, a.2.1, fun j hj => a.2.2.1 j (by omega), fun j hj => a.2.2.2 j (by omega)⟩
theorem fT_D {k dn : Nat} {I u : Nat → Nat → Int} (a : fD k I u) (hk : k + 1 < 48) (hd : dn ≤ 3) : fT k dn I u := by
  have o : ∀ c, (c ≠ k + 1 ∧ c ≠ 50 ∧ c ≠ 51 ∧ c ≠ 52 ∧ c ≠ 54) → u c = I c := fun c hc => a.1 c (by simp only [List.mem_cons, List.not_mem_nil, or_false]; omega)
  exact ⟨jfr_sub a.1 (by simp), fun j _ => congrFun (o 55 (by omega)) j, fun j _ => congrFun (o 57 (by omega)) j, fun i hi => o _ (by omega)⟩
/-- the class's Teller at work: hero p (cell k), goal's light gl (cell ko), T texts -/
def tS (n k ko T : Nat) (p w g : Int) (A : Nat → Nat) (K N C : Nat → Nat → Int) (px : Int → LT) (gl lt : LT) (h : ja_H) : Prop := (jG h.1 ∧ h.1 55 3 = some k ∧ h.1 55 4 = some ko ∧ h.1 55 5 = some 1 ∧ h.1 55 6 = some 65 ∧ h.1 55 7 = some 50) ∧ jW w g n h.2.1 ∧ h.2.1 1 9 = (T : Int) ∧ (∀ t, t < T → cPg t (A t) (K t) (N t) (C t) h.2.1) ∧ jpx h w g k = lt ∧ jpx h w g ko = gl ∧ ∀ r : Int, 0 ≤ r → r ≤ 4 → r ≠ p → jpx h w g (5 + 2 * r.toNat) = px r
/-- what doesn't change -/
def tC (k ko T : Nat) (p : Int) (A : Nat → Nat) (K N C : Nat → Nat → Int) (Dp : Nat → Nat → Nat) (px : Int → LT) : Prop := (0 ≤ p ∧ p ≤ 4) ∧ k = 5 + 2 * p.toNat ∧ (∃ q : Nat, q ≤ 4 ∧ ko = 5 + 2 * q) ∧ T ≤ 6 ∧ (∀ t, t < T → wfP (A t) (K t) (N t) (C t) (Dp t)) ∧ (∀ r, l99 (px r)) ∧ ∀ r : Int, ¬ (0 ≤ r ∧ r ≤ 4) → px r = fun _ _ => 0
theorem tS_mk {n k ko T : Nat} {p w g : Int} {A : Nat → Nat} {K N C : Nat → Nat → Int} {Dp : Nat → Nat → Nat} {px : Int → LT} {gl lt lt' : LT} {h : ja_H} {R : Nat → Nat → Option Nat} {u e : Nat → Nat → Int} (hs : tS n k ko T p w g A K N C px gl lt h) (hc : tC k ko T p A K N C Dp px) (fr : jfr [k + 1, 50, 51, 52, 54, 55, 57, 58, 60, 62, 64] h.2.1 u) (hG : jG R) (h55 : ∀ j, 3 ≤ j → R 55 j = h.1 55 j) (hl : jpx (R, u, e) w g k = lt') (hg : ko ≠ k ∨ lt' = lt) : tS n k ko T p w g A K N C px gl lt' (R, u, e) := by
  obtain ⟨⟨a1, a2, a3, a4, a5, a6⟩, hW, hT, hP, b1, b2, b3⟩ := hs
  obtain ⟨hp, hk, ⟨q, hq, hko⟩, hT6, _⟩ := hc
  have o : ∀ c, (c ≠ k + 1 ∧ c ≠ 50 ∧ c ≠ 51 ∧ c ≠ 52 ∧ c ≠ 54 ∧ c ≠ 55 ∧ c ≠ 57 ∧ c ≠ 58 ∧ c ≠ 60 ∧ c ≠ 62 ∧ c ≠ 64) → u c = h.2.1 c := fun c hc => fr c (by simp only [List.mem_cons, List.not_mem_nil, or_false]; omega)
  refine ⟨⟨hG, (h55 3 (by decide)).trans a2, (h55 4 (by decide)).trans a3, (h55 5 (by decide)).trans a4, (h55 6 (by decide)).trans a5, (h55 7 (by decide)).trans a6⟩, jW_fr hW (fun j _ => congrFun (o 90 (by omega)) j) (fun j _ => congrFun (o 1 (by omega)) j) (fun c hc => o c (by simp only [List.mem_cons, List.not_mem_nil, or_false] at hc; omega)), (congrFun (o 1 (by omega)) 9).trans hT, fun t ht => ?_, hl, ?_, fun r h0 h4 hr => ?_⟩
  · obtain ⟨c1, c2, c3, c4⟩ := hP t ht
    exact ⟨(congrFun (o _ (by omega)) 3).trans c1, (o _ (by omega)).trans c2, (o _ (by omega)).trans c3, (o _ (by omega)).trans c4⟩
  · by_cases z : ko = k
    · rcases hg with y | y
      · exact absurd z y
      · rw [z, hl, y, ← b1, ← z, b2]
    · rw [← b2]
      exact jpx_w (h := h) (o _ (by omega))
  · rw [← b3 r h0 h4 hr]
    exact jpx_w (h := h) (o _ (by omega))
theorem jG_56 {i : Nat} {R : Nat → Nat → Option Nat} (hG : jG R) (hi : i < 3) : R 56 i = some (59 + 2 * i) := by
  match i, hi with
  | 0, _ => exact jG_at hG rfl
  | 1, _ => exact jG_at hG rfl
  | 2, _ => exact jG_at hG rfl
def DD (A : Nat → Nat) (K N C : Nat → Nat → Int) (px : Int → LT) (p w g : Int) (t : Nat) (lt : LT) : LT := (doT px p (A t) (K t) (N t) (C t) w g lt).1
def jTl (l : Launch) (n k ko T : Nat) (p w g : Int) (A : Nat → Nat) (K N C : Nat → Nat → Int) (px : Int → LT) (gl : LT) (rem : Nat) : Prop := ∀ {D dn c : Nat} {lt : LT} {h : ja_H} {Q : ja_Q}, tS n k ko T p w g A K N C px gl lt h → l99 lt → h.2.1 55 8 = ((dn + rem : Nat) : Int) → h.2.1 55 9 = (c : Int) → dn + rem ≤ 3 → (rem = 0 ∨ ko ≠ k) → c + T ^ rem ≤ 900 → 25 + 2 * rem ≤ D → (∀ R u, fT k dn h.2.1 u → tS n k ko T p w g A K N C px gl lt (R, u, h.2.2) → u 55 9 = ((c + cnt (fun x => okS (DD A K N C px p w g) T gl rem x lt) (T ^ rem) : Nat) : Int) → fsA c (T ^ rem) (fun x => okS (DD A K N C px p w g) T gl rem x lt) T rem dn (h.2.1 57) (h.2.1 58) (u 58) → Q none (R, u, h.2.2)) → ja_C l D mX9_tell (js_sh n) [.inr (.inr (some 55)), .inl (dn : Int)] h Q
theorem jp_k {n : Nat} {w g p : Int} {k : Nat} {h : ja_H} (hG : jG h.1) (hW : jW w g n h.2.1) (hp : 0 ≤ p ∧ p ≤ 4) (hk : k = 5 + 2 * p.toNat) : jp w g n k h := jp_of hG hW (by
  rw [hk]
  have : p.toNat = 0 ∨ p.toNat = 1 ∨ p.toNat = 2 ∨ p.toNat = 3 ∨ p.toNat = 4 := by omega
  rcases this with y | y | y | y | y <;> rw [y] <;> decide)
theorem jp_b {n : Nat} {w g : Int} {i : Nat} {h : ja_H} (hG : jG h.1) (hW : jW w g n h.2.1) (hi : i < 3) : jp w g n (59 + 2 * i) h := jp_of hG hW (by
  have : i = 0 ∨ i = 1 ∨ i = 2 := by omega
  rcases this with y | y | y <;> rw [y] <;> decide)
