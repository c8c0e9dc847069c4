theorem cnt_a {P : Nat → Bool} {a : Nat} : ∀ b, cnt P (a + b) = cnt P a + cnt (fun c => P (a + c)) b
  | 0 => by simp [cnt]
  | b + 1 => by
    rw [← Nat.add_assoc]
    simp only [cnt]
    rw [cnt_a b]
    omega
theorem lst_a {P : Nat → Bool} {a : Nat} : ∀ b, cnt P (a + b) > 0 → lst P (a + b) = if cnt P a > 0 then lst P a else a + lst (fun c => P (a + c)) b
  | 0, h => by
    rw [Nat.add_zero] at h ⊢
    rw [if_pos h]
  | b + 1, h => by
    rw [← Nat.add_assoc]
    simp only [lst]
    have e := cnt_a (P := P) (a := a) b
    by_cases z : cnt P (a + b) > 0
    · rw [if_pos z, lst_a b z]
      by_cases y : cnt P a > 0
      · rw [if_pos y, if_pos y]
      · rw [if_neg y, if_neg y, if_pos (by omega)]
    · rw [if_neg z, if_neg (by omega), if_neg (by omega)]
theorem sq_s {D : Nat → LT → LT} {T n i c : Nat} {lt : LT} (hc : c < T ^ n) : sq D T (n + 1) (i * T ^ n + c) lt = sq D T n c (D i lt) := by
  have hp : 0 < T ^ n := by omega
  simp only [sq]
  rw [Nat.mul_comm i, Nat.mul_add_mod, Nat.mod_eq_of_lt hc, Nat.mul_add_div hp, Nat.div_eq_of_lt hc, Nat.add_zero]
theorem okS_s {D : Nat → LT → LT} {T n i c : Nat} {gl lt : LT} (hc : c < T ^ n) : okS D T gl (n + 1) (i * T ^ n + c) lt = okS D T gl n c (D i lt) := by
  unfold okS
  rw [sq_s hc]
theorem cnt_c {P P' : Nat → Bool} : ∀ m, (∀ c, c < m → P c = P' c) → cnt P m = cnt P' m ∧ lst P m = lst P' m
  | 0, _ => ⟨rfl, rfl⟩
  | m + 1, h => by
    have ih := cnt_c (P := P) (P' := P') m (fun c hc => h c (by omega))
    simp only [cnt, lst]
    rw [ih.1, ih.2, h m (by omega)]
    exact ⟨rfl, rfl⟩
/-- stories that begin with one of the first i texts -/
theorem cnt_t {D : Nat → LT → LT} {T n i : Nat} {gl lt : LT} : cnt (fun c => okS D T gl (n + 1) c lt) ((i + 1) * T ^ n) = cnt (fun c => okS D T gl (n + 1) c lt) (i * T ^ n) + cnt (fun c => okS D T gl n c (D i lt)) (T ^ n) := by
  rw [Nat.add_mul, Nat.one_mul, cnt_a]
  rw [(cnt_c (T ^ n) (fun c hc => okS_s (i := i) hc)).1]
theorem lst_t {D : Nat → LT → LT} {T n i : Nat} {gl lt : LT} (h : cnt (fun c => okS D T gl (n + 1) c lt) ((i + 1) * T ^ n) > 0) : lst (fun c => okS D T gl (n + 1) c lt) ((i + 1) * T ^ n) = if cnt (fun c => okS D T gl (n + 1) c lt) (i * T ^ n) > 0 then lst (fun c => okS D T gl (n + 1) c lt) (i * T ^ n) else i * T ^ n + lst (fun c => okS D T gl n c (D i lt)) (T ^ n) := by
  rw [Nat.add_mul, Nat.one_mul] at h ⊢
  rw [lst_a _ h, (cnt_c (T ^ n) (fun c hc => okS_s (i := i) hc)).2]
