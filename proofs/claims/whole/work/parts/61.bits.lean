/-! bits of an int -/
def jbt (x : Int) (k : Nat) : Bool := (BitVec.ofInt 32 x).getLsbD k
theorem jbt_I (a : Int32) (k : Nat) : jbt a.toInt k = a.toBitVec.getLsbD k := by
  unfold jbt
  rw [← Int32.toInt_toBitVec, BitVec.ofInt_toInt]
theorem ja_of_bv (x : Int) : (Int32.ofInt x).toBitVec = BitVec.ofInt 32 x := rfl
theorem jbt_and (x y : Int) (k : Nat) : jbt (ja_land x y) k = (jbt x k && jbt y k) := by
  unfold ja_land
  rw [jbt_I, Int32.toBitVec_and, BitVec.getLsbD_and]
  rfl
theorem jbt_or (x y : Int) (k : Nat) : jbt (ja_lor x y) k = (jbt x k || jbt y k) := by
  unfold ja_lor
  rw [jbt_I, Int32.toBitVec_or, BitVec.getLsbD_or]
  rfl
theorem jbt_xor (x y : Int) (k : Nat) : jbt (ja_lxor x y) k = (jbt x k ^^ jbt y k) := by
  unfold ja_lxor
  rw [jbt_I, Int32.toBitVec_xor, BitVec.getLsbD_xor]
  rfl
theorem jbt_ge (x : Int) {k : Nat} (h : 32 ≤ k) : jbt x k = false := BitVec.getLsbD_of_ge _ _ h
theorem jbt_ext {x y : Int} (hx : ja_r x) (hy : ja_r y) (h : ∀ k, k < 32 → jbt x k = jbt y k) : x = y := by
  have e : BitVec.ofInt 32 x = BitVec.ofInt 32 y := BitVec.eq_of_getLsbD_eq fun k hk => h k hk
  have e2 : (Int32.ofInt x).toInt = (Int32.ofInt y).toInt := by
    rw [← Int32.toInt_toBitVec, ← Int32.toInt_toBitVec, ja_of_bv, ja_of_bv, e]
  rw [ja_toI hx, ja_toI hy] at e2
  exact e2
theorem ja_land_r (x y : Int) : ja_r (ja_land x y) := ja_rI _
theorem ja_lor_r (x y : Int) : ja_r (ja_lor x y) := ja_rI _
theorem ja_lxor_r (x y : Int) : ja_r (ja_lxor x y) := ja_rI _
theorem ja_shl_r (x y : Int) : ja_r (ja_shl x y) := ja_rI _
theorem jbt_nat (n k : Nat) : jbt (n : Int) k = (decide (k < 32) && n.testBit k) := by
  unfold jbt
  rw [BitVec.ofInt_natCast, BitVec.getLsbD_ofNat]
theorem jbt_0 (k : Nat) : jbt 0 k = false := by
  have := jbt_nat 0 k
  simpa using this
theorem jbt_1 (k : Nat) : jbt 1 k = decide (k = 0) := by
  have := jbt_nat 1 k
  rw [show ((1 : Nat) : Int) = 1 from rfl] at this
  rw [this]
  by_cases e : k = 0
  · subst e; rfl
  · have : Nat.testBit 1 k = false := by
      rw [Bool.eq_false_iff]
      intro q
      exact e (Nat.testBit_one_eq_true_iff_self_eq_zero.mp q)
    simp [this, e]
theorem jbt_m1 (k : Nat) : jbt (-1) k = decide (k < 32) := by
  unfold jbt
  rw [show BitVec.ofInt 32 (-1) = BitVec.allOnes 32 from by decide, BitVec.getLsbD_allOnes]

theorem ja_landN {a b : Nat} (ha : a < 2147483648) (hb : b < 2147483648) : ja_land (a : Int) (b : Int) = ((a &&& b : Nat) : Int) := by
  have hl : a &&& b ≤ a := Nat.and_le_left
  refine jbt_ext (ja_land_r _ _) (by unfold ja_r; omega) fun k hk => ?_
  rw [jbt_and, jbt_nat, jbt_nat, jbt_nat, Nat.testBit_and]
  simp [hk]
theorem ja_ushrN {a : Nat} (ha : a < 2147483648) : ∀ k : Nat, k < 32 → ja_ushr (a : Int) (k : Int) = ((a / 2 ^ k : Nat) : Int) := by
  intro k hk
  unfold ja_ushr
  have e1 : ((Int32.ofInt (a : Int)).toUInt32).toNat = a := by
    show (BitVec.ofInt 32 (a : Int)).toNat = a
    rw [BitVec.ofInt_natCast, BitVec.toNat_ofNat]
    omega
  have e2 : (((Int32.ofInt (k : Int)).toUInt32 &&& Int32.toUInt32 31)).toNat = k := by
    have : ∀ k : Fin 32, (((Int32.ofInt ((k : Nat) : Int)).toUInt32 &&& Int32.toUInt32 31)).toNat = (k : Nat) := by decide +kernel
    exact this ⟨k, hk⟩
  have e3 : ((Int32.ofInt (a : Int)).toUInt32 >>> ((Int32.ofInt (k : Int)).toUInt32 &&& Int32.toUInt32 31)).toNat = a / 2 ^ k := by
    rw [UInt32.toNat_shiftRight, e1, e2, Nat.mod_eq_of_lt hk, Nat.shiftRight_eq_div_pow]
  have hle : a / 2 ^ k ≤ a := Nat.div_le_self _ _
  generalize ((Int32.ofInt (a : Int)).toUInt32 >>> ((Int32.ofInt (k : Int)).toUInt32 &&& Int32.toUInt32 31)) = u at e3
  show u.toBitVec.toInt = _
  rw [BitVec.toInt_eq_toNat_of_lt (by show 2 * u.toNat < 2 ^ 32; omega)]
  show ((u.toNat : Nat) : Int) = _
  rw [e3]
theorem ja_shl1 : ∀ k : Nat, k < 31 → ja_shl 1 (k : Int) = ((2 ^ k : Nat) : Int) := by
  intro k hk
  have : ∀ k : Fin 31, ja_shl 1 ((k : Nat) : Int) = ((2 ^ (k : Nat) : Nat) : Int) := by decide +kernel
  exact this ⟨k, hk⟩
theorem jbt_shl1 {k j : Nat} (hk : k < 31) : jbt (ja_shl 1 (k : Int)) j = decide (j = k) := by
  rw [ja_shl1 k hk, jbt_nat, Nat.testBit_two_pow]
  by_cases e : j = k
  · subst e; simp; omega
  · simp [e, Ne.symm e]
theorem jbt_shr {x : Int} {k j : Nat} (hk : k < 32) : jbt (ja_shr x (k : Int)) 0 = jbt x k := by
  unfold ja_shr
  rw [jbt_I, Int32.toBitVec_shiftRight]
  have e2 : ((Int32.ofInt (k : Int) &&& 31).toBitVec.smod 32).toNat = k := by
    have : ∀ k : Fin 32, ((Int32.ofInt ((k : Nat) : Int) &&& 31).toBitVec.smod 32).toNat = (k : Nat) := by decide +kernel
    exact this ⟨k, hk⟩
  rw [BitVec.sshiftRight_eq', e2, BitVec.getLsbD_sshiftRight]
  simp [hk, jbt, ja_of_bv]
theorem ja_bit {x : Int} {k : Nat} (hk : k < 32) : ja_land (ja_shr x (k : Int)) 1 = if jbt x k then 1 else 0 := by
  have h1 : ja_r (if jbt x k = true then 1 else 0) := by unfold ja_r; split <;> omega
  refine jbt_ext (ja_land_r _ _) h1 fun j hj => ?_
  rw [jbt_and, jbt_1]
  by_cases e : j = 0
  · subst e
    rw [jbt_shr (j := 0) hk]
    cases jbt x k <;> simp [jbt_0, jbt_1]
  · cases jbt x k <;> simp [jbt_0, jbt_1, e]
/-- how many of the first m bits are set -/
def pcn (x : Int) : Nat → Nat
  | 0 => 0
  | m + 1 => pcn x m + (if jbt x m then 1 else 0)
theorem pcn_le (x : Int) : ∀ m, pcn x m ≤ m
  | 0 => Nat.le_refl 0
  | m + 1 => by
    have := pcn_le x m
    simp only [pcn]; split <;> omega
theorem pcn_c {x y : Int} : ∀ m, (∀ k, k < m → jbt x k = jbt y k) → pcn x m = pcn y m
  | 0, _ => rfl
  | m + 1, h => by simp only [pcn, pcn_c m (fun k hk => h k (by omega)), h m (by omega)]
theorem land4 (x m : Nat) : x &&& m = (x % 4 &&& m % 4) + 4 * (x / 4 &&& m / 4) := by
  have h1 : (x &&& m) % 4 = x % 4 &&& m % 4 := Nat.and_mod_two_pow (n := 2)
  have h2 : (x &&& m) / 4 = x / 4 &&& m / 4 := Nat.and_div_two_pow (n := 2)
  omega
