/-! Integer.bitCount, of numbers below 2^20 -/
def pb (x : Nat) : Nat → Nat
  | 0 => 0
  | m + 1 => pb x m + x / 2 ^ m % 2
theorem pcn_pb (x : Nat) : ∀ m, m ≤ 32 → pcn (x : Int) m = pb x m
  | 0, _ => rfl
  | m + 1, h => by
    simp only [pcn, pb, pcn_pb x m (by omega), jbt_nat, Nat.testBit_eq_decide_div_mod_eq]
    have : x / 2 ^ m % 2 < 2 := Nat.mod_lt _ (by decide)
    by_cases e : x / 2 ^ m % 2 = 1
    · simp [e, show m < 32 by omega]
    · simp [e, show m < 32 by omega]; omega
theorem pb_byte {a b c : Nat} (ha : a < 256) (hb : b < 256) (hc : c < 16) : pb (a + 256 * b + 65536 * c) 20 = pb a 8 + pb b 8 + pb c 4 := by
  have s : ∀ x k : Nat, x / 2 ^ k % 2 = (x % 2 ^ (k + 1)) / 2 ^ k := fun x k => by
    rw [Nat.pow_succ, Nat.mod_mul_right_div_self]
  simp only [pb, Nat.reducePow, Nat.div_one, Nat.zero_add]
  generalize hx : a + 256 * b + 65536 * c = x
  have e0 : x % 2 = a % 2 := by omega
  have e1 : x / 2 % 2 = a / 2 % 2 := by omega
  have e2 : x / 4 % 2 = a / 4 % 2 := by omega
  have e3 : x / 8 % 2 = a / 8 % 2 := by omega
  have e4 : x / 16 % 2 = a / 16 % 2 := by omega
  have e5 : x / 32 % 2 = a / 32 % 2 := by omega
  have e6 : x / 64 % 2 = a / 64 % 2 := by omega
  have e7 : x / 128 % 2 = a / 128 % 2 := by omega
  have f0 : x / 256 % 2 = b % 2 := by omega
  have f1 : x / 512 % 2 = b / 2 % 2 := by omega
  have f2 : x / 1024 % 2 = b / 4 % 2 := by omega
  have f3 : x / 2048 % 2 = b / 8 % 2 := by omega
  have f4 : x / 4096 % 2 = b / 16 % 2 := by omega
  have f5 : x / 8192 % 2 = b / 32 % 2 := by omega
  have f6 : x / 16384 % 2 = b / 64 % 2 := by omega
  have f7 : x / 32768 % 2 = b / 128 % 2 := by omega
  have g0 : x / 65536 % 2 = c % 2 := by omega
  have g1 : x / 131072 % 2 = c / 2 % 2 := by omega
  have g2 : x / 262144 % 2 = c / 4 % 2 := by omega
  have g3 : x / 524288 % 2 = c / 8 % 2 := by omega
  rw [e0, e1, e2, e3, e4, e5, e6, e7, f0, f1, f2, f3, f4, f5, f6, f7, g0, g1, g2, g3]
  simp only [Nat.add_assoc]
theorem land8 (x m : Nat) : x &&& m = (x % 256 &&& m % 256) + 256 * (x / 256 &&& m / 256) := by
  have h1 : (x &&& m) % 256 = x % 256 &&& m % 256 := Nat.and_mod_two_pow (n := 8)
  have h2 : (x &&& m) / 256 = x / 256 &&& m / 256 := Nat.and_div_two_pow (n := 8)
  omega
theorem land24 (a b c m n p : Nat) (ha : a < 256) (hb : b < 256) (hm : m < 256) (hn : n < 256) : (a + 256 * b + 65536 * c) &&& (m + 256 * n + 65536 * p) = (a &&& m) + 256 * (b &&& n) + 65536 * (c &&& p) := by
  rw [land8, show (a + 256 * b + 65536 * c) % 256 = a by omega, show (m + 256 * n + 65536 * p) % 256 = m by omega, show (a + 256 * b + 65536 * c) / 256 = b + 256 * c by omega, show (m + 256 * n + 65536 * p) / 256 = n + 256 * p by omega, land8 (b + 256 * c), show (b + 256 * c) % 256 = b by omega, show (n + 256 * p) % 256 = n by omega, show (b + 256 * c) / 256 = c by omega, show (n + 256 * p) / 256 = p by omega]
  omega
def sw1 (a : Nat) : Nat := a - (a / 2 &&& 0x55)
def sw2 (a : Nat) : Nat := (a &&& 0x33) + (a / 4 &&& 0x33)
theorem sw1_b : ∀ a : Fin 256, sw1 a ≤ 170 ∧ (a / 2 &&& 0x55) ≤ (a : Nat) ∧ (((a : Nat) / 2 + 128) &&& 0x55) = (a / 2 &&& 0x55) ∧ (a : Nat) / 2 &&& 0x5555 = (a / 2 &&& 0x55) := by decide +kernel
theorem sw2_b : ∀ a : Fin 171, sw2 a ≤ 102 ∧ (∀ c : Fin 4, (((a : Nat) / 4 + 64 * c) &&& 0x33) = (a / 4 &&& 0x33)) := by decide +kernel
theorem sw3_b : ∀ a : Fin 256, sw2 (sw1 a) ≤ 68 ∧ sw2 (sw1 a) % 16 ≤ 4 ∧ sw2 (sw1 a) / 16 ≤ 4 ∧ sw2 (sw1 a) % 16 + sw2 (sw1 a) / 16 = pb a 8 ∧ pb a 8 ≤ 8 := by decide +kernel
theorem sw4_b : ∀ c : Fin 16, pb c 8 = pb c 4 ∧ pb c 8 ≤ 4 := by decide +kernel
theorem sw5_b : ∀ a : Fin 256, (a : Nat) &&& 0x0f = a % 16 := by decide +kernel
theorem sw_s1 {a b c : Nat} (ha : a < 256) (hb : b < 256) (hc : c < 16) : (a + 256 * b + 65536 * c) - ((a + 256 * b + 65536 * c) / 2 &&& 0x55555555) = sw1 a + 256 * sw1 b + 65536 * sw1 c := by
  have qa := sw1_b ⟨a, ha⟩
  have qb := sw1_b ⟨b, hb⟩
  have qc := sw1_b ⟨c, by omega⟩
  simp only at qa qb qc
  have e : (a + 256 * b + 65536 * c) / 2 = (a / 2 + 128 * (b % 2)) + 256 * (b / 2 + 128 * (c % 2)) + 65536 * (c / 2) := by omega
  have k1 : (a / 2 + 128 * (b % 2)) &&& 0x55 = a / 2 &&& 0x55 := by
    rcases Nat.mod_two_eq_zero_or_one b with z | z <;> rw [z]
    · rfl
    · exact qa.2.2.1
  have k2 : (b / 2 + 128 * (c % 2)) &&& 0x55 = b / 2 &&& 0x55 := by
    rcases Nat.mod_two_eq_zero_or_one c with z | z <;> rw [z]
    · rfl
    · exact qb.2.2.1
  rw [e, show (0x55555555 : Nat) = 0x55 + 256 * 0x55 + 65536 * 0x5555 from rfl, land24 _ _ _ _ _ _ (by omega) (by omega) (by omega) (by omega), k1, k2, qc.2.2.2]
  unfold sw1
  omega
theorem sw_s2 {a b c : Nat} (ha : a < 171) (hb : b < 171) (hc : c < 16) : ((a + 256 * b + 65536 * c) &&& 0x33333333) + ((a + 256 * b + 65536 * c) / 4 &&& 0x33333333) = sw2 a + 256 * sw2 b + 65536 * sw2 c := by
  have qa := (sw2_b ⟨a, ha⟩).2 ⟨b % 4, by omega⟩
  have qb := (sw2_b ⟨b, hb⟩).2 ⟨c % 4, by omega⟩
  simp only at qa qb
  have qc : ∀ c : Fin 16, (c : Nat) &&& 0x3333 = c &&& 0x33 ∧ (c : Nat) / 4 &&& 0x3333 = c / 4 &&& 0x33 := by decide +kernel
  have qc := qc ⟨c, hc⟩
  simp only at qc
  have e : (a + 256 * b + 65536 * c) / 4 = (a / 4 + 64 * (b % 4)) + 256 * (b / 4 + 64 * (c % 4)) + 65536 * (c / 4) := by omega
  rw [e, show (0x33333333 : Nat) = 0x33 + 256 * 0x33 + 65536 * 0x3333 from rfl, land24 _ _ _ _ _ _ (by omega) (by omega) (by omega) (by omega), land24 _ _ _ _ _ _ (by omega) (by omega) (by omega) (by omega), qa, qb, qc.1, qc.2]
  unfold sw2
  omega
