/-! numbers of the JDK -/
theorem jbt_31 {x : Int} (h : ja_r x) : jbt x 31 = decide (x < 0) := by
  unfold jbt
  have e := BitVec.msb_eq_getLsbD_last (BitVec.ofInt 32 x)
  rw [show (32 - 1 : Nat) = 31 from rfl] at e
  rw [← e, BitVec.msb_eq_toInt, BitVec.toInt_ofInt]
  have := ja_w_id h
  unfold ja_w at this
  rw [show ((2 : Nat) ^ 32) = 4294967296 from rfl, this]
theorem ja_lxor_neg {x y : Int} (hx : ja_r x) (hy : ja_r y) : ja_lxor x y < 0 ↔ ¬ (x < 0 ↔ y < 0) := by
  have e := jbt_31 (ja_lxor_r x y)
  rw [jbt_xor, jbt_31 hx, jbt_31 hy] at e
  by_cases a : x < 0 <;> by_cases b : y < 0 <;> simp [a, b] at e ⊢ <;> omega
theorem jbt_lt20 {x : Int} (hx : ja_r x) (h : ∀ k, 20 ≤ k → k < 32 → jbt x k = false) : 0 ≤ x ∧ x < 1048576 := by
  have h31 := h 31 (by decide) (by decide)
  rw [jbt_31 hx] at h31
  have h0 : 0 ≤ x := by simpa using h31
  have e : x = ((x.toNat &&& (2 ^ 20 - 1) : Nat) : Int) := by
    have hl : x.toNat &&& (2 ^ 20 - 1) ≤ 2 ^ 20 - 1 := Nat.and_le_right
    refine jbt_ext hx (by unfold ja_r; omega) fun k hk => ?_
    rw [jbt_nat, Nat.testBit_and, Nat.testBit_two_pow_sub_one]
    have e2 := jbt_nat x.toNat k
    rw [show ((x.toNat : Nat) : Int) = x by omega] at e2
    rw [e2]
    by_cases c : k < 20
    · simp [c]
    · have := h k (by omega) hk
      rw [e2] at this
      simp [c]
      simp [hk] at this
      exact fun _ => this
  have hl : x.toNat &&& (2 ^ 20 - 1) ≤ 2 ^ 20 - 1 := Nat.and_le_right
  rw [e]
  omega
theorem jv_shn {x : Int} {k : Nat} (hx : 0 ≤ x ∧ x < 2147483648) (hk : k < 32) : ja_ushr x (k : Int) = ((x.toNat / 2 ^ k : Nat) : Int) := by
  have := ja_ushrN (a := x.toNat) (by omega) k hk
  rw [show ((x.toNat : Nat) : Int) = x by omega] at this
  exact this
theorem sw_all {u : Nat} (hu : u < 1048576) : ∃ v1 v2 v3 v4 v5 : Nat, u - (u / 2 &&& 0x55555555) = v1 ∧ (u / 2 &&& 0x55555555) ≤ u ∧ v1 < 2147483648 ∧ (v1 &&& 0x33333333) + (v1 / 4 &&& 0x33333333) = v2 ∧ v2 < 1073741824 ∧ (v2 + v2 / 16) &&& 0x0f0f0f0f = v3 ∧ v3 < 1073741824 ∧ v3 + v3 / 256 = v4 ∧ v4 < 1073741824 ∧ v4 + v4 / 65536 = v5 ∧ v5 < 2147483648 ∧ v5 &&& 63 = pb u 20 := by
  obtain ⟨a, b, c, ha, hb, hc, rfl⟩ : ∃ a b c : Nat, a < 256 ∧ b < 256 ∧ c < 16 ∧ u = a + 256 * b + 65536 * c := ⟨u % 256, u / 256 % 256, u / 65536, by omega, by omega, by omega, by omega⟩
  have qa := sw1_b ⟨a, ha⟩
  have qb := sw1_b ⟨b, hb⟩
  have qc := sw1_b ⟨c, by omega⟩
  have ra := sw3_b ⟨a, ha⟩
  have rb := sw3_b ⟨b, hb⟩
  have rc := sw3_b ⟨c, by omega⟩
  have rd := sw4_b ⟨c, hc⟩
  have qc2 : ∀ c : Fin 16, sw1 c < 16 := by decide +kernel
  have qc2 := qc2 ⟨c, hc⟩
  simp only at qa qb qc ra rb rc rd qc2
  have s1 := sw_s1 ha hb hc
  have s2 := sw_s2 (a := sw1 a) (b := sw1 b) (c := sw1 c) (by omega) (by omega) (by omega)
  have hle : ((a + 256 * b + 65536 * c) / 2 &&& 0x55555555) ≤ a + 256 * b + 65536 * c := Nat.le_trans Nat.and_le_left (Nat.div_le_self _ _)
  rw [pb_byte ha hb hc]
  generalize sw2 (sw1 a) = za at *
  generalize sw2 (sw1 b) = zb at *
  generalize sw2 (sw1 c) = zc at *
  generalize hpa : pb a 8 = pa at *
  generalize hpb : pb b 8 = pB at *
  generalize hpc : pb c 8 = pc at *
  have e3 : (za + 256 * zb + 65536 * zc + (za + 256 * zb + 65536 * zc) / 16) &&& 0x0f0f0f0f = pa + 256 * pB + 65536 * pc := by
    have e : za + 256 * zb + 65536 * zc + (za + 256 * zb + 65536 * zc) / 16 = (za + za / 16 + 16 * (zb % 16)) + 256 * (zb + zb / 16 + 16 * (zc % 16)) + 65536 * (zc + zc / 16) := by omega
    have l1 := sw5_b ⟨za + za / 16 + 16 * (zb % 16), by omega⟩
    have l2 := sw5_b ⟨zb + zb / 16 + 16 * (zc % 16), by omega⟩
    have l3 : ∀ a : Fin 256, (a : Nat) &&& 0x0f0f = a % 16 := by decide +kernel
    have l3 := l3 ⟨zc + zc / 16, by omega⟩
    simp only at l1 l2 l3
    rw [e, show (0x0f0f0f0f : Nat) = 0x0f + 256 * 0x0f + 65536 * 0x0f0f from rfl, land24 _ _ _ _ _ _ (by omega) (by omega) (by omega) (by omega), l1, l2, l3]
    omega
  refine ⟨_, _, _, _, _, rfl, hle, by omega, rfl, by rw [s1, s2]; omega, rfl, by rw [s1, s2, e3]; omega, rfl, by rw [s1, s2, e3]; omega, rfl, by rw [s1, s2, e3]; omega, ?_⟩
  rw [s1, s2, e3]
  have e5 : pa + 256 * pB + 65536 * pc + (pa + 256 * pB + 65536 * pc) / 256 + (pa + 256 * pB + 65536 * pc + (pa + 256 * pB + 65536 * pc) / 256) / 65536 = (pa + pB + pc) + 256 * (pB + pc) + 65536 * pc := by omega
  have l6 := Nat.and_two_pow_sub_one_eq_mod ((pa + pB + pc) + 256 * (pB + pc) + 65536 * pc) 6
  rw [show (2 ^ 6 - 1 : Nat) = 63 from rfl] at l6
  rw [e5, l6, ← rd.1]
  omega
set_option maxRecDepth 10000 in
theorem kJ6_bitCount {l : Launch} {d : Nat} {h : ja_H} {Q : ja_Q} {sh : ja_S} {x : Int} (hx : 0 ≤ x ∧ x < 1048576) (q : Q (some (.inl (pcn x 20))) h) : ja_C l (d + 1) mJ6_bitCount_0f7a4 sh [.inl (x)] h Q := by
  obtain ⟨v1, v2, v3, v4, v5, e1, e1', b1, e2, b2, e3, b3, e4, b4, e5, b5, e6⟩ := sw_all (u := x.toNat) (by omega)
  rw [← pcn_pb _ 20 (by decide), show ((x.toNat : Nat) : Int) = x by omega] at e6
  refine eJ6_bitCount_0f7a4 _ fun r_i ho => ?_
  unfold bJ6_bitCount_0f7a4
  unfold ja_r at r_i
  refine jt_sI (x := (v1 : Int)) (jv_is (jv_sub (jv_li rfl) (jv_and (jv_ushr (jv_li rfl) jv_ci) jv_ci)) (by have a := jv_shn (x := x) (k := 1) (by omega) (by decide); rw [show ((1 : Nat) : Int) = 1 from rfl] at a; rw [a]; simp only [Nat.reducePow]; have b := ja_landN (a := x.toNat / 2) (b := 0x55555555) (by omega) (by decide); rw [show ((0x55555555 : Nat) : Int) = 1431655765 from rfl] at b; rw [b, ja_w_id (by unfold ja_r; omega)]; omega)) ?_
  refine jt_sI (x := (v2 : Int)) (jv_is (jv_add (jv_and (jv_li rfl) jv_ci) (jv_and (jv_ushr (jv_li rfl) jv_ci) jv_ci)) (by have a := ja_ushrN (a := v1) (by omega) 2 (by decide); rw [show ((2 : Nat) : Int) = 2 from rfl] at a; rw [a]; simp only [Nat.reducePow]; have b := ja_landN (a := v1 / 4) (b := 0x33333333) (by omega) (by decide); rw [show ((0x33333333 : Nat) : Int) = 858993459 from rfl] at b; have c := ja_landN (a := v1) (b := 0x33333333) (by omega) (by decide); rw [show ((0x33333333 : Nat) : Int) = 858993459 from rfl] at c; rw [c, b]; rw [ja_w_id (by unfold ja_r; omega)]; omega)) ?_
  refine jt_sI (x := (v3 : Int)) (jv_is (jv_and (jv_add (jv_li rfl) (jv_ushr (jv_li rfl) jv_ci)) jv_ci) (by have a := ja_ushrN (a := v2) (by omega) 4 (by decide); rw [show ((4 : Nat) : Int) = 4 from rfl] at a; simp only [Nat.reducePow] at a; rw [a, ja_w_id (by unfold ja_r; omega)]; have b := ja_landN (a := v2 + v2 / 16) (b := 0x0f0f0f0f) (by omega) (by decide); rw [show ((0x0f0f0f0f : Nat) : Int) = 252645135 from rfl] at b; rw [show ((v2 : Nat) : Int) + ((v2 / 16 : Nat) : Int) = ((v2 + v2 / 16 : Nat) : Int) by omega, b]; omega)) ?_
  refine jt_sI (x := (v4 : Int)) (jv_is (jv_add (jv_li rfl) (jv_ushr (jv_li rfl) jv_ci)) (by have a := ja_ushrN (a := v3) (by omega) 8 (by decide); rw [show ((8 : Nat) : Int) = 8 from rfl] at a; simp only [Nat.reducePow] at a; rw [a, ja_w_id (by unfold ja_r; omega)]; omega)) ?_
  refine jt_sI (x := (v5 : Int)) (jv_is (jv_add (jv_li rfl) (jv_ushr (jv_li rfl) jv_ci)) (by have a := ja_ushrN (a := v4) (by omega) 16 (by decide); rw [show ((16 : Nat) : Int) = 16 from rfl] at a; simp only [Nat.reducePow] at a; rw [a, ja_w_id (by unfold ja_r; omega)]; omega)) ?_
  refine jt_rI (x := ((pcn x 20 : Nat) : Int)) (jv_is (jv_and (jv_li rfl) jv_ci) (by have b := ja_landN (a := v5) (b := 63) (by omega) (by decide); rw [show ((63 : Nat) : Int) = 63 from rfl] at b; rw [b, e6])) ?_
  exact q
set_option maxRecDepth 10000 in
theorem kJ9_floorDiv {l : Launch} {d : Nat} {h : ja_H} {Q : ja_Q} {sh : ja_S} {x y : Int} (hy : 0 < y) (q : Q (some (.inl (x / y))) h) : ja_C l (d + 1) mJ9_floorDiv_7cf53 sh [.inl (x), .inl (y)] h Q := by
  have ed : x.tdiv y = x / y + if 0 ≤ x ∨ y ∣ x then 0 else 1 := by rw [Int.tdiv_eq_ediv, Int.sign_eq_one_of_pos hy]
  have ey : y ∣ x ↔ x / y * y = x := ⟨Int.ediv_mul_cancel, fun e => ⟨x / y, by rw [Int.mul_comm]; exact e.symm⟩⟩
  refine eJ9_floorDiv_7cf53 _ _ fun r_x r_y ho => ?_
  unfold bJ9_floorDiv_7cf53
  unfold ja_r at r_x r_y
  have b1 : x / y ≤ 2147483647 ∧ -2147483648 ≤ x / y := by
    constructor
    · rcases Int.lt_or_le x 0 with z | z
      · have := Int.ediv_neg_of_neg_of_pos z hy; omega
      · have := Int.ediv_le_self y z; omega
    · have : -2147483648 ≤ x / y := (Int.le_ediv_iff_mul_le hy).mpr (by have : -2147483648 * y ≤ -2147483648 * 1 := Int.mul_le_mul_of_nonpos_left (by omega) (by omega); omega)
      exact this
  have b2 : x < 0 → x / y < 0 := fun z => Int.ediv_neg_of_neg_of_pos z hy
  refine jt_sI (x := (if 0 ≤ x ∨ x / y * y = x then x / y else x / y + 1)) (jv_is (jv_w (jv_div (jv_li rfl) (jv_li rfl) (by omega)) (by unfold ja_r; rw [ed]; split <;> omega)) (by rw [ed]; simp only [ey]; split <;> omega)) ?_
  refine jb_if_d (φ := ¬ (0 ≤ x ∨ x / y * y = x)) (jd_eq (jd_and (jd_lt (jv_xor (jv_li rfl) (jv_li rfl)) jv_ci) (fun _ => jd_ne (jv_mul (jv_li rfl) (jv_li rfl)) (jv_li rfl))) (by 
        have hx := ja_lxor_neg (x := x) (y := y) (by unfold ja_r; omega) (by unfold ja_r; omega)
        rw [hx]
        constructor
        · rintro ⟨z1, z2⟩ (z3 | z3)
          · omega
          · rw [if_pos (Or.inr z3), z3] at z2
            exact z2 (ja_w_id (by unfold ja_r; omega))
        · intro z
          refine ⟨by omega, ?_⟩
          rw [if_neg z]
          have m1 : (x / y + 1) * y = x / y * y + y := by rw [Int.add_mul, Int.one_mul]
          have m2 := Int.mul_ediv_add_emod x y
          have m3 := Int.emod_lt_of_pos x hy
          have m4 := Int.emod_nonneg x (show y ≠ 0 by omega)
          rw [Int.mul_comm] at m2
          rw [m1, ja_w_id (by unfold ja_r; omega)]
          omega)) (fun c1 => ?_) (fun c1 => ?_)
  · refine jt_rI (x := x / y) (jv_is (jv_w (jv_sub (jv_li rfl) jv_ci) (by rw [if_neg c1]; unfold ja_r; omega)) (by rw [if_neg c1]; omega)) ?_
    exact q
  · refine jt_rI (x := x / y) (jv_is (jv_li rfl) (by rw [if_pos (Classical.not_not.mp c1)])) ?_
    exact q
set_option maxRecDepth 10000 in
theorem kJ9_floorMod {l : Launch} {d : Nat} {h : ja_H} {Q : ja_Q} {sh : ja_S} {x y : Int} (hy : 0 < y) (q : Q (some (.inl (x % y))) h) : ja_C l (d + 1) mJ9_floorMod_7cf53 sh [.inl (x), .inl (y)] h Q := by
  have ed : x.tmod y = x % y - if 0 ≤ x ∨ y ∣ x then 0 else y := by rw [Int.tmod_eq_emod]; split <;> omega
  have ey : y ∣ x ↔ x % y = 0 := Int.dvd_iff_emod_eq_zero
  have m3 := Int.emod_lt_of_pos x hy
  have m4 := Int.emod_nonneg x (show y ≠ 0 by omega)
  refine eJ9_floorMod_7cf53 _ _ fun r_x r_y ho => ?_
  unfold bJ9_floorMod_7cf53
  unfold ja_r at r_x r_y
  refine jt_sI (x := (if 0 ≤ x ∨ x % y = 0 then x % y else x % y - y)) (jv_is (jv_rem (jv_li rfl) (jv_li rfl) (by omega)) (by rw [ed]; simp only [ey]; split <;> omega)) ?_
  refine jb_if_d (φ := ¬ (0 ≤ x ∨ x % y = 0)) (jd_eq (jd_and (jd_lt (jv_xor (jv_li rfl) (jv_li rfl)) jv_ci) (fun _ => jd_ne (jv_li rfl) jv_ci)) (by 
        have hx := ja_lxor_neg (x := x) (y := y) (by unfold ja_r; omega) (by unfold ja_r; omega)
        rw [hx]
        by_cases z : 0 ≤ x ∨ x % y = 0
        · rw [if_pos z]; omega
        · rw [if_neg z]; omega)) (fun c1 => ?_) (fun c1 => ?_)
  · refine jt_rI (x := x % y) (jv_is (jv_w (jv_add (jv_li rfl) (jv_li rfl)) (by rw [if_neg c1]; unfold ja_r; omega)) (by rw [if_neg c1]; omega)) ?_
    exact q
  · refine jt_rI (x := x % y) (jv_is (jv_li rfl) (by rw [if_pos (Classical.not_not.mp c1)])) ?_
    exact q
/-! lamps: their places and names -/
def lx (q : Int) : Int := q % 11 - 5
def ly (q : Int) : Int := q / 11 % 11 - 5
def lh (q : Int) : Int := q / 121 + 1
def ltold (q : Int) : Int := 10000 * lh q + 100 * (ly q + 5) + lx q + 5
theorem l_b {q : Int} (h : 0 ≤ q ∧ q < 726) : (-5 ≤ lx q ∧ lx q ≤ 5) ∧ (-5 ≤ ly q ∧ ly q ≤ 5) ∧ 1 ≤ lh q ∧ lh q ≤ 6 := by unfold lx ly lh; omega
set_option maxRecDepth 10000 in
theorem kX7_dxOf {l : Launch} {d : Nat} {h : ja_H} {Q : ja_Q} {sh : ja_S} {v : Int} (hv : 0 ≤ v ∧ v < 726) (q : Q (some (.inl (lx v))) h) : ja_C l (d + 1) mX7_dxOf sh [.inl (v)] h Q := by
  refine eX7_dxOf _ fun r_lamp ho => ?_
  unfold bX7_dxOf
  unfold ja_r at r_lamp
  refine jt_rI (x := lx v) (jv_is (jv_w (jv_sub (jv_remP (jv_li rfl) jv_ci (by first | omega | (unfold ja_r; omega) | (unfold ja_rl; omega) | assumption) (by first | omega | (unfold ja_r; omega) | (unfold ja_rl; omega) | assumption)) jv_ci) (by first | omega | (unfold ja_r; omega) | (unfold ja_rl; omega) | assumption)) (by rfl)) ?_
  exact q
set_option maxRecDepth 10000 in
theorem kX7_dyOf {l : Launch} {d : Nat} {h : ja_H} {Q : ja_Q} {sh : ja_S} {v : Int} (hv : 0 ≤ v ∧ v < 726) (q : Q (some (.inl (ly v))) h) : ja_C l (d + 1) mX7_dyOf sh [.inl (v)] h Q := by
  refine eX7_dyOf _ fun r_lamp ho => ?_
  unfold bX7_dyOf
  unfold ja_r at r_lamp
  refine jt_rI (x := ly v) (jv_is (jv_w (jv_sub (jv_remP (jv_divP (jv_li rfl) jv_ci (by first | omega | (unfold ja_r; omega) | (unfold ja_rl; omega) | assumption) (by first | omega | (unfold ja_r; omega) | (unfold ja_rl; omega) | assumption) (by first | omega | (unfold ja_r; omega) | (unfold ja_rl; omega) | assumption)) jv_ci (by first | omega | (unfold ja_r; omega) | (unfold ja_rl; omega) | assumption) (by first | omega | (unfold ja_r; omega) | (unfold ja_rl; omega) | assumption)) jv_ci) (by first | omega | (unfold ja_r; omega) | (unfold ja_rl; omega) | assumption)) (by rfl)) ?_
  exact q
set_option maxRecDepth 10000 in
theorem kX7_heightOf {l : Launch} {d : Nat} {h : ja_H} {Q : ja_Q} {sh : ja_S} {v : Int} (hv : 0 ≤ v ∧ v < 726) (q : Q (some (.inl (lh v))) h) : ja_C l (d + 1) mX7_heightOf sh [.inl (v)] h Q := by
  refine eX7_heightOf _ fun r_lamp ho => ?_
  unfold bX7_heightOf
  unfold ja_r at r_lamp
  refine jt_rI (x := lh v) (jv_is (jv_w (jv_add (jv_divP (jv_li rfl) jv_ci (by first | omega | (unfold ja_r; omega) | (unfold ja_rl; omega) | assumption) (by first | omega | (unfold ja_r; omega) | (unfold ja_rl; omega) | assumption) (by first | omega | (unfold ja_r; omega) | (unfold ja_rl; omega) | assumption)) jv_ci) (by first | omega | (unfold ja_r; omega) | (unfold ja_rl; omega) | assumption)) (by rfl)) ?_
  exact q
set_option maxRecDepth 10000 in
theorem kX7_nameOf {l : Launch} {d : Nat} {h : ja_H} {Q : ja_Q} {n k : Nat} {v : Int} (q : Q (some (.inl (if 0 ≤ v ∧ v < 726 then ltold v else -1))) h) : ja_C l (d + 2) mX7_nameOf (js_sh n) [.inr (.inr (some (k))), .inl (v)] h Q := by
  refine eX7_nameOf _ _ fun r_lamp ho => ?_
  unfold bX7_nameOf
  unfold ja_r at r_lamp
  refine jb_if_d (φ := ¬ (0 ≤ v ∧ v < 726)) (jd_eq (jd_not (jd_b (jv_c3 (jv_li rfl) jv_ci jv_ci fun _ => kX11_within))) (by omega)) (fun c1 => ?_) (fun c1 => ?_)
  · rw [if_neg c1] at q
    refine jt_rI jv_ci ?_
    exact q
  · rw [if_pos (Classical.not_not.mp c1)] at q
    have c1 := Classical.not_not.mp c1
    have b := l_b c1
    refine jt_rI (x := ltold v) (jv_is (jv_w (jv_add (jv_w (jv_add (jv_w (jv_add (jv_w (jv_mul jv_ci (jv_c1 (jv_li rfl) fun _ => kX7_heightOf (by first | omega | (unfold ja_r; omega) | (unfold ja_rl; omega) | assumption))) (by first | omega | (unfold ja_r; omega) | (unfold ja_rl; omega) | assumption)) (jv_w (jv_mul jv_ci (jv_w (jv_add (jv_c1 (jv_li rfl) fun _ => kX7_dyOf (by first | omega | (unfold ja_r; omega) | (unfold ja_rl; omega) | assumption)) jv_ci) (by first | omega | (unfold ja_r; omega) | (unfold ja_rl; omega) | assumption))) (by first | omega | (unfold ja_r; omega) | (unfold ja_rl; omega) | assumption))) (by first | omega | (unfold ja_r; omega) | (unfold ja_rl; omega) | assumption)) (jv_c1 (jv_li rfl) fun _ => kX7_dxOf (by first | omega | (unfold ja_r; omega) | (unfold ja_rl; omega) | assumption))) (by first | omega | (unfold ja_r; omega) | (unfold ja_rl; omega) | assumption)) jv_ci) (by first | omega | (unfold ja_r; omega) | (unfold ja_rl; omega) | assumption)) (by rfl)) ?_
    exact q
set_option maxRecDepth 10000 in
theorem kX7_signsLetting {l : Launch} {d : Nat} {h : ja_H} {Q : ja_Q} {n : Nat} {v : Int} (hG : jG h.1) (hv : 0 ≤ v ∧ v < 726) (q : Q (some (.inl (h.2.1 30 v.toNat))) h) : ja_C l (d + 2) mX7_signsLetting (js_sh n) [.inr (.inr (some (29))), .inl (v)] h Q := by
  refine eX7_signsLetting _ _ fun r_lamp ho => ?_
  unfold bX7_signsLetting
  unfold ja_r at r_lamp
  refine jt_rI (x := h.2.1 30 v.toNat) (jv_is (jv_cv (jd_b (jv_c3 (jv_li rfl) jv_ci jv_ci fun _ => kX11_within)) (fun _ => (jv_aI (jr_g (jr_lr rfl) rfl (jG_at hG rfl)) (jv_li rfl) rfl (by omega) (by omega))) (fun _ => jv_ci)) (by rw [if_pos (by omega)])) ?_
  exact q
/-- the least and the greatest f with |tip + pull f| <= slack -/
def nTw (tip pull : Int) : Int := if pull < 0 then -tip else tip
def nL (tip pull slack low : Int) : Int := if pull = 0 then (if (tip.natAbs : Int) ≤ slack then low else 1000000) else max low (-((slack + nTw tip pull) / (pull.natAbs : Int)))
def nG (tip pull slack high : Int) : Int := if pull = 0 then high else min high ((slack - nTw tip pull) / (pull.natAbs : Int))
theorem n_iff {tip pull slack low high f : Int} (h1 : low ≤ f) (h2 : f ≤ high) (h3 : high < 1000000) : ((tip + pull * f).natAbs : Int) ≤ slack ↔ nL tip pull slack low ≤ f ∧ f ≤ nG tip pull slack high := by
  unfold nL nG
  by_cases c : pull = 0
  · subst c
    simp only [if_true, Int.zero_mul, Int.add_zero]
    split <;> omega
  · simp only [if_neg c]
    have hp : 0 < (pull.natAbs : Int) := by omega
    have e1 : -((slack + nTw tip pull) / (pull.natAbs : Int)) ≤ f ↔ -f * (pull.natAbs : Int) ≤ slack + nTw tip pull := by
      rw [← Int.le_ediv_iff_mul_le hp]; omega
    have e2 : f ≤ (slack - nTw tip pull) / (pull.natAbs : Int) ↔ f * (pull.natAbs : Int) ≤ slack - nTw tip pull := Int.le_ediv_iff_mul_le hp
    have e3 : -f * (pull.natAbs : Int) = -(f * (pull.natAbs : Int)) := Int.neg_mul _ _
    have e4 : max low (-((slack + nTw tip pull) / (pull.natAbs : Int))) ≤ f ↔ -((slack + nTw tip pull) / (pull.natAbs : Int)) ≤ f := by omega
    have e5 : f ≤ min high ((slack - nTw tip pull) / (pull.natAbs : Int)) ↔ f ≤ (slack - nTw tip pull) / (pull.natAbs : Int) := by omega
    rw [e4, e5, e1, e2, e3]
    unfold nTw
    rcases Int.lt_or_le pull 0 with z | z
    · have : f * (pull.natAbs : Int) = -(pull * f) := by rw [show (pull.natAbs : Int) = -pull by omega, Int.mul_neg, Int.mul_comm]
      rw [if_pos z, this]; omega
    · have : f * (pull.natAbs : Int) = pull * f := by rw [show (pull.natAbs : Int) = pull by omega, Int.mul_comm]
      rw [if_neg (by omega), this]; omega
theorem n_b {x y : Int} (hy : 0 < y) (hx : -1000000 ≤ x ∧ x ≤ 1000000) : -1000000 ≤ x / y ∧ x / y ≤ 1000000 := by
  constructor
  · refine (Int.le_ediv_iff_mul_le hy).mpr ?_
    have : -1000000 * y ≤ -1000000 * 1 := Int.mul_le_mul_of_nonpos_left (by omega) (by omega)
    omega
  · rcases Int.lt_or_le x 0 with z | z
    · have := Int.ediv_neg_of_neg_of_pos z hy; omega
    · have := Int.ediv_le_self y z; omega
set_option maxRecDepth 10000 in
theorem kX11_leastNear {l : Launch} {d : Nat} {h : ja_H} {Q : ja_Q} {sh : ja_S} {tip pull slack low : Int} (h1 : -400000 ≤ tip ∧ tip ≤ 400000) (h2 : -400000 ≤ pull ∧ pull ≤ 400000) (h3 : -400000 ≤ slack ∧ slack ≤ 400000) (h4 : -1000 ≤ low ∧ low ≤ 1000) (q : Q (some (.inl (nL tip pull slack low))) h) : ja_C l (d + 2) mX11_leastNear sh [.inl (tip), .inl (pull), .inl (slack), .inl (low)] h Q := by
  refine eX11_leastNear _ _ _ _ fun r_tip r_pull r_slack r_low ho => ?_
  unfold bX11_leastNear
  unfold ja_r at r_tip r_pull r_slack r_low
  refine jb_if_d (jd_eqI (jv_li rfl) jv_ci) (fun c1 => ?_) (fun c1 => ?_)
  · unfold nL at q
    rw [if_pos c1] at q
    refine jt_rI (jv_cv (jd_le (jv_c1 (jv_li rfl) fun _ => kJ9_abs (by first | omega | (unfold ja_r; omega) | (unfold ja_rl; omega) | assumption)) (jv_li rfl)) (fun _ => (jv_li rfl)) (fun _ => jv_ci)) ?_
    exact q
  · unfold nL at q
    rw [if_neg c1] at q
    refine jt_sI (x := nTw tip pull) (jv_is (jv_cv (jd_lt (jv_li rfl) jv_ci) (fun _ => (jv_w (jv_neg (jv_li rfl)) (by unfold ja_r; omega))) (fun _ => (jv_li rfl))) (by rfl)) ?_
    have tb : -400000 ≤ nTw tip pull ∧ nTw tip pull ≤ 400000 := by unfold nTw; split <;> omega
    have fb := n_b (x := slack + nTw tip pull) (y := (pull.natAbs : Int)) (by omega) (by omega)
    refine jt_rI (jv_c2 (jv_li rfl) (jv_w (jv_neg (jv_c2 (jv_w (jv_add (jv_li rfl) (jv_li rfl)) (by first | omega | (unfold ja_r; omega) | (unfold ja_rl; omega) | assumption)) (jv_c1 (jv_li rfl) fun _ => kJ9_abs (by first | omega | (unfold ja_r; omega) | (unfold ja_rl; omega) | assumption)) fun _ => kJ9_floorDiv (by first | omega | (unfold ja_r; omega) | (unfold ja_rl; omega) | assumption))) (by first | omega | (unfold ja_r; omega) | (unfold ja_rl; omega) | assumption)) fun _ => kJ9_max) ?_
    exact q
set_option maxRecDepth 10000 in
theorem kX11_greatestNear {l : Launch} {d : Nat} {h : ja_H} {Q : ja_Q} {sh : ja_S} {tip pull slack high : Int} (h1 : -400000 ≤ tip ∧ tip ≤ 400000) (h2 : -400000 ≤ pull ∧ pull ≤ 400000) (h3 : -400000 ≤ slack ∧ slack ≤ 400000) (q : Q (some (.inl (nG tip pull slack high))) h) : ja_C l (d + 2) mX11_greatestNear sh [.inl (tip), .inl (pull), .inl (slack), .inl (high)] h Q := by
  refine eX11_greatestNear _ _ _ _ fun r_tip r_pull r_slack r_high ho => ?_
  unfold bX11_greatestNear
  unfold ja_r at r_tip r_pull r_slack r_high
  refine jb_if_d (jd_eqI (jv_li rfl) jv_ci) (fun c1 => ?_) (fun c1 => ?_)
  · unfold nG at q
    rw [if_pos c1] at q
    refine jt_rI (jv_li rfl) ?_
    exact q
  · unfold nG at q
    rw [if_neg c1] at q
    refine jt_sI (x := nTw tip pull) (jv_is (jv_cv (jd_lt (jv_li rfl) jv_ci) (fun _ => (jv_w (jv_neg (jv_li rfl)) (by unfold ja_r; omega))) (fun _ => (jv_li rfl))) (by rfl)) ?_
    have tb : -400000 ≤ nTw tip pull ∧ nTw tip pull ≤ 400000 := by unfold nTw; split <;> omega
    refine jt_rI (jv_c2 (jv_li rfl) (jv_c2 (jv_w (jv_sub (jv_li rfl) (jv_li rfl)) (by first | omega | (unfold ja_r; omega) | (unfold ja_rl; omega) | assumption)) (jv_c1 (jv_li rfl) fun _ => kJ9_abs (by first | omega | (unfold ja_r; omega) | (unfold ja_rl; omega) | assumption)) fun _ => kJ9_floorDiv (by first | omega | (unfold ja_r; omega) | (unfold ja_rl; omega) | assumption)) fun _ => kJ9_min) ?_
    exact q
