/-! two pictures, one shifted -/
/-- a field's sum, cell by cell with one number -/
def s1 (F : Int → Int → Int) (w : Nat) : Nat → Int
  | 0 => 0
  | c + 1 => s1 F w c + F ((c % w : Nat) : Int) ((c / w : Nat) : Int)
theorem s1_k (F : Int → Int → Int) {w : Nat} (hw : 0 < w) (m : Nat) (h : s1 F w (w * m) = r2 F 0 0 w m) : ∀ k : Nat, k ≤ w → s1 F w (w * m + k) = r2 F 0 0 w m + r1 F 0 (m : Nat) k
  | 0, _ => by simp [r1, h]
  | k + 1, hk => by
    have ih := s1_k F hw m h k (by omega)
    have e1 : (w * m + k) % w = k := by rw [Nat.mul_add_mod]; exact Nat.mod_eq_of_lt (by omega)
    have e2 : (w * m + k) / w = m := by rw [Nat.mul_add_div hw, Nat.div_eq_of_lt (by omega), Nat.add_zero]
    show s1 F w (w * m + k) + F (((w * m + k) % w : Nat) : Int) (((w * m + k) / w : Nat) : Int) = _
    rw [ih, e1, e2]
    simp only [r1, Int.zero_add]
    omega
theorem s1_r (F : Int → Int → Int) {w : Nat} (hw : 0 < w) : ∀ m : Nat, s1 F w (w * m) = r2 F 0 0 w m
  | 0 => rfl
  | m + 1 => by
    have h := s1_k F hw m (s1_r F hw m) w (Nat.le_refl w)
    rw [Nat.mul_succ, h]
    simp only [r2, Int.zero_add]
theorem s1_b {F : Int → Int → Int} {B : Int} (h : ∀ i j, 0 ≤ F i j ∧ F i j ≤ B) (w : Nat) : ∀ c : Nat, 0 ≤ s1 F w c ∧ s1 F w c ≤ B * c
  | 0 => by simp [s1]
  | c + 1 => by
    have ih := s1_b h w c
    have hf := h ((c % w : Nat) : Int) ((c / w : Nat) : Int)
    have e : B * ((c + 1 : Nat) : Int) = B * c + B := by rw [show ((c + 1 : Nat) : Int) = (c : Int) + 1 by omega, Int.mul_add, Int.mul_one]
    simp only [s1]; omega
def tsI (w g dx dy x y : Int) : Prop := (0 ≤ x + dx ∧ x + dx < w) ∧ 0 ≤ y + dy ∧ y + dy < g
noncomputable def tsS (P Q : Int → Int → Int) (w g dx dy : Int) : Int → Int → Int := fun x y => @ite _ (tsI w g dx dy x y) (Classical.propDecidable _) ((P x y - Q (x + dx) (y + dy)).natAbs : Int) 0
noncomputable def tsN (w g dx dy : Int) : Int → Int → Int := fun x y => @ite _ (tsI w g dx dy x y) (Classical.propDecidable _) 1 0
noncomputable def tsB (P Q : Int → Int → Int) (w g dx dy t : Int) : Int → Int → Int := fun x y => @ite _ (tsI w g dx dy x y ∧ t < ((P x y - Q (x + dx) (y + dy)).natAbs : Int)) (Classical.propDecidable _) 1 0
section TS
variable {P Q : Int → Int → Int} {w g dx dy x y t : Int}
theorem tsS_t (h : tsI w g dx dy x y) : tsS P Q w g dx dy x y = ((P x y - Q (x + dx) (y + dy)).natAbs : Int) := if_pos h
theorem tsS_f (h : ¬ tsI w g dx dy x y) : tsS P Q w g dx dy x y = 0 := if_neg h
theorem tsN_t (h : tsI w g dx dy x y) : tsN w g dx dy x y = 1 := if_pos h
theorem tsN_f (h : ¬ tsI w g dx dy x y) : tsN w g dx dy x y = 0 := if_neg h
theorem tsB_t (h : tsI w g dx dy x y ∧ t < ((P x y - Q (x + dx) (y + dy)).natAbs : Int)) : tsB P Q w g dx dy t x y = 1 := if_pos h
theorem tsB_f (h : ¬ (tsI w g dx dy x y ∧ t < ((P x y - Q (x + dx) (y + dy)).natAbs : Int))) : tsB P Q w g dx dy t x y = 0 := if_neg h
theorem tsS_b (hP : ∀ x y, 0 ≤ P x y ∧ P x y ≤ 99) (hQ : ∀ x y, 0 ≤ Q x y ∧ Q x y ≤ 99) (w g dx dy : Int) : ∀ x y, 0 ≤ tsS P Q w g dx dy x y ∧ tsS P Q w g dx dy x y ≤ 99 := by
  intro x y
  have a := hP x y
  have b := hQ (x + dx) (y + dy)
  rcases Classical.em (tsI w g dx dy x y) with z | z
  · rw [tsS_t z]; omega
  · rw [tsS_f z]; omega
theorem tsN_b (w g dx dy : Int) : ∀ x y, 0 ≤ tsN w g dx dy x y ∧ tsN w g dx dy x y ≤ 1 := by
  intro x y
  rcases Classical.em (tsI w g dx dy x y) with z | z
  · rw [tsN_t z]; omega
  · rw [tsN_f z]; omega
theorem tsB_b (P Q : Int → Int → Int) (w g dx dy t : Int) : ∀ x y, 0 ≤ tsB P Q w g dx dy t x y ∧ tsB P Q w g dx dy t x y ≤ 1 := by
  intro x y
  rcases Classical.em (tsI w g dx dy x y ∧ t < ((P x y - Q (x + dx) (y + dy)).natAbs : Int)) with z | z
  · rw [tsB_t z]; omega
  · rw [tsB_f z]; omega
end TS
/-- how many cells are in both -/
theorem tsN_r {w g dx dy j : Int} (hd : -3 ≤ dx ∧ dx ≤ 3) (hw : 4 ≤ w) (hj : 0 ≤ j + dy ∧ j + dy < g) : ∀ k : Nat, (k : Int) ≤ w → r1 (tsN w g dx dy) 0 j k = max 0 (min (k : Int) (w - dx) - max 0 (-dx))
  | 0, _ => by simp only [r1]; omega
  | k + 1, hk => by
    have ih := tsN_r hd hw hj k (by omega)
    simp only [r1, ih, Int.zero_add]
    rcases Classical.em (tsI w g dx dy (k : Int) j) with z | z
    · rw [tsN_t z]; unfold tsI at z; omega
    · rw [tsN_f z]; unfold tsI at z; omega
theorem tsN_0 {w g dx dy j : Int} (hj : ¬ (0 ≤ j + dy ∧ j + dy < g)) (k : Nat) : r1 (tsN w g dx dy) 0 j k = 0 := r1_0 k fun i _ => tsN_f fun z => hj z.2
theorem tsN_a {g dx dy : Int} {w : Nat} (hd : -3 ≤ dx ∧ dx ≤ 3) (he : -3 ≤ dy ∧ dy ≤ 3) (hw : 4 ≤ w) (hg : 4 ≤ g) : ∀ m : Nat, (m : Int) ≤ g → r2 (tsN w g dx dy) 0 0 w m = ((w : Int) - (dx.natAbs : Int)) * max 0 (min (m : Int) (g - dy) - max 0 (-dy))
  | 0, _ => by
    simp only [r2]
    rw [show max 0 (min ((0 : Nat) : Int) (g - dy) - max 0 (-dy)) = 0 by omega, Int.mul_zero]
  | m + 1, hm => by
    have ih := tsN_a hd he hw hg m (by omega)
    simp only [r2, ih, Int.zero_add]
    rcases Classical.em (0 ≤ (m : Int) + dy ∧ (m : Int) + dy < g) with z | z
    · rw [tsN_r hd (by omega) z w (by omega), show max 0 (min (w : Int) ((w : Int) - dx) - max 0 (-dx)) = (w : Int) - (dx.natAbs : Int) by omega, show max 0 (min ((m + 1 : Nat) : Int) (g - dy) - max 0 (-dy)) = max 0 (min (m : Int) (g - dy) - max 0 (-dy)) + 1 by omega, Int.mul_add, Int.mul_one]
    · rw [tsN_0 z, Int.add_zero]
      congr 1
      omega
theorem tsN_all {dx dy : Int} {w g : Nat} (hd : -3 ≤ dx ∧ dx ≤ 3) (he : -3 ≤ dy ∧ dy ≤ 3) (hw : 4 ≤ w) (hg : 4 ≤ g) : r2 (tsN w g dx dy) 0 0 w g = ((w : Int) - (dx.natAbs : Int)) * ((g : Int) - (dy.natAbs : Int)) := by
  rw [tsN_a hd he hw (by omega) g (by omega)]
  congr 1
  omega
/-- the nearest of 49 -/
def shX (i : Nat) : Int := ((i % 7 : Nat) : Int) - 3
def shY (i : Nat) : Int := ((i / 7 : Nat) : Int) - 3
def shB (S N : Nat → Int) : Nat → Nat
  | 0 => 0
  | i + 1 => if i = 0 ∨ S i * N (shB S N i) < S (shB S N i) * N i then i else shB S N i
theorem shB_lt (S N : Nat → Int) : ∀ i, 0 < i → shB S N i < i
  | 0, h => by omega
  | i + 1, _ => by
    simp only [shB]
    split
    · omega
    · rename_i c
      have := shB_lt S N i (by omega)
      omega
noncomputable def twS (P Q : Int → Int → Int) (w g : Nat) (i : Nat) : Int := r2 (tsS P Q w g (shX i) (shY i)) 0 0 w g
noncomputable def twN (w g : Nat) (i : Nat) : Int := r2 (tsN w g (shX i) (shY i)) 0 0 w g
noncomputable def twF (P Q : Int → Int → Int) (w g : Nat) (v : Int) : Int := if v = 0 then shX (shB (twS P Q w g) (twN w g) 49) else if v = 1 then shY (shB (twS P Q w g) (twN w g) 49) else if v = 2 then twS P Q w g (shB (twS P Q w g) (twN w g) 49) else if v = 3 then twN w g (shB (twS P Q w g) (twN w g) 49) else r2 (tsB P Q w g (shX (shB (twS P Q w g) (twN w g) 49)) (shY (shB (twS P Q w g) (twN w g) 49)) (v - 100)) 0 0 w g
theorem sh_b {i : Nat} (h : i < 49) : (-3 ≤ shX i ∧ shX i ≤ 3) ∧ -3 ≤ shY i ∧ shY i ≤ 3 := by unfold shX shY; omega
theorem sh_xy {i j : Nat} (hj : j < 7) : shX (7 * i + j) = (j : Int) - 3 ∧ shY (7 * i + j) = (i : Int) - 3 := by unfold shX shY; omega
theorem twS_b {P Q : Int → Int → Int} (hP : ∀ x y, 0 ≤ P x y ∧ P x y ≤ 99) (hQ : ∀ x y, 0 ≤ Q x y ∧ Q x y ≤ 99) {w g : Nat} (hw : w ≤ 12) (hg : g ≤ 12) (i : Nat) : 0 ≤ twS P Q w g i ∧ twS P Q w g i ≤ 14256 := by
  have := r2_b (by decide) (tsS_b hP hQ (w : Nat) (g : Nat) (shX i) (shY i)) 0 0 hw g
  unfold twS; omega
theorem twN_b {w g : Nat} (hw : 4 ≤ w ∧ w ≤ 12) (hg : 4 ≤ g ∧ g ≤ 12) {i : Nat} (hi : i < 49) : 1 ≤ twN w g i ∧ twN w g i ≤ 144 := by
  have b := r2_b (by decide) (tsN_b (w : Nat) (g : Nat) (shX i) (shY i)) 0 0 hw.2 g
  have s := sh_b hi
  have e := tsN_all (dx := shX i) (dy := shY i) s.1 s.2 hw.1 hg.1
  unfold twN
  refine ⟨?_, by omega⟩
  rw [e]
  have m : (1 : Int) * 1 ≤ ((w : Int) - ((shX i).natAbs : Int)) * ((g : Int) - ((shY i).natAbs : Int)) := Int.mul_le_mul (by omega) (by omega) (by omega) (by omega)
  omega
