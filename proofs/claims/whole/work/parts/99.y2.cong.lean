/-! what is asked speaks of the same numbers on both sides -/
theorem nlt_c {M M' : Nat → Int} {v : Int} : ∀ i, (∀ q, q < i → M q = M' q) → nlt M v i = nlt M' v i
  | 0, _ => rfl
  | i + 1, h => by
    rw [nlt, nlt, nlt_c i (fun q hq => h q (by omega)), h i (by omega)]
theorem fst_c {P P' : Nat → Bool} : ∀ n, (∀ q, q < n → P q = P' q) → fst P n = fst P' n
  | 0, _ => rfl
  | n + 1, h => by rw [fst, fst, fst_c n (fun q hq => h q (by omega)), h n (by omega)]
theorem ntl_c {M M' : Nat → Int} {v i : Int} (h : ∀ q, q < 726 → M q = M' q) : ntl M v i = ntl M' v i := by
  unfold ntl
  have e : fst (fun q => decide (M q = v ∧ (nlt M v q : Int) = i)) 726 = fst (fun q => decide (M' q = v ∧ (nlt M' v q : Int) = i)) 726 := fst_c 726 fun q hq => by
    rw [h q hq, nlt_c q (fun r hr => h r (by omega))]
  rw [e]
theorem lmF_c {M M' : Nat → Int} {v i : Int} (h : ∀ q, q < 726 → M q = M' q) : lmF M v i = lmF M' v i := by
  unfold lmF
  rw [nlt_c 726 h, ntl_c h]
theorem bs_le (c : Nat → Nat) (n : Nat) : bs c n ≤ n := by
  rcases Nat.eq_zero_or_pos n with z | z
  · subst z; exact Nat.le_refl _
  · exact Nat.le_of_lt (bs_lt c n z)
theorem bs_c {c c' : Nat → Nat} : ∀ n, (∀ q, q < n → c q = c' q) → bs c n = bs c' n
  | 0, _ => rfl
  | n + 1, h => by
    have ih := bs_c n (fun q hq => h q (by omega))
    have := bs_le c' n
    rw [bs, bs, ih, h n (by omega), h (bs c' n) (by omega)]
theorem ftF_c {M M' : Nat → Int} {v w : Int} (h : ∀ q, q < 726 → M q = M' q) : ftF M v w = ftF M' v w := by
  have e : bs (fun q => pcn (M q) 20) 726 = bs (fun q => pcn (M' q) 20) 726 := bs_c 726 fun q hq => by rw [h q hq]
  have hl := bs_lt (fun q => pcn (M' q) 20) 726 (by decide)
  unfold ftF
  rw [e, h _ hl]
theorem S1_c {M M' : Nat → Int} {v : Int} (h : ∀ q, q < 726 → M q = M' q) : S1 M v = S1 M' v := by
  funext q
  unfold S1
  by_cases z : q < 726
  · rw [h q z]
  · simp [z]
theorem S2_c {M M' : Nat → Int} {v : Int} (h : ∀ q, q < 726 → M q = M' q) : S2 M v = S2 M' v := by
  funext q r
  unfold S2
  by_cases z : q < r ∧ r < 726
  · rw [h q (by omega), h r z.2]
  · apply propext
    constructor
    · rintro ⟨a, b, _⟩; exact absurd ⟨a, b⟩ z
    · rintro ⟨a, b, _⟩; exact absurd ⟨a, b⟩ z
theorem S3_c {M M' : Nat → Int} {v : Int} (h : ∀ q, q < 726 → M q = M' q) : S3 M v = S3 M' v := by
  funext q r t
  unfold S3
  by_cases z : q < r ∧ r < t ∧ t < 726
  · rw [h q (by omega), h r (by omega), h t z.2.2]
  · apply propext
    constructor
    · rintro ⟨a, b, c, _⟩; exact absurd ⟨a, b, c⟩ z
    · rintro ⟨a, b, c, _⟩; exact absurd ⟨a, b, c⟩ z
theorem suO_c {M M' : Nat → Int} {v i z : Int} (h : ∀ q, q < 726 → M q = M' q) (hs : suO M v i z) : suO M' v i z := by
  unfold suO suC at *
  rw [← S1_c h, ← S2_c h, ← S3_c h]
  exact hs
theorem ncn_c {P P' : Nat → Bool} : ∀ m, (∀ k, k < m → P k = P' k) → ncn P m = ncn P' m
  | 0, _ => rfl
  | m + 1, h => by rw [ncn, ncn, ncn_c m (fun k hk => h k (by omega)), h m (by omega)]
theorem tst_c {P P' : Nat → Bool} : ∀ m, (∀ k, k < m → P k = P' k) → tst P m = tst P' m
  | 0, _ => rfl
  | m + 1, h => by rw [tst, tst, tst_c m (fun k hk => h k (by omega)), h m (by omega)]
theorem mtF_c {X Y U V X' Y' U' V' : Nat → Int} {sl w : Int} {m : Nat} (h : ∀ k, k < m → X k = X' k ∧ Y k = Y' k ∧ U k = U' k ∧ V k = V' k) : mtF X Y U V sl m w = mtF X' Y' U' V' sl m w := by
  have e : ∀ x y k, k < m → thb X Y U V sl x y k = thb X' Y' U' V' sl x y k := fun x y k hk => by
    obtain ⟨h1, h2, h3, h4⟩ := h k hk
    unfold thb
    rw [h1, h2, h3, h4]
  have e2 : cP X Y U V sl m = cP X' Y' U' V' sl m := by
    funext p
    unfold cP
    exact ncn_c m fun k hk => e _ _ k hk
  unfold mtF
  rw [e2]
  rw [tst_c m (fun k hk => by rw [e _ _ k hk])]
theorem chn_c {wt wn has : Int} {hb hb' : Nat → Int} {yr : Nat} : ∀ k, (∀ j, j < k → hb j = hb' j) → chn wt hb wn yr has k = chn wt hb' wn yr has k
  | 0, _ => rfl
  | k + 1, h => by rw [chn, chn, chn_c k (fun j hj => h j (by omega)), h k (by omega)]
