/-! suns: what a set is let by -/
def mn (a b : Int) : Int := ja_land a (ja_lxor b (-1))
theorem mn_r (a b : Int) : ja_r (mn a b) := ja_land_r _ _
theorem mn_b (a b : Int) {k : Nat} (hk : k < 32) : jbt (mn a b) k = (jbt a k && !jbt b k) := by
  unfold mn
  rw [jbt_and, jbt_xor, jbt_m1]
  cases jbt a k <;> cases jbt b k <;> simp [hk]
theorem mn_0 {a b : Int} : mn a b = 0 ↔ ∀ k, k < 32 → jbt a k = true → jbt b k = true := by
  constructor
  · intro e k hk ha
    have := mn_b a b hk
    rw [e, jbt_0, ha] at this
    simpa using this
  · intro h
    refine jbt_ext (mn_r _ _) (by unfold ja_r; omega) fun k hk => ?_
    rw [mn_b a b hk, jbt_0]
    cases ha : jbt a k
    · rfl
    · rw [h k hk ha]; rfl
theorem mn_z {a : Int} (ha : ja_r a) : mn a 0 = a := jbt_ext (mn_r _ _) ha fun k hk => by rw [mn_b a 0 hk, jbt_0]; simp
theorem mn_i (a b : Int) : mn (mn a b) b = mn a b := jbt_ext (mn_r _ _) (mn_r _ _) fun k hk => by rw [mn_b _ _ hk, mn_b _ _ hk]; cases jbt a k <;> cases jbt b k <;> rfl
theorem mn_c (a b c : Int) : mn (mn a b) c = mn (mn a c) b := jbt_ext (mn_r _ _) (mn_r _ _) fun k hk => by rw [mn_b _ _ hk, mn_b _ _ hk, mn_b _ _ hk, mn_b _ _ hk]; cases jbt a k <;> cases jbt b k <;> cases jbt c k <;> rfl
theorem mn_20 {a b : Int} (h : ∀ k, 20 ≤ k → k < 32 → jbt a k = false) : ∀ k, 20 ≤ k → k < 32 → jbt (mn a b) k = false := fun k h1 h2 => by rw [mn_b a b h2, h k h1 h2]; rfl
theorem pcn_mn (a b : Int) : ∀ m, m ≤ 32 → pcn a m ≤ pcn (mn a b) m + pcn b m
  | 0, _ => Nat.le_refl 0
  | m + 1, h => by
    have ih := pcn_mn a b m (by omega)
    simp only [pcn, mn_b a b (show m < 32 by omega)]
    cases jbt a m <;> cases jbt b m <;> simp <;> omega
theorem pcn_0 : ∀ m, pcn 0 m = 0
  | 0 => rfl
  | m + 1 => by simp only [pcn, pcn_0 m, jbt_0]; rfl
/-- the kinds of the first N masks -/
def kdO (M K : Nat → Int) (Lm : Nat → Nat) (N m : Nat) : Prop := (∀ i, i < m → K i ≠ 0 ∧ Lm i < N ∧ M (Lm i) = K i) ∧ (∀ i j, i < j → j < m → Lm i < Lm j ∧ K i ≠ K j) ∧ ∀ q, q < N → M q ≠ 0 → ∃ i, i < m ∧ K i = M q ∧ Lm i ≤ q
theorem kd_m {M K : Nat → Int} {Lm : Nat → Nat} {N m : Nat} (h : kdO M K Lm N m) : m ≤ N := by
  have key : ∀ i, i < m → i ≤ Lm i := by
    intro i
    induction i with
    | zero => intro _; omega
    | succ i ih =>
      intro hi
      have a := ih (by omega)
      have b := (h.2.1 i (i + 1) (by omega) hi).1
      omega
  rcases Nat.eq_zero_or_pos m with z | z
  · omega
  · have a := key (m - 1) (by omega)
    have b := (h.1 (m - 1) (by omega)).2.1
    omega
theorem kd_inj {M K : Nat → Int} {Lm : Nat → Nat} {N m i j : Nat} (h : kdO M K Lm N m) (hi : i < m) (hj : j < m) (e : K i = K j) : i = j := by
  rcases Nat.lt_trichotomy i j with z | z | z
  · exact absurd e (h.2.1 i j z hj).2
  · exact z
  · exact absurd e.symm (h.2.1 j i z hi).2
theorem kd_lt {M K : Nat → Int} {Lm : Nat → Nat} {N m i j : Nat} (h : kdO M K Lm N m) (hi : i < m) (hj : j < m) : i ≤ j ↔ Lm i ≤ Lm j := by
  rcases Nat.lt_trichotomy i j with z | z | z
  · have := (h.2.1 i j z hj).1; omega
  · subst z; omega
  · have := (h.2.1 j i z hi).1; omega
/-- one, two, three lamps; the first such -/
def S1 (M : Nat → Int) (v : Int) (q : Nat) : Prop := q < 726 ∧ mn v (M q) = 0
def S2 (M : Nat → Int) (v : Int) (q r : Nat) : Prop := q < r ∧ r < 726 ∧ mn (mn v (M q)) (M r) = 0
def S3 (M : Nat → Int) (v : Int) (q r t : Nat) : Prop := q < r ∧ r < t ∧ t < 726 ∧ mn (mn (mn v (M q)) (M r)) (M t) = 0
def suC (M : Nat → Int) (v c : Int) (s : Nat → Nat) : Prop := (c = 0 ∧ v = 0) ∨ (v ≠ 0 ∧ ((c = 1 ∧ S1 M v (s 0) ∧ ∀ q, S1 M v q → s 0 ≤ q) ∨ ((∀ q, ¬ S1 M v q) ∧ ((c = 2 ∧ S2 M v (s 0) (s 1) ∧ ∀ q r, S2 M v q r → s 0 < q ∨ (s 0 = q ∧ s 1 ≤ r)) ∨ ((∀ q r, ¬ S2 M v q r) ∧ ((c = 3 ∧ S3 M v (s 0) (s 1) (s 2) ∧ ∀ q r t, S3 M v q r t → s 0 < q ∨ (s 0 = q ∧ (s 1 < r ∨ (s 1 = r ∧ s 2 ≤ t)))) ∨ (c = -1 ∧ ∀ q r t, ¬ S3 M v q r t)))))))
theorem suC_u {M : Nat → Int} {v c c' : Int} {s s' : Nat → Nat} (h : suC M v c s) (h' : suC M v c' s') : c = c' ∧ ∀ j : Nat, (j : Int) < c → s j = s' j := by
  rcases h with ⟨h1, h2⟩ | ⟨h0, h⟩
  · rcases h' with ⟨h1', -⟩ | ⟨h0', -⟩
    · exact ⟨by omega, fun j hj => by omega⟩
    · exact absurd h2 h0'
  · rcases h' with ⟨-, h2'⟩ | ⟨-, h'⟩
    · exact absurd h2' h0
    · rcases h with ⟨e, a, b⟩ | ⟨n1, h⟩
      · rcases h' with ⟨e', a', b'⟩ | ⟨n1', -⟩
        · have x1 := b _ a'
          have x2 := b' _ a
          exact ⟨by omega, fun j hj => by rw [show j = 0 by omega]; omega⟩
        · exact absurd a (n1' _)
      · rcases h' with ⟨-, a', -⟩ | ⟨-, h'⟩
        · exact absurd a' (n1 _)
        · rcases h with ⟨e, a, b⟩ | ⟨n2, h⟩
          · rcases h' with ⟨e', a', b'⟩ | ⟨n2', -⟩
            · have x1 := b _ _ a'
              have x2 := b' _ _ a
              exact ⟨by omega, fun j hj => by rcases (show j = 0 ∨ j = 1 by omega) with z | z <;> subst z <;> omega⟩
            · exact absurd a (n2' _ _)
          · rcases h' with ⟨-, a', -⟩ | ⟨-, h'⟩
            · exact absurd a' (n2 _ _)
            · rcases h with ⟨e, a, b⟩ | ⟨e, n3⟩
              · rcases h' with ⟨e', a', b'⟩ | ⟨-, n3'⟩
                · have x1 := b _ _ _ a'
                  have x2 := b' _ _ _ a
                  exact ⟨by omega, fun j hj => by rcases (show j = 0 ∨ j = 1 ∨ j = 2 by omega) with z | z | z <;> subst z <;> omega⟩
                · exact absurd a (n3' _ _ _)
              · rcases h' with ⟨-, a', -⟩ | ⟨e', -⟩
                · exact absurd a' (n3 _ _ _)
                · exact ⟨by omega, fun j hj => by omega⟩
section SU
variable {M K : Nat → Int} {Lm : Nat → Nat} {m : Nat} {v : Int}
/-- kinds' own first ones -/
theorem su1 (hk : kdO M K Lm 726 m) (hv : ja_r v) (h0 : v ≠ 0) {i : Nat} (hi : i < m) (e : mn v (K i) = 0) (f : ∀ j, j < i → mn v (K j) ≠ 0) : S1 M v (Lm i) ∧ ∀ q, S1 M v q → Lm i ≤ q := by
  obtain ⟨a1, a2, a3⟩ := hk.1 i hi
  refine ⟨⟨a2, by rw [a3]; exact e⟩, fun q hq => ?_⟩
  have mq : M q ≠ 0 := fun z => by
    have := hq.2
    rw [z, mn_z hv] at this
    exact h0 this
  obtain ⟨j, hj, b1, b2⟩ := hk.2.2 q hq.1 mq
  rcases Nat.lt_or_ge j i with z | z
  · exact absurd (by rw [b1]; exact hq.2) (f j z)
  · have := (kd_lt hk hi hj).mp z
    omega
theorem su1n (hk : kdO M K Lm 726 m) (hv : ja_r v) (h0 : v ≠ 0) (f : ∀ j, j < m → mn v (K j) ≠ 0) : ∀ q, ¬ S1 M v q := by
  intro q hq
  have mq : M q ≠ 0 := fun z => by
    have := hq.2
    rw [z, mn_z hv] at this
    exact h0 this
  obtain ⟨j, hj, b1, b2⟩ := hk.2.2 q hq.1 mq
  exact f j hj (by rw [b1]; exact hq.2)
theorem su2k (hk : kdO M K Lm 726 m) (hv : ja_r v) (n1 : ∀ q, ¬ S1 M v q) {q r : Nat} (h : S2 M v q r) : ∃ a b, a < m ∧ b < m ∧ a ≠ b ∧ K a = M q ∧ K b = M r ∧ Lm a ≤ q ∧ Lm b ≤ r := by
  obtain ⟨h1, h2, h3⟩ := h
  have mq : M q ≠ 0 := fun z => by rw [z, mn_z hv] at h3; exact n1 r ⟨h2, h3⟩
  have mr : M r ≠ 0 := fun z => by rw [z, mn_z (mn_r _ _)] at h3; exact n1 q ⟨by omega, h3⟩
  have ne : M q ≠ M r := fun z => by rw [← z, mn_i] at h3; exact n1 q ⟨by omega, h3⟩
  obtain ⟨a, ha, a1, a2⟩ := hk.2.2 q (by omega) mq
  obtain ⟨b, hb, b1, b2⟩ := hk.2.2 r h2 mr
  exact ⟨a, b, ha, hb, fun z => ne (by rw [← a1, ← b1, z]), a1, b1, a2, b2⟩
theorem su2 (hk : kdO M K Lm 726 m) (hv : ja_r v) (n1 : ∀ q, ¬ S1 M v q) {i j : Nat} (hi : i < j) (hj : j < m) (e : mn (mn v (K i)) (K j) = 0) (f : ∀ a b, a < b → b < m → mn (mn v (K a)) (K b) = 0 → i < a ∨ (i = a ∧ j ≤ b)) : S2 M v (Lm i) (Lm j) ∧ ∀ q r, S2 M v q r → Lm i < q ∨ (Lm i = q ∧ Lm j ≤ r) := by
  obtain ⟨a1, a2, a3⟩ := hk.1 i (by omega)
  obtain ⟨b1, b2, b3⟩ := hk.1 j hj
  refine ⟨⟨(hk.2.1 i j hi hj).1, b2, by rw [a3, b3]; exact e⟩, fun q r hqr => ?_⟩
  obtain ⟨a, b, ha, hb, nab, ka, kb, la, lb⟩ := su2k hk hv n1 hqr
  have e2 : mn (mn v (K a)) (K b) = 0 := by rw [ka, kb]; exact hqr.2.2
  rcases Nat.lt_or_ge a b with z | z
  · rcases f a b z hb e2 with w | ⟨w, w2⟩
    · have := (hk.2.1 i a w ha).1; omega
    · subst w
      have := (kd_lt hk hj hb).mp w2
      omega
  · have e3 : mn (mn v (K b)) (K a) = 0 := by rw [mn_c]; exact e2
    have x1 := (hk.2.1 b a (by omega) ha).1
    rcases f b a (by omega) ha e3 with w | ⟨w, w2⟩
    · have := (hk.2.1 i b w hb).1; omega
    · subst w; omega
theorem su2n (hk : kdO M K Lm 726 m) (hv : ja_r v) (n1 : ∀ q, ¬ S1 M v q) (f : ∀ a b, a < b → b < m → mn (mn v (K a)) (K b) ≠ 0) : ∀ q r, ¬ S2 M v q r := by
  intro q r hqr
  obtain ⟨a, b, ha, hb, nab, ka, kb, la, lb⟩ := su2k hk hv n1 hqr
  have e2 : mn (mn v (K a)) (K b) = 0 := by rw [ka, kb]; exact hqr.2.2
  rcases Nat.lt_or_ge a b with z | z
  · exact f a b z hb e2
  · exact f b a (by omega) ha (by rw [mn_c]; exact e2)
theorem su3k (hk : kdO M K Lm 726 m) (hv : ja_r v) (n2 : ∀ q r, ¬ S2 M v q r) {q r t : Nat} (h : S3 M v q r t) : ∃ a b c, a < m ∧ b < m ∧ c < m ∧ a ≠ b ∧ a ≠ c ∧ b ≠ c ∧ K a = M q ∧ K b = M r ∧ K c = M t ∧ Lm a ≤ q ∧ Lm b ≤ r ∧ Lm c ≤ t := by
  obtain ⟨h1, h2, h3, h4⟩ := h
  have mq : M q ≠ 0 := fun z => by rw [z, mn_z hv] at h4; exact n2 r t ⟨h2, h3, h4⟩
  have mr : M r ≠ 0 := fun z => by rw [z, mn_z (mn_r _ _)] at h4; exact n2 q t ⟨by omega, h3, h4⟩
  have mt : M t ≠ 0 := fun z => by rw [z, mn_z (mn_r _ _)] at h4; exact n2 q r ⟨h1, by omega, h4⟩
  have n1 : M q ≠ M r := fun z => by rw [← z, mn_i] at h4; exact n2 q t ⟨by omega, h3, h4⟩
  have n3 : M r ≠ M t := fun z => by rw [← z, mn_i] at h4; exact n2 q r ⟨h1, by omega, h4⟩
  have n4 : M q ≠ M t := fun z => by rw [mn_c, ← z, mn_i] at h4; exact n2 q r ⟨h1, by omega, h4⟩
  obtain ⟨a, ha, a1, a2⟩ := hk.2.2 q (by omega) mq
  obtain ⟨b, hb, b1, b2⟩ := hk.2.2 r (by omega) mr
  obtain ⟨c, hc, c1, c2⟩ := hk.2.2 t h3 mt
  exact ⟨a, b, c, ha, hb, hc, fun z => n1 (by rw [← a1, ← b1, z]), fun z => n4 (by rw [← a1, ← c1, z]), fun z => n3 (by rw [← b1, ← c1, z]), a1, b1, c1, a2, b2, c2⟩
/-- three kinds in their order -/
theorem su3s {a b c : Nat} (nab : a ≠ b) (nac : a ≠ c) (nbc : b ≠ c) (ha : a < m) (hb : b < m) (hc : c < m) (e : mn (mn (mn v (K a)) (K b)) (K c) = 0) : ∃ x y z, x < y ∧ y < z ∧ z < m ∧ mn (mn (mn v (K x)) (K y)) (K z) = 0 ∧ x ≤ a ∧ (x = a → y ≤ b ∧ (y = b → z = c)) := by
  have s1 : mn (mn (mn v (K b)) (K a)) (K c) = 0 := by rw [mn_c v]; exact e
  have s2 : mn (mn (mn v (K a)) (K c)) (K b) = 0 := by rw [mn_c (mn v (K a))]; exact e
  have s3 : mn (mn (mn v (K b)) (K c)) (K a) = 0 := by rw [mn_c (mn v (K b))]; exact s1
  have s4 : mn (mn (mn v (K c)) (K a)) (K b) = 0 := by rw [mn_c v]; exact s2
  have s5 : mn (mn (mn v (K c)) (K b)) (K a) = 0 := by rw [mn_c (mn v (K c))]; exact s4
  by_cases h1 : a < b <;> by_cases h2 : b < c <;> by_cases h3 : a < c
  · exact ⟨a, b, c, h1, h2, hc, e, by omega, fun _ => ⟨by omega, fun _ => rfl⟩⟩
  · omega
  · exact ⟨a, c, b, h3, by omega, hb, s2, by omega, fun _ => ⟨by omega, fun w => by omega⟩⟩
  · exact ⟨c, a, b, by omega, h1, hb, s4, by omega, fun w => by omega⟩
  · exact ⟨b, a, c, by omega, h3, hc, s1, by omega, fun w => by omega⟩
  · exact ⟨b, c, a, h2, by omega, ha, s3, by omega, fun w => by omega⟩
  · omega
  · exact ⟨c, b, a, by omega, by omega, ha, s5, by omega, fun w => by omega⟩
theorem su3 (hk : kdO M K Lm 726 m) (hv : ja_r v) (n2 : ∀ q r, ¬ S2 M v q r) {i j k : Nat} (hi : i < j) (hj : j < k) (hk3 : k < m) (e : mn (mn (mn v (K i)) (K j)) (K k) = 0) (f : ∀ a b c, a < b → b < c → c < m → mn (mn (mn v (K a)) (K b)) (K c) = 0 → i < a ∨ (i = a ∧ (j < b ∨ (j = b ∧ k ≤ c)))) : S3 M v (Lm i) (Lm j) (Lm k) ∧ ∀ q r t, S3 M v q r t → Lm i < q ∨ (Lm i = q ∧ (Lm j < r ∨ (Lm j = r ∧ Lm k ≤ t))) := by
  obtain ⟨a1, a2, a3⟩ := hk.1 i (by omega)
  obtain ⟨b1, b2, b3⟩ := hk.1 j (by omega)
  obtain ⟨c1, c2, c3⟩ := hk.1 k hk3
  refine ⟨⟨(hk.2.1 i j hi (by omega)).1, (hk.2.1 j k hj hk3).1, c2, by rw [a3, b3, c3]; exact e⟩, fun q r t hq => ?_⟩
  obtain ⟨a, b, c, ha, hb, hc, nab, nac, nbc, ka, kb, kc, la, lb, lc⟩ := su3k hk hv n2 hq
  obtain ⟨x, y, z, h1, h2, h3, h4, h5, h6⟩ := su3s (K := K) (v := v) nab nac nbc ha hb hc (by rw [ka, kb, kc]; exact hq.2.2.2)
  have lx : Lm x ≤ Lm a := (kd_lt hk (by omega) ha).mp h5
  rcases f x y z h1 h2 h3 h4 with w | ⟨w, w2⟩
  · have := (hk.2.1 i x w (by omega)).1; omega
  · subst w
    rcases Nat.lt_or_ge (Lm i) q with u | u
    · exact Or.inl u
    · have ea : i = a := by
        have x1 := (kd_lt hk ha (show i < m by omega)).mpr (by omega)
        omega
      obtain ⟨h7, h8⟩ := h6 ea
      have ly : Lm y ≤ Lm b := (kd_lt hk (by omega) hb).mp h7
      refine Or.inr ⟨by omega, ?_⟩
      rcases w2 with w2 | ⟨w2, w3⟩
      · have := (hk.2.1 j y w2 (by omega)).1; omega
      · subst w2
        rcases Nat.lt_or_ge (Lm j) r with u2 | u2
        · exact Or.inl u2
        · have eb : j = b := by
            have x1 := (kd_lt hk hb (show j < m by omega)).mpr (by omega)
            omega
          have ec := h8 eb
          subst ec
          have lz : Lm k ≤ Lm z := (kd_lt hk hk3 h3).mp w3
          exact Or.inr ⟨by omega, by omega⟩
theorem su3n (hk : kdO M K Lm 726 m) (hv : ja_r v) (n2 : ∀ q r, ¬ S2 M v q r) (f : ∀ a b c, a < b → b < c → c < m → mn (mn (mn v (K a)) (K b)) (K c) ≠ 0) : ∀ q r t, ¬ S3 M v q r t := by
  intro q r t hq
  obtain ⟨a, b, c, ha, hb, hc, nab, nac, nbc, ka, kb, kc, la, lb, lc⟩ := su3k hk hv n2 hq
  obtain ⟨x, y, z, h1, h2, h3, h4, -⟩ := su3s (K := K) (v := v) nab nac nbc ha hb hc (by rw [ka, kb, kc]; exact hq.2.2.2)
  exact f x y z h1 h2 h3 h4
end SU
