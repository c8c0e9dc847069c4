/-! all holds at the start -/
theorem jg_12 : ∀ k, k < 90 → ∀ j, jg k (j + 12) = none
  | 0, _ => fun _ => rfl
  | 1, _ => fun _ => rfl
  | 2, _ => fun _ => rfl
  | 3, _ => fun _ => rfl
  | 4, _ => fun _ => rfl
  | 5, _ => fun _ => rfl
  | 6, _ => fun _ => rfl
  | 7, _ => fun _ => rfl
  | 8, _ => fun _ => rfl
  | 9, _ => fun _ => rfl
  | 10, _ => fun _ => rfl
  | 11, _ => fun _ => rfl
  | 12, _ => fun _ => rfl
  | 13, _ => fun _ => rfl
  | 14, _ => fun _ => rfl
  | 15, _ => fun _ => rfl
  | 16, _ => fun _ => rfl
  | 17, _ => fun _ => rfl
  | 18, _ => fun _ => rfl
  | 19, _ => fun _ => rfl
  | 20, _ => fun _ => rfl
  | 21, _ => fun _ => rfl
  | 22, _ => fun _ => rfl
  | 23, _ => fun _ => rfl
  | 24, _ => fun _ => rfl
  | 25, _ => fun _ => rfl
  | 26, _ => fun _ => rfl
  | 27, _ => fun _ => rfl
  | 28, _ => fun _ => rfl
  | 29, _ => fun _ => rfl
  | 30, _ => fun _ => rfl
  | 31, _ => fun _ => rfl
  | 32, _ => fun _ => rfl
  | 33, _ => fun _ => rfl
  | 34, _ => fun _ => rfl
  | 35, _ => fun _ => rfl
  | 36, _ => fun _ => rfl
  | 37, _ => fun _ => rfl
  | 38, _ => fun _ => rfl
  | 39, _ => fun _ => rfl
  | 40, _ => fun _ => rfl
  | 41, _ => fun _ => rfl
  | 42, _ => fun _ => rfl
  | 43, _ => fun _ => rfl
  | 44, _ => fun _ => rfl
  | 45, _ => fun _ => rfl
  | 46, _ => fun _ => rfl
  | 47, _ => fun _ => rfl
  | 48, _ => fun _ => rfl
  | 49, _ => fun _ => rfl
  | 50, _ => fun _ => rfl
  | 51, _ => fun _ => rfl
  | 52, _ => fun _ => rfl
  | 53, _ => fun _ => rfl
  | 54, _ => fun _ => rfl
  | 55, _ => fun _ => rfl
  | 56, _ => fun _ => rfl
  | 57, _ => fun _ => rfl
  | 58, _ => fun _ => rfl
  | 59, _ => fun _ => rfl
  | 60, _ => fun _ => rfl
  | 61, _ => fun _ => rfl
  | 62, _ => fun _ => rfl
  | 63, _ => fun _ => rfl
  | 64, _ => fun _ => rfl
  | 65, _ => fun _ => rfl
  | 66, _ => fun _ => rfl
  | 67, _ => fun _ => rfl
  | 68, _ => fun _ => rfl
  | 69, _ => fun _ => rfl
  | 70, _ => fun _ => rfl
  | 71, _ => fun _ => rfl
  | 72, _ => fun _ => rfl
  | 73, _ => fun _ => rfl
  | 74, _ => fun _ => rfl
  | 75, _ => fun _ => rfl
  | 76, _ => fun _ => rfl
  | 77, _ => fun _ => rfl
  | 78, _ => fun _ => rfl
  | 79, _ => fun _ => rfl
  | 80, _ => fun _ => rfl
  | 81, _ => fun _ => rfl
  | 82, _ => fun _ => rfl
  | 83, _ => fun _ => rfl
  | 84, _ => fun _ => rfl
  | 85, _ => fun _ => rfl
  | 86, _ => fun _ => rfl
  | 87, _ => fun _ => rfl
  | 88, _ => fun _ => rfl
  | 89, _ => fun _ => rfl
  | k + 90, h => absurd h (by omega)
theorem jg_in {k j r : Nat} (e : jg k j = some r) : k < 90 ∧ j < 12 := by
  have hk : k < 90 := by
    rcases Nat.lt_or_ge k 90 with z | z
    · exact z
    · obtain ⟨q, rfl⟩ : ∃ q, k = q + 90 := ⟨k - 90, by omega⟩
      exact absurd (show (none : Option Nat) = some r from e) (by simp)
  refine ⟨hk, ?_⟩
  rcases Nat.lt_or_ge j 12 with z | z
  · exact z
  · obtain ⟨q, rfl⟩ : ∃ q, j = q + 12 := ⟨j - 12, by omega⟩
    rw [jg_12 k hk q] at e
    cases e
theorem jG0d : ∀ k : Fin 90, ∀ j : Fin 12, jg k j = none ∨ mdR (tw17 0 0).1 k j = jg k j := by decide +kernel
theorem mdR_44 : ∀ j, j < 44 → mdR (fun _ _ => none) 90 j = jm_ref j
  | 0, _ => rfl
  | 1, _ => rfl
  | 2, _ => rfl
  | 3, _ => rfl
  | 4, _ => rfl
  | 5, _ => rfl
  | 6, _ => rfl
  | 7, _ => rfl
  | 8, _ => rfl
  | 9, _ => rfl
  | 10, _ => rfl
  | 11, _ => rfl
  | 12, _ => rfl
  | 13, _ => rfl
  | 14, _ => rfl
  | 15, _ => rfl
  | 16, _ => rfl
  | 17, _ => rfl
  | 18, _ => rfl
  | 19, _ => rfl
  | 20, _ => rfl
  | 21, _ => rfl
  | 22, _ => rfl
  | 23, _ => rfl
  | 24, _ => rfl
  | 25, _ => rfl
  | 26, _ => rfl
  | 27, _ => rfl
  | 28, _ => rfl
  | 29, _ => rfl
  | 30, _ => rfl
  | 31, _ => rfl
  | 32, _ => rfl
  | 33, _ => rfl
  | 34, _ => rfl
  | 35, _ => rfl
  | 36, _ => rfl
  | 37, _ => rfl
  | 38, _ => rfl
  | 39, _ => rfl
  | 40, _ => rfl
  | 41, _ => rfl
  | 42, _ => rfl
  | 43, _ => rfl
  | j + 44, h => absurd h (by omega)
theorem mdR_90 {R : Nat → Nat → Option Nat} (h : ∀ j, R 90 j = none) : mdR R 90 = jm_ref := by
  funext j
  rcases Nat.lt_or_ge j 44 with z | z
  · rw [← mdR_44 j z]
    unfold mdR ja_up
    simp only [h]
  · obtain ⟨q, rfl⟩ : ∃ q, j = q + 44 := ⟨j - 44, by omega⟩
    show mdR R 90 (q + 44) = none
    unfold mdR
    rw [ja_upi (by omega), ja_upi (by omega), ja_upi (by omega), ja_upi (by omega), ja_upi (by omega), ja_upi (by omega), ja_upi (by omega), ja_upi (by omega), ja_upi (by omega), ja_upi (by omega), ja_upi (by omega), ja_upi (by omega), ja_upi (by omega), ja_upi (by omega), ja_upi (by omega), ja_upi (by omega), ja_upi (by omega)]
    exact h _
theorem tw_r {w g : Int} : (tw17 w g).1 = (tw17 0 0).1 := rfl
theorem jG0 {w g : Int} (hz : ja_Hz 90 (tw17 w g)) : jG (mdR (tw17 w g).1) := by
  refine ⟨fun k j r e => ?_, mdR_90 fun j => (hz.2 90 (by omega) j).1⟩
  obtain ⟨hk, hj⟩ := jg_in e
  rw [tw_r]
  rcases jG0d ⟨k, hk⟩ ⟨j, hj⟩ with y | y
  · have y : jg k j = none := y
    rw [y] at e
    cases e
  · have y : mdR (tw17 0 0).1 k j = jg k j := y
    rw [y, e]
section JZ1
variable {w g : Int}
theorem tw_h4 : ∀ k, k < 24 → (tw17 w g).2.1 4 k = 50
  | 0, _ => rfl
  | 1, _ => rfl
  | 2, _ => rfl
  | 3, _ => rfl
  | 4, _ => rfl
  | 5, _ => rfl
  | 6, _ => rfl
  | 7, _ => rfl
  | 8, _ => rfl
  | 9, _ => rfl
  | 10, _ => rfl
  | 11, _ => rfl
  | 12, _ => rfl
  | 13, _ => rfl
  | 14, _ => rfl
  | 15, _ => rfl
  | 16, _ => rfl
  | 17, _ => rfl
  | 18, _ => rfl
  | 19, _ => rfl
  | 20, _ => rfl
  | 21, _ => rfl
  | 22, _ => rfl
  | 23, _ => rfl
  | k + 24, h => absurd h (by omega)
theorem tw_h18 : ∀ k, k < 24 → (tw17 w g).2.1 18 k = 50
  | 0, _ => rfl
  | 1, _ => rfl
  | 2, _ => rfl
  | 3, _ => rfl
  | 4, _ => rfl
  | 5, _ => rfl
  | 6, _ => rfl
  | 7, _ => rfl
  | 8, _ => rfl
  | 9, _ => rfl
  | 10, _ => rfl
  | 11, _ => rfl
  | 12, _ => rfl
  | 13, _ => rfl
  | 14, _ => rfl
  | 15, _ => rfl
  | 16, _ => rfl
  | 17, _ => rfl
  | 18, _ => rfl
  | 19, _ => rfl
  | 20, _ => rfl
  | 21, _ => rfl
  | 22, _ => rfl
  | 23, _ => rfl
  | k + 24, h => absurd h (by omega)
theorem tw_lit : ∀ p, p < 5 → ∀ j, (tw17 w g).2.1 (6 + 2 * p) j = 0 ∧ (tw17 w g).2.1 (20 + 2 * p) j = 0
  | 0, _ => fun _ => ⟨rfl, rfl⟩
  | 1, _ => fun _ => ⟨rfl, rfl⟩
  | 2, _ => fun _ => ⟨rfl, rfl⟩
  | 3, _ => fun _ => ⟨rfl, rfl⟩
  | 4, _ => fun _ => ⟨rfl, rfl⟩
  | p + 5, h => absurd h (by omega)
theorem tw_pic : ∀ k ∈ ([5, 7, 9, 11, 13, 19, 21, 23, 25, 27, 53, 59, 61, 63] : List Nat), (tw17 w g).2.1 k 0 = w ∧ (tw17 w g).2.1 k 1 = g := by
  intro k hk
  simp only [List.mem_cons, List.not_mem_nil, or_false] at hk
  rcases hk with rfl | rfl | rfl | rfl | rfl | rfl | rfl | rfl | rfl | rfl | rfl | rfl | rfl | rfl <;> exact ⟨rfl, rfl⟩
end JZ1
theorem mdI_o {I : Nat → Nat → Int} {w g : Int} {c : Nat} (h0 : c ≠ 90) (h1 : c ≠ 91) : mdI I w g c = I c := by
  funext j
  unfold mdI fil
  rw [if_neg (by omega), ja_upO (by omega), ja_upO (by omega), ja_upO (by omega), ja_upO (by omega), ja_upO (by omega)]
theorem mdI_1 {I : Nat → Nat → Int} {w g : Int} {j : Nat} (h : I 91 j = 0) : mdI I w g 91 j = if j = 4 then 90 else if 890 ≤ j ∧ j < 914 then 50 else 0 := by
  unfold mdI fil
  by_cases z : 890 ≤ j ∧ j < 914
  · rw [if_pos ⟨rfl, z⟩, if_neg (by omega), if_pos z]
  · rw [if_neg (by omega), if_neg z]
    by_cases y : j = 4
    · rw [if_pos y, ja_upE rfl y]
    · rw [if_neg y, ja_upO (by omega), ja_upO (by omega), ja_upO (by omega), ja_upO (by omega), ja_upO (by omega)]
      exact h
theorem mdI_0 {I : Nat → Nat → Int} {w g : Int} {j : Nat} (h : I 90 j = 0) : mdI I w g 90 j = if j = 0 then w else if j = 1 then g else if j = 17 then -1 else if j = 18 then -1 else 0 := by
  unfold mdI fil
  rw [if_neg (by omega), ja_upO (by omega)]
  by_cases y0 : j = 0
  · rw [if_pos y0, ja_upO (by omega), ja_upE rfl y0]
  rw [if_neg y0]
  by_cases y1 : j = 1
  · rw [if_pos y1, ja_upE rfl y1]
  rw [if_neg y1, ja_upO (by omega), ja_upO (by omega)]
  by_cases y2 : j = 17
  · rw [if_pos y2, ja_upO (by omega), ja_upE rfl y2]
  rw [if_neg y2]
  by_cases y3 : j = 18
  · rw [if_pos y3, ja_upE rfl y3]
  rw [if_neg y3, ja_upO (by omega), ja_upO (by omega)]
  exact h
theorem INV_0 {w g n : Nat} (hb : 4 ≤ (w : Int) ∧ (w : Int) ≤ 12 ∧ 4 ≤ (g : Int) ∧ (g : Int) ≤ 12) (hn : (n : Int) = (w : Int) * (g : Int)) (hz : ja_Hz 90 (tw17 w g)) : INV w g n (mdH (tw17 w g) w g) := by
  have z0 : ∀ c, 90 ≤ c → ∀ j, (tw17 w g).2.1 c j = 0 := fun c hc j => (hz.2 c hc j).2.1
  obtain ⟨u, hu⟩ : ∃ u, jm_cpr (mdI (tw17 w g).2.1 w g) 92 91 0 0 920 = u := ⟨_, rfl⟩
  have u2 : ∀ c, c < 90 → u c = (tw17 w g).2.1 c := fun c hc => by rw [← hu]; funext j; unfold jm_cpr; rw [if_neg (by omega), mdI_o (by omega) (by omega)]
  have u97 : ∀ j, u 97 j = 0 := fun j => by rw [← hu]; unfold jm_cpr; rw [if_neg (by omega), mdI_o (by omega) (by omega)]; exact z0 97 (by omega) j
  have u90 : ∀ j, u 90 j = if j = 0 then (w : Int) else if j = 1 then (g : Int) else if j = 17 then -1 else if j = 18 then -1 else 0 := fun j => by rw [← hu]; unfold jm_cpr; rw [if_neg (by omega)]; exact mdI_0 (z0 90 (by omega) j)
  have u91 : ∀ j, u 91 j = if j = 4 then 90 else if 890 ≤ j ∧ j < 914 then 50 else 0 := fun j => by rw [← hu]; unfold jm_cpr; rw [if_neg (by omega)]; exact mdI_1 (z0 91 (by omega) j)
  have u92 : ∀ j, j < 920 → u 92 j = if j = 4 then 90 else if 890 ≤ j ∧ j < 914 then 50 else 0 := fun j hj => by rw [← hu]; unfold jm_cpr; rw [if_pos (by omega), show 0 + (j - 0) = j by omega]; exact mdI_1 (z0 91 (by omega) j)
  show INV w g n (mdR (tw17 w g).1, jm_cpr (mdI (tw17 w g).2.1 w g) 92 91 0 0 920, (tw17 w g).2.2)
  rw [hu]
  have lt0 : ∀ a : Nat, (∀ j, j < 920 → u a j = if j = 4 then 90 else if 890 ≤ j ∧ j < 914 then 50 else 0) → ∀ p : Nat, p < 5 → jqx u a w g (p : Int) = fun _ _ => 0 := fun a ha p hp => by
    funext x y
    unfold jqx
    by_cases c : (0 ≤ x ∧ x < (w : Int)) ∧ 0 ≤ y ∧ y < (g : Int)
    · rw [if_pos c, ha _ (by omega), if_neg (by omega), if_neg (by omega)]
    · rw [if_neg c]
  have lc0 : ∀ c : Nat, (∀ j, u c j = 0) → jcx u c w g = fun _ _ => 0 := fun c hc => by
    funext x y
    unfold jcx
    rw [hc]
    split <;> rfl
  have l0 : l99 (fun _ _ => 0) := fun _ _ => ⟨Int.le_refl 0, show (0 : Int) ≤ 99 by decide⟩
  have c4 : u 1 5 = 90 ∧ u 1 6 = 0 ∧ u 1 7 = 0 ∧ u 1 8 = 0 ∧ u 1 9 = 0 := by rw [u2 1 (by omega)]; exact ⟨rfl, rfl, rfl, rfl, rfl⟩
  have c5 : u 15 5 = 90 ∧ u 15 6 = 0 ∧ u 15 7 = 0 ∧ u 15 8 = 0 ∧ u 15 9 = 0 := by rw [u2 15 (by omega)]; exact ⟨rfl, rfl, rfl, rfl, rfl⟩
  have a0 : u 91 0 = 0 := by rw [u91]; rfl
  have a1 : u 91 1 = 0 := by rw [u91]; rfl
  have a2 : u 91 2 = 0 := by rw [u91]; rfl
  have a3 : u 91 3 = 0 := by rw [u91]; rfl
  have a4 : u 91 4 = 90 := by rw [u91]; rfl
  have b0 : u 92 0 = 0 := by rw [u92 0 (by omega)]; rfl
  have b1 : u 92 1 = 0 := by rw [u92 1 (by omega)]; rfl
  have b2 : u 92 2 = 0 := by rw [u92 2 (by omega)]; rfl
  have b3 : u 92 3 = 0 := by rw [u92 3 (by omega)]; rfl
  have b4 : u 92 4 = 90 := by rw [u92 4 (by omega)]; rfl
  refine ⟨jG0 hz, ⟨⟨hn, hb⟩, ?_, ?_, ?_, ?_, fun k hk => ?_⟩, ⟨fun p hp => ?_, fun p hp => ?_⟩, ⟨?_, ?_⟩, ⟨⟨fun m hm => ?_, fun k hk => ?_⟩, fun m hm => ?_, fun k hk => ?_⟩, ⟨⟨fun k hk => ?_, fun k hk => ?_⟩, fun k hk => ?_, fun k hk => ?_⟩, ⟨fun k hk => ?_, fun k hk => ?_⟩, fun t ht => ?_, ⟨0, by omega, ?_, ?_, ?_, fun j hj => absurd hj (by omega)⟩, Or.inl ⟨?_, ?_, ?_⟩, ⟨?_, ?_⟩, ?_⟩
  · show u 90 0 = _; rw [u90]; rfl
  · show u 90 1 = _; rw [u90]; rfl
  · show u 1 0 = _; rw [u2 1 (by omega)]; rfl
  · show u 1 1 = _; rw [u2 1 (by omega)]; rfl
  · show u k 0 = _ ∧ u k 1 = _
    rw [u2 k (by simp only [List.mem_cons, List.not_mem_nil, or_false] at hk; omega)]
    exact tw_pic k hk
  · show jcx u _ w g = jqx u 91 w g (p : Int) ∧ l99 (jqx u 91 w g (p : Int))
    rw [lt0 91 (fun j _ => u91 j) p hp, show 1 + 5 + 2 * p = 6 + 2 * p by omega, lc0 _ (fun j => by rw [u2 _ (by omega)]; exact (tw_lit p hp j).1)]
    exact ⟨rfl, l0⟩
  · show jcx u _ w g = jqx u 92 w g (p : Int) ∧ l99 (jqx u 92 w g (p : Int))
    rw [lt0 92 u92 p hp, show 15 + 5 + 2 * p = 20 + 2 * p by omega, lc0 _ (fun j => by rw [u2 _ (by omega)]; exact (tw_lit p hp j).2)]
    exact ⟨rfl, l0⟩
  · show iC 1 91 u
    unfold iC
    rw [c4.1, c4.2.1, c4.2.2.1, c4.2.2.2.1, c4.2.2.2.2, a0, a1, a2, a3, a4]
    decide
  · show iC 15 92 u
    unfold iC
    rw [c5.1, c5.2.1, c5.2.2.1, c5.2.2.2.1, c5.2.2.2.2, b0, b1, b2, b3, b4]
    decide
  · show u 3 m = u 91 (880 + m) ∧ 0 ≤ u 91 (880 + m) ∧ u 91 (880 + m) ≤ 9
    rw [u2 3 (by omega), u91, if_neg (by omega), if_neg (by omega)]
    exact ⟨rfl, by decide, by decide⟩
  · show u 4 k = u 91 (890 + k) ∧ 1 ≤ u 91 (890 + k) ∧ u 91 (890 + k) ≤ 99
    rw [u2 4 (by omega), u91, if_neg (by omega), if_pos (by omega)]
    exact ⟨tw_h4 k hk, by decide, by decide⟩
  · show u 17 m = u 92 (880 + m) ∧ 0 ≤ u 92 (880 + m) ∧ u 92 (880 + m) ≤ 9
    rw [u2 17 (by omega), u92 _ (by omega), if_neg (by omega), if_neg (by omega)]
    exact ⟨rfl, by decide, by decide⟩
  · show u 18 k = u 92 (890 + k) ∧ 1 ≤ u 92 (890 + k) ∧ u 92 (890 + k) ≤ 99
    rw [u2 18 (by omega), u92 _ (by omega), if_neg (by omega), if_pos (by omega)]
    exact ⟨tw_h18 k hk, by decide, by decide⟩
  · have hk : (k : Int) < u 91 0 := hk
    omega
  · have hk : (k : Int) < u 91 1 := hk
    omega
  · have hk : (k : Int) < u 92 0 := hk
    omega
  · have hk : (k : Int) < u 92 1 := hk
    omega
  · have hk : (k : Int) < u 91 2 := hk
    omega
  · have hk : (k : Int) < u 92 2 := hk
    omega
  · have ht : (t : Int) < u 91 3 := ht
    omega
  · show u 48 1 = _; rw [u2 48 (by omega)]; rfl
  · show u 90 16 = _; rw [u90]; rfl
  · show u 49 = u 97
    funext j
    rw [u97, u2 49 (by omega)]
    rfl
  · show u 48 7 = _; rw [u2 48 (by omega)]; rfl
  · show u 90 17 = _; rw [u90]; rfl
  · show u 90 18 = _; rw [u90]; rfl
  · show 0 ≤ u 90 8 ∧ u 90 8 ≤ 8; rw [show u 90 8 = 0 by rw [u90]; rfl]; decide
  · show 0 ≤ u 90 9 ∧ u 90 9 ≤ 8; rw [show u 90 9 = 0 by rw [u90]; rfl]; decide
  · show iLe u
    unfold iLe
    rw [a0, a1, a2, a3, b0, b1, b2, b3]
    decide
