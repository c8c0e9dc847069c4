theorem ac_act {n Ln P s A : Nat} {T K N : Nat → Int} {cl : List Int} {F Fp v : Int} {h : ja_H} (hA : acS n T Ln P s A K N cl F Fp h) (h16 : A < 16) : acF P h.2.1 (ja_up (ja_up h.2.1 (P + 1) A v) P 3 ((A : Int) + 1)) ∧ acS n T Ln P s (A + 1) (upF K A v) N cl F Fp (h.1, ja_up (ja_up h.2.1 (P + 1) A v) P 3 ((A : Int) + 1), h.2.2) := by
  obtain ⟨⟨b1, ⟨b2, b3, b4, b5⟩, b6, ⟨k1, k2, k3, k4⟩, b8⟩, ⟨a2, a3, a4, a5⟩, a6, a7, a8⟩ := hA
  have hP := b1.2.2.2
  obtain ⟨g, hg⟩ : ∃ g, ja_up (ja_up h.2.1 (P + 1) A v) P 3 ((A : Int) + 1) = g := ⟨_, rfl⟩
  have o : ∀ c j, (c ≠ P + 1 ∨ j ≠ A) → (c ≠ P ∨ j ≠ 3) → g c j = h.2.1 c j := fun c j y1 y2 => by rw [← hg, ja_upO y2, ja_upO y1]
  have e3 : g P 3 = ((A + 1 : Nat) : Int) := by rw [← hg, ja_upE rfl rfl]; rfl
  have e1 : g (P + 1) = upF K A v := by
    funext j
    unfold upF
    split
    · rename_i y; rw [← hg, ja_upO (by omega), ja_upE rfl y]
    · rw [o _ _ (by omega) (by omega), a4]
  have fr : acF P h.2.1 g := ⟨by rw [← hg]; exact jfr_up (jfr_up (jfr_rf _ _) (by simp)) (by simp), fun j _ => o _ _ (by omega) (by omega)⟩
  rw [hg]
  refine ⟨fr, ⟨b1, ⟨?_, b3, ?_, b5⟩, b6, ⟨?_, ?_, ?_, fun y => ?_⟩, ?_⟩, ⟨e3, by omega, e1, ?_⟩, fun j hj => ?_, ?_, ?_⟩
  · exact (o 48 1 (by omega) (by omega)).trans b2
  · show g 49 = T
    rw [← b4]; funext j; exact o _ _ (by omega) (by omega)
  · exact (o 48 2 (by omega) (by omega)).trans k1
  · exact (o 48 3 (by omega) (by omega)).trans k2
  · exact (o 48 4 (by omega) (by omega)).trans k3
  · exact (o 48 5 (by omega) (by omega)).trans (k4 y)
  · exact (o P 4 (by omega) (by omega)).trans b8
  · show g (P + 2) = N
    rw [← a5]; funext j; exact o _ _ (by omega) (by omega)
  · exact (o (P + 3) j (by omega) (by omega)).trans (a6 j hj)
  · exact (o 48 8 (by omega) (by omega)).trans a7
  · exact (o 48 9 (by omega) (by omega)).trans a8
