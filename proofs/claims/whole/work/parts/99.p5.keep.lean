theorem acN_tr {n Ln P A : Nat} {T K : Nat → Int} {cl : List Int} {F Fp : Int} {r : nmR} {I f : Nat → Nat → Int} {h : ja_H} (a : acF P I f) (w : acN n T Ln P A K cl F Fp r f h) : acN n T Ln P A K cl F Fp r I h := ⟨acF_tr a w.1, w.2⟩
/-- a reading of numbers, then a sign -/
def nmP (T : Nat → Int) (Ln : Nat) (v : Int) (r : nmR) : nmR := if r.1 = 0 then (if tkK T Ln r.2.1 = v then (0, nxS T Ln r.2.1, r.2.2) else (1, r.2.1, r.2.2)) else r
theorem kX5_passN {l : Launch} {d n Ln P s A : Nat} {T K N : Nat → Int} {cl : List Int} {F Fp v : Int} {h : ja_H} {Q : ja_Q} (hA : acS n T Ln P s A K N cl F Fp h) (q : ∀ r : nmR, r = nmP T Ln v (0, s, N) → ∀ f, acN n T Ln P A K cl F Fp r h.2.1 (h.1, f, h.2.2) → Q (some (.inl (if r.1 = 0 then 1 else 0))) (h.1, f, h.2.2)) : ja_C l (d + 3) mX5_pass (js_sh n) [.inr (.inr (some 48)), .inl v] h Q := by
  have nb := nxS_b (T := T) hA.1.2.2.1
  unfold nmP at q
  rw [if_pos rfl] at q
  refine kX5_pass hA.1 (fun y f p => ?_) (fun y f p => ?_)
  · have w := ac_rd hA rfl p nb.2.1
    simp only [List.append_nil] at w
    rw [if_pos y] at q
    exact q _ rfl f w
  · have w := ac_rd hA rfl p hA.1.2.2.1
    simp only [List.append_nil] at w
    rw [if_neg y] at q
    exact q _ rfl f w
