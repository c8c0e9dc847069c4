/-! numbers in a row: what is read of (slot, least, greatest) .. at token s, as (fault, token, numbers) -/
abbrev nmR := Int × Nat × (Nat → Int)
def nms (T : Nat → Int) (Ln b : Nat) : List (Nat × Int × Int) → Nat → (Nat → Int) → nmR
  | [], s, N => (0, s, N)
  | x :: r, s, N => if tkK T Ln s = 2 then (if x.2.1 ≤ tkV T s (tkE T Ln s - s) ∧ tkV T s (tkE T Ln s - s) ≤ x.2.2 then nms T Ln b r (nxS T Ln s) (upF N (b + x.1) (tkV T s (tkE T Ln s - s))) else (2, s, N)) else (1, s, N)
theorem nms_c {T : Nat → Int} {Ln b : Nat} {x : Nat × Int × Int} {r : List (Nat × Int × Int)} {s : Nat} {N : Nat → Int} : nms T Ln b (x :: r) s N = if (nms T Ln b [x] s N).1 = 0 then nms T Ln b r (nms T Ln b [x] s N).2.1 (nms T Ln b [x] s N).2.2 else nms T Ln b [x] s N := by
  simp only [nms]
  repeat' split
  all_goals first | rfl | (rename_i y; exact absurd y (by decide)) | (rename_i y _; exact absurd y (by decide)) | simp_all
theorem nms_b {T : Nat → Int} {Ln b : Nat} : ∀ (x : List (Nat × Int × Int)) (s : Nat) (N : Nat → Int), s ≤ Ln → s ≤ (nms T Ln b x s N).2.1 ∧ (nms T Ln b x s N).2.1 ≤ Ln
  | [], s, N, hs => by simp only [nms]; omega
  | x :: r, s, N, hs => by
    have nb := nxS_b (T := T) hs
    have ih := nms_b (T := T) (b := b) r (nxS T Ln s) (upF N (b + x.1) (tkV T s (tkE T Ln s - s))) nb.2.1
    simp only [nms]
    split
    · split
      · omega
      · dsimp only; omega
    · dsimp only; omega
/-- the reader stands as such a reading leaves it -/
def acN (n : Nat) (T : Nat → Int) (Ln P A : Nat) (K : Nat → Int) (cl : List Int) (F Fp : Int) (r : nmR) (I : Nat → Nat → Int) (h : ja_H) : Prop := acF P I h.2.1 ∧ acS n T Ln P r.2.1 A K r.2.2 cl (if r.1 = 0 then F else r.1) (if r.1 = 0 then Fp else (r.2.1 : Int)) h
theorem kX5_readNm {l : Launch} {d n Ln P s A a t : Nat} {T K N : Nat → Int} {cl : List Int} {F Fp lo hi zt : Int} {h : ja_H} {Q : ja_Q} (hA : acS n T Ln P s A K N cl F Fp h) (ha : a < 16) (ht : t < 7) (hz : zt = (t : Int)) (q : ∀ f, acN n T Ln P A K cl F Fp (nms T Ln (7 * a) [(t, lo, hi)] s N) h.2.1 (h.1, f, h.2.2) → Q (some (.inl (if (nms T Ln (7 * a) [(t, lo, hi)] s N).1 = 0 then 1 else 0))) (h.1, f, h.2.2)) : ja_C l (d + 3) mX5_readNumber (js_sh n) [.inr (.inr (some 48)), .inl (a : Int), .inl zt, .inl lo, .inl hi] h Q := by
  subst hz
  refine kX5_readNumber hA ha ht rfl (fun y1 y2 f w1 w2 => ?_) (fun y1 f w1 w2 => ?_) (fun y1 y2 f w1 w2 => ?_)
  · have := q f
    simp only [nms, if_pos y1, if_pos y2] at this
    exact this ⟨w1, w2⟩
  · have := q f
    simp only [nms, if_neg y1] at this
    exact this ⟨w1, w2⟩
  · have := q f
    simp only [nms, if_pos y1, if_neg y2] at this
    exact this ⟨w1, w2⟩
