/-! the class's state: its pictures -/
theorem jr_m1 {L : ja_L} {h : ja_H} {r : ja_ER} {e : ja_EI} {x : Int} {l : Launch} {d ci k : Nat} {sh : ja_S} {M : ja_M} {v : Option Nat} (o : jr r L h (some k)) (hk : sh[k]? = some (0, ci)) (p : jv e L h x) (c : ∀ Q : ja_Q, Q (some (.inr (.inr v))) h → ja_C l d M sh [.inr (.inr (some k)), .inl x] h Q) : jr (jb_xR (jb_cm l d sh ci M r (jb_ai jb_a0 e))) L h v := fun _ w => o _ (p _ ⟨k, rfl, hk, c _ ⟨v, rfl, w⟩⟩)
theorem jr_cr {c : ja_EC} {a b : ja_ER} {L : ja_L} {h : ja_H} {φ : Prop} [Decidable φ] {x y : Option Nat} (p : jd c L h φ) (q : φ → jr a L h x) (s : ¬ φ → jr b L h y) : jr (jb_cr c a b) L h (if φ then x else y) := fun K w => by
  refine jb_cr_p (p _ _ (fun u => q u _ ?_) (fun u => s u _ ?_))
  · rw [if_pos u] at w; exact w
  · rw [if_neg u] at w; exact w
theorem jr_nu {L : ja_L} {h : ja_H} : jr jb_nu L h none := fun _ w => w
theorem jt_rR {L : ja_L} {h : ja_H} {r : ja_ER} {x : Option Nat} {N B C : ja_P} {R : ja_Q} (p : jr r L h x) (q : R (some (.inr (.inr x))) h) : jb_rR r N B C R L h := p _ q
/-- a State with cell s: its three arrays, its five pictures -/
def jS (w g : Int) (n s : Nat) (h : ja_H) : Prop := ((js_sh n)[s]? = some (0, 8) ∧ (js_sh n)[s + 1]? = some (4, 5) ∧ (js_sh n)[s + 2]? = some (1, 4) ∧ (js_sh n)[s + 3]? = some (1, 24)) ∧ (h.1 s 2 = some (s + 1) ∧ h.1 s 3 = some (s + 2) ∧ h.1 s 4 = some (s + 3)) ∧ ∀ i, i < 5 → h.1 (s + 1) i = some (s + 4 + 2 * i) ∧ jp w g n (s + 4 + 2 * i) h
def jS_p (s : Nat) (v : Int) : Option Nat := if 0 ≤ v ∧ v ≤ 4 then some (s + 4 + 2 * v.toNat) else none
theorem kX8_picture {l : Launch} {d n s : Nat} {v w g : Int} {h : ja_H} {Q : ja_Q} (hs : jS w g n s h) (q : Q (some (.inr (.inr (jS_p s v)))) h) : ja_C l (d + 2) mX8_picture (js_sh n) [.inr (.inr (some s)), .inl v] h Q := by
  obtain ⟨⟨s1, s2, s3, s4⟩, ⟨s5, s6, s7⟩, s8⟩ := id hs
  refine eX8_picture _ _ fun r1 _ => ?_
  unfold bX8_picture
  unfold jS_p at q
  refine jt_rR (jr_cr (φ := 0 ≤ v ∧ v ≤ 4) (jd_eq (jd_b (jv_c3 (jv_li rfl) jv_ci (jv_w (jv_sub (jv_len (jr_g (jr_lr rfl) s1 s5) s2 (by decide)) jv_ci) (by unfold ja_r; omega)) fun _ => kX11_within)) (by omega)) (fun c => ?_) (fun _ => jr_nu)) q
  exact jr_is (jr_aP (jr_g (jr_lr rfl) s1 s5) (jv_li rfl) s2 c.1 (by omega)) (s8 v.toNat (by omega)).1
