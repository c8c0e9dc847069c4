/-! blocks, their median, oddness -/
section JVD
variable {L : ja_L} {h : ja_H} {e f : ja_EI} {x y : Int}
theorem jv_divP (p : jv e L h x) (q : jv f L h y) (hx : 0 ≤ x) (hy : 0 < y) (hr : ja_r x) : jv (jb_div e f) L h (x / y) := by
  have h1 : x.tdiv y = x / y := Int.tdiv_eq_ediv_of_nonneg hx
  have h2 : 0 ≤ x / y := Int.ediv_nonneg hx (by omega)
  have h3 : x / y ≤ x := Int.ediv_le_self y hx
  exact jv_is (jv_div p q (by omega)) (by rw [h1]; exact ja_w_id (by unfold ja_r at *; omega))
theorem jv_remP (p : jv e L h x) (q : jv f L h y) (hx : 0 ≤ x) (hy : 0 < y) : jv (jb_rem e f) L h (x % y) := jv_is (jv_rem p q (by omega)) (Int.tmod_eq_emod_of_nonneg hx)
end JVD
theorem bk_b {w g b : Int} (hw : 4 ≤ w ∧ w ≤ 12) (hg : 4 ≤ g ∧ g ≤ 12) (hb : 0 ≤ b ∧ b < w / 4 * (g / 4)) : 0 ≤ b % (w / 4) ∧ 4 * (b % (w / 4)) + 4 ≤ w ∧ 0 ≤ b / (w / 4) ∧ 4 * (b / (w / 4)) + 4 ≤ g := by
  have ha : w / 4 = 1 ∨ w / 4 = 2 ∨ w / 4 = 3 := by omega
  rcases ha with e | e | e <;> rw [e] at hb ⊢ <;> omega
theorem bk_n {w g : Int} (hw : 4 ≤ w ∧ w ≤ 12) (hg : 4 ≤ g ∧ g ≤ 12) : 1 ≤ w / 4 * (g / 4) ∧ w / 4 * (g / 4) ≤ 9 := by
  have ha : w / 4 = 1 ∨ w / 4 = 2 ∨ w / 4 = 3 := by omega
  rcases ha with e | e | e <;> rw [e] <;> omega
/-- the roughness of block b -/
def rb (lt : Int → Int → Int) (w : Int) (b : Int) : Int := rg lt (4 * (b % (w / 4))) (4 * (b / (w / 4))) 4 4
theorem rb_b {lt : Int → Int → Int} {w g b : Int} (ho : rg_ok lt w g) (hw : 4 ≤ w ∧ w ≤ 12) (hg : 4 ≤ g ∧ g ≤ 12) (hb : 0 ≤ b ∧ b < w / 4 * (g / 4)) : 0 ≤ rb lt w b ∧ rb lt w b ≤ 9504 := by
  have q := bk_b hw hg hb
  have := rg_b (u := 4) ho (x := 4 * (b % (w / 4))) (y := 4 * (b / (w / 4))) (by omega) (by omega) (by omega) hw.2 4 (by omega)
  unfold rb
  omega
theorem rb_c {lt lt' : Int → Int → Int} {w g b : Int} (he : ∀ x y, 0 ≤ x → x < w → 0 ≤ y → y < g → lt x y = lt' x y) (hw : 4 ≤ w ∧ w ≤ 12) (hg : 4 ≤ g ∧ g ≤ 12) (hb : 0 ≤ b ∧ b < w / 4 * (g / 4)) : rb lt w b = rb lt' w b := by
  have q := bk_b hw hg hb
  unfold rb
  exact rg_c he (by omega) (by omega) (by omega) 4 (by omega)
/-- how many of the first n are below v -/
def ct (r : Nat → Int) (v : Int) : Nat → Int
  | 0 => 0
  | m + 1 => ct r v m + (if r m < v then 1 else 0)
theorem ct_b (r : Nat → Int) (v : Int) : ∀ m : Nat, 0 ≤ ct r v m ∧ ct r v m ≤ m
  | 0 => by simp [ct]
  | m + 1 => by have := ct_b r v m; simp only [ct]; split <;> omega
theorem ct_c {r r' : Nat → Int} (v : Int) : ∀ {m : Nat}, (∀ k, k < m → r k = r' k) → ct r v m = ct r' v m
  | 0, _ => rfl
  | m + 1, h => by simp only [ct]; rw [ct_c v (m := m) (fun k hk => h k (by omega)), h m (by omega)]
/-- the first of n that lies in the middle, of the last k -/
def md (r : Nat → Int) (n : Nat) : Nat → Int
  | 0 => -1
  | k + 1 => if ct r (r (n - (k + 1))) n ≤ ((n : Int) - 1) / 2 ∧ ((n : Int) - 1) / 2 < ct r (r (n - (k + 1)) + 1) n then r (n - (k + 1)) else md r n k
theorem md_c {r r' : Nat → Int} {n : Nat} (h : ∀ k, k < n → r k = r' k) : ∀ k, k ≤ n → md r n k = md r' n k
  | 0, _ => rfl
  | k + 1, hk => by simp only [md]; rw [md_c h k (by omega), h (n - (k + 1)) (by omega), ct_c _ h, ct_c _ h]
theorem kX12_blocks {l : Launch} {d n : Nat} {w g : Int} {h : ja_H} {Q : ja_Q} (hm : jm w g h) (q : Q (some (.inl (w / 4 * (g / 4)))) h) : ja_C l (d + 1) mX12_blocks (js_sh n) [.inr (.inr (some 90))] h Q := by
  obtain ⟨m1, m2, m3, m4, m5, m6, m7⟩ := id hm
  have b := bk_n ⟨m4, m5⟩ ⟨m6, m7⟩
  refine eX12_blocks _ fun _ => ?_
  unfold bX12_blocks
  exact jt_rI (jv_w (jv_mul (jv_divP (jv_gF (jr_lr rfl) rfl m2) jv_ci (by first | omega | (unfold ja_r; omega) | (unfold ja_rl; omega) | assumption) (by first | omega | (unfold ja_r; omega) | (unfold ja_rl; omega) | assumption) (by first | omega | (unfold ja_r; omega) | (unfold ja_rl; omega) | assumption)) (jv_divP (jv_gF (jr_lr rfl) rfl m3) jv_ci (by first | omega | (unfold ja_r; omega) | (unfold ja_rl; omega) | assumption) (by first | omega | (unfold ja_r; omega) | (unfold ja_rl; omega) | assumption) (by first | omega | (unfold ja_r; omega) | (unfold ja_rl; omega) | assumption))) (by first | omega | (unfold ja_r; omega) | (unfold ja_rl; omega) | assumption)) q
theorem kX12_roughBlock {l : Launch} {d n : Nat} {p b w g : Int} {h : ja_H} {Q : ja_Q} (hm : jm w g h) (hp : 0 ≤ p ∧ p ≤ 4) (ho : rg_ok (jm_lt h p) w g) (hb : 0 ≤ b ∧ b < w / 4 * (g / 4)) (q : Q (some (.inl (rb (jm_lt h p) w b))) h) : ja_C l (d + 4) mX12_roughBlock (js_sh n) [.inr (.inr (some 90)), .inl p, .inl b] h Q := by
  obtain ⟨m1, m2, m3, m4, m5, m6, m7⟩ := id hm
  have k := bk_b ⟨m4, m5⟩ ⟨m6, m7⟩ hb
  have k2 := bk_n ⟨m4, m5⟩ ⟨m6, m7⟩
  refine eX12_roughBlock _ _ _ fun r1 r2 _ => ?_
  unfold bX12_roughBlock
  have dv : ∀ L, jv (jb_div (jb_gI (js_sh n) 12 0 (jb_lr 0)) (jb_ci 4)) (some (.inr (.inr (some 90))) :: L) h (w / 4) := fun L => jv_divP (jv_gF (jr_lr rfl) rfl m2) jv_ci (by first | omega | (unfold ja_r; omega) | (unfold ja_rl; omega) | assumption) (by first | omega | (unfold ja_r; omega) | (unfold ja_rl; omega) | assumption) (by first | omega | (unfold ja_r; omega) | (unfold ja_rl; omega) | assumption)
  exact jt_rI (jv_m5 (jr_lr rfl) rfl (jv_li rfl) (jv_w (jv_mul jv_ci (jv_remP (jv_li rfl) (dv _) (by first | omega | (unfold ja_r; omega) | (unfold ja_rl; omega) | assumption) (by first | omega | (unfold ja_r; omega) | (unfold ja_rl; omega) | assumption))) (by first | omega | (unfold ja_r; omega) | (unfold ja_rl; omega) | assumption)) (jv_w (jv_mul jv_ci (jv_divP (jv_li rfl) (dv _) (by first | omega | (unfold ja_r; omega) | (unfold ja_rl; omega) | assumption) (by first | omega | (unfold ja_r; omega) | (unfold ja_rl; omega) | assumption) (by first | omega | (unfold ja_r; omega) | (unfold ja_rl; omega) | assumption))) (by first | omega | (unfold ja_r; omega) | (unfold ja_rl; omega) | assumption)) jv_ci jv_ci fun _ => kX12_roughOf hm hp ho (by first | omega | (unfold ja_r; omega) | (unfold ja_rl; omega) | assumption) (by first | omega | (unfold ja_r; omega) | (unfold ja_rl; omega) | assumption) (by first | omega | (unfold ja_r; omega) | (unfold ja_rl; omega) | assumption) (by first | omega | (unfold ja_r; omega) | (unfold ja_rl; omega) | assumption)) q
