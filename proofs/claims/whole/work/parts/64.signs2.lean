/-! arguments, calls of any shape -/
def jA (A : ja_EA) (L : ja_L) (h : ja_H) (vs : List ja_W) : Prop := ∀ K : List ja_W → ja_P, K vs L h → A K L h
section JA
variable {L : ja_L} {h : ja_H} {A : ja_EA} {vs : List ja_W} {e : ja_EI} {r : ja_ER} {x : Int} {z : Option Nat} {l : Launch} {d ci k : Nat} {sh : ja_S} {M : ja_M} {N B C : ja_P} {R : ja_Q}
theorem jA_0 : jA jb_a0 L h [] := fun _ q => q
theorem jA_i (a : jA A L h vs) (p : jv e L h x) : jA (jb_ai A e) L h (vs ++ [.inl x]) := fun _ q => a _ (p _ q)
theorem jA_l (a : jA A L h vs) (p : jv e L h x) : jA (jb_al A e) L h (vs ++ [.inr (.inl x)]) := fun _ q => a _ (p _ q)
theorem jA_r (a : jA A L h vs) (p : jr r L h z) : jA (jb_ar A r) L h (vs ++ [.inr (.inr z)]) := fun _ q => a _ (p _ q)
theorem jy_sI {v : Int} (a : jA A L h vs) (c : ∀ Q : ja_Q, Q (some (.inl v)) h → ja_C l d M sh vs h Q) : jv (jb_xI (jb_ca l d sh M A)) L h v := fun _ w => a _ (c _ ⟨v, rfl, fun _ => w⟩)
theorem jy_sL {v : Int} (a : jA A L h vs) (c : ∀ Q : ja_Q, Q (some (.inr (.inl v))) h → ja_C l d M sh vs h Q) : jv (jb_xL (jb_ca l d sh M A)) L h v := fun _ w => a _ (c _ ⟨v, rfl, fun _ => w⟩)
theorem jy_mI {v : Int} (o : jr r L h (some k)) (hk : sh[k]? = some (0, ci)) (a : jA A L h vs) (c : ∀ Q : ja_Q, Q (some (.inl v)) h → ja_C l d M sh (.inr (.inr (some k)) :: vs) h Q) : jv (jb_xI (jb_cm l d sh ci M r A)) L h v := fun _ w => o _ (a _ ⟨k, rfl, hk, c _ ⟨v, rfl, fun _ => w⟩⟩)
theorem jy_mL {v : Int} (o : jr r L h (some k)) (hk : sh[k]? = some (0, ci)) (a : jA A L h vs) (c : ∀ Q : ja_Q, Q (some (.inr (.inl v))) h → ja_C l d M sh (.inr (.inr (some k)) :: vs) h Q) : jv (jb_xL (jb_cm l d sh ci M r A)) L h v := fun _ w => o _ (a _ ⟨k, rfl, hk, c _ ⟨v, rfl, fun _ => w⟩⟩)
theorem jy_mR {v : Option Nat} (o : jr r L h (some k)) (hk : sh[k]? = some (0, ci)) (a : jA A L h vs) (c : ∀ Q : ja_Q, Q (some (.inr (.inr v))) h → ja_C l d M sh (.inr (.inr (some k)) :: vs) h Q) : jr (jb_xR (jb_cm l d sh ci M r A)) L h v := fun _ w => o _ (a _ ⟨k, rfl, hk, c _ ⟨v, rfl, w⟩⟩)
theorem jx_m (o : jr r L h (some k)) (hk : sh[k]? = some (0, ci)) (a : jA A L h vs) (c : ja_C l d M sh (.inr (.inr (some k)) :: vs) h (fun r h' => r = none ∧ N L h')) : jb_ex (jb_cm l d sh ci M r A) N B C R L h := o _ (a _ ⟨k, rfl, hk, c⟩)
theorem jx_s (a : jA A L h vs) (c : ja_C l d M sh vs h (fun r h' => r = none ∧ N L h')) : jb_ex (jb_ca l d sh M A) N B C R L h := a _ c
theorem jx_mP (o : jr r L h (some k)) (hk : sh[k]? = some (0, ci)) (a : jA A L h vs) (c : ja_C l d M sh (.inr (.inr (some k)) :: vs) h (fun r h' => ∃ z, r = some (.inl z) ∧ (ja_r z → N L h'))) : jb_po (jb_xI (jb_cm l d sh ci M r A)) N B C R L h := o _ (a _ ⟨k, rfl, hk, c⟩)
theorem jx_mI {K : Int → ja_P} (o : jr r L h (some k)) (hk : sh[k]? = some (0, ci)) (a : jA A L h vs) (c : ja_C l d M sh (.inr (.inr (some k)) :: vs) h (fun r h' => ∃ z, r = some (.inl z) ∧ (ja_r z → K z L h'))) : jb_xI (jb_cm l d sh ci M r A) K L h := o _ (a _ ⟨k, rfl, hk, c⟩)
end JA
/-! products' bounds; more calls -/
theorem jmb {a b A B : Int} (ha : -A ≤ a ∧ a ≤ A) (hb : -B ≤ b ∧ b ≤ B) : -(A * B) ≤ a * b ∧ a * b ≤ A * B := by
  have h1 : (a * b).natAbs = a.natAbs * b.natAbs := Int.natAbs_mul a b
  have h2 : a.natAbs * b.natAbs ≤ A.toNat * B.toNat := Nat.mul_le_mul (by omega) (by omega)
  have h3 : ((A.toNat * B.toNat : Nat) : Int) = A * B := by
    rw [Int.natCast_mul, Int.toNat_of_nonneg (by omega), Int.toNat_of_nonneg (by omega)]
  omega
/-- a sign's bit set or cleared -/
def jmk (x : Int) (b : Nat) (e : Int) : Int := if e ≠ 0 then ja_lor (ja_land x (ja_lxor (ja_shl 1 (b : Int)) (-1))) (ja_shl 1 (b : Int)) else ja_land x (ja_lxor (ja_shl 1 (b : Int)) (-1))
theorem jmk_b {x e : Int} {b k : Nat} (hb : b < 31) (hk : k < 32) : jbt (jmk x b e) k = if k = b then decide (e ≠ 0) else jbt x k := by
  unfold jmk
  by_cases c : e = 0 <;> by_cases d : k = b <;> simp [c, d, jbt_and, jbt_or, jbt_xor, jbt_shl1 hb, jbt_m1, hk]
  omega
theorem jmk_r (x : Int) (b : Nat) (e : Int) : ja_r (jmk x b e) := by
  unfold jmk; split
  · exact ja_lor_r _ _
  · exact ja_land_r _ _
set_option maxRecDepth 10000 in
theorem kX7_mark {l : Launch} {d : Nat} {h : ja_H} {Q : ja_Q} {n b : Nat} {v e : Int} (hG : jG h.1) (hv : 0 ≤ v ∧ v < 726) (hb : b < 31) (q : Q none (h.1, ja_up h.2.1 30 v.toNat (jmk (h.2.1 30 v.toNat) b e), h.2.2)) : ja_C l (d + 2) mX7_mark (js_sh n) [.inr (.inr (some (29))), .inl (v), .inl ((b : Int)), .inl (e)] h Q := by
  refine eX7_mark _ _ _ _ fun r_lamp r_bit r_lets ho => ?_
  unfold bX7_mark
  unfold ja_r at r_lamp r_bit r_lets
  refine jb_if_d (jd_b (jy_sI (jA_i (jA_i (jA_i jA_0 (jv_li rfl)) jv_ci) jv_ci) fun _ => kX11_within)) (fun c1 => ?_) (fun c1 => ?_)
  · refine jt_sI (jv_and (jv_aI (jr_g (jr_lr rfl) (by first | rfl | assumption) (by first | rfl | assumption | exact jG_at hG rfl)) (jv_li rfl) (by first | rfl | assumption) (by first | (unfold ja_r; omega) | (unfold ja_rl; omega) | omega | assumption) (by first | (unfold ja_r; omega) | (unfold ja_rl; omega) | omega | assumption)) (jv_xor (jv_shl jv_ci (jv_li rfl)) jv_ci)) ?_
    refine jt_wI (jr_g (jr_lr rfl) (by first | rfl | assumption) (by first | rfl | assumption | exact jG_at hG rfl)) (by first | rfl | assumption) (jv_li rfl) (jv_is (x' := jmk (h.2.1 30 v.toNat) b e) (jv_cv (jd_bt (jv_li rfl)) (fun _ => (jv_or (jv_li rfl) (jv_shl jv_ci (jv_li rfl)))) (fun _ => (jv_li rfl))) (by unfold jmk; rfl)) (by first | (unfold ja_r; omega) | (unfold ja_rl; omega) | omega | assumption) (by first | (unfold ja_r; omega) | (unfold ja_rl; omega) | omega | assumption) ?_
    exact q
  · exact absurd (by omega) c1
def azi (dx dy : Int) : Int := if (dx.natAbs : Int) = 0 ∧ (dy.natAbs : Int) = 0 then -1 else if 2 * (dy.natAbs : Int) < dx.natAbs then (if 0 < dx then 0 else 4) else if 2 * (dx.natAbs : Int) < dy.natAbs then (if dy < 0 then 2 else 6) else if dy < 0 then (if 0 < dx then 1 else 3) else (if dx < 0 then 5 else 7)
theorem azi_b (dx dy : Int) : -1 ≤ azi dx dy ∧ azi dx dy ≤ 7 := by unfold azi; repeat' split <;> omega
set_option maxRecDepth 10000 in
theorem kX7_azimuthOf {l : Launch} {d : Nat} {h : ja_H} {Q : ja_Q} {sh : ja_S} {x y : Int} (hx : -5 ≤ x ∧ x ≤ 5) (hy : -5 ≤ y ∧ y ≤ 5) (q : Q (some (.inl (azi x y))) h) : ja_C l (d + 2) mX7_azimuthOf sh [.inl (x), .inl (y)] h Q := by
  obtain ⟨a, ha⟩ : ∃ a : Int, (x.natAbs : Int) = a := ⟨_, rfl⟩
  obtain ⟨b, hb⟩ : ∃ b : Int, (y.natAbs : Int) = b := ⟨_, rfl⟩
  unfold azi at q
  rw [ha, hb] at q
  have hab : 0 ≤ a ∧ a ≤ 5 ∧ 0 ≤ b ∧ b ≤ 5 := by omega
  refine eX7_azimuthOf _ _ fun r_dx r_dy ho => ?_
  unfold bX7_azimuthOf
  unfold ja_r at r_dx r_dy
  refine jt_sI (x := a) (jv_is (jy_sI (jA_i jA_0 (jv_li rfl)) fun _ => kJ9_abs (by first | (unfold ja_r; omega) | (unfold ja_rl; omega) | omega | assumption)) (by exact ha)) ?_
  refine jt_sI (x := b) (jv_is (jy_sI (jA_i jA_0 (jv_li rfl)) fun _ => kJ9_abs (by first | (unfold ja_r; omega) | (unfold ja_rl; omega) | omega | assumption)) (by exact hb)) ?_
  refine jb_if_d (jd_and (jd_eqI (jv_li rfl) jv_ci) (fun _ => (jd_eqI (jv_li rfl) jv_ci))) (fun c1 => ?_) (fun c1 => ?_)
  · rw [if_pos c1] at q
    refine jt_rI jv_ci ?_
    exact q
  · rw [if_neg c1] at q
    refine jb_if_d (jd_lt (jv_w (jv_mul jv_ci (jv_li rfl)) (by first | (unfold ja_r; omega) | (unfold ja_rl; omega) | omega | assumption)) (jv_li rfl)) (fun c2 => ?_) (fun c2 => ?_)
    · rw [if_pos c2] at q
      refine jt_rI (jv_cv (jd_gt (jv_li rfl) jv_ci) (fun _ => jv_ci) (fun _ => jv_ci)) ?_
      exact q
    · rw [if_neg c2] at q
      refine jb_if_d (jd_lt (jv_w (jv_mul jv_ci (jv_li rfl)) (by first | (unfold ja_r; omega) | (unfold ja_rl; omega) | omega | assumption)) (jv_li rfl)) (fun c3 => ?_) (fun c3 => ?_)
      · rw [if_pos c3] at q
        refine jt_rI (jv_cv (jd_lt (jv_li rfl) jv_ci) (fun _ => jv_ci) (fun _ => jv_ci)) ?_
        exact q
      · rw [if_neg c3] at q
        refine jb_if_d (jd_lt (jv_li rfl) jv_ci) (fun c4 => ?_) (fun c4 => ?_)
        · rw [if_pos c4] at q
          refine jt_rI (jv_cv (jd_gt (jv_li rfl) jv_ci) (fun _ => jv_ci) (fun _ => jv_ci)) ?_
          exact q
        · rw [if_neg c4] at q
          refine jt_rI (jv_cv (jd_lt (jv_li rfl) jv_ci) (fun _ => jv_ci) (fun _ => jv_ci)) ?_
          exact q
def shE (hgh ex ey low most side q : Int) : Int := if max (nL (100 * lh q * ex) (lx q * hgh) (100 * lh q * side) low) (nL (100 * lh q * ey) (ly q * hgh) (100 * lh q * side) low) ≤ min (nG (100 * lh q * ex) (lx q * hgh) (100 * lh q * side) most) (nG (100 * lh q * ey) (ly q * hgh) (100 * lh q * side) most) then 1 else 0
def snE (pt q : Int) : Int := if (azi (lx q) (ly q) = -1 ∨ (azi (lx q) (ly q) - pt) % 8 ≤ 1) ∨ (azi (lx q) (ly q) - pt) % 8 = 7 then 1 else 0
set_option maxRecDepth 10000 in
theorem kX7_addShadow {l : Launch} {d : Nat} {h : ja_H} {Q : ja_Q} {n b : Nat} {hgh ex ey low most side : Int} (hG : jG h.1) (hb : b < 31) (a1 : 1 ≤ hgh ∧ hgh ≤ 99) (a2 : -99 ≤ ex ∧ ex ≤ 99) (a3 : -99 ≤ ey ∧ ey ≤ 99) (a4 : 1 ≤ low ∧ low ≤ 300) (a5 : low ≤ most ∧ most ≤ 300) (a6 : 0 ≤ side ∧ side ≤ 20) (q : ∀ f, jfr [30] h.2.1 f → (∀ q : Nat, q < 726 → f 30 q = jmk (h.2.1 30 q) b (shE hgh ex ey low most side (q : Int))) → Q none (h.1, f, h.2.2)) : ja_C l (d + 3) mX7_addShadow (js_sh n) [.inr (.inr (some (29))), .inl ((b : Int)), .inl (hgh), .inl (ex), .inl (ey), .inl (low), .inl (most), .inl (side)] h Q := by
  refine eX7_addShadow _ _ _ _ _ _ _ _ fun r_bit r_high r_ex r_ey r_low r_most r_side ho => ?_
  unfold bX7_addShadow
  unfold ja_r at r_bit r_high r_ex r_ey r_low r_most r_side
  refine jt_sI jv_ci ?_
  refine jb_forc (726) (fun (i : Nat) L' h' => ∃ (v_lamp : Int) (o2_9 : Option ja_W) (o2_10 : Option ja_W) (o2_11 : Option ja_W) (o2_12 : Option ja_W) (o2_13 : Option ja_W) (o2_14 : Option ja_W) (f : Nat → Nat → Int), L' = [some (.inr (.inr (some (29)))), some (.inl ((b : Int))), some (.inl (hgh)), some (.inl (ex)), some (.inl (ey)), some (.inl (low)), some (.inl (most)), some (.inl (side)), some (.inl (v_lamp)), o2_9, o2_10, o2_11, o2_12, o2_13, o2_14] ∧ v_lamp = (i : Int) ∧ (h.1, f, h.2.2) = h' ∧ (jfr [30] h.2.1 f) ∧ (∀ q : Nat, q < i → f 30 q = jmk (h.2.1 30 q) b (shE hgh ex ey low most side (q : Int))) ∧ (∀ q : Nat, i ≤ q → f 30 q = h.2.1 30 q)) ⟨_, _, _, _, _, _, _, _, rfl, (by first | rfl | omega | (simp; done) | (simp; omega)), rfl, (by exact jfr_rf _ _), (by intro q hq; omega), (by intro q hq; rfl)⟩ ?_ ?_ ?_
  · rintro i h_i _ _ ⟨v_lamp0, o2_9, o2_10, o2_11, o2_12, o2_13, o2_14, f, rfl, rfl, rfl, fr, f1, f2⟩
    exact jd_eq (jd_lt (jv_li rfl) jv_ci) (by omega)
  · rintro i h_i _ _ ⟨v_lamp0, o2_9, o2_10, o2_11, o2_12, o2_13, o2_14, f, rfl, rfl, rfl, fr, f1, f2⟩
    have lb := l_b (q := (i : Int)) (by omega)
    have m1 := jmb (a := 100 * lh i) (b := ex) (A := 600) (B := 99) (by omega) (by omega)
    have m2 := jmb (a := 100 * lh i) (b := ey) (A := 600) (B := 99) (by omega) (by omega)
    have m3 := jmb (a := 100 * lh i) (b := side) (A := 600) (B := 20) (by omega) (by omega)
    have m4 := jmb (a := lx i) (b := hgh) (A := 5) (B := 99) (by omega) (by omega)
    have m5 := jmb (a := ly i) (b := hgh) (A := 5) (B := 99) (by omega) (by omega)
    refine jt_sI (jv_w (jv_mul jv_ci (jy_sI (jA_i jA_0 (jv_li rfl)) fun _ => kX7_heightOf (by first | (unfold ja_r; omega) | (unfold ja_rl; omega) | omega | assumption))) (by first | (unfold ja_r; omega) | (unfold ja_rl; omega) | omega | assumption)) ?_
    refine jt_sI (jv_w (jv_mul (jv_li rfl) (jv_li rfl)) (by first | (unfold ja_r; omega) | (unfold ja_rl; omega) | omega | assumption)) ?_
    refine jt_sI (jv_w (jv_mul (jy_sI (jA_i jA_0 (jv_li rfl)) fun _ => kX7_dxOf (by first | (unfold ja_r; omega) | (unfold ja_rl; omega) | omega | assumption)) (jv_li rfl)) (by first | (unfold ja_r; omega) | (unfold ja_rl; omega) | omega | assumption)) ?_
    refine jt_sI (jv_w (jv_mul (jy_sI (jA_i jA_0 (jv_li rfl)) fun _ => kX7_dyOf (by first | (unfold ja_r; omega) | (unfold ja_rl; omega) | omega | assumption)) (jv_li rfl)) (by first | (unfold ja_r; omega) | (unfold ja_rl; omega) | omega | assumption)) ?_
    refine jt_sI (jy_sI (jA_i (jA_i (jA_i (jA_i jA_0 (jv_w (jv_mul (jv_li rfl) (jv_li rfl)) (by first | (unfold ja_r; omega) | (unfold ja_rl; omega) | omega | assumption))) (jv_li rfl)) (jv_li rfl)) (jv_li rfl)) fun _ => kX11_leastNear (by first | (unfold ja_r; omega) | (unfold ja_rl; omega) | omega | assumption) (by first | (unfold ja_r; omega) | (unfold ja_rl; omega) | omega | assumption) (by first | (unfold ja_r; omega) | (unfold ja_rl; omega) | omega | assumption) (by first | (unfold ja_r; omega) | (unfold ja_rl; omega) | omega | assumption)) ?_
    refine jt_sI (jy_sI (jA_i (jA_i (jA_i (jA_i jA_0 (jv_w (jv_mul (jv_li rfl) (jv_li rfl)) (by first | (unfold ja_r; omega) | (unfold ja_rl; omega) | omega | assumption))) (jv_li rfl)) (jv_li rfl)) (jv_li rfl)) fun _ => kX11_greatestNear (by first | (unfold ja_r; omega) | (unfold ja_rl; omega) | omega | assumption) (by first | (unfold ja_r; omega) | (unfold ja_rl; omega) | omega | assumption) (by first | (unfold ja_r; omega) | (unfold ja_rl; omega) | omega | assumption)) ?_
    refine jt_sI (jy_sI (jA_i (jA_i jA_0 (jv_li rfl)) (jy_sI (jA_i (jA_i (jA_i (jA_i jA_0 (jv_w (jv_mul (jv_li rfl) (jv_li rfl)) (by first | (unfold ja_r; omega) | (unfold ja_rl; omega) | omega | assumption))) (jv_li rfl)) (jv_li rfl)) (jv_li rfl)) fun _ => kX11_leastNear (by first | (unfold ja_r; omega) | (unfold ja_rl; omega) | omega | assumption) (by first | (unfold ja_r; omega) | (unfold ja_rl; omega) | omega | assumption) (by first | (unfold ja_r; omega) | (unfold ja_rl; omega) | omega | assumption) (by first | (unfold ja_r; omega) | (unfold ja_rl; omega) | omega | assumption))) fun _ => kJ9_max) ?_
    refine jt_sI (jy_sI (jA_i (jA_i jA_0 (jv_li rfl)) (jy_sI (jA_i (jA_i (jA_i (jA_i jA_0 (jv_w (jv_mul (jv_li rfl) (jv_li rfl)) (by first | (unfold ja_r; omega) | (unfold ja_rl; omega) | omega | assumption))) (jv_li rfl)) (jv_li rfl)) (jv_li rfl)) fun _ => kX11_greatestNear (by first | (unfold ja_r; omega) | (unfold ja_rl; omega) | omega | assumption) (by first | (unfold ja_r; omega) | (unfold ja_rl; omega) | omega | assumption) (by first | (unfold ja_r; omega) | (unfold ja_rl; omega) | omega | assumption))) fun _ => kJ9_min) ?_
    refine jx_m (jr_lr rfl) (by first | rfl | assumption) (jA_i (jA_i (jA_i jA_0 (jv_li rfl)) (jv_li rfl)) (jv_cb (jd_le (jv_li rfl) (jv_li rfl)))) (kX7_mark (h := (h.1, f, h.2.2)) hG (by first | (unfold ja_r; omega) | (unfold ja_rl; omega) | omega | assumption) hb ⟨rfl, ?_⟩)
    skip
    exact jt_inc rfl (by first | (unfold ja_r; omega) | (unfold ja_rl; omega) | omega | assumption) ⟨_, _, _, _, _, _, _, _, rfl, (by first | rfl | omega | (simp; done) | (simp; omega)), rfl, (by exact jfr_up fr (by decide)), (by intro q hq; by_cases z : q = i; subst z; rw [ja_upE rfl (by omega), show ((q : Nat) : Int).toNat = q by omega]; show jmk (f 30 q) b _ = _; rw [f2 q (Nat.le_refl q)]; rfl; rw [ja_upO (by omega)]; exact f1 q (by omega)), (by intro q hq; rw [ja_upO (by omega)]; exact f2 q (by omega))⟩
  · rintro _ _ ⟨v_lamp0, o2_9, o2_10, o2_11, o2_12, o2_13, o2_14, f, rfl, rfl, rfl, fr, f1, f2⟩
    exact q f fr f1
set_option maxRecDepth 10000 in
theorem kX7_addShine {l : Launch} {d : Nat} {h : ja_H} {Q : ja_Q} {n b : Nat} {pt : Int} (hG : jG h.1) (hb : b < 31) (a1 : 0 ≤ pt ∧ pt ≤ 7) (q : ∀ f, jfr [30] h.2.1 f → (∀ q : Nat, q < 726 → f 30 q = jmk (h.2.1 30 q) b (snE pt (q : Int))) → Q none (h.1, f, h.2.2)) : ja_C l (d + 3) mX7_addShine (js_sh n) [.inr (.inr (some (29))), .inl ((b : Int)), .inl (pt)] h Q := by
  refine eX7_addShine _ _ _ fun r_bit r_point ho => ?_
  unfold bX7_addShine
  unfold ja_r at r_bit r_point
  refine jt_sI jv_ci ?_
  refine jb_forc (726) (fun (i : Nat) L' h' => ∃ (v_lamp : Int) (o2_4 : Option ja_W) (o2_5 : Option ja_W) (f : Nat → Nat → Int), L' = [some (.inr (.inr (some (29)))), some (.inl ((b : Int))), some (.inl (pt)), some (.inl (v_lamp)), o2_4, o2_5] ∧ v_lamp = (i : Int) ∧ (h.1, f, h.2.2) = h' ∧ (jfr [30] h.2.1 f) ∧ (∀ q : Nat, q < i → f 30 q = jmk (h.2.1 30 q) b (snE pt (q : Int))) ∧ (∀ q : Nat, i ≤ q → f 30 q = h.2.1 30 q)) ⟨_, _, _, _, rfl, (by first | rfl | omega | (simp; done) | (simp; omega)), rfl, (by exact jfr_rf _ _), (by intro q hq; omega), (by intro q hq; rfl)⟩ ?_ ?_ ?_
  · rintro i h_i _ _ ⟨v_lamp0, o2_4, o2_5, f, rfl, rfl, rfl, fr, f1, f2⟩
    exact jd_eq (jd_lt (jv_li rfl) jv_ci) (by omega)
  · rintro i h_i _ _ ⟨v_lamp0, o2_4, o2_5, f, rfl, rfl, rfl, fr, f1, f2⟩
    have lb := l_b (q := (i : Int)) (by omega)
    have ab := azi_b (lx i) (ly i)
    refine jt_sI (jy_sI (jA_i (jA_i jA_0 (jy_sI (jA_i jA_0 (jv_li rfl)) fun _ => kX7_dxOf (by first | (unfold ja_r; omega) | (unfold ja_rl; omega) | omega | assumption))) (jy_sI (jA_i jA_0 (jv_li rfl)) fun _ => kX7_dyOf (by first | (unfold ja_r; omega) | (unfold ja_rl; omega) | omega | assumption))) fun _ => kX7_azimuthOf (by first | (unfold ja_r; omega) | (unfold ja_rl; omega) | omega | assumption) (by first | (unfold ja_r; omega) | (unfold ja_rl; omega) | omega | assumption)) ?_
    refine jt_sI (jy_sI (jA_i (jA_i jA_0 (jv_w (jv_sub (jv_li rfl) (jv_li rfl)) (by first | (unfold ja_r; omega) | (unfold ja_rl; omega) | omega | assumption))) jv_ci) fun _ => kJ9_floorMod (by first | (unfold ja_r; omega) | (unfold ja_rl; omega) | omega | assumption)) ?_
    refine jx_m (jr_lr rfl) (by first | rfl | assumption) (jA_i (jA_i (jA_i jA_0 (jv_li rfl)) (jv_li rfl)) (jv_cb (jd_or (jd_or (jd_eqI (jv_li rfl) jv_ci) (fun _ => (jd_le (jv_li rfl) jv_ci))) (fun _ => (jd_eqI (jv_li rfl) jv_ci))))) (kX7_mark (h := (h.1, f, h.2.2)) hG (by first | (unfold ja_r; omega) | (unfold ja_rl; omega) | omega | assumption) hb ⟨rfl, ?_⟩)
    skip
    exact jt_inc rfl (by first | (unfold ja_r; omega) | (unfold ja_rl; omega) | omega | assumption) ⟨_, _, _, _, rfl, (by first | rfl | omega | (simp; done) | (simp; omega)), rfl, (by exact jfr_up fr (by decide)), (by intro q hq; by_cases z : q = i; subst z; rw [ja_upE rfl (by omega), show ((q : Nat) : Int).toNat = q by omega]; show jmk (f 30 q) b _ = _; rw [f2 q (Nat.le_refl q)]; rfl; rw [ja_upO (by omega)]; exact f1 q (by omega)), (by intro q hq; rw [ja_upO (by omega)]; exact f2 q (by omega))⟩
  · rintro _ _ ⟨v_lamp0, o2_4, o2_5, f, rfl, rfl, rfl, fr, f1, f2⟩
    exact q f fr f1
/-- how many of the first masks are v; the first place; the best -/
def nlt (M : Nat → Int) (v : Int) : Nat → Nat
  | 0 => 0
  | i + 1 => nlt M v i + (if M i = v then 1 else 0)
theorem nlt_le (M : Nat → Int) (v : Int) : ∀ i, nlt M v i ≤ i
  | 0 => Nat.le_refl 0
  | i + 1 => by have := nlt_le M v i; simp only [nlt]; split <;> omega
def fst (P : Nat → Bool) : Nat → Nat
  | 0 => 0
  | n + 1 => if fst P n < n then fst P n else if P n then n else n + 1
theorem fst_none {P : Nat → Bool} : ∀ n, (∀ r, r < n → P r = false) → fst P n = n
  | 0, _ => rfl
  | n + 1, h => by simp [fst, fst_none n (fun r hr => h r (by omega)), h n (by omega)]
theorem fst_eq {P : Nat → Bool} {q : Nat} (hP : P q = true) (hl : ∀ r, r < q → P r = false) : ∀ n, q < n → fst P n = q
  | 0, h => by omega
  | n + 1, h => by
    rcases Nat.lt_or_ge q n with z | z
    · have := fst_eq hP hl n z
      simp [fst, this, z]
    · have e : n = q := by omega
      subst e
      simp [fst, fst_none n hl, hP]
def ntl (M : Nat → Int) (v i : Int) : Int := if fst (fun q => decide (M q = v ∧ (nlt M v q : Int) = i)) 726 < 726 then fst (fun q => decide (M q = v ∧ (nlt M v q : Int) = i)) 726 else -1
theorem ntl_at {M : Nat → Int} {v i : Int} {q : Nat} (hq : q < 726) (h1 : M q = v) (h2 : (nlt M v q : Int) = i) (hl : ∀ r, r < q → ¬ (M r = v ∧ (nlt M v r : Int) = i)) : ntl M v i = (q : Int) := by
  unfold ntl
  rw [fst_eq (q := q) (by simp [h1, h2]) (fun r hr => by simpa using hl r hr) 726 hq, if_pos hq]
theorem ntl_no {M : Nat → Int} {v i : Int} (hl : ∀ r, r < 726 → ¬ (M r = v ∧ (nlt M v r : Int) = i)) : ntl M v i = -1 := by
  unfold ntl
  rw [fst_none 726 (fun r hr => by simpa using hl r hr), if_neg (by omega)]
def bs (c : Nat → Nat) : Nat → Nat
  | 0 => 0
  | n + 1 => if c (bs c n) < c n then n else bs c n
theorem bs_lt (c : Nat → Nat) : ∀ n, 0 < n → bs c n < n
  | 0, h => by omega
  | n + 1, _ => by
    simp only [bs]
    split
    · omega
    · rcases Nat.eq_zero_or_pos n with z | z
      · subst z; simp [bs]
      · have := bs_lt c n z; omega
set_option maxRecDepth 10000 in
theorem kX7_countLet {l : Launch} {d : Nat} {h : ja_H} {Q : ja_Q} {n : Nat} {v : Int} (hG : jG h.1) (q : Q (some (.inl (nlt (fun q => ja_land (h.2.1 30 q) v) v 726))) h) : ja_C l (d + 1) mX7_countLet (js_sh n) [.inr (.inr (some (29))), .inl (v)] h Q := by
  refine eX7_countLet _ _ fun r_set ho => ?_
  unfold bX7_countLet
  unfold ja_r at r_set
  refine jt_sI jv_ci ?_
  refine jt_sI jv_ci ?_
  refine jb_forc (726) (fun (i : Nat) L' h' => ∃ (v_count : Int) (v_lamp : Int), L' = [some (.inr (.inr (some (29)))), some (.inl (v)), some (.inl (v_count)), some (.inl (v_lamp))] ∧ v_count = ((nlt (fun q => ja_land (h.2.1 30 q) v) v i : Nat) : Int) ∧ v_lamp = (i : Int) ∧ h = h') ⟨_, _, rfl, (by first | rfl | omega | (simp; done) | (simp; omega)), (by first | rfl | omega | (simp; done) | (simp; omega)), rfl⟩ ?_ ?_ ?_
  · rintro i h_i _ _ ⟨v_count0, v_lamp0, rfl, rfl, rfl, rfl⟩
    exact jd_eq (jd_lt (jv_li rfl) jv_ci) (by omega)
  · rintro i h_i _ _ ⟨v_count0, v_lamp0, rfl, rfl, rfl, rfl⟩
    have nb := nlt_le (fun q => ja_land (h.2.1 30 q) v) v i
    refine jb_if_d (jd_eqI (jv_and (jv_aI (jr_g (jr_lr rfl) (by first | rfl | assumption) (by first | rfl | assumption | exact jG_at hG rfl)) (jv_li rfl) (by first | rfl | assumption) (by first | (unfold ja_r; omega) | (unfold ja_rl; omega) | omega | assumption) (by first | (unfold ja_r; omega) | (unfold ja_rl; omega) | omega | assumption)) (jv_li rfl)) (jv_li rfl)) (fun c1 => ?_) (fun c1 => ?_)
    · refine jt_inc rfl (by first | (unfold ja_r; omega) | (unfold ja_rl; omega) | omega | assumption) ?_
      exact jt_inc rfl (by first | (unfold ja_r; omega) | (unfold ja_rl; omega) | omega | assumption) ⟨_, _, rfl, (by simp only [nlt]; simp only [Int.toNat_natCast] at c1; simp [c1]), (by first | rfl | omega | (simp; done) | (simp; omega)), rfl⟩
    · exact jt_inc rfl (by first | (unfold ja_r; omega) | (unfold ja_rl; omega) | omega | assumption) ⟨_, _, rfl, (by simp only [nlt]; simp only [Int.toNat_natCast] at c1; simp [c1]), (by first | rfl | omega | (simp; done) | (simp; omega)), rfl⟩
  · rintro _ _ ⟨v_count0, v_lamp0, rfl, rfl, rfl, rfl⟩
    refine jt_rI (jv_li rfl) ?_
    exact q
set_option maxRecDepth 10000 in
theorem kX7_nthLet {l : Launch} {d : Nat} {h : ja_H} {Q : ja_Q} {n : Nat} {v i0 : Int} (hG : jG h.1) (hi : 0 ≤ i0) (q : Q (some (.inl (ntl (fun q => ja_land (h.2.1 30 q) v) v i0))) h) : ja_C l (d + 1) mX7_nthLet (js_sh n) [.inr (.inr (some (29))), .inl (v), .inl (i0)] h Q := by
  refine eX7_nthLet _ _ _ fun r_set r_n ho => ?_
  unfold bX7_nthLet
  unfold ja_r at r_set r_n
  refine jt_sI (jv_li rfl) ?_
  refine jt_sI jv_ci ?_
  refine jb_forc (726) (fun (i : Nat) L' h' => ∃ (v_left : Int) (v_lamp : Int), L' = [some (.inr (.inr (some (29)))), some (.inl (v)), some (.inl (i0)), some (.inl (v_left)), some (.inl (v_lamp))] ∧ v_left = i0 - ((nlt (fun q => ja_land (h.2.1 30 q) v) v i : Nat) : Int) ∧ v_lamp = (i : Int) ∧ h = h' ∧ (∀ r, r < i → ¬ (ja_land (h.2.1 30 r) v = v ∧ ((nlt (fun q => ja_land (h.2.1 30 q) v) v r : Nat) : Int) = i0))) ⟨_, _, rfl, (by simp [nlt]), (by first | rfl | omega | (simp; done) | (simp; omega)), rfl, (by intro r hr; omega)⟩ ?_ ?_ ?_
  · rintro i h_i _ _ ⟨v_left0, v_lamp0, rfl, rfl, rfl, rfl, no⟩
    exact jd_eq (jd_lt (jv_li rfl) jv_ci) (by omega)
  · rintro i h_i _ _ ⟨v_left0, v_lamp0, rfl, rfl, rfl, rfl, no⟩
    have nb := nlt_le (fun q => ja_land (h.2.1 30 q) v) v i
    refine jb_if_d (jd_eqI (jv_and (jv_aI (jr_g (jr_lr rfl) (by first | rfl | assumption) (by first | rfl | assumption | exact jG_at hG rfl)) (jv_li rfl) (by first | rfl | assumption) (by first | (unfold ja_r; omega) | (unfold ja_rl; omega) | omega | assumption) (by first | (unfold ja_r; omega) | (unfold ja_rl; omega) | omega | assumption)) (jv_li rfl)) (jv_li rfl)) (fun c1 => ?_) (fun c1 => ?_)
    · refine jb_if_d (jd_eqI (jv_li rfl) jv_ci) (fun c2 => ?_) (fun c2 => ?_)
      · refine jt_rI (jv_li rfl) ?_
        simp only [Int.toNat_natCast] at c1
        rw [ntl_at h_i c1 (by omega) no] at q
        exact q
      · refine jt_inc rfl (by first | (unfold ja_r; omega) | (unfold ja_rl; omega) | omega | assumption) ?_
        exact jt_inc rfl (by first | (unfold ja_r; omega) | (unfold ja_rl; omega) | omega | assumption) ⟨_, _, rfl, (by simp only [nlt]; simp only [Int.toNat_natCast] at c1; simp [c1]; try omega), (by first | rfl | omega | (simp; done) | (simp; omega)), rfl, (by intro r hr; by_cases z : r = i; subst z; simp only [Int.toNat_natCast] at c1; (first | (intro w; exact c1 w.1) | (intro w; omega)); exact no r (by omega))⟩
    · exact jt_inc rfl (by first | (unfold ja_r; omega) | (unfold ja_rl; omega) | omega | assumption) ⟨_, _, rfl, (by simp only [nlt]; simp only [Int.toNat_natCast] at c1; simp [c1]; try omega), (by first | rfl | omega | (simp; done) | (simp; omega)), rfl, (by intro r hr; by_cases z : r = i; subst z; simp only [Int.toNat_natCast] at c1; (first | (intro w; exact c1 w.1) | (intro w; omega)); exact no r (by omega))⟩
  · rintro _ _ ⟨v_left0, v_lamp0, rfl, rfl, rfl, rfl, no⟩
    refine jt_rI jv_ci ?_
    rw [ntl_no no] at q
    exact q
theorem bs_T {c : Nat → Nat} {i : Nat} (h : (if i = 0 then -1 else ((c (bs c i) : Nat) : Int)) < (c i : Int)) : bs c (i + 1) = i := by
  simp only [bs]
  by_cases z : i = 0
  · subst z; simp [bs]
  · rw [if_neg z] at h; rw [if_pos (by omega)]
theorem bs_F {c : Nat → Nat} {i : Nat} (h : ¬ (if i = 0 then -1 else ((c (bs c i) : Nat) : Int)) < (c i : Int)) : bs c (i + 1) = bs c i ∧ i ≠ 0 := by
  by_cases z : i = 0
  · rw [if_pos z] at h; omega
  · rw [if_neg z] at h
    simp only [bs]
    exact ⟨if_neg (by omega), z⟩
set_option maxRecDepth 10000 in
theorem kX7_mostLet {l : Launch} {d : Nat} {h : ja_H} {Q : ja_Q} {n : Nat} {v : Int} (hG : jG h.1) (hv : ∀ k, 20 ≤ k → k < 32 → jbt v k = false) (q : Q (some (.inl (bs (fun q => pcn (ja_land (h.2.1 30 q) v) 20) 726))) h) : ja_C l (d + 2) mX7_mostLet (js_sh n) [.inr (.inr (some (29))), .inl (v)] h Q := by
  have hM : ∀ q : Nat, 0 ≤ ja_land (h.2.1 30 q) v ∧ ja_land (h.2.1 30 q) v < 1048576 := fun q => jbt_lt20 (ja_land_r _ _) fun k h1 h2 => by rw [jbt_and, hv k h1 h2, Bool.and_false]
  generalize hc : (fun q => pcn (ja_land (h.2.1 30 q) v) 20) = c at q
  have hcq : ∀ q, pcn (ja_land (h.2.1 30 q) v) 20 = c q := fun q => congrFun hc q
  refine eX7_mostLet _ _ fun r_set ho => ?_
  unfold bX7_mostLet
  unfold ja_r at r_set
  refine jt_sI jv_ci ?_
  refine jt_sI jv_ci ?_
  refine jt_sI jv_ci ?_
  refine jb_forc (726) (fun (i : Nat) L' h' => ∃ (v_best : Int) (v_most : Int) (v_lamp : Int) (o4_5 : Option ja_W), L' = [some (.inr (.inr (some (29)))), some (.inl (v)), some (.inl (v_best)), some (.inl (v_most)), some (.inl (v_lamp)), o4_5] ∧ v_best = ((bs c i : Nat) : Int) ∧ v_most = (if i = 0 then -1 else ((c (bs c i) : Nat) : Int)) ∧ v_lamp = (i : Int) ∧ h = h') ⟨_, _, _, _, rfl, (by rfl), (by rfl), (by first | rfl | omega | (simp; done) | (simp; omega)), rfl⟩ ?_ ?_ ?_
  · rintro i h_i _ _ ⟨v_best0, v_most0, v_lamp0, o4_5, rfl, rfl, rfl, rfl, rfl⟩
    exact jd_eq (jd_lt (jv_li rfl) jv_ci) (by omega)
  · rintro i h_i _ _ ⟨v_best0, v_most0, v_lamp0, o4_5, rfl, rfl, rfl, rfl, rfl⟩
    have mb := hM ((i : Nat) : Int).toNat
    refine jt_sI (x := ((c i : Nat) : Int)) (jv_is (jy_sI (jA_i jA_0 (jv_and (jv_aI (jr_g (jr_lr rfl) (by first | rfl | assumption) (by first | rfl | assumption | exact jG_at hG rfl)) (jv_li rfl) (by first | rfl | assumption) (by first | (unfold ja_r; omega) | (unfold ja_rl; omega) | omega | assumption) (by first | (unfold ja_r; omega) | (unfold ja_rl; omega) | omega | assumption)) (jv_li rfl))) fun _ => kJ6_bitCount (by first | (unfold ja_r; omega) | (unfold ja_rl; omega) | omega | assumption)) (by rw [Int.toNat_natCast, hcq])) ?_
    refine jb_if_d (jd_gt (jv_li rfl) (jv_li rfl)) (fun c1 => ?_) (fun c1 => ?_)
    · refine jt_sI (jv_li rfl) ?_
      refine jt_sI (jv_li rfl) ?_
      exact jt_inc rfl (by first | (unfold ja_r; omega) | (unfold ja_rl; omega) | omega | assumption) ⟨_, _, _, _, rfl, (by first | rw [bs_T c1] | rw [(bs_F c1).1]), (by first | rw [if_neg (by omega), bs_T c1] | rw [if_neg (bs_F c1).2, if_neg (by omega), (bs_F c1).1]), (by first | rfl | omega | (simp; done) | (simp; omega)), rfl⟩
    · exact jt_inc rfl (by first | (unfold ja_r; omega) | (unfold ja_rl; omega) | omega | assumption) ⟨_, _, _, _, rfl, (by first | rw [bs_T c1] | rw [(bs_F c1).1]), (by first | rw [if_neg (by omega), bs_T c1] | rw [if_neg (bs_F c1).2, if_neg (by omega), (bs_F c1).1]), (by first | rfl | omega | (simp; done) | (simp; omega)), rfl⟩
  · rintro _ _ ⟨v_best0, v_most0, v_lamp0, o4_5, rfl, rfl, rfl, rfl, rfl⟩
    refine jt_rI (jv_li rfl) ?_
    exact q
