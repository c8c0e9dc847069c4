/-! pieces that are there twice -/
def flt (lt : Int → Int → Int) (k : Nat) (x y : Int) : Prop := ∀ j : Nat, j < k → ∀ i : Nat, i < k → lt (x + (i : Nat)) (y + (j : Nat)) = lt x y
def ner (lt : Int → Int → Int) (k : Nat) (t x y u v : Int) : Prop := ∀ j : Nat, j < k → ∀ i : Nat, i < k → ((lt (x + (i : Nat)) (y + (j : Nat)) - lt (u + (i : Nat)) (v + (j : Nat))).natAbs : Int) ≤ t
def twn (lt : Int → Int → Int) (k : Nat) (t x y u v : Int) : Prop := ¬ (((u - x).natAbs : Int) < k ∧ ((v - y).natAbs : Int) < k) ∧ ner lt k t x y u v ∧ ¬ flt lt k x y
def TWq (lt : Int → Int → Int) (k mx : Nat) (t : Int) (q r : Nat) : Prop := twn lt k t ((q % mx : Nat) : Int) ((q / mx : Nat) : Int) ((r % mx : Nat) : Int) ((r / mx : Nat) : Int)
/-- how many, up to a place -/
noncomputable def tcr (T : Nat → Nat → Prop) (q : Nat) : Nat → Nat
  | 0 => 0
  | r + 1 => tcr T q r + @ite _ (q < r ∧ T q r) (Classical.propDecidable _) 1 0
noncomputable def tcq (T : Nat → Nat → Prop) (all : Nat) : Nat → Nat
  | 0 => 0
  | q + 1 => tcq T all q + tcr T q all
def tD (T : Nat → Nat → Prop) (all q r a b : Nat) : Prop := (a < q ∨ (a = q ∧ b < r)) ∧ a < b ∧ b < all ∧ T a b
/-- the first of all -/
def tF (T : Nat → Nat → Prop) (all a b : Nat) : Prop := a < b ∧ b < all ∧ T a b ∧ ∀ c d, c < d → d < all → T c d → a < c ∨ (a = c ∧ b ≤ d)
theorem tF_u {T : Nat → Nat → Prop} {all a b c d : Nat} (h1 : tF T all a b) (h2 : tF T all c d) : a = c ∧ b = d := by
  obtain ⟨a1, a2, a3, a4⟩ := h1
  obtain ⟨b1, b2, b3, b4⟩ := h2
  have e1 := a4 c d b1 b2 b3
  have e2 := b4 a b a1 a2 a3
  omega
theorem tcr_le {T : Nat → Nat → Prop} {q : Nat} : ∀ r, tcr T q r ≤ r
  | 0 => Nat.le_refl 0
  | r + 1 => by have := tcr_le (T := T) (q := q) r; simp only [tcr]; split <;> omega
theorem tcq_le {T : Nat → Nat → Prop} {all : Nat} : ∀ q, tcq T all q ≤ q * all
  | 0 => by simp [tcq]
  | q + 1 => by
    have := tcq_le (T := T) (all := all) q
    have := tcr_le (T := T) (q := q) all
    simp only [tcq]; rw [Nat.succ_mul]; omega
theorem tcr_0 {T : Nat → Nat → Prop} {q : Nat} : ∀ r, r ≤ q + 1 → tcr T q r = 0
  | 0, _ => rfl
  | r + 1, h => by
    have ih := tcr_0 (T := T) (q := q) r (by omega)
    simp only [tcr, ih]
    rw [if_neg (by omega)]
theorem tcr_t {T : Nat → Nat → Prop} {q r : Nat} (h : q < r) (t : T q r) : tcr T q (r + 1) = tcr T q r + 1 := by simp only [tcr]; rw [if_pos ⟨h, t⟩]
theorem tcr_f {T : Nat → Nat → Prop} {q r : Nat} (t : ¬ T q r) : tcr T q (r + 1) = tcr T q r := by simp only [tcr]; rw [if_neg fun w => t w.2]; rfl
theorem tcr_z {T : Nat → Nat → Prop} {q : Nat} (t : ∀ r, q < r → ¬ T q r) : ∀ r, tcr T q r = 0
  | 0 => rfl
  | r + 1 => by simp only [tcr, tcr_z t r]; rw [if_neg fun w => t r w.1 w.2]
theorem tD_s {T : Nat → Nat → Prop} {all q r a b : Nat} (h1 : q < r) (h2 : r < all) : tD T all q (r + 1) a b ↔ tD T all q r a b ∨ (a = q ∧ b = r ∧ T q r) := by
  unfold tD
  constructor
  · rintro ⟨h, h3, h4, h5⟩
    by_cases z : a = q ∧ b = r
    · exact Or.inr ⟨z.1, z.2, by rw [← z.1, ← z.2]; exact h5⟩
    · exact Or.inl ⟨by omega, h3, h4, h5⟩
  · rintro (⟨h, h3, h4, h5⟩ | ⟨rfl, rfl, h5⟩)
    · exact ⟨by omega, h3, h4, h5⟩
    · exact ⟨by omega, h1, h2, h5⟩
theorem tD_n {T : Nat → Nat → Prop} {all q a b : Nat} : tD T all (q + 1) (q + 2) a b ↔ tD T all q all a b := by
  unfold tD
  constructor
  · rintro ⟨h, h3, h4, h5⟩; exact ⟨by omega, h3, h4, h5⟩
  · rintro ⟨h, h3, h4, h5⟩; exact ⟨by omega, h3, h4, h5⟩
theorem tD_z {T : Nat → Nat → Prop} {all q r r' a b : Nat} (t : ∀ r, q < r → ¬ T q r) : tD T all q r a b ↔ tD T all q r' a b := by
  unfold tD
  constructor
  · rintro ⟨h, h3, h4, h5⟩
    rcases h with h | ⟨h, h'⟩
    · exact ⟨Or.inl h, h3, h4, h5⟩
    · subst h; exact absurd h5 (t b h3)
  · rintro ⟨h, h3, h4, h5⟩
    rcases h with h | ⟨h, h'⟩
    · exact ⟨Or.inl h, h3, h4, h5⟩
    · subst h; exact absurd h5 (t b h3)
/-- count and first pair: c the count, F what is held as the first -/
def tP (T : Nat → Nat → Prop) (all q r : Nat) (c : Int) (F : Nat → Nat → Prop) : Prop := c = ((tcq T all q + tcr T q r : Nat) : Int) ∧ (c = 0 → ∀ a b, ¬ tD T all q r a b) ∧ (c ≠ 0 → ∃ a b, tF T all a b ∧ F a b)
theorem tP_t {T : Nat → Nat → Prop} {all q r : Nat} {c : Int} {F F' : Nat → Nat → Prop} (h : tP T all q r c F) (h1 : q < r) (h2 : r < all) (t : T q r) (hF : c = 0 → F' q r) (hF2 : c ≠ 0 → ∀ a b, F a b → F' a b) : tP T all q (r + 1) (c + 1) F' := by
  obtain ⟨e, z, n⟩ := h
  have hc : 0 ≤ c := by omega
  refine ⟨by rw [tcr_t h1 t]; omega, fun w => by omega, fun _ => ?_⟩
  by_cases y : c = 0
  · refine ⟨q, r, ⟨h1, h2, t, fun a b h3 h4 h5 => ?_⟩, hF y⟩
    have := z y a b
    unfold tD at this
    by_cases w : (a < q ∨ (a = q ∧ b < r))
    · exact absurd ⟨w, h3, h4, h5⟩ this
    · omega
  · obtain ⟨a, b, h3, h4⟩ := n y
    exact ⟨a, b, h3, hF2 y a b h4⟩
theorem tP_f {T : Nat → Nat → Prop} {all q r : Nat} {c : Int} {F : Nat → Nat → Prop} (h : tP T all q r c F) (h1 : q < r) (h2 : r < all) (t : ¬ T q r) : tP T all q (r + 1) c F := by
  obtain ⟨e, z, n⟩ := h
  refine ⟨by rw [tcr_f t]; exact e, fun w a b d => ?_, n⟩
  rcases (tD_s h1 h2).mp d with d | d
  · exact z w a b d
  · exact t d.2.2
theorem tP_n {T : Nat → Nat → Prop} {all q : Nat} {c : Int} {F : Nat → Nat → Prop} (h : tP T all q all c F) : tP T all (q + 1) (q + 2) c F := by
  obtain ⟨e, z, n⟩ := h
  refine ⟨by rw [tcr_0 _ (by omega)]; simp only [tcq]; rw [e]; rfl, fun w a b d => z w a b (tD_n.mp d), n⟩
theorem tP_z {T : Nat → Nat → Prop} {all q : Nat} {c : Int} {F : Nat → Nat → Prop} (h : tP T all q (q + 1) c F) (t : ∀ r, q < r → ¬ T q r) : tP T all q all c F := by
  obtain ⟨e, z, n⟩ := h
  refine ⟨by rw [tcr_z t]; rw [tcr_z t] at e; exact e, fun w a b d => z w a b ((tD_z t).mp d), n⟩
/-- answers of twice -/
noncomputable def tcA (T : Nat → Nat → Prop) (all : Nat) : Nat := tcq T all all
theorem qxy {mx x y : Nat} (hx : x < mx) : (mx * y + x) % mx = x ∧ (mx * y + x) / mx = y := by
  refine ⟨by rw [Nat.mul_add_mod]; exact Nat.mod_eq_of_lt hx, ?_⟩
  rw [Nat.mul_add_div (by omega), Nat.div_eq_of_lt hx, Nat.add_zero]
theorem kk_iff {k : Nat} (hk : 0 < k) {P : Nat → Nat → Prop} : (∀ c, c < k * k → P (c % k) (c / k)) ↔ ∀ j, j < k → ∀ i, i < k → P i j := by
  constructor
  · intro h j hj i hi
    have e := qxy (mx := k) (x := i) (y := j) hi
    have := h (k * j + i) (by have := Nat.mul_le_mul_left k (show j + 1 ≤ k by omega); rw [Nat.mul_add, Nat.mul_one] at this; omega)
    rw [e.1, e.2] at this
    exact this
  · intro h c hc
    exact h (c / k) (by rw [Nat.div_lt_iff_lt_mul hk]; exact hc) (c % k) (Nat.mod_lt _ hk)
set_option maxRecDepth 10000 in
theorem kX10_isFlat {l : Launch} {d : Nat} {h : ja_H} {Q : ja_Q} {n k0 k : Nat} {w g : Int} {lt : Int → Int → Int} {x y : Int} (hp : jp w g n k0 h) (hlt : jpx h w g k0 = lt) (hb : ∀ x y, 0 ≤ lt x y ∧ lt x y ≤ 99) (hs : h.2.1 44 2 = (k : Int)) (hk : 2 ≤ k ∧ k ≤ 6) (hx : 0 ≤ x ∧ x ≤ 12) (hy : 0 ≤ y ∧ y ≤ 12) (q1 : flt lt k x y → Q (some (.inl 1)) h) (q0 : ¬ flt lt k x y → Q (some (.inl 0)) h) : ja_C l (d + 2) mX10_isFlat (js_sh n) [.inr (.inr (some (44))), .inr (.inr (some k0)), .inl (x), .inl (y)] h Q := by
  refine eX10_isFlat _ _ _ _ fun r_x r_y ho => ?_
  unfold bX10_isFlat
  unfold ja_r at r_x r_y
  refine jt_sI (x := lt x y) (jv_is (jy_mI (jr_lr rfl) hp.1 (jA_i (jA_i jA_0 (jv_li rfl)) (jv_li rfl)) fun _ => kX3_getX hp) (by rw [hlt])) ?_
  refine jt_sI (x := y + ((0 : Nat) : Int)) (jv_is (jv_li rfl) (by omega)) ?_
  refine jb_forc (k) (fun (m : Nat) L' h' => ∃ (v_cy : Int) (o3_6 : Option ja_W), L' = [some (.inr (.inr (some (44)))), some (.inr (.inr (some k0))), some (.inl (x)), some (.inl (y)), some (.inl (lt x y)), some (.inl (v_cy)), o3_6] ∧ v_cy = y + (m : Nat) ∧ h = h' ∧ (∀ j : Nat, j < m → ∀ i : Nat, i < k → lt (x + (i : Nat)) (y + (j : Nat)) = lt x y)) ⟨_, _, rfl, (by first | rfl | omega | (simp; done) | (simp; omega)), rfl, (by intro j hj; omega)⟩ ?_ ?_ ?_
  · rintro m h_m _ _ ⟨v_cy0, o3_6, rfl, rfl, rfl, e1⟩
    exact jd_eq (jd_lt (jv_li rfl) (jv_w (jv_add (jv_li rfl) (jv_gF (jr_lr rfl) rfl hs)) (by first | (unfold ja_r; omega) | (unfold ja_rl; omega) | omega | assumption))) (by omega)
  · rintro m h_m _ _ ⟨v_cy0, o3_6, rfl, rfl, rfl, e1⟩
    refine jt_sI (x := x + ((0 : Nat) : Int)) (jv_is (jv_li rfl) (by omega)) ?_
    refine jb_forc (k) (fun (i : Nat) L' h' => ∃ (v_cx : Int), L' = [some (.inr (.inr (some (44)))), some (.inr (.inr (some k0))), some (.inl (x)), some (.inl (y)), some (.inl (lt x y)), some (.inl (y + (m : Nat))), some (.inl (v_cx))] ∧ v_cx = x + (i : Nat) ∧ h = h' ∧ (∀ i2 : Nat, i2 < i → lt (x + (i2 : Nat)) (y + (m : Nat)) = lt x y)) ⟨_, rfl, (by first | rfl | omega | (simp; done) | (simp; omega)), rfl, (by intro j hj; omega)⟩ ?_ ?_ ?_
    · rintro i h_i _ _ ⟨v_cx0, rfl, rfl, rfl, e2⟩
      exact jd_eq (jd_lt (jv_li rfl) (jv_w (jv_add (jv_li rfl) (jv_gF (jr_lr rfl) rfl hs)) (by first | (unfold ja_r; omega) | (unfold ja_rl; omega) | omega | assumption))) (by omega)
    · rintro i h_i _ _ ⟨v_cx0, rfl, rfl, rfl, e2⟩
      refine jb_if_d (φ := lt (x + (i : Nat)) (y + (m : Nat)) ≠ lt x y) (jd_eq (jd_ne (jy_mI (jr_lr rfl) hp.1 (jA_i (jA_i jA_0 (jv_li rfl)) (jv_li rfl)) fun _ => kX3_getX hp) (jv_li rfl)) (by rw [hlt])) (fun c1 => ?_) (fun c1 => ?_)
      · refine jv_ci _ ⟨Or.inl rfl, ?_⟩
        exact q0 fun w => c1 (w m h_m i h_i)
      · exact jt_inc rfl (by first | (unfold ja_r; omega) | (unfold ja_rl; omega) | omega | assumption) ⟨_, rfl, (by first | rfl | omega | (simp; done) | (simp; omega)), rfl, (by intro j hj; by_cases z : j = i; subst z; exact Classical.not_not.mp c1; exact e2 j (by omega))⟩
    · rintro _ _ ⟨v_cx0, rfl, rfl, rfl, e2⟩
      exact jt_inc rfl (by first | (unfold ja_r; omega) | (unfold ja_rl; omega) | omega | assumption) ⟨_, _, rfl, (by first | rfl | omega | (simp; done) | (simp; omega)), rfl, (by intro j hj i hi; by_cases z : j = m; subst z; exact e2 i hi; exact e1 j (by omega) i hi)⟩
  · rintro _ _ ⟨v_cy0, o3_6, rfl, rfl, rfl, e1⟩
    refine jv_ci _ ⟨Or.inr rfl, ?_⟩
    exact q1 e1
set_option maxRecDepth 10000 in
theorem kX10_isNear {l : Launch} {d : Nat} {h : ja_H} {Q : ja_Q} {n k0 k : Nat} {w g : Int} {lt : Int → Int → Int} {x y u v t : Int} (hp : jp w g n k0 h) (hlt : jpx h w g k0 = lt) (hb : ∀ x y, 0 ≤ lt x y ∧ lt x y ≤ 99) (hs : h.2.1 44 2 = (k : Int)) (hk : 2 ≤ k ∧ k ≤ 6) (hx : 0 ≤ x ∧ x ≤ 12) (hy : 0 ≤ y ∧ y ≤ 12) (hu : 0 ≤ u ∧ u ≤ 12) (hv : 0 ≤ v ∧ v ≤ 12) (q1 : ner lt k t x y u v → Q (some (.inl 1)) h) (q0 : ¬ ner lt k t x y u v → Q (some (.inl 0)) h) : ja_C l (d + 2) mX10_isNear (js_sh n) [.inr (.inr (some (44))), .inr (.inr (some k0)), .inl (x), .inl (y), .inl (u), .inl (v), .inl (t)] h Q := by
  refine eX10_isNear _ _ _ _ _ _ _ fun r_x r_y r_ox r_oy r_t ho => ?_
  unfold bX10_isNear
  unfold ja_r at r_x r_y r_ox r_oy r_t
  refine jt_sI jv_ci ?_
  refine jb_forc (k) (fun (m : Nat) L' h' => ∃ (v_dy : Int) (o2_8 : Option ja_W), L' = [some (.inr (.inr (some (44)))), some (.inr (.inr (some k0))), some (.inl (x)), some (.inl (y)), some (.inl (u)), some (.inl (v)), some (.inl (t)), some (.inl (v_dy)), o2_8] ∧ v_dy = (m : Int) ∧ h = h' ∧ (∀ j : Nat, j < m → ∀ i : Nat, i < k → ((lt (x + (i : Nat)) (y + (j : Nat)) - lt (u + (i : Nat)) (v + (j : Nat))).natAbs : Int) ≤ t)) ⟨_, _, rfl, (by first | rfl | omega | (simp; done) | (simp; omega)), rfl, (by intro j hj; omega)⟩ ?_ ?_ ?_
  · rintro m h_m _ _ ⟨v_dy0, o2_8, rfl, rfl, rfl, e1⟩
    exact jd_eq (jd_lt (jv_li rfl) (jv_gF (jr_lr rfl) rfl hs)) (by omega)
  · rintro m h_m _ _ ⟨v_dy0, o2_8, rfl, rfl, rfl, e1⟩
    refine jt_sI jv_ci ?_
    refine jb_forc (k) (fun (i : Nat) L' h' => ∃ (v_dx : Int), L' = [some (.inr (.inr (some (44)))), some (.inr (.inr (some k0))), some (.inl (x)), some (.inl (y)), some (.inl (u)), some (.inl (v)), some (.inl (t)), some (.inl ((m : Int))), some (.inl (v_dx))] ∧ v_dx = (i : Int) ∧ h = h' ∧ (∀ i2 : Nat, i2 < i → ((lt (x + (i2 : Nat)) (y + (m : Nat)) - lt (u + (i2 : Nat)) (v + (m : Nat))).natAbs : Int) ≤ t)) ⟨_, rfl, (by first | rfl | omega | (simp; done) | (simp; omega)), rfl, (by intro j hj; omega)⟩ ?_ ?_ ?_
    · rintro i h_i _ _ ⟨v_dx0, rfl, rfl, rfl, e2⟩
      exact jd_eq (jd_lt (jv_li rfl) (jv_gF (jr_lr rfl) rfl hs)) (by omega)
    · rintro i h_i _ _ ⟨v_dx0, rfl, rfl, rfl, e2⟩
      have l1 := hb (x + (i : Nat)) (y + (m : Nat))
      have l2 := hb (u + (i : Nat)) (v + (m : Nat))
      refine jb_if_d (φ := t < ((lt (x + (i : Nat)) (y + (m : Nat)) - lt (u + (i : Nat)) (v + (m : Nat))).natAbs : Int)) (jd_eq (jd_gt (jy_sI (jA_i jA_0 (jv_w (jv_sub (jy_mI (jr_lr rfl) hp.1 (jA_i (jA_i jA_0 (jv_w (jv_add (jv_li rfl) (jv_li rfl)) (by first | (unfold ja_r; omega) | (unfold ja_rl; omega) | omega | assumption))) (jv_w (jv_add (jv_li rfl) (jv_li rfl)) (by first | (unfold ja_r; omega) | (unfold ja_rl; omega) | omega | assumption))) fun _ => kX3_getX hp) (jy_mI (jr_lr rfl) hp.1 (jA_i (jA_i jA_0 (jv_w (jv_add (jv_li rfl) (jv_li rfl)) (by first | (unfold ja_r; omega) | (unfold ja_rl; omega) | omega | assumption))) (jv_w (jv_add (jv_li rfl) (jv_li rfl)) (by first | (unfold ja_r; omega) | (unfold ja_rl; omega) | omega | assumption))) fun _ => kX3_getX hp)) (by rw [hlt]; unfold ja_r; omega))) fun _ => kJ9_abs (by rw [hlt]; omega)) (jv_li rfl)) (by rw [hlt])) (fun c1 => ?_) (fun c1 => ?_)
      · refine jv_ci _ ⟨Or.inl rfl, ?_⟩
        exact q0 fun w => by have := w m h_m i h_i; omega
      · exact jt_inc rfl (by first | (unfold ja_r; omega) | (unfold ja_rl; omega) | omega | assumption) ⟨_, rfl, (by first | rfl | omega | (simp; done) | (simp; omega)), rfl, (by intro j hj; by_cases z : j = i; subst z; omega; exact e2 j (by omega))⟩
    · rintro _ _ ⟨v_dx0, rfl, rfl, rfl, e2⟩
      exact jt_inc rfl (by first | (unfold ja_r; omega) | (unfold ja_rl; omega) | omega | assumption) ⟨_, _, rfl, (by first | rfl | omega | (simp; done) | (simp; omega)), rfl, (by intro j hj i hi; by_cases z : j = m; subst z; exact e2 i hi; exact e1 j (by omega) i hi)⟩
  · rintro _ _ ⟨v_dy0, o2_8, rfl, rfl, rfl, e1⟩
    refine jv_ci _ ⟨Or.inr rfl, ?_⟩
    exact q1 e1
