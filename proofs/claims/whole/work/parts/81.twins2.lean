noncomputable def pv (P : Prop) : Int := @ite _ P (Classical.propDecidable _) 1 0
theorem pv_t {P : Prop} (h : P) : pv P = 1 := if_pos h
theorem pv_f {P : Prop} (h : ¬ P) : pv P = 0 := if_neg h
theorem pv_ne {P : Prop} : pv P ≠ 0 ↔ P := by
  by_cases h : P
  · rw [pv_t h]; simp [h]
  · rw [pv_f h]; simp [h]
theorem pv_of {P : Prop} {l : Launch} {d : Nat} {M : ja_M} {sh : ja_S} {as : List ja_W} {h : ja_H} {Q : ja_Q} (c : (P → Q (some (.inl 1)) h) → (¬ P → Q (some (.inl 0)) h) → ja_C l d M sh as h Q) (q : Q (some (.inl (pv P))) h) : ja_C l d M sh as h Q := c (fun z => by rw [pv_t z] at q; exact q) (fun z => by rw [pv_f z] at q; exact q)
def tcF (mx : Nat) (f : Nat → Nat → Int) (c : Nat) (a b : Nat) : Prop := f c 0 = ((a % mx : Nat) : Int) ∧ f c 1 = ((a / mx : Nat) : Int) ∧ f c 2 = ((b % mx : Nat) : Int) ∧ f c 3 = ((b / mx : Nat) : Int)
def tKc (mx : Nat) (T : Nat → Nat → Prop) (all q r : Nat) (f : Nat → Nat → Int) : Prop := ∀ X Y : Nat, X < 12 → Y < 12 → (f 45 (12 * Y + X) = 1 ∨ f 45 (12 * Y + X) = 0) ∧ (f 45 (12 * Y + X) = 1 ↔ ∃ a b, tD T all q r a b ∧ ((X = a % mx ∧ Y = a / mx) ∨ (X = b % mx ∧ Y = b / mx)))
/-- the class's state of the search -/
def tK (k mx : Nat) (T : Nat → Nat → Prop) (all q r : Nat) (f : Nat → Nat → Int) : Prop := tP T all q r (f 44 3) (tcF mx f 46) ∧ tKc mx T all q r f ∧ f 44 2 = (k : Int)
theorem tK_n {k mx : Nat} {T : Nat → Nat → Prop} {all q : Nat} {f : Nat → Nat → Int} (h : tK k mx T all q all f) : tK k mx T all (q + 1) (q + 2) f := by
  obtain ⟨h1, h2, h3⟩ := h
  refine ⟨tP_n h1, fun X Y hX hY => ⟨(h2 X Y hX hY).1, ?_⟩, h3⟩
  rw [(h2 X Y hX hY).2]
  simp only [tD_n]
theorem tK_z {k mx : Nat} {T : Nat → Nat → Prop} {all q : Nat} {f : Nat → Nat → Int} (h : tK k mx T all q (q + 1) f) (t : ∀ r, q < r → ¬ T q r) : tK k mx T all q all f := by
  obtain ⟨h1, h2, h3⟩ := h
  refine ⟨tP_z h1 t, fun X Y hX hY => ⟨(h2 X Y hX hY).1, ?_⟩, h3⟩
  rw [(h2 X Y hX hY).2]
  have e : ∀ a b, tD T all q (q + 1) a b ↔ tD T all q all a b := fun a b => tD_z t
  simp only [e]
theorem tK_f {k mx : Nat} {T : Nat → Nat → Prop} {all q r : Nat} {f : Nat → Nat → Int} (h : tK k mx T all q r f) (h1 : q < r) (h2 : r < all) (t : ¬ T q r) : tK k mx T all q (r + 1) f := by
  obtain ⟨a1, a2, a3⟩ := h
  refine ⟨tP_f a1 h1 h2 t, fun X Y hX hY => ⟨(a2 X Y hX hY).1, ?_⟩, a3⟩
  rw [(a2 X Y hX hY).2]
  have e : ∀ a b, tD T all q (r + 1) a b ↔ tD T all q r a b := fun a b => by rw [tD_s h1 h2]; exact ⟨fun w => w.elim id fun w => absurd w.2.2 t, Or.inl⟩
  simp only [e]
/-- a pair more -/
def tA (x y u v : Nat) (I f : Nat → Nat → Int) : Prop := jfr [44, 45, 46] I f ∧ f 44 3 = I 44 3 + 1 ∧ f 44 2 = I 44 2 ∧ (I 44 3 = 0 → f 46 0 = (x : Int) ∧ f 46 1 = (y : Int) ∧ f 46 2 = (u : Int) ∧ f 46 3 = (v : Int)) ∧ (I 44 3 ≠ 0 → f 46 = I 46) ∧ ∀ X Y : Nat, X < 12 → Y < 12 → f 45 (12 * Y + X) = if (X = x ∧ Y = y) ∨ (X = u ∧ Y = v) then 1 else I 45 (12 * Y + X)
theorem tK_t {k mx : Nat} {T : Nat → Nat → Prop} {all q r : Nat} {I f : Nat → Nat → Int} (h : tK k mx T all q r I) (h1 : q < r) (h2 : r < all) (t : T q r) (ha : tA (q % mx) (q / mx) (r % mx) (r / mx) I f) : tK k mx T all q (r + 1) f := by
  obtain ⟨a1, a2, a3⟩ := h
  obtain ⟨b1, b2, b3, b4, b5, b6⟩ := ha
  refine ⟨?_, fun X Y hX hY => ?_, by rw [b3]; exact a3⟩
  · rw [b2]
    exact tP_t a1 h1 h2 t (fun z => b4 z) (fun z a b w => by unfold tcF at *; rw [b5 z]; exact w)
  · have c1 := a2 X Y hX hY
    rw [b6 X Y hX hY]
    by_cases z : (X = q % mx ∧ Y = q / mx) ∨ (X = r % mx ∧ Y = r / mx)
    · rw [if_pos z]
      exact ⟨Or.inl rfl, fun _ => ⟨q, r, (tD_s h1 h2).mpr (Or.inr ⟨rfl, rfl, t⟩), z⟩, fun _ => rfl⟩
    · rw [if_neg z]
      refine ⟨c1.1, ?_⟩
      rw [c1.2]
      constructor
      · rintro ⟨a, b, d, e⟩; exact ⟨a, b, (tD_s h1 h2).mpr (Or.inl d), e⟩
      · rintro ⟨a, b, d, e⟩
        rcases (tD_s h1 h2).mp d with d | ⟨rfl, rfl, -⟩
        · exact ⟨a, b, d, e⟩
        · exact absurd e z
theorem tK_b {k mx : Nat} {T : Nat → Nat → Prop} {all q r : Nat} {f : Nat → Nat → Int} (h : tK k mx T all q r f) (hq : q ≤ 200) (hr : r ≤ 200) (ha : all ≤ 200) : 0 ≤ f 44 3 ∧ f 44 3 ≤ 100000 := by
  have e := h.1.1
  have b1 := tcq_le (T := T) (all := all) q
  have b2 := tcr_le (T := T) (q := q) r
  have b3 : q * all ≤ 200 * 200 := Nat.mul_le_mul hq ha
  omega
set_option maxRecDepth 10000 in
theorem kX10_markCorner {l : Launch} {d : Nat} {h : ja_H} {Q : ja_Q} {n x y : Nat} (hG : jG h.1) (hx : x < 12) (hy : y < 12) (q : Q none (h.1, ja_up h.2.1 45 (12 * y + x) 1, h.2.2)) : ja_C l (d + 2) mX10_markCorner (js_sh n) [.inr (.inr (some (44))), .inl ((x : Int)), .inl ((y : Int))] h Q := by
  refine eX10_markCorner _ _ _ fun r_x r_y ho => ?_
  unfold bX10_markCorner
  unfold ja_r at r_x r_y
  refine jb_if_d (jd_and (jd_b (jy_sI (jA_i (jA_i (jA_i jA_0 (jv_li rfl)) jv_ci) jv_ci) fun _ => kX11_within)) (fun _ => (jd_b (jy_sI (jA_i (jA_i (jA_i jA_0 (jv_li rfl)) jv_ci) jv_ci) fun _ => kX11_within)))) (fun c1 => ?_) (fun c1 => ?_)
  · refine jt_wZ (jr_g (jr_lr rfl) (by first | rfl | assumption) (by first | rfl | assumption | exact jG_at hG rfl | exact jG_90 hG rfl)) (by first | rfl | assumption) (jv_w (jv_add (jv_w (jv_mul (jv_li rfl) jv_ci) (by first | (unfold ja_r; omega) | (unfold ja_rl; omega) | omega | assumption)) (jv_li rfl)) (by first | (unfold ja_r; omega) | (unfold ja_rl; omega) | omega | assumption)) jv_ci (by first | (unfold ja_r; omega) | (unfold ja_rl; omega) | omega | assumption) (by first | (unfold ja_r; omega) | (unfold ja_rl; omega) | omega | assumption) (by simp) ?_
    try dsimp only
    rw [show ((y : Int) * 12 + (x : Int)).toNat = 12 * y + x by omega]
    exact q
  · exact absurd (by omega) c1
set_option maxRecDepth 10000 in
theorem kX10_addPair {l : Launch} {d : Nat} {h : ja_H} {Q : ja_Q} {n x y u v : Nat} (hG : jG h.1) (hx : x < 12) (hy : y < 12) (hu : u < 12) (hv : v < 12) (hc : 0 ≤ h.2.1 44 3 ∧ h.2.1 44 3 ≤ 1000000) (q : ∀ f, tA x y u v h.2.1 f → Q none (h.1, f, h.2.2)) : ja_C l (d + 3) mX10_addPair (js_sh n) [.inr (.inr (some (44))), .inl ((x : Int)), .inl ((y : Int)), .inl ((u : Int)), .inl ((v : Int))] h Q := by
  obtain ⟨c, hcc⟩ : ∃ c : Int, h.2.1 44 3 = c := ⟨_, rfl⟩
  rw [hcc] at hc
  refine eX10_addPair _ _ _ _ _ fun r_x r_y r_ox r_oy ho => ?_
  unfold bX10_addPair
  unfold ja_r at r_x r_y r_ox r_oy
  refine jb_if_d (jd_eqI (jv_gF (jr_lr rfl) rfl hcc) jv_ci) (fun c1 => ?_) (fun c1 => ?_)
  · refine jt_wI (jr_g (jr_lr rfl) (by first | rfl | assumption) (by first | rfl | assumption | exact jG_at hG rfl | exact jG_90 hG rfl)) (by first | rfl | assumption) jv_ci (jv_li rfl) (by first | (unfold ja_r; omega) | (unfold ja_rl; omega) | omega | assumption) (by first | (unfold ja_r; omega) | (unfold ja_rl; omega) | omega | assumption) ?_
    try dsimp only
    refine jt_wI (jr_g (jr_lr rfl) (by first | rfl | assumption) (by first | rfl | assumption | exact jG_at hG rfl | exact jG_90 hG rfl)) (by first | rfl | assumption) jv_ci (jv_li rfl) (by first | (unfold ja_r; omega) | (unfold ja_rl; omega) | omega | assumption) (by first | (unfold ja_r; omega) | (unfold ja_rl; omega) | omega | assumption) ?_
    try dsimp only
    refine jt_wI (jr_g (jr_lr rfl) (by first | rfl | assumption) (by first | rfl | assumption | exact jG_at hG rfl | exact jG_90 hG rfl)) (by first | rfl | assumption) jv_ci (jv_li rfl) (by first | (unfold ja_r; omega) | (unfold ja_rl; omega) | omega | assumption) (by first | (unfold ja_r; omega) | (unfold ja_rl; omega) | omega | assumption) ?_
    try dsimp only
    refine jt_wI (jr_g (jr_lr rfl) (by first | rfl | assumption) (by first | rfl | assumption | exact jG_at hG rfl | exact jG_90 hG rfl)) (by first | rfl | assumption) jv_ci (jv_li rfl) (by first | (unfold ja_r; omega) | (unfold ja_rl; omega) | omega | assumption) (by first | (unfold ja_r; omega) | (unfold ja_rl; omega) | omega | assumption) ?_
    try dsimp only
    refine jt_uG (w := c + 1) (jr_lr rfl) (by first | rfl | assumption) jv_ci (by (try dsimp only); (repeat (first | rw [ja_upE rfl (by omega)] | rw [ja_upO (by omega)])); rw [hcc, ja_w_id (by unfold ja_r; omega)]) ?_
    try dsimp only
    refine jx_m (jr_lr rfl) (by first | rfl | assumption) (jA_i (jA_i jA_0 (jv_li rfl)) (jv_li rfl)) (kX10_markCorner hG hx hy ⟨rfl, ?_⟩)
    try dsimp only
    refine jx_m (jr_lr rfl) (by first | rfl | assumption) (jA_i (jA_i jA_0 (jv_li rfl)) (jv_li rfl)) (kX10_markCorner hG hu hv ⟨rfl, ?_⟩)
    try dsimp only
    refine q _ ⟨by (repeat' (first | exact jfr_rf _ _ | refine jfr_up ?_ (by decide))), ?_, ?_, ?_, ?_, ?_⟩
    · (repeat (first | rw [ja_upE rfl (by omega)] | rw [ja_upO (by omega)])); rw [hcc]
    · (repeat (first | rw [ja_upE rfl (by omega)] | rw [ja_upO (by omega)]))
    · intro z
      rw [hcc] at z
      first
      | exact absurd z c1
      | exact ⟨by (repeat (first | rw [ja_upE rfl (by omega)] | rw [ja_upO (by omega)])), by (repeat (first | rw [ja_upE rfl (by omega)] | rw [ja_upO (by omega)])), by (repeat (first | rw [ja_upE rfl (by omega)] | rw [ja_upO (by omega)])), by (repeat (first | rw [ja_upE rfl (by omega)] | rw [ja_upO (by omega)]))⟩
    · intro z
      rw [hcc] at z
      first
      | exact absurd c1 z
      | (funext j; (repeat (first | rw [ja_upE rfl (by omega)] | rw [ja_upO (by omega)])))
    · intro X Y hX hY
      by_cases z1 : X = u ∧ Y = v
      · rw [if_pos (Or.inr z1), ja_upE rfl (by omega)]
      · rw [ja_upO (by omega)]
        by_cases z2 : X = x ∧ Y = y
        · rw [if_pos (Or.inl z2), ja_upE rfl (by omega)]
        · rw [if_neg (by omega)]
          (repeat (first | rw [ja_upE rfl (by omega)] | rw [ja_upO (by omega)]))
  · refine jt_uG (w := c + 1) (jr_lr rfl) (by first | rfl | assumption) jv_ci (by (try dsimp only); (repeat (first | rw [ja_upE rfl (by omega)] | rw [ja_upO (by omega)])); rw [hcc, ja_w_id (by unfold ja_r; omega)]) ?_
    try dsimp only
    refine jx_m (jr_lr rfl) (by first | rfl | assumption) (jA_i (jA_i jA_0 (jv_li rfl)) (jv_li rfl)) (kX10_markCorner hG hx hy ⟨rfl, ?_⟩)
    try dsimp only
    refine jx_m (jr_lr rfl) (by first | rfl | assumption) (jA_i (jA_i jA_0 (jv_li rfl)) (jv_li rfl)) (kX10_markCorner hG hu hv ⟨rfl, ?_⟩)
    try dsimp only
    refine q _ ⟨by (repeat' (first | exact jfr_rf _ _ | refine jfr_up ?_ (by decide))), ?_, ?_, ?_, ?_, ?_⟩
    · (repeat (first | rw [ja_upE rfl (by omega)] | rw [ja_upO (by omega)])); rw [hcc]
    · (repeat (first | rw [ja_upE rfl (by omega)] | rw [ja_upO (by omega)]))
    · intro z
      rw [hcc] at z
      first
      | exact absurd z c1
      | exact ⟨by (repeat (first | rw [ja_upE rfl (by omega)] | rw [ja_upO (by omega)])), by (repeat (first | rw [ja_upE rfl (by omega)] | rw [ja_upO (by omega)])), by (repeat (first | rw [ja_upE rfl (by omega)] | rw [ja_upO (by omega)])), by (repeat (first | rw [ja_upE rfl (by omega)] | rw [ja_upO (by omega)]))⟩
    · intro z
      rw [hcc] at z
      first
      | exact absurd c1 z
      | (funext j; (repeat (first | rw [ja_upE rfl (by omega)] | rw [ja_upO (by omega)])))
    · intro X Y hX hY
      by_cases z1 : X = u ∧ Y = v
      · rw [if_pos (Or.inr z1), ja_upE rfl (by omega)]
      · rw [ja_upO (by omega)]
        by_cases z2 : X = x ∧ Y = y
        · rw [if_pos (Or.inl z2), ja_upE rfl (by omega)]
        · rw [if_neg (by omega)]
          (repeat (first | rw [ja_upE rfl (by omega)] | rw [ja_upO (by omega)]))
set_option maxRecDepth 10000 in
theorem kX10_searchBehind {l : Launch} {d : Nat} {h : ja_H} {Q : ja_Q} {n k0 k mx my all x y q0 : Nat} {w g t : Int} {lt : Int → Int → Int} {T : Nat → Nat → Prop} (hG : jG h.1) (hp : jp w g n k0 h) (hn : k0 ∉ [44, 45, 46] ∧ k0 + 1 ∉ [44, 45, 46]) (hlt : jpx h w g k0 = lt) (hb : ∀ x y, 0 ≤ lt x y ∧ lt x y ≤ 99) (hk : 2 ≤ k ∧ k ≤ 6) (hmx : mx = (w - k + 1).toNat) (hmy : my = (g - k + 1).toNat) (hT : TWq lt k mx t = T) (hall : mx * my = all) (hx : x < mx) (hy : y < my) (hq : mx * y + x = q0) (hf : ¬ flt lt k x y) (ht : tK k mx T all q0 (q0 + 1) h.2.1) (q : ∀ f, jfr [44, 45, 46] h.2.1 f → tK k mx T all q0 all f → Q none (h.1, f, h.2.2)) : ja_C l (d + 4) mX10_searchBehind (js_sh n) [.inr (.inr (some (44))), .inr (.inr (some k0)), .inl ((x : Int)), .inl ((y : Int)), .inl (t)] h Q := by
  obtain ⟨p1, p2, p3, p4, p5, p6, p7, p8, p9, p10⟩ := id hp
  have ha : all ≤ 121 := by rw [← hall]; exact Nat.mul_le_mul (show mx ≤ 11 by omega) (show my ≤ 11 by omega)
  have q0b : q0 < all := by
    have : mx * (y + 1) ≤ mx * my := Nat.mul_le_mul_left mx hy
    rw [Nat.mul_add, Nat.mul_one] at this
    omega
  have sub : ∀ m s : Nat, y + m < my → s < mx → mx * (y + m) + s < all := fun m s h1 h2 => by
    have : mx * (y + m + 1) ≤ mx * my := Nat.mul_le_mul_left mx h1
    rw [Nat.mul_add, Nat.mul_one] at this
    omega
  have low : ∀ m s : Nat, (m = 0 → x < s) → q0 < mx * (y + m) + s := fun m s h1 => by
    rcases Nat.eq_zero_or_pos m with z | z
    · subst z; have := h1 rfl; rw [Nat.add_zero]; omega
    · have : mx * (y + 1) ≤ mx * (y + m) := Nat.mul_le_mul_left mx (by omega)
      rw [Nat.mul_add, Nat.mul_one] at this
      omega
  refine eX10_searchBehind _ _ _ _ _ fun r_x r_y r_t ho => ?_
  unfold bX10_searchBehind
  unfold ja_r at r_x r_y r_t
  refine jt_sI (x := ((y + 0 : Nat) : Int)) (jv_is (jv_li rfl) (by omega)) ?_
  refine jb_forc (my - y) (fun (m : Nat) L' h' => ∃ (v_oy : Int) (o2_6 : Option ja_W) (o2_7 : Option ja_W) (f : Nat → Nat → Int), L' = [some (.inr (.inr (some (44)))), some (.inr (.inr (some k0))), some (.inl ((x : Int))), some (.inl ((y : Int))), some (.inl (t)), some (.inl (v_oy)), o2_6, o2_7] ∧ v_oy = ((y + m : Nat) : Int) ∧ (h.1, f, h.2.2) = h' ∧ (jfr [44, 45, 46] h.2.1 f) ∧ (tK k mx T all q0 (mx * (y + m) + (if m = 0 then x + 1 else 0)) f)) ⟨_, _, _, _, rfl, (by first | rfl | omega | (simp; done) | (simp; omega)), rfl, (by exact jfr_rf _ _), (by rw [if_pos rfl, Nat.add_zero, ← Nat.add_assoc, hq]; exact ht)⟩ ?_ ?_ ?_
  · rintro m h_m _ _ ⟨v_oy0, o2_6, o2_7, f, rfl, rfl, rfl, fr, ft⟩
    have fs : f 44 2 = (k : Int) := ft.2.2
    have f5 : f k0 1 = g := by rw [fr _ hn.1]; exact p5
    exact jd_eq (jd_le (jv_w (jv_add (jv_li rfl) (jv_gF (jr_lr rfl) rfl fs)) (by first | (unfold ja_r; omega) | (unfold ja_rl; omega) | omega | assumption)) (jv_gF (jr_lr rfl) p1 f5)) (by omega)
  · rintro m h_m _ _ ⟨v_oy0, o2_6, o2_7, f, rfl, rfl, rfl, fr, ft⟩
    obtain ⟨s, hsd⟩ : ∃ s : Nat, (if m = 0 then x + 1 else 0) = s := ⟨_, rfl⟩
    have hs2 : s ≤ mx ∧ (m = 0 → s = x + 1) ∧ (m ≠ 0 → s = 0) := by rw [← hsd]; split <;> omega
    rw [hsd] at ft
    refine jt_sI (x := ((s + 0 : Nat) : Int)) (jv_is (jv_cv (jd_eqI (jv_li rfl) (jv_li rfl)) (fun _ => (jv_w (jv_add (jv_li rfl) jv_ci) (by first | (unfold ja_r; omega) | (unfold ja_rl; omega) | omega | assumption))) (fun _ => jv_ci)) (by split <;> omega)) ?_
    refine jb_forc (mx - s) (fun (j : Nat) L' h' => ∃ (v_ox : Int) (o4_7 : Option ja_W) (g0 : Nat → Nat → Int), L' = [some (.inr (.inr (some (44)))), some (.inr (.inr (some k0))), some (.inl ((x : Int))), some (.inl ((y : Int))), some (.inl (t)), some (.inl (((y + m : Nat) : Int))), some (.inl (v_ox)), o4_7] ∧ v_ox = ((s + j : Nat) : Int) ∧ (h.1, g0, h.2.2) = h' ∧ (jfr [44, 45, 46] h.2.1 g0) ∧ (tK k mx T all q0 (mx * (y + m) + s + j) g0)) ⟨_, _, _, rfl, (by first | rfl | omega | (simp; done) | (simp; omega)), rfl, (by exact fr), (by exact ft)⟩ ?_ ?_ ?_
    · rintro j h_j _ _ ⟨v_ox0, o4_7, g0, rfl, rfl, rfl, gr, gt⟩
      have fs : g0 44 2 = (k : Int) := gt.2.2
      have f4 : g0 k0 0 = w := by rw [gr _ hn.1]; exact p4
      exact jd_eq (jd_le (jv_w (jv_add (jv_li rfl) (jv_gF (jr_lr rfl) rfl fs)) (by first | (unfold ja_r; omega) | (unfold ja_rl; omega) | omega | assumption)) (jv_gF (jr_lr rfl) p1 f4)) (by omega)
    · rintro j h_j _ _ ⟨v_ox0, o4_7, g0, rfl, rfl, rfl, gr, gt⟩
      have fs : g0 44 2 = (k : Int) := gt.2.2
      have hpf : jp w g n k0 (h.1, g0, h.2.2) := jp_up hp (gr _ hn.1)
      have hltf : jpx (h.1, g0, h.2.2) w g k0 = lt := by rw [jpx_fr (gr _ hn.2)]; exact hlt
      have rl := low m (s + j) (by omega)
      have rs := sub m (s + j) (by omega) (by omega)
      rw [← Nat.add_assoc] at rl rs
      have eT : T q0 (mx * (y + m) + s + j) ↔ twn lt k t (x : Int) (y : Int) ((s + j : Nat) : Int) ((y + m : Nat) : Int) := by
        rw [← hT]
        unfold TWq
        rw [← hq, (qxy hx).1, (qxy hx).2, Nat.add_assoc, (qxy (show s + j < mx by omega)).1, (qxy (show s + j < mx by omega)).2]
      have cb := tK_b gt (by omega) (by omega) (by omega)
      refine jt_sI (x := pv (¬ (((((s + j : Nat) : Int) - (x : Int)).natAbs : Int) < k ∧ ((((y + m : Nat) : Int) - (y : Int)).natAbs : Int) < k))) (jv_is (jv_cb (jd_or (jd_ge (jy_sI (jA_i jA_0 (jv_w (jv_sub (jv_li rfl) (jv_li rfl)) (by first | (unfold ja_r; omega) | (unfold ja_rl; omega) | omega | assumption))) fun _ => kJ9_abs (by first | (unfold ja_r; omega) | (unfold ja_rl; omega) | omega | assumption)) (jv_gF (jr_lr rfl) rfl fs)) (fun _ => (jd_ge (jv_w (jv_sub (jv_li rfl) (jv_li rfl)) (by first | (unfold ja_r; omega) | (unfold ja_rl; omega) | omega | assumption)) (jv_gF (jr_lr rfl) rfl fs))))) (by 
            by_cases z : ((((s + j : Nat) : Int) - (x : Int)).natAbs : Int) < k ∧ ((((y + m : Nat) : Int) - (y : Int)).natAbs : Int) < k
            · rw [pv_f (fun w => w z), if_neg (by omega)]
            · rw [pv_t z, if_pos (by omega)])) ?_
      refine jb_if_d (φ := twn lt k t (x : Int) (y : Int) ((s + j : Nat) : Int) ((y + m : Nat) : Int)) (jd_eq (jd_and (jd_bt (jv_li rfl)) (fun _ => (jd_bt (jy_mI (jr_lr rfl) rfl (jA_i (jA_i (jA_i (jA_i (jA_i (jA_r jA_0 (jr_lr rfl)) (jv_li rfl)) (jv_li rfl)) (jv_li rfl)) (jv_li rfl)) (jv_li rfl)) fun _ => pv_of (kX10_isNear hpf hltf hb fs hk (by omega) (by omega) (by omega) (by omega)))))) (by rw [pv_ne, pv_ne]; unfold twn; exact ⟨fun w => ⟨w.1, w.2, hf⟩, fun w => ⟨w.1, w.2.1⟩⟩)) (fun c1 => ?_) (fun c1 => ?_)
      · have c2 := c1
        refine jx_m (jr_lr rfl) (by first | rfl | assumption) (jA_i (jA_i (jA_i (jA_i jA_0 (jv_li rfl)) (jv_li rfl)) (jv_li rfl)) (jv_li rfl)) (kX10_addPair (h := (h.1, g0, h.2.2)) hG (by omega) (by omega) (by omega) (by omega) (by show 0 ≤ g0 44 3 ∧ g0 44 3 ≤ 1000000; omega) fun g2 ga => ⟨rfl, ?_⟩)
        have gr2 : jfr [44, 45, 46] h.2.1 g2 := jfr_tr gr ga.1
        have ga2 : tA (q0 % mx) (q0 / mx) ((mx * (y + m) + s + j) % mx) ((mx * (y + m) + s + j) / mx) g0 g2 := by
          rw [← hq, (qxy hx).1, (qxy hx).2, Nat.add_assoc, (qxy (show s + j < mx by omega)).1, (qxy (show s + j < mx by omega)).2]
          exact ga
        exact jt_inc rfl (by first | (unfold ja_r; omega) | (unfold ja_rl; omega) | omega | assumption) ⟨_, _, _, rfl, (by first | rfl | omega | (simp; done) | (simp; omega)), rfl, (by first | exact gr2 | exact gr), (by first | exact tK_t gt rl rs (eT.mpr c2) ga2 | exact tK_f gt rl rs (fun w => c2 (eT.mp w)))⟩
      · have c2 := c1
        exact jt_inc rfl (by first | (unfold ja_r; omega) | (unfold ja_rl; omega) | omega | assumption) ⟨_, _, _, rfl, (by first | rfl | omega | (simp; done) | (simp; omega)), rfl, (by first | exact gr2 | exact gr), (by first | exact tK_t gt rl rs (eT.mpr c2) ga2 | exact tK_f gt rl rs (fun w => c2 (eT.mp w)))⟩
    · rintro _ _ ⟨v_ox0, o4_7, g0, rfl, rfl, rfl, gr, gt⟩
      exact jt_inc rfl (by first | (unfold ja_r; omega) | (unfold ja_rl; omega) | omega | assumption) ⟨_, _, _, _, rfl, (by first | rfl | omega | (simp; done) | (simp; omega)), rfl, (by exact gr), (by rw [if_neg (by omega), Nat.add_zero]; rw [show mx * (y + m) + s + (mx - s) = mx * (y + (m + 1)) by rw [← Nat.add_assoc y m 1, Nat.mul_add mx (y + m) 1, Nat.mul_one]; omega] at gt; exact gt)⟩
  · rintro _ _ ⟨v_oy0, o2_6, o2_7, f, rfl, rfl, rfl, fr, ft⟩
    refine q f fr ?_
    rw [if_neg (by omega), Nat.add_zero, show y + (my - y) = my by omega, hall] at ft
    exact ft
set_option maxRecDepth 10000 in
theorem kX10_search {l : Launch} {d : Nat} {h : ja_H} {Q : ja_Q} {n k0 k mx my all : Nat} {w g t : Int} {lt : Int → Int → Int} {T : Nat → Nat → Prop} (hG : jG h.1) (hp : jp w g n k0 h) (hn : k0 ∉ [44, 45, 46] ∧ k0 + 1 ∉ [44, 45, 46]) (hlt : jpx h w g k0 = lt) (hb : ∀ x y, 0 ≤ lt x y ∧ lt x y ≤ 99) (hk : 2 ≤ k ∧ k ≤ 6) (hmx : mx = (w - k + 1).toNat) (hmy : my = (g - k + 1).toNat) (hT : TWq lt k mx t = T) (hall : mx * my = all) (q : ∀ f, jfr [44, 45, 46] h.2.1 f → tK k mx T all all (all + 1) f → Q none (h.1, f, h.2.2)) : ja_C l (d + 5) mX10_search (js_sh n) [.inr (.inr (some (44))), .inr (.inr (some k0)), .inl ((k : Int)), .inl (t)] h Q := by
  obtain ⟨p1, p2, p3, p4, p5, p6, p7, p8, p9, p10⟩ := id hp
  have ha : all ≤ 121 := by rw [← hall]; exact Nat.mul_le_mul (show mx ≤ 11 by omega) (show my ≤ 11 by omega)
  have sub : ∀ m s : Nat, m < my → s < mx → mx * m + s < all := fun m s h1 h2 => by
    have : mx * (m + 1) ≤ mx * my := Nat.mul_le_mul_left mx h1
    rw [Nat.mul_add, Nat.mul_one] at this
    omega
  refine eX10_search _ _ _ _ fun r_k r_t ho => ?_
  unfold bX10_search
  unfold ja_r at r_k r_t
  refine jt_pI (jr_lr rfl) (by first | rfl | assumption) (jv_li rfl) ?_
  try dsimp only
  refine jt_pI (jr_lr rfl) (by first | rfl | assumption) jv_ci ?_
  try dsimp only
  refine jt_sI jv_ci ?_
  refine jb_forc (144) (fun (i : Nat) L' h' => ∃ (v_i : Int) (o4_5 : Option ja_W) (f : Nat → Nat → Int), L' = [some (.inr (.inr (some (44)))), some (.inr (.inr (some k0))), some (.inl ((k : Int))), some (.inl (t)), some (.inl (v_i)), o4_5] ∧ v_i = (i : Int) ∧ (h.1, f, h.2.2) = h' ∧ (jfr [44, 45, 46] h.2.1 f) ∧ (f 44 2 = (k : Int)) ∧ (f 44 3 = 0) ∧ (∀ j, j < i → f 45 j = 0)) ⟨_, _, _, rfl, (by first | rfl | omega | (simp; done) | (simp; omega)), rfl, (by exact jfr_up (jfr_up (jfr_rf _ _) (by decide)) (by decide)), (by rw [ja_upO (by omega), ja_upE rfl rfl]), (by rw [ja_upE rfl rfl]), (by intro j hj; omega)⟩ ?_ ?_ ?_
  · rintro i h_i _ _ ⟨v_i0, o4_5, f, rfl, rfl, rfl, fr, f2, f3, f4⟩
    exact jd_eq (jd_lt (jv_li rfl) (jv_len (jr_g (jr_lr rfl) (by first | rfl | assumption) (by first | rfl | assumption | exact jG_at hG rfl | exact jG_90 hG rfl)) (by first | rfl | assumption) (by first | (unfold ja_r; omega) | (unfold ja_rl; omega) | omega | assumption))) (by omega)
  · rintro i h_i _ _ ⟨v_i0, o4_5, f, rfl, rfl, rfl, fr, f2, f3, f4⟩
    refine jt_wZ (jr_g (jr_lr rfl) (by first | rfl | assumption) (by first | rfl | assumption | exact jG_at hG rfl | exact jG_90 hG rfl)) (by first | rfl | assumption) (jv_li rfl) jv_ci (by first | (unfold ja_r; omega) | (unfold ja_rl; omega) | omega | assumption) (by first | (unfold ja_r; omega) | (unfold ja_rl; omega) | omega | assumption) (by simp) ?_
    try dsimp only
    exact jt_inc rfl (by first | (unfold ja_r; omega) | (unfold ja_rl; omega) | omega | assumption) ⟨_, _, _, rfl, (by first | rfl | omega | (simp; done) | (simp; omega)), rfl, (by exact jfr_up fr (by decide)), (by rw [ja_upO (by omega)]; exact f2), (by rw [ja_upO (by omega)]; exact f3), (by intro j hj; by_cases z : j = i; rw [ja_upE rfl (by omega)]; rw [ja_upO (by omega)]; exact f4 j (by omega))⟩
  · rintro _ _ ⟨v_i0, o4_5, f, rfl, rfl, rfl, fr, f2, f3, f4⟩
    have ft : tK k mx T all 0 1 f := by
      refine ⟨⟨by rw [f3, tcr_0 _ (by omega)]; rfl, fun _ a b w => by unfold tD at w; omega, fun w => absurd f3 w⟩, fun X Y hX hY => ?_, f2⟩
      have e := f4 (12 * Y + X) (by omega)
      rw [e]
      refine ⟨Or.inr rfl, fun w => absurd w (by decide), ?_⟩
      rintro ⟨a, b, w, -⟩
      unfold tD at w
      omega
    refine jt_sI jv_ci ?_
    refine jb_forc (my) (fun (y : Nat) L' h' => ∃ (v_y : Int) (o7_5 : Option ja_W) (f : Nat → Nat → Int), L' = [some (.inr (.inr (some (44)))), some (.inr (.inr (some k0))), some (.inl ((k : Int))), some (.inl (t)), some (.inl (v_y)), o7_5] ∧ v_y = (y : Int) ∧ (h.1, f, h.2.2) = h' ∧ (jfr [44, 45, 46] h.2.1 f) ∧ (tK k mx T all (mx * y) (mx * y + 1) f)) ⟨_, _, _, rfl, (by first | rfl | omega | (simp; done) | (simp; omega)), rfl, (by exact fr), (by exact ft)⟩ ?_ ?_ ?_
    · rintro y h_y _ _ ⟨v_y0, o7_5, f, rfl, rfl, rfl, fr, ft⟩
      have f5 : f k0 1 = g := by rw [fr _ hn.1]; exact p5
      exact jd_eq (jd_le (jv_w (jv_add (jv_li rfl) (jv_li rfl)) (by first | (unfold ja_r; omega) | (unfold ja_rl; omega) | omega | assumption)) (jv_gF (jr_lr rfl) p1 f5)) (by omega)
    · rintro y h_y _ _ ⟨v_y0, o7_5, f, rfl, rfl, rfl, fr, ft⟩
      refine jt_sI jv_ci ?_
      refine jb_forc (mx) (fun (x : Nat) L' h' => ∃ (v_x : Int) (g0 : Nat → Nat → Int), L' = [some (.inr (.inr (some (44)))), some (.inr (.inr (some k0))), some (.inl ((k : Int))), some (.inl (t)), some (.inl ((y : Int))), some (.inl (v_x))] ∧ v_x = (x : Int) ∧ (h.1, g0, h.2.2) = h' ∧ (jfr [44, 45, 46] h.2.1 g0) ∧ (tK k mx T all (mx * y + x) (mx * y + x + 1) g0)) ⟨_, _, rfl, (by first | rfl | omega | (simp; done) | (simp; omega)), rfl, (by exact fr), (by exact ft)⟩ ?_ ?_ ?_
      · rintro x h_x _ _ ⟨v_x0, g0, rfl, rfl, rfl, gr, gt⟩
        have f4 : g0 k0 0 = w := by rw [gr _ hn.1]; exact p4
        exact jd_eq (jd_le (jv_w (jv_add (jv_li rfl) (jv_li rfl)) (by first | (unfold ja_r; omega) | (unfold ja_rl; omega) | omega | assumption)) (jv_gF (jr_lr rfl) p1 f4)) (by omega)
      · rintro x h_x _ _ ⟨v_x0, g0, rfl, rfl, rfl, gr, gt⟩
        have hpf : jp w g n k0 (h.1, g0, h.2.2) := jp_up hp (gr _ hn.1)
        have hltf : jpx (h.1, g0, h.2.2) w g k0 = lt := by rw [jpx_fr (gr _ hn.2)]; exact hlt
        refine jb_if_d (φ := ¬ flt lt k (x : Int) (y : Int)) (jd_eq (jd_not (jd_bt (jy_mI (jr_lr rfl) rfl (jA_i (jA_i (jA_r jA_0 (jr_lr rfl)) (jv_li rfl)) (jv_li rfl)) fun _ => pv_of (kX10_isFlat hpf hltf hb gt.2.2 hk (by omega) (by omega))))) (by rw [pv_ne])) (fun c1 => ?_) (fun c1 => ?_)
        · refine jx_m (jr_lr rfl) (by first | rfl | assumption) (jA_i (jA_i (jA_i (jA_r jA_0 (jr_lr rfl)) (jv_li rfl)) (jv_li rfl)) (jv_li rfl)) (kX10_searchBehind (h := (h.1, g0, h.2.2)) (lt := lt) hG hpf hn hltf hb hk hmx hmy hT hall h_x h_y rfl c1 gt fun g2 gr1 gt2 => ⟨rfl, ?_⟩)
          have gr2 : jfr [44, 45, 46] h.2.1 g2 := jfr_tr gr gr1
          exact jt_inc rfl (by first | (unfold ja_r; omega) | (unfold ja_rl; omega) | omega | assumption) ⟨_, _, rfl, (by first | rfl | omega | (simp; done) | (simp; omega)), rfl, (by first | exact gr2 | exact gr), (by first | exact tK_n (q := mx * y + x) gt2 | exact tK_n (q := mx * y + x) (tK_z (q := mx * y + x) gt fun r _ => by rw [← hT]; unfold TWq; rw [(qxy h_x).1, (qxy h_x).2]; exact fun w => w.2.2 (Classical.not_not.mp c1)))⟩
        · exact jt_inc rfl (by first | (unfold ja_r; omega) | (unfold ja_rl; omega) | omega | assumption) ⟨_, _, rfl, (by first | rfl | omega | (simp; done) | (simp; omega)), rfl, (by first | exact gr2 | exact gr), (by first | exact tK_n (q := mx * y + x) gt2 | exact tK_n (q := mx * y + x) (tK_z (q := mx * y + x) gt fun r _ => by rw [← hT]; unfold TWq; rw [(qxy h_x).1, (qxy h_x).2]; exact fun w => w.2.2 (Classical.not_not.mp c1)))⟩
      · rintro _ _ ⟨v_x0, g0, rfl, rfl, rfl, gr, gt⟩
        exact jt_inc rfl (by first | (unfold ja_r; omega) | (unfold ja_rl; omega) | omega | assumption) ⟨_, _, _, rfl, (by first | rfl | omega | (simp; done) | (simp; omega)), rfl, (by exact gr), (by rw [show mx * y + mx = mx * (y + 1) by rw [Nat.mul_add, Nat.mul_one]] at gt; exact gt)⟩
    · rintro _ _ ⟨v_y0, o7_5, f, rfl, rfl, rfl, fr, ft⟩
      rw [hall] at ft
      exact q f fr ft
set_option maxRecDepth 10000 in
theorem kX10_ofFirstPair {l : Launch} {d : Nat} {h : ja_H} {Q : ja_Q} {n : Nat} {v : Int} (hG : jG h.1) (hv : 1 ≤ v ∧ v ≤ 4) (q : Q (some (.inl (if 0 < h.2.1 44 3 then h.2.1 46 (v - 1).toNat else -1))) h) : ja_C l (d + 2) mX10_ofFirstPair (js_sh n) [.inr (.inr (some (44))), .inl (v)] h Q := by
  refine eX10_ofFirstPair _ _ fun r_what ho => ?_
  unfold bX10_ofFirstPair
  unfold ja_r at r_what
  refine jt_rI (jv_cv (φ := 0 < h.2.1 44 3) (jd_eq (jd_and (jd_gt (jv_gF (jr_lr rfl) rfl rfl) jv_ci) (fun _ => (jd_b (jy_sI (jA_i (jA_i (jA_i jA_0 (jv_li rfl)) jv_ci) (jv_len (jr_g (jr_lr rfl) rfl (jG_at hG rfl)) rfl (by decide))) fun _ => kX11_within)))) (by omega)) (fun _ => (jv_aI (jr_g (jr_lr rfl) rfl (jG_at hG rfl)) (jv_w (jv_sub (jv_li rfl) jv_ci) (by first | (unfold ja_r; omega) | (unfold ja_rl; omega) | omega | assumption)) rfl (by omega) (by omega))) (fun _ => jv_ci)) ?_
  exact q
def tTo (k : Nat) (f : Nat → Nat → Int) (bx bY : Nat) : Prop := ∃ X Y : Nat, (X < 12 ∧ Y < 12) ∧ ((bx : Int) - k + 1 ≤ X ∧ X < bx + 4) ∧ ((bY : Int) - k + 1 ≤ Y ∧ Y < bY + 4) ∧ f 45 (12 * Y + X) = 1
set_option maxRecDepth 10000 in
theorem kX10_touch {l : Launch} {d : Nat} {h : ja_H} {Q : ja_Q} {n k bx bY : Nat} (hG : jG h.1) (hs : h.2.1 44 2 = (k : Int)) (hk : 2 ≤ k ∧ k ≤ 6) (hx : bx ≤ 8) (hy : bY ≤ 8) (h01 : ∀ X Y : Nat, X < 12 → Y < 12 → h.2.1 45 (12 * Y + X) = 1 ∨ h.2.1 45 (12 * Y + X) = 0) (q1 : tTo k h.2.1 bx bY → Q (some (.inl 1)) h) (q0 : ¬ tTo k h.2.1 bx bY → Q (some (.inl 0)) h) : ja_C l (d + 2) mX10_touch (js_sh n) [.inr (.inr (some (44))), .inl ((bx : Int)), .inl ((bY : Int))] h Q := by
  obtain ⟨A, hA⟩ : ∃ A : Nat, (A : Int) = max 0 ((bY : Int) - k + 1) := ⟨(max 0 ((bY : Int) - k + 1)).toNat, by omega⟩
  obtain ⟨C, hC⟩ : ∃ C : Nat, (C : Int) = max 0 ((bx : Int) - k + 1) := ⟨(max 0 ((bx : Int) - k + 1)).toNat, by omega⟩
  refine eX10_touch _ _ _ fun r_blockX r_blockY ho => ?_
  unfold bX10_touch
  unfold ja_r at r_blockX r_blockY
  refine jt_sI (x := ((A + 0 : Nat) : Int)) (jv_is (jy_sI (jA_i (jA_i jA_0 jv_ci) (jv_w (jv_add (jv_w (jv_sub (jv_li rfl) (jv_gF (jr_lr rfl) (by first | rfl | assumption) (by first | assumption | rfl))) (by first | (unfold ja_r; omega) | (unfold ja_rl; omega) | omega | assumption)) jv_ci) (by first | (unfold ja_r; omega) | (unfold ja_rl; omega) | omega | assumption))) fun _ => kJ9_max) (by omega)) ?_
  refine jb_forc (bY + 4 - A) (fun (m : Nat) L' h' => ∃ (v_y : Int) (o2_4 : Option ja_W), L' = [some (.inr (.inr (some (44)))), some (.inl ((bx : Int))), some (.inl ((bY : Int))), some (.inl (v_y)), o2_4] ∧ v_y = ((A + m : Nat) : Int) ∧ h = h' ∧ (∀ X Y : Nat, A ≤ Y → Y < A + m → C ≤ X → X < bx + 4 → ¬ h.2.1 45 (12 * Y + X) = 1)) ⟨_, _, rfl, (by first | rfl | omega | (simp; done) | (simp; omega)), rfl, (by intro X Y; omega)⟩ ?_ ?_ ?_
  · rintro m h_m _ _ ⟨v_y0, o2_4, rfl, rfl, rfl, e1⟩
    exact jd_eq (jd_lt (jv_li rfl) (jy_sI (jA_i (jA_i jA_0 jv_ci) (jv_w (jv_add (jv_li rfl) jv_ci) (by first | (unfold ja_r; omega) | (unfold ja_rl; omega) | omega | assumption))) fun _ => kJ9_min)) (by omega)
  · rintro m h_m _ _ ⟨v_y0, o2_4, rfl, rfl, rfl, e1⟩
    refine jt_sI (x := ((C + 0 : Nat) : Int)) (jv_is (jy_sI (jA_i (jA_i jA_0 jv_ci) (jv_w (jv_add (jv_w (jv_sub (jv_li rfl) (jv_gF (jr_lr rfl) (by first | rfl | assumption) (by first | assumption | rfl))) (by first | (unfold ja_r; omega) | (unfold ja_rl; omega) | omega | assumption)) jv_ci) (by first | (unfold ja_r; omega) | (unfold ja_rl; omega) | omega | assumption))) fun _ => kJ9_max) (by omega)) ?_
    refine jb_forc (bx + 4 - C) (fun (j : Nat) L' h' => ∃ (v_x : Int), L' = [some (.inr (.inr (some (44)))), some (.inl ((bx : Int))), some (.inl ((bY : Int))), some (.inl (((A + m : Nat) : Int))), some (.inl (v_x))] ∧ v_x = ((C + j : Nat) : Int) ∧ h = h' ∧ (∀ X : Nat, C ≤ X → X < C + j → ¬ h.2.1 45 (12 * (A + m) + X) = 1)) ⟨_, rfl, (by first | rfl | omega | (simp; done) | (simp; omega)), rfl, (by intro X; omega)⟩ ?_ ?_ ?_
    · rintro j h_j _ _ ⟨v_x0, rfl, rfl, rfl, e2⟩
      exact jd_eq (jd_lt (jv_li rfl) (jy_sI (jA_i (jA_i jA_0 jv_ci) (jv_w (jv_add (jv_li rfl) jv_ci) (by first | (unfold ja_r; omega) | (unfold ja_rl; omega) | omega | assumption))) fun _ => kJ9_min)) (by omega)
    · rintro j h_j _ _ ⟨v_x0, rfl, rfl, rfl, e2⟩
      have f0 : h.2.1 45 (((A + m : Nat) : Int) * 12 + ((C + j : Nat) : Int)).toNat = h.2.1 45 (12 * (A + m) + (C + j)) := by rw [show (((A + m : Nat) : Int) * 12 + ((C + j : Nat) : Int)).toNat = 12 * (A + m) + (C + j) by omega]
      have f1 := h01 (C + j) (A + m) (by omega) (by omega)
      refine jb_if_d (φ := h.2.1 45 (12 * (A + m) + (C + j)) = 1) (jd_eq (jd_bt (jv_fZ (jr_g (jr_lr rfl) rfl (jG_at hG rfl)) (jv_w (jv_add (jv_w (jv_mul (jv_li rfl) jv_ci) (by first | (unfold ja_r; omega) | (unfold ja_rl; omega) | omega | assumption)) (jv_li rfl)) (by first | (unfold ja_r; omega) | (unfold ja_rl; omega) | omega | assumption)) rfl (by first | (unfold ja_r; omega) | (unfold ja_rl; omega) | omega | assumption) (by first | (unfold ja_r; omega) | (unfold ja_rl; omega) | omega | assumption) f0)) (by omega)) (fun c1 => ?_) (fun c1 => ?_)
      · have c2 := c1
        refine jv_ci _ ⟨Or.inr rfl, ?_⟩
        exact q1 ⟨C + j, A + m, ⟨by omega, by omega⟩, ⟨by omega, by omega⟩, ⟨by omega, by omega⟩, c2⟩
      · have c2 := c1
        exact jt_inc rfl (by first | (unfold ja_r; omega) | (unfold ja_rl; omega) | omega | assumption) ⟨_, rfl, (by first | rfl | omega | (simp; done) | (simp; omega)), rfl, (by intro X h1 h2; by_cases z : X = C + j; subst z; exact c2; exact e2 X h1 (by omega))⟩
    · rintro _ _ ⟨v_x0, rfl, rfl, rfl, e2⟩
      exact jt_inc rfl (by first | (unfold ja_r; omega) | (unfold ja_rl; omega) | omega | assumption) ⟨_, _, rfl, (by first | rfl | omega | (simp; done) | (simp; omega)), rfl, (by intro X Y h1 h2 h3 h4; by_cases z : Y = A + m; subst z; exact e2 X h3 (by omega); exact e1 X Y h1 (by omega) h3 h4)⟩
  · rintro _ _ ⟨v_y0, o2_4, rfl, rfl, rfl, e1⟩
    refine jv_ci _ ⟨Or.inl rfl, ?_⟩
    refine q0 ?_
    rintro ⟨X, Y, hXY, hX, hY, w⟩
    exact e1 X Y (by omega) (by omega) (by omega) (by omega) w
