theorem kkI {k : Nat} : ((k * k : Nat) : Int) = (k : Int) * (k : Int) := Int.natCast_mul k k
set_option maxRecDepth 10000 in
theorem kX12_isPlain {l : Launch} {d : Nat} {h : ja_H} {Q : ja_Q} {n k : Nat} {w g p x y kI : Int} {lt : Int → Int → Int} (hG : jG h.1) (hW : jW w g n h.2.1) (hp : 0 ≤ p ∧ p ≤ 4) (hlt : jmx h w g p = lt) (hb : ∀ x y, 0 ≤ lt x y ∧ lt x y ≤ 99) (hk : 2 ≤ k ∧ k ≤ 6) (hki : kI = (k : Int)) (hx : 0 ≤ x ∧ x + k ≤ w) (hy : 0 ≤ y ∧ y + k ≤ g) (q1 : flt lt k x y → Q (some (.inl 1)) h) (q0 : ¬ flt lt k x y → Q (some (.inl 0)) h) : ja_C l (d + 3) mX12_isPlain (js_sh n) [.inr (.inr (some (90))), .inl (p), .inl (kI), .inl (x), .inl (y)] h Q := by
  have kk : k * k ≤ 36 := Nat.mul_le_mul (show k ≤ 6 by omega) (show k ≤ 6 by omega)
  have kk0 : 4 ≤ k * k := Nat.mul_le_mul (show 2 ≤ k by omega) (show 2 ≤ k by omega)
  have kki := kkI (k := k)
  have wr := jW_r hW
  have mkk : ∀ L : ja_L, ja_get L 2 = some (.inl kI) → jv (jb_mul (jb_li 2) (jb_li 2)) L h ((k * k : Nat) : Int) := fun L g => jv_is (jv_w (jv_mul (jv_li g) (jv_li g)) (by rw [hki, ← kki]; unfold ja_r; omega)) (by rw [hki]; exact kki.symm)
  refine eX12_isPlain _ _ _ _ _ fun r_p r_k r_x r_y ho => ?_
  unfold bX12_isPlain
  unfold ja_r at r_p r_k r_x r_y
  refine jt_sI (x := ((0 + 1 : Nat) : Int)) (jv_is jv_ci (by rfl)) ?_
  refine jb_forc (k * k - 1) (fun (c0 : Nat) L' h' => ∃ (v_q : Int), L' = [some (.inr (.inr (some (90)))), some (.inl (p)), some (.inl (kI)), some (.inl (x)), some (.inl (y)), some (.inl (v_q))] ∧ v_q = ((c0 + 1 : Nat) : Int) ∧ h = h' ∧ (∀ c : Nat, c < c0 + 1 → lt (x + ((c % k : Nat) : Int)) (y + ((c / k : Nat) : Int)) = lt x y)) ⟨_, rfl, (by rfl), rfl, (by intro c hc; rw [show c = 0 by omega, Nat.zero_mod, Nat.zero_div]; simp)⟩ ?_ ?_ ?_
  · rintro c0 h_c0 _ _ ⟨v_q0, rfl, rfl, rfl, e1⟩
    exact jd_eq (jd_lt (jv_li rfl) (mkk _ rfl)) (by omega)
  · rintro c0 h_c0 _ _ ⟨v_q0, rfl, rfl, rfl, e1⟩
    obtain ⟨c, hc0⟩ : ∃ c : Nat, c0 + 1 = c := ⟨_, rfl⟩
    rw [hc0] at e1 ⊢
    have h_c : c < k * k := by omega
    obtain ⟨cx, hcx⟩ : ∃ cx : Nat, c % k = cx := ⟨_, rfl⟩
    obtain ⟨cy, hcy⟩ : ∃ cy : Nat, c / k = cy := ⟨_, rfl⟩
    have cb : cx < k ∧ cy < k := by rw [← hcx, ← hcy]; exact cw_b (by omega) h_c
    refine jb_if_d (φ := lt (x + (cx : Int)) (y + (cy : Int)) ≠ lt x y) (jd_eq (jd_ne (jy_mI (jr_lr rfl) rfl (jA_i (jA_i (jA_i jA_0 (jv_li rfl)) (jv_w (jv_add (jv_li rfl) (jv_is (x' := (cx : Int)) (jv_remP (jv_li rfl) (jv_li rfl) (by first | (unfold ja_r; omega) | (unfold ja_rl; omega) | omega | assumption) (by first | (unfold ja_r; omega) | (unfold ja_rl; omega) | omega | assumption)) (by rw [hki, ← hcx]; omega))) (by first | (unfold ja_r; omega) | (unfold ja_rl; omega) | omega | assumption))) (jv_w (jv_add (jv_li rfl) (jv_is (x' := (cy : Int)) (jv_divP (jv_li rfl) (jv_li rfl) (by first | (unfold ja_r; omega) | (unfold ja_rl; omega) | omega | assumption) (by first | (unfold ja_r; omega) | (unfold ja_rl; omega) | omega | assumption) (by first | (unfold ja_r; omega) | (unfold ja_rl; omega) | omega | assumption)) (by rw [hki, ← Int.natCast_ediv, hcy]))) (by first | (unfold ja_r; omega) | (unfold ja_rl; omega) | omega | assumption))) fun _ => kX12_lightX hG hW hp (by omega) (by omega)) (jy_mI (jr_lr rfl) rfl (jA_i (jA_i (jA_i jA_0 (jv_li rfl)) (jv_li rfl)) (jv_li rfl)) fun _ => kX12_lightX hG hW hp (by omega) (by omega))) (by rw [hlt])) (fun c1 => ?_) (fun c1 => ?_)
    · refine jv_ci _ ⟨Or.inl rfl, ?_⟩
      exact q0 fun w => c1 (w cy cb.2 cx cb.1)
    · exact jt_inc rfl (by first | (unfold ja_r; omega) | (unfold ja_rl; omega) | omega | assumption) ⟨_, rfl, (by omega), rfl, (by intro c2 hc2; by_cases z : c2 = c; subst z; rw [hcx, hcy]; exact Classical.not_not.mp c1; exact e1 c2 (by omega))⟩
  · rintro _ _ ⟨v_q0, rfl, rfl, rfl, e1⟩
    refine jv_ci _ ⟨Or.inr rfl, ?_⟩
    refine q1 ((kk_iff (k := k) (P := fun i j => lt (x + (i : Nat)) (y + (j : Nat)) = lt x y) (by omega)).mp fun c hc => e1 c (by omega))
set_option maxRecDepth 10000 in
theorem kX12_isTwice {l : Launch} {d : Nat} {h : ja_H} {Q : ja_Q} {n k : Nat} {w g p t x y u v kI : Int} {lt : Int → Int → Int} (hG : jG h.1) (hW : jW w g n h.2.1) (hp : 0 ≤ p ∧ p ≤ 4) (hlt : jmx h w g p = lt) (hb : ∀ x y, 0 ≤ lt x y ∧ lt x y ≤ 99) (hk : 2 ≤ k ∧ k ≤ 6) (hki : kI = (k : Int)) (hx : 0 ≤ x ∧ x + k ≤ w) (hy : 0 ≤ y ∧ y + k ≤ g) (hu : 0 ≤ u ∧ u + k ≤ w) (hv : 0 ≤ v ∧ v + k ≤ g) (q1 : twn lt k t x y u v → Q (some (.inl 1)) h) (q0 : ¬ twn lt k t x y u v → Q (some (.inl 0)) h) : ja_C l (d + 4) mX12_isTwice (js_sh n) [.inr (.inr (some (90))), .inl (p), .inl (kI), .inl (t), .inl (x), .inl (y), .inl (u), .inl (v)] h Q := by
  have kk : k * k ≤ 36 := Nat.mul_le_mul (show k ≤ 6 by omega) (show k ≤ 6 by omega)
  have kk0 : 4 ≤ k * k := Nat.mul_le_mul (show 2 ≤ k by omega) (show 2 ≤ k by omega)
  have kki := kkI (k := k)
  have wr := jW_r hW
  have mkk : ∀ L : ja_L, ja_get L 2 = some (.inl kI) → jv (jb_mul (jb_li 2) (jb_li 2)) L h ((k * k : Nat) : Int) := fun L g => jv_is (jv_w (jv_mul (jv_li g) (jv_li g)) (by rw [hki, ← kki]; unfold ja_r; omega)) (by rw [hki]; exact kki.symm)
  refine eX12_isTwice _ _ _ _ _ _ _ _ fun r_p r_k r_t r_x r_y r_u r_v ho => ?_
  unfold bX12_isTwice
  unfold ja_r at r_p r_k r_t r_x r_y r_u r_v
  refine jb_if_d (jd_and (jd_lt (jy_sI (jA_i jA_0 (jv_w (jv_sub (jv_li rfl) (jv_li rfl)) (by first | (unfold ja_r; omega) | (unfold ja_rl; omega) | omega | assumption))) fun _ => kX12_abs (by first | (unfold ja_r; omega) | (unfold ja_rl; omega) | omega | assumption)) (jv_li rfl)) (fun _ => (jd_lt (jy_sI (jA_i jA_0 (jv_w (jv_sub (jv_li rfl) (jv_li rfl)) (by first | (unfold ja_r; omega) | (unfold ja_rl; omega) | omega | assumption))) fun _ => kX12_abs (by first | (unfold ja_r; omega) | (unfold ja_rl; omega) | omega | assumption)) (jv_li rfl)))) (fun c1 => ?_) (fun c1 => ?_)
  · rw [hki] at c1
    refine jv_ci _ ⟨Or.inl rfl, ?_⟩
    exact q0 fun w => w.1 c1
  · rw [hki] at c1
    refine jt_sI jv_ci ?_
    refine jb_forc (k * k) (fun (c : Nat) L' h' => ∃ (v_q : Int), L' = [some (.inr (.inr (some (90)))), some (.inl (p)), some (.inl (kI)), some (.inl (t)), some (.inl (x)), some (.inl (y)), some (.inl (u)), some (.inl (v)), some (.inl (v_q))] ∧ v_q = (c : Int) ∧ h = h' ∧ (∀ c2 : Nat, c2 < c → ((lt (x + ((c2 % k : Nat) : Int)) (y + ((c2 / k : Nat) : Int)) - lt (u + ((c2 % k : Nat) : Int)) (v + ((c2 / k : Nat) : Int))).natAbs : Int) ≤ t)) ⟨_, rfl, (by first | rfl | omega | (simp; done) | (simp; omega)), rfl, (by intro c hc; omega)⟩ ?_ ?_ ?_
    · rintro c h_c _ _ ⟨v_q0, rfl, rfl, rfl, e1⟩
      exact jd_eq (jd_lt (jv_li rfl) (mkk _ rfl)) (by omega)
    · rintro c h_c _ _ ⟨v_q0, rfl, rfl, rfl, e1⟩
      obtain ⟨cx, hcx⟩ : ∃ cx : Nat, c % k = cx := ⟨_, rfl⟩
      obtain ⟨cy, hcy⟩ : ∃ cy : Nat, c / k = cy := ⟨_, rfl⟩
      have cb : cx < k ∧ cy < k := by rw [← hcx, ← hcy]; exact cw_b (by omega) h_c
      have l1 := hb (x + (cx : Int)) (y + (cy : Int))
      have l2 := hb (u + (cx : Int)) (v + (cy : Int))
      refine jb_if_d (φ := t < ((lt (x + (cx : Int)) (y + (cy : Int)) - lt (u + (cx : Int)) (v + (cy : Int))).natAbs : Int)) (jd_eq (jd_gt (jy_sI (jA_i jA_0 (jv_w (jv_sub (jy_mI (jr_lr rfl) rfl (jA_i (jA_i (jA_i jA_0 (jv_li rfl)) (jv_w (jv_add (jv_li rfl) (jv_is (x' := (cx : Int)) (jv_remP (jv_li rfl) (jv_li rfl) (by first | (unfold ja_r; omega) | (unfold ja_rl; omega) | omega | assumption) (by first | (unfold ja_r; omega) | (unfold ja_rl; omega) | omega | assumption)) (by rw [hki, ← hcx]; omega))) (by first | (unfold ja_r; omega) | (unfold ja_rl; omega) | omega | assumption))) (jv_w (jv_add (jv_li rfl) (jv_is (x' := (cy : Int)) (jv_divP (jv_li rfl) (jv_li rfl) (by first | (unfold ja_r; omega) | (unfold ja_rl; omega) | omega | assumption) (by first | (unfold ja_r; omega) | (unfold ja_rl; omega) | omega | assumption) (by first | (unfold ja_r; omega) | (unfold ja_rl; omega) | omega | assumption)) (by rw [hki, ← Int.natCast_ediv, hcy]))) (by first | (unfold ja_r; omega) | (unfold ja_rl; omega) | omega | assumption))) fun _ => kX12_lightX hG hW hp (by omega) (by omega)) (jy_mI (jr_lr rfl) rfl (jA_i (jA_i (jA_i jA_0 (jv_li rfl)) (jv_w (jv_add (jv_li rfl) (jv_is (x' := (cx : Int)) (jv_remP (jv_li rfl) (jv_li rfl) (by first | (unfold ja_r; omega) | (unfold ja_rl; omega) | omega | assumption) (by first | (unfold ja_r; omega) | (unfold ja_rl; omega) | omega | assumption)) (by rw [hki, ← hcx]; omega))) (by first | (unfold ja_r; omega) | (unfold ja_rl; omega) | omega | assumption))) (jv_w (jv_add (jv_li rfl) (jv_is (x' := (cy : Int)) (jv_divP (jv_li rfl) (jv_li rfl) (by first | (unfold ja_r; omega) | (unfold ja_rl; omega) | omega | assumption) (by first | (unfold ja_r; omega) | (unfold ja_rl; omega) | omega | assumption) (by first | (unfold ja_r; omega) | (unfold ja_rl; omega) | omega | assumption)) (by rw [hki, ← Int.natCast_ediv, hcy]))) (by first | (unfold ja_r; omega) | (unfold ja_rl; omega) | omega | assumption))) fun _ => kX12_lightX hG hW hp (by omega) (by omega))) (by rw [hlt]; unfold ja_r; omega))) fun _ => kX12_abs (by rw [hlt]; omega)) (jv_li rfl)) (by rw [hlt])) (fun c2 => ?_) (fun c2 => ?_)
      · refine jv_ci _ ⟨Or.inl rfl, ?_⟩
        exact q0 fun w => by have := w.2.1 cy cb.2 cx cb.1; omega
      · exact jt_inc rfl (by first | (unfold ja_r; omega) | (unfold ja_rl; omega) | omega | assumption) ⟨_, rfl, (by first | rfl | omega | (simp; done) | (simp; omega)), rfl, (by intro c2 hc2; by_cases z : c2 = c; subst z; rw [hcx, hcy]; omega; exact e1 c2 (by omega))⟩
    · rintro _ _ ⟨v_q0, rfl, rfl, rfl, e1⟩
      have nr : ner lt k t x y u v := (kk_iff (k := k) (P := fun i j => ((lt (x + (i : Nat)) (y + (j : Nat)) - lt (u + (i : Nat)) (v + (j : Nat))).natAbs : Int) ≤ t) (by omega)).mp fun c hc => e1 c hc
      by_cases z : flt lt k x y
      · refine jt_rZ (φ := False) (jv_cb (jd_eq (jd_not (jd_bt (jy_mI (jr_lr rfl) rfl (jA_i (jA_i (jA_i (jA_i jA_0 (jv_li rfl)) (jv_li rfl)) (jv_li rfl)) (jv_li rfl)) fun _ => pv_of (kX12_isPlain hG hW hp hlt hb hk hki hx hy)))) (by rw [pv_ne]; simp [z]))) ?_
        rw [if_neg id]; exact q0 fun w => w.2.2 z
      · refine jt_rZ (φ := True) (jv_cb (jd_eq (jd_not (jd_bt (jy_mI (jr_lr rfl) rfl (jA_i (jA_i (jA_i (jA_i jA_0 (jv_li rfl)) (jv_li rfl)) (jv_li rfl)) (jv_li rfl)) fun _ => pv_of (kX12_isPlain hG hW hp hlt hb hk hki hx hy)))) (by rw [pv_ne]; simp [z]))) ?_
        rw [if_pos trivial]; exact q1 ⟨c1, nr, z⟩
set_option maxRecDepth 10000 in
theorem kX12_meets {l : Launch} {d : Nat} {h : ja_H} {Q : ja_Q} {sh : ja_S} {x k b : Int} (hx : 0 ≤ x ∧ x ≤ 100) (hk : 0 ≤ k ∧ k ≤ 100) (hb : 0 ≤ b ∧ b ≤ 100) (q : Q (some (.inl (if x < b + 4 ∧ b < x + k then 1 else 0))) h) : ja_C l (d + 1) mX12_meets sh [.inl (x), .inl (k), .inl (b)] h Q := by
  refine eX12_meets _ _ _ fun r_x r_k r_b ho => ?_
  unfold bX12_meets
  unfold ja_r at r_x r_k r_b
  refine jt_rZ (jv_cb (jd_and (jd_lt (jv_li rfl) (jv_w (jv_add (jv_li rfl) jv_ci) (by first | (unfold ja_r; omega) | (unfold ja_rl; omega) | omega | assumption))) (fun _ => (jd_gt (jv_w (jv_add (jv_li rfl) (jv_li rfl)) (by first | (unfold ja_r; omega) | (unfold ja_rl; omega) | omega | assumption)) (jv_li rfl))))) ?_
  exact q
set_option maxRecDepth 10000 in
theorem kX12_isTwiceAsked {l : Launch} {d : Nat} {h : ja_H} {Q : ja_Q} {sh : ja_S} {k t : Int} (q : Q (some (.inl (if (2 ≤ k ∧ k ≤ 6) ∧ 0 ≤ t ∧ t ≤ 9 then 1 else 0))) h) : ja_C l (d + 2) mX12_isTwiceAsked sh [.inl (k), .inl (t)] h Q := by
  refine eX12_isTwiceAsked _ _ fun r_k r_t ho => ?_
  unfold bX12_isTwiceAsked
  unfold ja_r at r_k r_t
  refine jt_rZ (jv_cb (jd_and (jd_b (jy_sI (jA_i (jA_i (jA_i jA_0 (jv_li rfl)) jv_ci) jv_ci) fun _ => kX12_isIn)) (fun _ => (jd_b (jy_sI (jA_i (jA_i (jA_i jA_0 (jv_li rfl)) jv_ci) jv_ci) fun _ => kX12_isIn))))) ?_
  exact q
/-- the reference's state of the search: n the count; its object's cell 90, slot 10 -/
def tR (k mx : Nat) (T : Nat → Nat → Prop) (all bx bY q r : Nat) (f : Nat → Nat → Int) (c : Int) : Prop := tP T all q r c (tcF mx f 96) ∧ f 90 10 = pv (tIn T k mx all q r bx bY)
theorem pv_c {P R : Prop} (h : P ↔ R) : pv P = pv R := by rw [propext h]
theorem tR_f {k mx : Nat} {T : Nat → Nat → Prop} {all bx bY q r : Nat} {f : Nat → Nat → Int} {c : Int} (h : tR k mx T all bx bY q r f c) (h1 : q < r) (h2 : r < all) (t : ¬ T q r) : tR k mx T all bx bY q (r + 1) f c := by
  refine ⟨tP_f h.1 h1 h2 t, ?_⟩
  rw [h.2]
  refine pv_c ?_
  unfold tIn
  have e : ∀ a b, tD T all q (r + 1) a b ↔ tD T all q r a b := fun a b => by rw [tD_s h1 h2]; exact ⟨fun w => w.elim id fun w => absurd w.2.2 t, Or.inl⟩
  simp only [e]
theorem tR_n {k mx : Nat} {T : Nat → Nat → Prop} {all bx bY q : Nat} {f : Nat → Nat → Int} {c : Int} (h : tR k mx T all bx bY q all f c) : tR k mx T all bx bY (q + 1) (q + 2) f c := by
  refine ⟨tP_n h.1, ?_⟩
  rw [h.2]
  refine pv_c ?_
  unfold tIn
  simp only [tD_n]
theorem tR_t {k mx : Nat} {T : Nat → Nat → Prop} {all bx bY q r : Nat} {I f : Nat → Nat → Int} {c : Int} (h : tR k mx T all bx bY q r I c) (h1 : q < r) (h2 : r < all) (t : T q r) (hF : c = 0 → tcF mx f 96 q r) (hF2 : c ≠ 0 → f 96 = I 96) (h10 : f 90 10 = pv (tIn T k mx all q r bx bY ∨ tMe k mx bx bY q ∨ tMe k mx bx bY r)) : tR k mx T all bx bY q (r + 1) f (c + 1) := by
  refine ⟨tP_t h.1 h1 h2 t hF (fun z a b w => by unfold tcF at *; rw [hF2 z]; exact w), ?_⟩
  rw [h10]
  refine pv_c ?_
  unfold tIn
  constructor
  · rintro (⟨a, b, d, e⟩ | e)
    · exact ⟨a, b, (tD_s h1 h2).mpr (Or.inl d), e⟩
    · exact ⟨q, r, (tD_s h1 h2).mpr (Or.inr ⟨rfl, rfl, t⟩), e⟩
  · rintro ⟨a, b, d, e⟩
    rcases (tD_s h1 h2).mp d with d | ⟨rfl, rfl, -⟩
    · exact Or.inl ⟨a, b, d, e⟩
    · exact Or.inr e
