/-! tokens of a tape T of Ln bytes -/
def blk (b : Int) : Bool := decide (b = 32 ∨ b = 10)
def ltr (b : Int) : Bool := decide ((97 ≤ b ∧ b ≤ 122) ∨ (65 ≤ b ∧ b ≤ 90))
def dgt (b : Int) : Bool := decide (48 ≤ b ∧ b ≤ 57)
def sgn (b : Int) : Bool := decide ((b = 43 ∨ b = 45 ∨ b = 42 ∨ b = 47) ∨ b = 40 ∨ b = 41 ∨ b = 123 ∨ b = 125 ∨ b = 59)
def rn (p : Int → Bool) (T : Nat → Int) (Ln : Nat) : Nat → Nat → Nat
  | 0, a => a
  | k + 1, a => if a < Ln ∧ p (T a) = true then rn p T Ln k (a + 1) else a
/-- where a run of such bytes ends -/
def rnE (p : Int → Bool) (T : Nat → Int) (Ln a : Nat) : Nat := rn p T Ln (Ln - a) a
theorem rnE_t {p : Int → Bool} {T : Nat → Int} {Ln a : Nat} (h : a < Ln) (hp : p (T a) = true) : rnE p T Ln a = rnE p T Ln (a + 1) := by
  unfold rnE
  rw [show Ln - a = (Ln - (a + 1)) + 1 by omega, rn, if_pos ⟨h, hp⟩]
theorem rnE_f {p : Int → Bool} {T : Nat → Int} {Ln a : Nat} (h : ¬ (a < Ln ∧ p (T a) = true)) : rnE p T Ln a = a := by
  unfold rnE
  cases e : Ln - a with
  | zero => rfl
  | succ k => rw [rn, if_neg h]
theorem rn_b {p : Int → Bool} {T : Nat → Int} {Ln : Nat} : ∀ k a, a ≤ rn p T Ln k a ∧ (a ≤ Ln → rn p T Ln k a ≤ Ln) ∧ ∀ j, a ≤ j → j < rn p T Ln k a → p (T j) = true
  | 0, a => ⟨Nat.le_refl a, fun h => h, fun j h1 h2 => by simp only [rn] at h2; omega⟩
  | k + 1, a => by
    rw [rn]
    split
    · rename_i c
      have ih := rn_b (p := p) (T := T) (Ln := Ln) k (a + 1)
      refine ⟨by omega, fun _ => ih.2.1 (by omega), fun j h1 h2 => ?_⟩
      by_cases z : j = a
      · subst z; exact c.2
      · exact ih.2.2 j (by omega) h2
    · exact ⟨Nat.le_refl a, fun h => h, fun j h1 h2 => by omega⟩
theorem rnE_b {p : Int → Bool} {T : Nat → Int} {Ln : Nat} (a : Nat) : a ≤ rnE p T Ln a ∧ (a ≤ Ln → rnE p T Ln a ≤ Ln) ∧ ∀ j, a ≤ j → j < rnE p T Ln a → p (T j) = true := rn_b _ _
/-- where the next token starts; its kind (as the class has it), its end, its value -/
def tkS (T : Nat → Int) (Ln a : Nat) : Nat := rnE blk T Ln a
def tkK (T : Nat → Int) (Ln s : Nat) : Int := if Ln ≤ s then 0 else if ltr (T s) = true then 1 else if dgt (T s) = true then 2 else if sgn (T s) = true then T s else 3
def tkE (T : Nat → Int) (Ln s : Nat) : Nat := if Ln ≤ s then s else if ltr (T s) = true then rnE ltr T Ln s else if dgt (T s) = true then rnE dgt T Ln s else s + 1
def tkV (T : Nat → Int) (s : Nat) : Nat → Int
  | 0 => 0
  | j + 1 => min 1000 (tkV T s j * 10 + T (s + j) - 48)
def tkR (T : Nat → Int) (s : Nat) : Nat → Int
  | 0 => 0
  | j + 1 => if tkR T s j < 100000 then 10 * tkR T s j + T (s + j) - 48 else tkR T s j
theorem tkV_b {T : Nat → Int} {s : Nat} : ∀ j : Nat, (∀ i, i < j → dgt (T (s + i)) = true) → 0 ≤ tkV T s j ∧ tkV T s j ≤ 1000
  | 0, _ => by simp [tkV]
  | j + 1, h => by
    have ih := tkV_b (T := T) (s := s) j (fun i hi => h i (by omega))
    have hj := h j (by omega)
    unfold dgt at hj
    simp only [decide_eq_true_eq] at hj
    simp only [tkV]; omega
theorem tkR_b {T : Nat → Int} {s : Nat} : ∀ j : Nat, (∀ i, i < j → dgt (T (s + i)) = true) → (0 ≤ tkR T s j ∧ tkR T s j ≤ 1000000) ∧ ((tkR T s j ≤ 999 ∧ tkV T s j = tkR T s j) ∨ (999 < tkR T s j ∧ tkV T s j = 1000))
  | 0, _ => by simp [tkV, tkR]
  | j + 1, h => by
    have ih := tkR_b (T := T) (s := s) j (fun i hi => h i (by omega))
    have hj := h j (by omega)
    unfold dgt at hj
    simp only [decide_eq_true_eq] at hj
    simp only [tkV, tkR]
    split <;> omega
theorem tkE_b {T : Nat → Int} {Ln s : Nat} (hs : s ≤ Ln) : s ≤ tkE T Ln s ∧ tkE T Ln s ≤ Ln ∧ (s < Ln → s < tkE T Ln s) := by
  have b1 := rnE_b (p := ltr) (T := T) (Ln := Ln) s
  have b2 := rnE_b (p := dgt) (T := T) (Ln := Ln) s
  unfold tkE
  split
  · omega
  · rename_i c
    split
    · rename_i d
      have e := rnE_t (p := ltr) (T := T) (Ln := Ln) (a := s) (by omega) d
      have b3 := rnE_b (p := ltr) (T := T) (Ln := Ln) (s + 1)
      rw [e] at b1 ⊢
      omega
    · split
      · rename_i d
        have e := rnE_t (p := dgt) (T := T) (Ln := Ln) (a := s) (by omega) d
        have b3 := rnE_b (p := dgt) (T := T) (Ln := Ln) (s + 1)
        rw [e] at b2 ⊢
        omega
      · omega
/-- a Program's cells -/
def jPg (n P : Nat) (R : Nat → Nat → Option Nat) : Prop := (js_sh n)[P]? = some (0, 4) ∧ (js_sh n)[P + 1]? = some (1, 16) ∧ (js_sh n)[P + 2]? = some (1, 112) ∧ (js_sh n)[P + 3]? = some (1, 300) ∧ R P 0 = some (P + 1) ∧ R P 1 = some (P + 2) ∧ R P 2 = some (P + 3)
theorem jPg_of {n i : Nat} {R : Nat → Nat → Option Nat} (hG : jG R) (hi : i < 6) : jPg n (66 + 4 * i) R := by
  match i, hi with
  | 0, _ => exact ⟨rfl, rfl, rfl, rfl, jG_at hG rfl, jG_at hG rfl, jG_at hG rfl⟩
  | 1, _ => exact ⟨rfl, rfl, rfl, rfl, jG_at hG rfl, jG_at hG rfl, jG_at hG rfl⟩
  | 2, _ => exact ⟨rfl, rfl, rfl, rfl, jG_at hG rfl, jG_at hG rfl, jG_at hG rfl⟩
  | 3, _ => exact ⟨rfl, rfl, rfl, rfl, jG_at hG rfl, jG_at hG rfl, jG_at hG rfl⟩
  | 4, _ => exact ⟨rfl, rfl, rfl, rfl, jG_at hG rfl, jG_at hG rfl, jG_at hG rfl⟩
  | 5, _ => exact ⟨rfl, rfl, rfl, rfl, jG_at hG rfl, jG_at hG rfl, jG_at hG rfl⟩
set_option maxRecDepth 10000 in
theorem kX4_clear {l : Launch} {d : Nat} {h : ja_H} {Q : ja_Q} {n P : Nat} (hg : jPg n P h.1) (q : Q none (h.1, ja_up (ja_up h.2.1 P 3 0) P 4 0, h.2.2)) : ja_C l (d + 1) mX4_clear (js_sh n) [.inr (.inr (some (P)))] h Q := by
  obtain ⟨g1, g2, g3, g4, g5, g6, g7⟩ := hg
  refine eX4_clear _ fun ho => ?_
  unfold bX4_clear
  refine jt_pI (jr_lr rfl) (by first | rfl | assumption) jv_ci ?_
  try dsimp only
  refine jt_pI (jr_lr rfl) (by first | rfl | assumption) jv_ci ?_
  try dsimp only
  exact q
set_option maxRecDepth 10000 in
theorem kX4_addAct {l : Launch} {d : Nat} {h : ja_H} {Q : ja_Q} {n P : Nat} (hg : jPg n P h.1) {c : Nat} {k : Int} (ha : h.2.1 P 3 = (c : Int)) (hc : c ≤ 16) (q1 : c < 16 → Q (some (.inl (c : Int))) (h.1, ja_up (ja_up h.2.1 (P + 1) c k) P 3 ((c : Int) + 1), h.2.2)) (q2 : c = 16 → Q (some (.inl (-1))) h) : ja_C l (d + 2) mX4_addAct (js_sh n) [.inr (.inr (some (P))), .inl (k)] h Q := by
  obtain ⟨g1, g2, g3, g4, g5, g6, g7⟩ := hg
  refine eX4_addAct _ _ fun r_kind ho => ?_
  unfold bX4_addAct
  unfold ja_r at r_kind
  refine jb_if_d (φ := ¬ c < 16) (jd_eq (jd_not (jd_b (jy_sI (jA_i (jA_i (jA_i jA_0 (jv_gF (jr_lr rfl) (by first | rfl | assumption) (by first | assumption | rfl))) jv_ci) jv_ci) fun _ => kX11_within))) (by omega)) (fun c1 => ?_) (fun c1 => ?_)
  · refine jt_rI jv_ci ?_
    exact q2 (by omega)
  · have c1 := Classical.not_not.mp c1
    refine jt_wI (jr_g (jr_lr rfl) (by first | rfl | assumption) (by first | rfl | assumption | exact jG_at hG rfl | exact jG_90 hG rfl)) (by first | rfl | assumption) (jv_gF (jr_lr rfl) (by first | rfl | assumption) (by first | assumption | rfl)) (jv_li rfl) (by first | (unfold ja_r; omega) | (unfold ja_rl; omega) | omega | assumption) (by first | (unfold ja_r; omega) | (unfold ja_rl; omega) | omega | assumption) ?_
    try dsimp only
    rw [show ((c : Nat) : Int).toNat = c by omega]
    refine jt_uG (w := (c : Int) + 1) (jr_lr rfl) (by first | rfl | assumption) jv_ci (by (try dsimp only); rw [ja_upO (by omega), ha, ja_w_id (by unfold ja_r; omega)]) ?_
    try dsimp only
    have e3 : ja_up (ja_up h.2.1 (P + 1) c k) P 3 ((c : Int) + 1) P 3 = (c : Int) + 1 := ja_upE rfl rfl
    refine jt_rI (x := (c : Int)) (jv_is (jv_w (jv_sub (jv_gF (jr_lr rfl) (by first | rfl | assumption) (by first | assumption | rfl)) jv_ci) (by first | (unfold ja_r; omega) | (unfold ja_rl; omega) | omega | assumption)) (by omega)) ?_
    exact q1 c1
set_option maxRecDepth 10000 in
theorem kX4_kindOf {l : Launch} {d : Nat} {h : ja_H} {Q : ja_Q} {n P : Nat} (hg : jPg n P h.1) {a : Nat} (ha : a < 16) (q : Q (some (.inl (h.2.1 (P + 1) a))) h) : ja_C l (d + 2) mX4_kindOf (js_sh n) [.inr (.inr (some (P))), .inl ((a : Int))] h Q := by
  obtain ⟨g1, g2, g3, g4, g5, g6, g7⟩ := hg
  refine eX4_kindOf _ _ fun r_act ho => ?_
  unfold bX4_kindOf
  unfold ja_r at r_act
  refine jt_rI (x := h.2.1 (P + 1) a) (jv_is (jv_cv (φ := True) (y := 0) (jd_eq (jd_b (jy_sI (jA_i (jA_i (jA_i jA_0 (jv_li rfl)) jv_ci) jv_ci) fun _ => kX11_within)) (by simp; omega)) (fun _ => (jv_aI (jr_g (jr_lr rfl) g1 g5) (jv_li rfl) g2 (by omega) (by omega))) (fun y => absurd trivial y)) (by exact if_pos trivial)) ?_
  exact q
set_option maxRecDepth 10000 in
theorem kX4_setNumber {l : Launch} {d : Nat} {h : ja_H} {Q : ja_Q} {n P : Nat} (hg : jPg n P h.1) {a s : Nat} {v : Int} (ha : a < 16) (hs : s < 7) (q : Q none (h.1, ja_up h.2.1 (P + 2) (7 * a + s) v, h.2.2)) : ja_C l (d + 2) mX4_setNumber (js_sh n) [.inr (.inr (some (P))), .inl ((a : Int)), .inl ((s : Int)), .inl (v)] h Q := by
  obtain ⟨g1, g2, g3, g4, g5, g6, g7⟩ := hg
  refine eX4_setNumber _ _ _ _ fun r_act r_slot r_v ho => ?_
  unfold bX4_setNumber
  unfold ja_r at r_act r_slot r_v
  refine jb_if_d (jd_and (jd_b (jy_sI (jA_i (jA_i (jA_i jA_0 (jv_li rfl)) jv_ci) jv_ci) fun _ => kX11_within)) (fun _ => (jd_b (jy_sI (jA_i (jA_i (jA_i jA_0 (jv_li rfl)) jv_ci) jv_ci) fun _ => kX11_within)))) (fun c1 => ?_) (fun c1 => ?_)
  · refine jt_wI (jr_g (jr_lr rfl) (by first | rfl | assumption) (by first | rfl | assumption | exact jG_at hG rfl | exact jG_90 hG rfl)) (by first | rfl | assumption) (jv_w (jv_add (jv_w (jv_mul (jv_li rfl) jv_ci) (by first | (unfold ja_r; omega) | (unfold ja_rl; omega) | omega | assumption)) (jv_li rfl)) (by first | (unfold ja_r; omega) | (unfold ja_rl; omega) | omega | assumption)) (jv_li rfl) (by first | (unfold ja_r; omega) | (unfold ja_rl; omega) | omega | assumption) (by first | (unfold ja_r; omega) | (unfold ja_rl; omega) | omega | assumption) ?_
    try dsimp only
    rw [show ((a : Int) * 7 + (s : Int)).toNat = 7 * a + s by omega]
    exact q
  · exact absurd (by omega) c1
set_option maxRecDepth 10000 in
theorem kX4_numberOf {l : Launch} {d : Nat} {h : ja_H} {Q : ja_Q} {n P : Nat} (hg : jPg n P h.1) {a s : Nat} (ha : a < 16) (hs : s < 7) (q : Q (some (.inl (h.2.1 (P + 2) (7 * a + s)))) h) : ja_C l (d + 1) mX4_numberOf (js_sh n) [.inr (.inr (some (P))), .inl ((a : Int)), .inl ((s : Int))] h Q := by
  obtain ⟨g1, g2, g3, g4, g5, g6, g7⟩ := hg
  have e : h.2.1 (P + 2) ((a : Int) * 7 + (s : Int)).toNat = h.2.1 (P + 2) (7 * a + s) := by rw [show ((a : Int) * 7 + (s : Int)).toNat = 7 * a + s by omega]
  refine eX4_numberOf _ _ _ fun r_act r_slot ho => ?_
  unfold bX4_numberOf
  unfold ja_r at r_act r_slot
  refine jt_sI (x := 1) (jv_is (jv_cb (jd_and (jd_and (jd_and (jd_ge (jv_li rfl) jv_ci) (fun _ => (jd_lt (jv_li rfl) jv_ci))) (fun _ => (jd_ge (jv_li rfl) jv_ci))) (fun _ => (jd_lt (jv_li rfl) jv_ci)))) (by exact if_pos (by omega))) ?_
  refine jt_rI (x := h.2.1 (P + 2) (7 * a + s)) (jv_is (jv_cv (φ := True) (y := 0) (jd_eq (jd_bt (jv_li rfl)) (by simp)) (fun _ => (jv_fI (jr_g (jr_lr rfl) g1 g6) (jv_w (jv_add (jv_w (jv_mul (jv_li rfl) jv_ci) (by first | (unfold ja_r; omega) | (unfold ja_rl; omega) | omega | assumption)) (jv_li rfl)) (by first | (unfold ja_r; omega) | (unfold ja_rl; omega) | omega | assumption)) g3 (by omega) (by omega) e)) (fun y => absurd trivial y)) (by exact if_pos trivial)) ?_
  exact q
set_option maxRecDepth 10000 in
theorem kX4_addCode {l : Launch} {d : Nat} {h : ja_H} {Q : ja_Q} {n P : Nat} (hg : jPg n P h.1) {c : Nat} {v : Int} (ha : h.2.1 P 4 = (c : Int)) (hc : c < 300) (q : Q none (h.1, ja_up (ja_up h.2.1 (P + 3) c v) P 4 ((c : Int) + 1), h.2.2)) : ja_C l (d + 2) mX4_addCode (js_sh n) [.inr (.inr (some (P))), .inl (v)] h Q := by
  obtain ⟨g1, g2, g3, g4, g5, g6, g7⟩ := hg
  refine eX4_addCode _ _ fun r_c ho => ?_
  unfold bX4_addCode
  unfold ja_r at r_c
  refine jb_if_d (jd_b (jy_sI (jA_i (jA_i (jA_i jA_0 (jv_gF (jr_lr rfl) (by first | rfl | assumption) (by first | assumption | rfl))) jv_ci) jv_ci) fun _ => kX11_within)) (fun c1 => ?_) (fun c1 => ?_)
  · refine jt_wI (jr_g (jr_lr rfl) (by first | rfl | assumption) (by first | rfl | assumption | exact jG_at hG rfl | exact jG_90 hG rfl)) (by first | rfl | assumption) (jv_gF (jr_lr rfl) (by first | rfl | assumption) (by first | assumption | rfl)) (jv_li rfl) (by first | (unfold ja_r; omega) | (unfold ja_rl; omega) | omega | assumption) (by first | (unfold ja_r; omega) | (unfold ja_rl; omega) | omega | assumption) ?_
    try dsimp only
    rw [show ((c : Nat) : Int).toNat = c by omega]
    refine jt_uG (w := (c : Int) + 1) (jr_lr rfl) (by first | rfl | assumption) jv_ci (by (try dsimp only); rw [ja_upO (by omega), ha, ja_w_id (by unfold ja_r; omega)]) ?_
    try dsimp only
    exact q
  · exact absurd (by omega) c1
set_option maxRecDepth 10000 in
theorem kX4_codeAt {l : Launch} {d : Nat} {h : ja_H} {Q : ja_Q} {n P : Nat} (hg : jPg n P h.1) {a : Nat} (ha : a < 300) (q : Q (some (.inl (h.2.1 (P + 3) a))) h) : ja_C l (d + 1) mX4_codeAt (js_sh n) [.inr (.inr (some (P))), .inl ((a : Int))] h Q := by
  obtain ⟨g1, g2, g3, g4, g5, g6, g7⟩ := hg
  refine eX4_codeAt _ _ fun r_place ho => ?_
  unfold bX4_codeAt
  unfold ja_r at r_place
  refine jt_rI (x := h.2.1 (P + 3) a) (jv_is (jv_cv (φ := True) (y := 0) (jd_eq (jd_and (jd_ge (jv_li rfl) jv_ci) (fun _ => (jd_lt (jv_li rfl) jv_ci))) (by simp; omega)) (fun _ => (jv_aI (jr_g (jr_lr rfl) g1 g7) (jv_li rfl) g4 (by omega) (by omega))) (fun y => absurd trivial y)) (by exact if_pos trivial)) ?_
  exact q
