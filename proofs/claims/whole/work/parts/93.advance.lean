set_option maxRecDepth 10000 in
theorem kX5_isBlank {l : Launch} {d : Nat} {h : ja_H} {Q : ja_Q} {sh : ja_S} {b : Int} (q : Q (some (.inl (if b = 32 ∨ b = 10 then 1 else 0))) h) : ja_C l (d + 1) mX5_isBlank sh [.inl (b)] h Q := by
  refine eX5_isBlank _ fun r_b ho => ?_
  unfold bX5_isBlank
  unfold ja_r at r_b
  refine jt_rZ (jv_cb (jd_or (jd_eqI (jv_li rfl) jv_ci) (fun _ => (jd_eqI (jv_li rfl) jv_ci)))) ?_
  exact q
set_option maxRecDepth 10000 in
theorem kX5_isLetter {l : Launch} {d : Nat} {h : ja_H} {Q : ja_Q} {sh : ja_S} {b : Int} (q : Q (some (.inl (if (97 ≤ b ∧ b ≤ 122) ∨ (65 ≤ b ∧ b ≤ 90) then 1 else 0))) h) : ja_C l (d + 1) mX5_isLetter sh [.inl (b)] h Q := by
  refine eX5_isLetter _ fun r_b ho => ?_
  unfold bX5_isLetter
  unfold ja_r at r_b
  refine jt_rZ (φ := (97 ≤ b ∧ b ≤ 122) ∨ (65 ≤ b ∧ b ≤ 90)) (jv_is (jv_cb (jd_or (jd_and (jd_ge (jv_li rfl) jv_ci) (fun _ => (jd_le (jv_li rfl) jv_ci))) (fun _ => (jd_and (jd_ge (jv_li rfl) jv_ci) (fun _ => (jd_le (jv_li rfl) jv_ci)))))) (by rfl)) ?_
  exact q
set_option maxRecDepth 10000 in
theorem kX5_isDigit {l : Launch} {d : Nat} {h : ja_H} {Q : ja_Q} {sh : ja_S} {b : Int} (q : Q (some (.inl (if 48 ≤ b ∧ b ≤ 57 then 1 else 0))) h) : ja_C l (d + 1) mX5_isDigit sh [.inl (b)] h Q := by
  refine eX5_isDigit _ fun r_b ho => ?_
  unfold bX5_isDigit
  unfold ja_r at r_b
  refine jt_rZ (jv_cb (jd_and (jd_ge (jv_li rfl) jv_ci) (fun _ => (jd_le (jv_li rfl) jv_ci)))) ?_
  exact q
set_option maxRecDepth 10000 in
theorem kX5_isSign {l : Launch} {d : Nat} {h : ja_H} {Q : ja_Q} {sh : ja_S} {b : Int} (q : Q (some (.inl (if sgn b = true then 1 else 0))) h) : ja_C l (d + 1) mX5_isSign sh [.inl (b)] h Q := by
  refine eX5_isSign _ fun r_b ho => ?_
  unfold bX5_isSign
  unfold ja_r at r_b
  refine jt_sI (jv_cb (jd_or (jd_or (jd_or (jd_eqI (jv_li rfl) jv_ci) (fun _ => (jd_eqI (jv_li rfl) jv_ci))) (fun _ => (jd_eqI (jv_li rfl) jv_ci))) (fun _ => (jd_eqI (jv_li rfl) jv_ci)))) ?_
  refine jt_rZ (φ := sgn b = true) (jv_is (jv_cb (jd_or (jd_or (jd_or (jd_or (jd_or (jd_b (jv_li rfl)) (fun _ => (jd_eqI (jv_li rfl) jv_ci))) (fun _ => (jd_eqI (jv_li rfl) jv_ci))) (fun _ => (jd_eqI (jv_li rfl) jv_ci))) (fun _ => (jd_eqI (jv_li rfl) jv_ci))) (fun _ => (jd_eqI (jv_li rfl) jv_ci)))) (by unfold sgn; simp only [decide_eq_true_eq]; congr 1; apply propext; omega)) ?_
  exact q
set_option maxRecDepth 10000 in
theorem kX5_byteAt {l : Launch} {d : Nat} {h : ja_H} {Q : ja_Q} {n p Ln : Nat} {T : Nat → Int} (hG : jG h.1) (hL : h.2.1 48 1 = (Ln : Int)) (hL3 : Ln ≤ 300) (hT : h.2.1 49 = T) (q : Q (some (.inl (if p < Ln then T p else -1))) h) : ja_C l (d + 1) mX5_byteAt (js_sh n) [.inr (.inr (some (48))), .inl ((p : Int))] h Q := by
  have eT : h.2.1 49 ((p : Nat) : Int).toNat = T p := by rw [hT]; rfl
  refine eX5_byteAt _ _ fun r_at ho => ?_
  unfold bX5_byteAt
  unfold ja_r at r_at
  refine jt_rI (jv_cv (φ := p < Ln) (jd_eq (jd_and (jd_and (jd_ge (jv_li rfl) jv_ci) (fun _ => (jd_lt (jv_li rfl) (jv_gF (jr_lr rfl) rfl hL)))) (fun _ => (jd_lt (jv_li rfl) (jv_len (jr_g (jr_lr rfl) rfl (jG_at hG rfl)) rfl (by decide))))) (by omega)) (fun y => (jv_fI (jr_g (jr_lr rfl) rfl (jG_at hG rfl)) (jv_li rfl) rfl (by omega) (by omega) eT)) (fun _ => jv_ci)) ?_
  exact q
set_option maxRecDepth 10000 in
theorem kX5_refuse {l : Launch} {d : Nat} {h : ja_H} {Q : ja_Q} {n : Nat} {v : Int} (hG : jG h.1) (q : Q (some (.inl 0)) (h.1, ja_up (ja_up h.2.1 48 8 v) 48 9 (h.2.1 48 4), h.2.2)) : ja_C l (d + 1) mX5_refuse (js_sh n) [.inr (.inr (some (48))), .inl (v)] h Q := by
  refine eX5_refuse _ _ fun r_why ho => ?_
  unfold bX5_refuse
  unfold ja_r at r_why
  refine jt_pI (jr_lr rfl) (by first | rfl | assumption) (jv_li rfl) ?_
  try dsimp only
  refine jt_pI (jr_lr rfl) (by first | rfl | assumption) (jv_is (x' := h.2.1 48 4) (jv_gF (jr_lr rfl) (by first | rfl | assumption) (by first | assumption | rfl)) (by (try dsimp only); rw [ja_upO (by omega)])) ?_
  try dsimp only
  refine jv_ci _ ⟨Or.inl rfl, ?_⟩
  exact q
/-- of the class's reader only the slots 2 to 5 change -/
def jaf (I f : Nat → Nat → Int) : Prop := jfr [48] I f ∧ ∀ j, j < 2 ∨ 5 < j → f 48 j = I 48 j
theorem jaf_rf (I : Nat → Nat → Int) : jaf I I := ⟨jfr_rf _ _, fun _ _ => rfl⟩
theorem jaf_up {I f : Nat → Nat → Int} {j : Nat} {v : Int} (h : jaf I f) (hj : 2 ≤ j ∧ j ≤ 5) : jaf I (ja_up f 48 j v) := ⟨jfr_up h.1 (by decide), fun k hk => by rw [ja_upO (by omega)]; exact h.2 k hk⟩
theorem jaf_tr {I f g : Nat → Nat → Int} (h : jaf I f) (h2 : jaf f g) : jaf I g := ⟨jfr_tr h.1 h2.1, fun k hk => (h2.2 k hk).trans (h.2 k hk)⟩
/-- the class's reader stands behind the token that starts at s -/
def tkO (T : Nat → Int) (Ln s : Nat) (f : Nat → Nat → Int) : Prop := f 48 2 = ((tkE T Ln s : Nat) : Int) ∧ f 48 3 = tkK T Ln s ∧ f 48 4 = (s : Int) ∧ (tkK T Ln s = 2 → f 48 5 = tkV T s (tkE T Ln s - s))
theorem ifb {b : Int} {φ : Prop} [Decidable φ] : ((if φ then (1 : Int) else 0) ≠ 0) ↔ φ := by by_cases z : φ <;> simp [z]
set_option maxRecDepth 10000 in
theorem kX5_advance {l : Launch} {d : Nat} {h : ja_H} {Q : ja_Q} {n a Ln : Nat} {T : Nat → Int} (hG : jG h.1) (hL : h.2.1 48 1 = (Ln : Int)) (hL3 : Ln ≤ 300) (hT : h.2.1 49 = T) (hb : ∀ j, j < Ln → 0 ≤ T j ∧ T j ≤ 255) (ha : h.2.1 48 2 = (a : Int)) (ha2 : a ≤ Ln) (q : ∀ f, jaf h.2.1 f → tkO T Ln (tkS T Ln a) f → Q none (h.1, f, h.2.2)) : ja_C l (d + 2) mX5_advance (js_sh n) [.inr (.inr (some (48)))] h Q := by
  refine eX5_advance _ fun ho => ?_
  unfold bX5_advance
  refine jb_whl (fun (m : Nat) L' h' => ∃ (o1_1 : Option ja_W) (f : Nat → Nat → Int), L' = [some (.inr (.inr (some (48)))), o1_1] ∧ (h.1, f, h.2.2) = h' ∧ (jaf h.2.1 f) ∧ (∃ p : Nat, f 48 2 = (p : Int) ∧ p + m = Ln ∧ rnE blk T Ln p = tkS T Ln a)) ⟨Ln - a, ⟨_, _, rfl, rfl, (by exact jaf_rf _), (by exact ⟨a, ha, by omega, rfl⟩)⟩⟩ ?_
  rintro m _ _ ⟨o1_1, f, rfl, rfl, fr, fp⟩
  obtain ⟨p, fp, pm, pe⟩ := fp
  have fL : f 48 1 = (Ln : Int) := by rw [fr.2 1 (by decide)]; exact hL
  have fT : f 49 = T := by rw [fr.1 49 (by decide)]; exact hT
  refine (jd_eq (φ' := p < Ln ∧ blk (T p) = true) (jd_and (jd_lt (jv_gF (jr_lr rfl) rfl fp) (jv_gF (jr_lr rfl) rfl fL)) (fun y => (jd_b (jy_sI (jA_i jA_0 (jv_is (x' := T p) (jy_mI (jr_lr rfl) rfl (jA_i jA_0 (jv_gF (jr_lr rfl) rfl fp)) fun _ => kX5_byteAt (h := (h.1, f, h.2.2)) hG fL hL3 fT) (if_pos (by omega)))) fun _ => kX5_isBlank)))) (by unfold blk; simp only [decide_eq_true_eq]; omega)) _ _ (fun c => ?_) (fun c => ?_)
  · refine jt_uG (w := (p : Int) + 1) (jr_lr rfl) (by first | rfl | assumption) jv_ci (by (try dsimp only); rw [fp, ja_w_id (by unfold ja_r; omega)]) ?_
    try dsimp only
    exact ⟨m - 1, (by omega), _, _, rfl, rfl, (by exact jaf_up fr (by decide)), (by exact ⟨p + 1, by rw [ja_upE rfl rfl]; omega, by omega, by rw [← rnE_t c.1 c.2]; exact pe⟩)⟩
  · have es : tkS T Ln a = p := by rw [← pe]; exact rnE_f c
    rw [es] at q
    have sb : p ≤ Ln := by omega
    refine jt_pI (jr_lr rfl) (by first | rfl | assumption) (jv_is (x' := (p : Int)) (jv_gF (jr_lr rfl) (by first | rfl | assumption) (by first | assumption | rfl)) (by rfl)) ?_
    try dsimp only
    have fr1 : jaf h.2.1 (ja_up f 48 4 (p : Int)) := jaf_up fr (by decide)
    obtain ⟨f1, hf1⟩ : ∃ f1, ja_up f 48 4 (p : Int) = f1 := ⟨_, rfl⟩
    have p1 : f1 48 2 = (p : Int) := by rw [← hf1, ja_upO (by omega)]; exact fp
    have s1 : f1 48 4 = (p : Int) := by rw [← hf1]; exact ja_upE rfl rfl
    rw [hf1] at fr1 ⊢
    have f1L : f1 48 1 = (Ln : Int) := by rw [fr1.2 1 (by decide)]; exact hL
    have f1T : f1 49 = T := by rw [fr1.1 49 (by decide)]; exact hT
    refine jt_sI (x := (if p < Ln then T p else -1)) (jv_is (jy_mI (jr_lr rfl) rfl (jA_i jA_0 (jv_gF (jr_lr rfl) rfl p1)) fun _ => kX5_byteAt (h := (h.1, f1, h.2.2)) hG f1L hL3 f1T) (by rfl)) ?_
    refine jb_if_d (φ := Ln ≤ p) (jd_eq (jd_ge (jv_gF (jr_lr rfl) rfl p1) (jv_gF (jr_lr rfl) rfl f1L)) (by omega)) (fun c1 => ?_) (fun c1 => ?_)
    · refine jt_pI (jr_lr rfl) (by first | rfl | assumption) jv_ci ?_
      try dsimp only
      refine q _ (jaf_up fr1 (by decide)) ?_
      unfold tkO tkE tkK
      rw [if_pos c1, if_pos c1]
      exact ⟨by rw [ja_upO (by omega)]; exact p1, ja_upE rfl rfl, by rw [ja_upO (by omega)]; exact s1, fun y => absurd y (by decide)⟩
      skip
    · have c1 := Nat.lt_of_not_le c1
      rw [if_pos c1]
      have tb := hb p c1
      refine jb_if_d (φ := ltr (T p) = true) (jd_eq (jd_b (jy_sI (jA_i jA_0 (jv_li rfl)) fun _ => kX5_isLetter)) (by unfold ltr; simp only [decide_eq_true_eq])) (fun c2 => ?_) (fun c2 => ?_)
      · refine jt_pI (jr_lr rfl) (by first | rfl | assumption) jv_ci ?_
        try dsimp only
        obtain ⟨f2, hf2⟩ : ∃ f2, ja_up f1 48 3 1 = f2 := ⟨_, rfl⟩
        have fr2 : jaf h.2.1 f2 := by rw [← hf2]; exact jaf_up fr1 (by decide)
        have p2 : f2 48 2 = (p : Int) := by rw [← hf2, ja_upO (by omega)]; exact p1
        have s2 : f2 48 4 = (p : Int) := by rw [← hf2, ja_upO (by omega)]; exact s1
        have k2 : f2 48 3 = 1 := by rw [← hf2]; exact ja_upE rfl rfl
        rw [hf2]
        refine jb_whl (fun (m : Nat) L' h' => ∃ (g : Nat → Nat → Int), L' = [some (.inr (.inr (some (48)))), some (.inl (T p))] ∧ (h.1, g, h.2.2) = h' ∧ (jaf h.2.1 g) ∧ (g 48 3 = 1 ∧ g 48 4 = (p : Int)) ∧ (∃ r : Nat, g 48 2 = (r : Int) ∧ r + m = Ln ∧ rnE ltr T Ln r = rnE ltr T Ln p)) ⟨Ln - p, ⟨_, rfl, rfl, (by exact fr2), (by exact ⟨k2, s2⟩), (by exact ⟨p, p2, by omega, rfl⟩)⟩⟩ ?_
        rintro m _ _ ⟨g, rfl, rfl, gr, gk, gp⟩
        obtain ⟨r, gp, rm, re⟩ := gp
        have gL : g 48 1 = (Ln : Int) := by rw [gr.2 1 (by decide)]; exact hL
        have gT : g 49 = T := by rw [gr.1 49 (by decide)]; exact hT
        refine (jd_eq (φ' := r < Ln ∧ ltr (T r) = true) (jd_and (jd_lt (jv_gF (jr_lr rfl) rfl gp) (jv_gF (jr_lr rfl) rfl gL)) (fun y => (jd_b (jy_sI (jA_i jA_0 (jv_is (x' := T r) (jy_mI (jr_lr rfl) rfl (jA_i jA_0 (jv_gF (jr_lr rfl) rfl gp)) fun _ => kX5_byteAt (h := (h.1, g, h.2.2)) hG gL hL3 gT) (if_pos (by omega)))) fun _ => kX5_isLetter)))) (by unfold ltr; simp only [decide_eq_true_eq]; omega)) _ _ (fun c => ?_) (fun c => ?_)
        · refine jt_uG (w := (r : Int) + 1) (jr_lr rfl) (by first | rfl | assumption) jv_ci (by (try dsimp only); rw [gp, ja_w_id (by unfold ja_r; omega)]) ?_
          try dsimp only
          exact ⟨m - 1, (by omega), _, rfl, rfl, (by exact jaf_up gr (by decide)), (by exact ⟨by rw [ja_upO (by omega)]; exact gk.1, by rw [ja_upO (by omega)]; exact gk.2⟩), (by exact ⟨r + 1, by rw [ja_upE rfl rfl]; omega, by omega, by rw [← rnE_t c.1 c.2]; exact re⟩)⟩
        · have er : rnE ltr T Ln p = r := by rw [← re]; exact rnE_f c
          refine q _ gr ?_
          unfold tkO tkE tkK
          rw [if_neg (by omega), if_pos c2, if_neg (by omega), if_pos c2, er]
          exact ⟨gp, gk.1, gk.2, fun y => absurd y (by decide)⟩
          skip
      · refine jb_if_d (φ := dgt (T p) = true) (jd_eq (jd_b (jy_sI (jA_i jA_0 (jv_li rfl)) fun _ => kX5_isDigit)) (by unfold dgt; simp only [decide_eq_true_eq])) (fun c3 => ?_) (fun c3 => ?_)
        · refine jt_pI (jr_lr rfl) (by first | rfl | assumption) jv_ci ?_
          try dsimp only
          refine jt_pI (jr_lr rfl) (by first | rfl | assumption) jv_ci ?_
          try dsimp only
          obtain ⟨f2, hf2⟩ : ∃ f2, ja_up (ja_up f1 48 3 2) 48 5 0 = f2 := ⟨_, rfl⟩
          have fr2 : jaf h.2.1 f2 := by rw [← hf2]; exact jaf_up (jaf_up fr1 (by decide)) (by decide)
          have p2 : f2 48 2 = (p : Int) := by rw [← hf2, ja_upO (by omega), ja_upO (by omega)]; exact p1
          have s2 : f2 48 4 = (p : Int) := by rw [← hf2, ja_upO (by omega), ja_upO (by omega)]; exact s1
          have k2 : f2 48 3 = 2 := by rw [← hf2, ja_upO (by omega)]; exact ja_upE rfl rfl
          have v2 : f2 48 5 = 0 := by rw [← hf2]; exact ja_upE rfl rfl
          rw [hf2]
          refine jb_whl (fun (m : Nat) L' h' => ∃ (g : Nat → Nat → Int), L' = [some (.inr (.inr (some (48)))), some (.inl (T p))] ∧ (h.1, g, h.2.2) = h' ∧ (jaf h.2.1 g) ∧ (g 48 3 = 2 ∧ g 48 4 = (p : Int)) ∧ (∃ r : Nat, g 48 2 = (r : Int) ∧ r + m = Ln ∧ p ≤ r ∧ rnE dgt T Ln r = rnE dgt T Ln p ∧ g 48 5 = tkV T p (r - p) ∧ ∀ i, i < r - p → dgt (T (p + i)) = true)) ⟨Ln - p, ⟨_, rfl, rfl, (by exact fr2), (by exact ⟨k2, s2⟩), (by exact ⟨p, p2, by omega, by omega, rfl, by rw [v2, Nat.sub_self]; rfl, fun i hi => by omega⟩)⟩⟩ ?_
          rintro m _ _ ⟨g, rfl, rfl, gr, gk, gp⟩
          obtain ⟨r, gp, rm, pr, re, gv, gd⟩ := gp
          have vb := tkV_b (T := T) (s := p) (r - p) gd
          have gL : g 48 1 = (Ln : Int) := by rw [gr.2 1 (by decide)]; exact hL
          have gT : g 49 = T := by rw [gr.1 49 (by decide)]; exact hT
          refine (jd_eq (φ' := r < Ln ∧ dgt (T r) = true) (jd_and (jd_lt (jv_gF (jr_lr rfl) rfl gp) (jv_gF (jr_lr rfl) rfl gL)) (fun y => (jd_b (jy_sI (jA_i jA_0 (jv_is (x' := T r) (jy_mI (jr_lr rfl) rfl (jA_i jA_0 (jv_gF (jr_lr rfl) rfl gp)) fun _ => kX5_byteAt (h := (h.1, g, h.2.2)) hG gL hL3 gT) (if_pos (by omega)))) fun _ => kX5_isDigit)))) (by unfold dgt; simp only [decide_eq_true_eq]; omega)) _ _ (fun c => ?_) (fun c => ?_)
          · have tr := hb r c.1
            have cd := c.2
            unfold dgt at cd
            simp only [decide_eq_true_eq] at cd
            refine jt_pI (jr_lr rfl) (by first | rfl | assumption) (jv_is (x' := min 1000 (tkV T p (r - p) * 10 + T r - 48)) (jy_sI (jA_i (jA_i jA_0 jv_ci) (jv_w (jv_sub (jv_w (jv_add (jv_w (jv_mul (jv_gF (jr_lr rfl) rfl gv) jv_ci) (by first | (unfold ja_r; omega) | (unfold ja_rl; omega) | omega | assumption)) (jv_is (x' := T r) (jy_mI (jr_lr rfl) rfl (jA_i jA_0 (jv_gF (jr_lr rfl) rfl gp)) fun _ => kX5_byteAt (h := (h.1, g, h.2.2)) hG gL hL3 gT) (if_pos c.1))) (by first | (unfold ja_r; omega) | (unfold ja_rl; omega) | omega | assumption)) jv_ci) (by first | (unfold ja_r; omega) | (unfold ja_rl; omega) | omega | assumption))) fun _ => kJ9_min) (by rfl)) ?_
            try dsimp only
            refine jt_uG (w := (r : Int) + 1) (jr_lr rfl) (by first | rfl | assumption) jv_ci (by (try dsimp only); rw [ja_upO (by omega), gp, ja_w_id (by unfold ja_r; omega)]) ?_
            try dsimp only
            exact ⟨m - 1, (by omega), _, rfl, rfl, (by exact jaf_up (jaf_up gr (by decide)) (by decide)), (by exact ⟨by rw [ja_upO (by omega), ja_upO (by omega)]; exact gk.1, by rw [ja_upO (by omega), ja_upO (by omega)]; exact gk.2⟩), (by 
                  refine ⟨r + 1, by rw [ja_upE rfl rfl]; omega, by omega, by omega, by rw [← rnE_t c.1 c.2]; exact re, ?_, fun i hi => ?_⟩
                  · rw [ja_upO (by omega), ja_upE rfl rfl, show r + 1 - p = (r - p) + 1 by omega, tkV, show p + (r - p) = r by omega]
                  · by_cases z : i = r - p
                    · subst z; rw [show p + (r - p) = r by omega]; exact c.2
                    · exact gd i (by omega))⟩
          · have er : rnE dgt T Ln p = r := by rw [← re]; exact rnE_f c
            refine q _ gr ?_
            unfold tkO tkE tkK
            rw [if_neg (by omega), if_neg c2, if_pos c3, if_neg (by omega), if_neg c2, if_pos c3, er]
            exact ⟨gp, gk.1, gk.2, fun _ => gv⟩
            skip
        · refine jt_pI (jr_lr rfl) (by first | rfl | assumption) (jv_is (x' := (if sgn (T p) = true then T p else 3)) (jv_cv (jd_b (jy_sI (jA_i jA_0 (jv_li rfl)) fun _ => kX5_isSign)) (fun _ => (jv_li rfl)) (fun _ => jv_ci)) (by rfl)) ?_
          try dsimp only
          refine jt_uG (w := (p : Int) + 1) (jr_lr rfl) (by first | rfl | assumption) jv_ci (by (try dsimp only); rw [ja_upO (by omega), p1, ja_w_id (by unfold ja_r; omega)]) ?_
          try dsimp only
          refine q _ (jaf_up (jaf_up fr1 (by decide)) (by decide)) ?_
          unfold tkO tkE tkK
          rw [if_neg (show ¬ Ln ≤ p by omega), if_neg c2, if_neg c3, if_neg (show ¬ Ln ≤ p by omega), if_neg c2, if_neg c3]
          refine ⟨by rw [ja_upE rfl rfl]; rfl, by rw [ja_upO (by omega)]; exact ja_upE rfl rfl, by rw [ja_upO (by omega), ja_upO (by omega)]; exact s1, fun y => ?_⟩
          exfalso
          split at y
          · rename_i w
            unfold sgn at w
            simp only [decide_eq_true_eq] at w
            omega
          · omega
          skip
