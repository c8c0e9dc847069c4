/-! the reference's next token -/
theorem jv_orL {L : ja_L} {h : ja_H} {e f : ja_EI} {x y : Int} (p : jv e L h x) (q : jv f L h y) : jv (jb_orL e f) L h (ja_orL x y) := fun _ w => p _ (q _ w)
theorem jv_shlL {L : ja_L} {h : ja_H} {e f : ja_EI} {x y : Int} (p : jv e L h x) (q : jv f L h y) : jv (jb_shlL e f) L h (ja_shlL x y) := fun _ w => p _ (q _ w)
theorem ja_pack {x b : Nat} (hx : x < 281474976710656) (hb : b < 256) : ja_orL (ja_shlL (x : Int) 8) (b : Int) = ((x * 256 + b : Nat) : Int) := by
  have e8 : ((Int32.ofInt 8).toInt64 &&& 63) = 8 := by decide
  have h1 : (Int64.ofInt (x : Int) <<< (8 : Int64)).toBitVec.toNat = x * 256 := by
    rw [Int64.toBitVec_shiftLeft]
    show (BitVec.ofInt 64 (x : Int) <<< ((8 : Int64).toBitVec.smod 64)).toNat = _
    rw [show ((8 : Int64).toBitVec.smod 64) = 8#64 from by decide, BitVec.shiftLeft_eq', BitVec.toNat_shiftLeft, BitVec.ofInt_natCast, BitVec.toNat_ofNat]
    rw [show (8#64).toNat = 8 from rfl, Nat.shiftLeft_eq]
    omega
  have e1 : ja_shlL (x : Int) 8 = ((x * 256 : Nat) : Int) := by
    unfold ja_shlL
    rw [e8, ← Int64.toInt_toBitVec, BitVec.toInt_eq_toNat_of_lt (by rw [h1]; omega), h1]
  rw [e1]
  unfold ja_orL
  have h2 : (Int64.ofInt ((x * 256 : Nat) : Int) ||| Int64.ofInt (b : Int)).toBitVec.toNat = x * 256 + b := by
    rw [Int64.toBitVec_or, BitVec.toNat_or]
    show (BitVec.ofInt 64 ((x * 256 : Nat) : Int)).toNat ||| (BitVec.ofInt 64 (b : Int)).toNat = _
    rw [BitVec.ofInt_natCast, BitVec.ofInt_natCast, BitVec.toNat_ofNat, BitVec.toNat_ofNat, Nat.mod_eq_of_lt (by omega), Nat.mod_eq_of_lt (by omega)]
    have := Nat.shiftLeft_add_eq_or_of_lt (a := x) (b := b) (i := 8) (by omega)
    rw [Nat.shiftLeft_eq] at this
    exact this.symm
  rw [← Int64.toInt_toBitVec, BitVec.toInt_eq_toNat_of_lt (by rw [h2]; omega), h2]
/-- a word's bytes in one number, of the first seven; 0 of a longer one -/
def pkN (T : Nat → Int) (s : Nat) : Nat → Nat
  | 0 => 0
  | j + 1 => if j < 7 then pkN T s j * 256 + (T (s + j)).toNat else pkN T s j
def pkW (T : Nat → Int) (s j : Nat) : Int := if 7 < j then 0 else (pkN T s j : Int)
theorem pkN_b {T : Nat → Int} {s : Nat} : ∀ j : Nat, (∀ i, i < j → 0 ≤ T (s + i) ∧ T (s + i) ≤ 255) → pkN T s j < 256 ^ min j 7
  | 0, _ => by simp [pkN]
  | j + 1, h => by
    have ih := pkN_b (T := T) (s := s) j (fun i hi => h i (by omega))
    have hj := h j (by omega)
    simp only [pkN]
    split
    · rename_i c
      rw [show min (j + 1) 7 = j + 1 by omega, Nat.pow_succ]
      rw [show min j 7 = j by omega] at ih
      omega
    · rename_i c
      rw [show min (j + 1) 7 = min j 7 by omega]
      exact ih
/-- the reference's number of a kind -/
def tkM (k : Int) : Int := if k = 1 then 2 else if k = 2 then 1 else k
/-- of the reference only the slots 19 to 22 and the long in 23 change -/
def jnf (I f : Nat → Nat → Int) : Prop := jfr [90] I f ∧ ∀ j, j < 19 ∨ 22 < j → f 90 j = I 90 j
theorem jnf_rf (I : Nat → Nat → Int) : jnf I I := ⟨jfr_rf _ _, fun _ _ => rfl⟩
theorem jnf_up {I f : Nat → Nat → Int} {j : Nat} {v : Int} (h : jnf I f) (hj : 19 ≤ j ∧ j ≤ 22) : jnf I (ja_up f 90 j v) := ⟨jfr_up h.1 (by decide), fun k hk => by rw [ja_upO (by omega)]; exact h.2 k hk⟩
def jnl (I f : Nat → Nat → Int) : Prop := ∀ k j, (k ≠ 90 ∨ j ≠ 23) → f k j = I k j
theorem jnl_rf (I : Nat → Nat → Int) : jnl I I := fun _ _ _ => rfl
theorem jnl_up {I f : Nat → Nat → Int} {v : Int} (h : jnl I f) : jnl I (ja_up f 90 23 v) := fun k j hk => by rw [ja_upO (by omega)]; exact h k j hk
def tkP (T : Nat → Int) (Ln s : Nat) (f g : Nat → Nat → Int) : Prop := f 90 19 = ((tkE T Ln s : Nat) : Int) ∧ f 90 20 = (s : Int) ∧ f 90 21 = tkM (tkK T Ln s) ∧ (tkK T Ln s = 2 → f 90 22 = tkR T s (tkE T Ln s - s)) ∧ (tkK T Ln s = 1 → g 90 23 = pkW T s (tkE T Ln s - s))
set_option maxRecDepth 10000 in
theorem kX12_isLetter {l : Launch} {d : Nat} {h : ja_H} {Q : ja_Q} {sh : ja_S} {b : Int} (q : Q (some (.inl (if (97 ≤ b ∧ b ≤ 122) ∨ (65 ≤ b ∧ b ≤ 90) then 1 else 0))) h) : ja_C l (d + 2) mX12_isLetter sh [.inl (b)] h Q := by
  refine eX12_isLetter _ fun r_c ho => ?_
  unfold bX12_isLetter
  unfold ja_r at r_c
  refine jt_rZ (jv_cb (jd_or (jd_b (jy_sI (jA_i (jA_i (jA_i jA_0 (jv_li rfl)) jv_ci) jv_ci) fun _ => kX12_isIn)) (fun _ => (jd_b (jy_sI (jA_i (jA_i (jA_i jA_0 (jv_li rfl)) jv_ci) jv_ci) fun _ => kX12_isIn))))) ?_
  exact q
set_option maxRecDepth 10000 in
theorem kX12_isDigit {l : Launch} {d : Nat} {h : ja_H} {Q : ja_Q} {sh : ja_S} {b : Int} (q : Q (some (.inl (if 48 ≤ b ∧ b ≤ 57 then 1 else 0))) h) : ja_C l (d + 2) mX12_isDigit sh [.inl (b)] h Q := by
  refine eX12_isDigit _ fun r_c ho => ?_
  unfold bX12_isDigit
  unfold ja_r at r_c
  refine jt_rZ (jy_sI (jA_i (jA_i (jA_i jA_0 (jv_li rfl)) jv_ci) jv_ci) fun _ => kX12_isIn) ?_
  exact q
set_option maxRecDepth 10000 in
theorem kX12_byteAt {l : Launch} {d : Nat} {h : ja_H} {Q : ja_Q} {n p Ln : Nat} {T : Nat → Int} (hG : jG h.1) (hL : h.2.1 90 16 = (Ln : Int)) (hL3 : Ln ≤ 300) (hT : h.2.1 97 = T) (q : Q (some (.inl (if p < Ln then T p else -1))) h) : ja_C l (d + 1) mX12_byteAt (js_sh n) [.inr (.inr (some (90))), .inl ((p : Int))] h Q := by
  have eT : h.2.1 97 ((p : Nat) : Int).toNat = T p := by rw [hT]; rfl
  refine eX12_byteAt _ _ fun r_k ho => ?_
  unfold bX12_byteAt
  unfold ja_r at r_k
  refine jt_rI (jv_cv (φ := p < Ln) (jd_eq (jd_lt (jv_li rfl) (jv_gF (jr_lr rfl) rfl hL)) (by omega)) (fun y => (jv_fI (jr_g (jr_lr rfl) rfl (jG_90 hG rfl)) (jv_li rfl) rfl (by omega) (by omega) eT)) (fun _ => jv_ci)) ?_
  exact q
set_option maxRecDepth 10000 in
theorem kX12_nextToken {l : Launch} {d : Nat} {h : ja_H} {Q : ja_Q} {n a Ln : Nat} {T : Nat → Int} (hG : jG h.1) (hL : h.2.1 90 16 = (Ln : Int)) (hL3 : Ln ≤ 300) (hT : h.2.1 97 = T) (hb : ∀ j, j < Ln → 0 ≤ T j ∧ T j ≤ 255) (ha : h.2.1 90 19 = (a : Int)) (ha2 : a ≤ Ln) (q : ∀ f g, jnf h.2.1 f → jnl h.2.2 g → tkP T Ln (tkS T Ln a) f g → Q none (h.1, f, g)) : ja_C l (d + 3) mX12_nextToken (js_sh n) [.inr (.inr (some (90)))] h Q := by
  refine eX12_nextToken _ fun ho => ?_
  unfold bX12_nextToken
  refine jb_whl (fun (m : Nat) L' h' => ∃ (o1_1 : Option ja_W) (o1_2 : Option ja_W) (f : Nat → Nat → Int), L' = [some (.inr (.inr (some (90)))), o1_1, o1_2] ∧ (h.1, f, h.2.2) = h' ∧ (jnf h.2.1 f) ∧ (∃ p : Nat, f 90 19 = (p : Int) ∧ p + m = Ln ∧ rnE blk T Ln p = tkS T Ln a)) ⟨Ln - a, ⟨_, _, _, rfl, rfl, (by exact jnf_rf _), (by exact ⟨a, ha, by omega, rfl⟩)⟩⟩ ?_
  rintro m _ _ ⟨o1_1, o1_2, f, rfl, rfl, fr, fp⟩
  obtain ⟨p, fp, pm, pe⟩ := fp
  have fL : f 90 16 = (Ln : Int) := by rw [fr.2 16 (by decide)]; exact hL
  have fT : f 97 = T := by rw [fr.1 97 (by decide)]; exact hT
  refine (jd_eq (φ' := p < Ln ∧ blk (T p) = true) (jd_or (jd_eqI (jy_mI (jr_lr rfl) rfl (jA_i jA_0 (jv_gF (jr_lr rfl) rfl fp)) fun _ => kX12_byteAt (h := (h.1, f, h.2.2)) hG fL hL3 fT) jv_ci) (fun _ => (jd_eqI (jy_mI (jr_lr rfl) rfl (jA_i jA_0 (jv_gF (jr_lr rfl) rfl fp)) fun _ => kX12_byteAt (h := (h.1, f, h.2.2)) hG fL hL3 fT) jv_ci))) (by unfold blk; simp only [decide_eq_true_eq]; split <;> omega)) _ _ (fun c => ?_) (fun c => ?_)
  · refine jt_uG (w := (p : Int) + 1) (jr_lr rfl) (by first | rfl | assumption) jv_ci (by (try dsimp only); rw [fp, ja_w_id (by unfold ja_r; omega)]) ?_
    try dsimp only
    exact ⟨m - 1, (by omega), _, _, _, rfl, rfl, (by exact jnf_up fr (by decide)), (by exact ⟨p + 1, by rw [ja_upE rfl rfl]; omega, by omega, by rw [← rnE_t c.1 c.2]; exact pe⟩)⟩
  · have es : tkS T Ln a = p := by rw [← pe]; exact rnE_f c
    rw [es] at q
    have sb : p ≤ Ln := by omega
    refine jt_pI (jr_lr rfl) (by first | rfl | assumption) (jv_is (x' := (p : Int)) (jv_gF (jr_lr rfl) (by first | rfl | assumption) (by first | assumption | rfl)) (by rfl)) ?_
    try dsimp only
    have fr1 : jnf h.2.1 (ja_up f 90 20 (p : Int)) := jnf_up fr (by decide)
    obtain ⟨f1, hf1⟩ : ∃ f1, ja_up f 90 20 (p : Int) = f1 := ⟨_, rfl⟩
    have p1 : f1 90 19 = (p : Int) := by rw [← hf1, ja_upO (by omega)]; exact fp
    have s1 : f1 90 20 = (p : Int) := by rw [← hf1]; exact ja_upE rfl rfl
    rw [hf1] at fr1 ⊢
    have f1L : f1 90 16 = (Ln : Int) := by rw [fr1.2 16 (by decide)]; exact hL
    have f1T : f1 97 = T := by rw [fr1.1 97 (by decide)]; exact hT
    refine jt_sI (x := (if p < Ln then T p else -1)) (jv_is (jy_mI (jr_lr rfl) rfl (jA_i jA_0 (jv_gF (jr_lr rfl) rfl p1)) fun _ => kX12_byteAt (h := (h.1, f1, h.2.2)) hG f1L hL3 f1T) (by rfl)) ?_
    refine jb_if_d (φ := Ln ≤ p) (jd_eq (jd_lt (jv_li rfl) jv_ci) (by split <;> first | omega | (rename_i w; have := hb p w; omega))) (fun c1 => ?_) (fun c1 => ?_)
    · refine jt_pI (jr_lr rfl) (by first | rfl | assumption) jv_ci ?_
      try dsimp only
      refine q _ _ (jnf_up fr1 (by decide)) (jnl_rf _) ?_
      unfold tkP tkE tkK
      rw [if_pos c1, if_pos c1]
      exact ⟨by rw [ja_upO (by omega)]; exact p1, by rw [ja_upO (by omega)]; exact s1, ja_upE rfl rfl, fun y => absurd y (by decide), fun y => absurd y (by decide)⟩
      skip
    · have c1 := Nat.lt_of_not_le c1
      rw [if_pos c1]
      have tb := hb p c1
      refine jb_if_d (φ := dgt (T p) = true) (jd_eq (jd_b (jy_sI (jA_i jA_0 (jv_li rfl)) fun _ => kX12_isDigit)) (by unfold dgt; simp only [decide_eq_true_eq])) (fun c2 => ?_) (fun c2 => ?_)
      · have c3 : ¬ ltr (T p) = true := by
          unfold dgt at c2
          unfold ltr
          simp only [decide_eq_true_eq] at c2 ⊢
          omega
        refine jt_pI (jr_lr rfl) (by first | rfl | assumption) jv_ci ?_
        try dsimp only
        refine jt_pI (jr_lr rfl) (by first | rfl | assumption) jv_ci ?_
        try dsimp only
        obtain ⟨f2, hf2⟩ : ∃ f2, ja_up (ja_up f1 90 21 1) 90 22 0 = f2 := ⟨_, rfl⟩
        have fr2 : jnf h.2.1 f2 := by rw [← hf2]; exact jnf_up (jnf_up fr1 (by decide)) (by decide)
        have p2 : f2 90 19 = (p : Int) := by rw [← hf2, ja_upO (by omega), ja_upO (by omega)]; exact p1
        have s2 : f2 90 20 = (p : Int) := by rw [← hf2, ja_upO (by omega), ja_upO (by omega)]; exact s1
        have k2 : f2 90 21 = 1 := by rw [← hf2, ja_upO (by omega)]; exact ja_upE rfl rfl
        have v2 : f2 90 22 = 0 := by rw [← hf2]; exact ja_upE rfl rfl
        rw [hf2]
        refine jb_whl (fun (m : Nat) L' h' => ∃ (o10_2 : Option ja_W) (g : Nat → Nat → Int), L' = [some (.inr (.inr (some (90)))), some (.inl (T p)), o10_2] ∧ (h.1, g, h.2.2) = h' ∧ (jnf h.2.1 g) ∧ (g 90 21 = 1 ∧ g 90 20 = (p : Int)) ∧ (∃ r : Nat, g 90 19 = (r : Int) ∧ r + m = Ln ∧ p ≤ r ∧ rnE dgt T Ln r = rnE dgt T Ln p ∧ g 90 22 = tkR T p (r - p) ∧ ∀ i, i < r - p → dgt (T (p + i)) = true)) ⟨Ln - p, ⟨_, _, rfl, rfl, (by exact fr2), (by exact ⟨k2, s2⟩), (by exact ⟨p, p2, by omega, by omega, rfl, by rw [v2, Nat.sub_self]; rfl, fun i hi => by omega⟩)⟩⟩ ?_
        rintro m _ _ ⟨o10_2, g, rfl, rfl, gr, gk, gp⟩
        obtain ⟨r, gp, rm, pr, re, gv, gd⟩ := gp
        have vb := tkR_b (T := T) (s := p) (r - p) gd
        have gL : g 90 16 = (Ln : Int) := by rw [gr.2 16 (by decide)]; exact hL
        have gT : g 97 = T := by rw [gr.1 97 (by decide)]; exact hT
        refine (jd_eq (φ' := r < Ln ∧ dgt (T r) = true) (jd_b (jy_sI (jA_i jA_0 (jy_mI (jr_lr rfl) rfl (jA_i jA_0 (jv_gF (jr_lr rfl) rfl gp)) fun _ => kX12_byteAt (h := (h.1, g, h.2.2)) hG gL hL3 gT)) fun _ => kX12_isDigit)) (by unfold dgt; simp only [decide_eq_true_eq]; split <;> omega)) _ _ (fun c => ?_) (fun c => ?_)
        · have tr := hb r c.1
          have cd := c.2
          unfold dgt at cd
          simp only [decide_eq_true_eq] at cd
          refine jb_if_d (jd_lt (jv_gF (jr_lr rfl) rfl gv) jv_ci) (fun c3 => ?_) (fun c3 => ?_)
          · have c4 := c3
            have c3 := c3
            refine jt_pI (jr_lr rfl) (by first | rfl | assumption) (jv_is (x' := 10 * tkR T p (r - p) + T r - 48) (jv_w (jv_sub (jv_w (jv_add (jv_w (jv_mul jv_ci (jv_gF (jr_lr rfl) rfl gv)) (by first | (unfold ja_r; omega) | (unfold ja_rl; omega) | omega | assumption)) (jv_is (x' := T r) (jy_mI (jr_lr rfl) rfl (jA_i jA_0 (jv_gF (jr_lr rfl) rfl gp)) fun _ => kX12_byteAt (h := (h.1, g, h.2.2)) hG gL hL3 gT) (if_pos c.1))) (by first | (unfold ja_r; omega) | (unfold ja_rl; omega) | omega | assumption)) jv_ci) (by first | (unfold ja_r; omega) | (unfold ja_rl; omega) | omega | assumption)) (by rfl)) ?_
            try dsimp only
            refine jt_uG (w := (r : Int) + 1) (jr_lr rfl) (by first | rfl | assumption) jv_ci (by (try dsimp only); (try rw [ja_upO (by omega)]); rw [gp, ja_w_id (by unfold ja_r; omega)]) ?_
            try dsimp only
            exact ⟨m - 1, (by omega), _, _, rfl, rfl, (by first | exact jnf_up (jnf_up gr (by decide)) (by decide) | exact jnf_up gr (by decide)), (by first | exact ⟨by rw [ja_upO (by omega), ja_upO (by omega)]; exact gk.1, by rw [ja_upO (by omega), ja_upO (by omega)]; exact gk.2⟩ | exact ⟨by rw [ja_upO (by omega)]; exact gk.1, by rw [ja_upO (by omega)]; exact gk.2⟩), (by 
                  refine ⟨r + 1, by rw [ja_upE rfl rfl]; omega, by omega, by omega, by rw [← rnE_t c.1 c.2]; exact re, ?_, fun i hi => ?_⟩
                  · rw [show r + 1 - p = (r - p) + 1 by omega, tkR, show p + (r - p) = r by omega]
                    first
                    | (rw [if_pos c4, ja_upO (by omega)]; exact ja_upE rfl rfl)
                    | (rw [if_neg c4, ja_upO (by omega)]; exact gv)
                  · by_cases z : i = r - p
                    · subst z; rw [show p + (r - p) = r by omega]; exact c.2
                    · exact gd i (by omega))⟩
          · have c4 := c3
            have c3 := c3
            refine jt_uG (w := (r : Int) + 1) (jr_lr rfl) (by first | rfl | assumption) jv_ci (by (try dsimp only); (try rw [ja_upO (by omega)]); rw [gp, ja_w_id (by unfold ja_r; omega)]) ?_
            try dsimp only
            exact ⟨m - 1, (by omega), _, _, rfl, rfl, (by first | exact jnf_up (jnf_up gr (by decide)) (by decide) | exact jnf_up gr (by decide)), (by first | exact ⟨by rw [ja_upO (by omega), ja_upO (by omega)]; exact gk.1, by rw [ja_upO (by omega), ja_upO (by omega)]; exact gk.2⟩ | exact ⟨by rw [ja_upO (by omega)]; exact gk.1, by rw [ja_upO (by omega)]; exact gk.2⟩), (by 
                  refine ⟨r + 1, by rw [ja_upE rfl rfl]; omega, by omega, by omega, by rw [← rnE_t c.1 c.2]; exact re, ?_, fun i hi => ?_⟩
                  · rw [show r + 1 - p = (r - p) + 1 by omega, tkR, show p + (r - p) = r by omega]
                    first
                    | (rw [if_pos c4, ja_upO (by omega)]; exact ja_upE rfl rfl)
                    | (rw [if_neg c4, ja_upO (by omega)]; exact gv)
                  · by_cases z : i = r - p
                    · subst z; rw [show p + (r - p) = r by omega]; exact c.2
                    · exact gd i (by omega))⟩
        · have er : rnE dgt T Ln p = r := by rw [← re]; exact rnE_f c
          refine q _ _ gr (jnl_rf _) ?_
          unfold tkP tkE tkK
          rw [if_neg (show ¬ Ln ≤ p by omega), if_neg c3, if_pos c2, if_neg (show ¬ Ln ≤ p by omega), if_neg c3, if_pos c2, er]
          exact ⟨gp, gk.2, gk.1, fun _ => gv, fun y => absurd y (by decide)⟩
          skip
      · refine jb_if_d (φ := ltr (T p) = true) (jd_eq (jd_b (jy_sI (jA_i jA_0 (jv_li rfl)) fun _ => kX12_isLetter)) (by unfold ltr; simp only [decide_eq_true_eq])) (fun c4 => ?_) (fun c4 => ?_)
        · refine jt_pI (jr_lr rfl) (by first | rfl | assumption) jv_ci ?_
          try dsimp only
          refine jt_pL (jr_lr rfl) (by first | rfl | assumption) jv_ci ?_
          try dsimp only
          obtain ⟨f2, hf2⟩ : ∃ f2, ja_up f1 90 21 2 = f2 := ⟨_, rfl⟩
          have fr2 : jnf h.2.1 f2 := by rw [← hf2]; exact jnf_up fr1 (by decide)
          have p2 : f2 90 19 = (p : Int) := by rw [← hf2, ja_upO (by omega)]; exact p1
          have s2 : f2 90 20 = (p : Int) := by rw [← hf2, ja_upO (by omega)]; exact s1
          have k2 : f2 90 21 = 2 := by rw [← hf2]; exact ja_upE rfl rfl
          rw [hf2]
          refine jb_whl (fun (m : Nat) L' h' => ∃ (o17_2 : Option ja_W) (g l0 : Nat → Nat → Int), L' = [some (.inr (.inr (some (90)))), some (.inl (T p)), o17_2] ∧ (h.1, g, l0) = h' ∧ (jnf h.2.1 g) ∧ (jnl h.2.2 l0) ∧ (g 90 21 = 2 ∧ g 90 20 = (p : Int)) ∧ (∃ r : Nat, g 90 19 = (r : Int) ∧ r + m = Ln ∧ p ≤ r ∧ rnE ltr T Ln r = rnE ltr T Ln p ∧ l0 90 23 = ((pkN T p (r - p) : Nat) : Int) ∧ ∀ i, i < r - p → 0 ≤ T (p + i) ∧ T (p + i) ≤ 255)) ⟨Ln - p, ⟨_, _, _, rfl, rfl, (by exact fr2), (by exact jnl_up (jnl_rf _)), (by exact ⟨k2, s2⟩), (by exact ⟨p, p2, by omega, by omega, rfl, by rw [Nat.sub_self]; exact ja_upE rfl rfl, fun i hi => by omega⟩)⟩⟩ ?_
          rintro m _ _ ⟨o17_2, g, l0, rfl, rfl, gr, gl, gk, gp⟩
          obtain ⟨r, gp, rm, pr, re, gv, gd⟩ := gp
          have vb := pkN_b (T := T) (s := p) (r - p) gd
          have gs : g 90 20 = (p : Int) := gk.2
          have gL : g 90 16 = (Ln : Int) := by rw [gr.2 16 (by decide)]; exact hL
          have gT : g 97 = T := by rw [gr.1 97 (by decide)]; exact hT
          refine (jd_eq (φ' := r < Ln ∧ ltr (T r) = true) (jd_b (jy_sI (jA_i jA_0 (jy_mI (jr_lr rfl) rfl (jA_i jA_0 (jv_gF (jr_lr rfl) rfl gp)) fun _ => kX12_byteAt (h := (h.1, g, l0)) hG gL hL3 gT)) fun _ => kX12_isLetter)) (by unfold ltr; simp only [decide_eq_true_eq]; split <;> omega)) _ _ (fun c => ?_) (fun c => ?_)
          · have tr := hb r c.1
            refine jb_if_d (jd_lt (jv_w (jv_sub (jv_gF (jr_lr rfl) rfl gp) (jv_gF (jr_lr rfl) rfl gs)) (by first | (unfold ja_r; omega) | (unfold ja_rl; omega) | omega | assumption)) jv_ci) (fun c5 => ?_) (fun c5 => ?_)
            · have vb2 : pkN T p (r - p) < 281474976710656 := by
                rw [show min (r - p) 7 = r - p by omega] at vb
                have w : 256 ^ (r - p) ≤ 256 ^ 6 := Nat.pow_le_pow_right (by decide) (by omega)
                have w2 : (256 ^ 6 : Nat) = 281474976710656 := by decide
                omega
              refine jt_pL (jr_lr rfl) (by first | rfl | assumption) (jv_is (x' := ((pkN T p (r - p) * 256 + (T r).toNat : Nat) : Int)) (jv_orL (jv_shlL (jv_is (jv_gL (jr_lr rfl) rfl) gv) jv_ci) (jv_is (x' := T r) (jy_mI (jr_lr rfl) rfl (jA_i jA_0 (jv_gF (jr_lr rfl) rfl gp)) fun _ => kX12_byteAt (h := (h.1, g, l0)) hG gL hL3 gT) (if_pos c.1))) (by 
                    have w := ja_pack vb2 (b := (T r).toNat) (by omega)
                    rw [show (((T r).toNat : Nat) : Int) = T r by omega] at w
                    exact w)) ?_
              try dsimp only
              refine jt_uG (w := (r : Int) + 1) (jr_lr rfl) (by first | rfl | assumption) jv_ci (by (try dsimp only); rw [gp, ja_w_id (by unfold ja_r; omega)]) ?_
              try dsimp only
              exact ⟨m - 1, (by omega), _, _, _, rfl, rfl, (by exact jnf_up gr (by decide)), (by first | exact jnl_up gl | exact gl), (by exact ⟨by rw [ja_upO (by omega)]; exact gk.1, by rw [ja_upO (by omega)]; exact gk.2⟩), (by 
                    refine ⟨r + 1, by rw [ja_upE rfl rfl]; omega, by omega, by omega, by rw [← rnE_t c.1 c.2]; exact re, ?_, fun i hi => ?_⟩
                    · rw [show r + 1 - p = (r - p) + 1 by omega, pkN, show p + (r - p) = r by omega]
                      first
                      | (rw [if_pos (by omega)]; exact ja_upE rfl rfl)
                      | (rw [if_neg (by omega)]; exact gv)
                    · by_cases z : i = r - p
                      · subst z; rw [show p + (r - p) = r by omega]; exact hb r c.1
                      · exact gd i (by omega))⟩
            · refine jt_uG (w := (r : Int) + 1) (jr_lr rfl) (by first | rfl | assumption) jv_ci (by (try dsimp only); rw [gp, ja_w_id (by unfold ja_r; omega)]) ?_
              try dsimp only
              exact ⟨m - 1, (by omega), _, _, _, rfl, rfl, (by exact jnf_up gr (by decide)), (by first | exact jnl_up gl | exact gl), (by exact ⟨by rw [ja_upO (by omega)]; exact gk.1, by rw [ja_upO (by omega)]; exact gk.2⟩), (by 
                    refine ⟨r + 1, by rw [ja_upE rfl rfl]; omega, by omega, by omega, by rw [← rnE_t c.1 c.2]; exact re, ?_, fun i hi => ?_⟩
                    · rw [show r + 1 - p = (r - p) + 1 by omega, pkN, show p + (r - p) = r by omega]
                      first
                      | (rw [if_pos (by omega)]; exact ja_upE rfl rfl)
                      | (rw [if_neg (by omega)]; exact gv)
                    · by_cases z : i = r - p
                      · subst z; rw [show p + (r - p) = r by omega]; exact hb r c.1
                      · exact gd i (by omega))⟩
          · have er : rnE ltr T Ln p = r := by rw [← re]; exact rnE_f c
            have fin : ∀ l1, jnl h.2.2 l1 → l1 90 23 = pkW T p (r - p) → Q none (h.1, g, l1) := fun l1 w1 w2 => by
              refine q _ _ gr w1 ?_
              unfold tkP tkE tkK
              rw [if_neg (show ¬ Ln ≤ p by omega), if_pos c4, if_neg (show ¬ Ln ≤ p by omega), if_pos c4, er]
              exact ⟨gp, gk.2, gk.1, fun y => absurd y (by decide), fun _ => w2⟩
            unfold pkW at fin
            refine jb_if_d (jd_gt (jv_w (jv_sub (jv_gF (jr_lr rfl) rfl gp) (jv_gF (jr_lr rfl) rfl gs)) (by first | (unfold ja_r; omega) | (unfold ja_rl; omega) | omega | assumption)) jv_ci) (fun c6 => ?_) (fun c6 => ?_)
            · refine jt_pL (jr_lr rfl) (by first | rfl | assumption) jv_ci ?_
              try dsimp only
              exact fin _ (jnl_up gl) (by rw [if_pos (by omega)]; exact ja_upE rfl rfl)
              skip
            · exact fin _ gl (by rw [if_neg (by omega)]; exact gv)
              skip
        · refine jt_uG (w := (p : Int) + 1) (jr_lr rfl) (by first | rfl | assumption) jv_ci (by (try dsimp only); rw [p1, ja_w_id (by unfold ja_r; omega)]) ?_
          try dsimp only
          refine jt_sI (x := (if sgn (T p) = true then 1 else 0)) (jv_is (jv_cb (jd_or (jd_or (jd_or (jd_or (jd_or (jd_or (jd_or (jd_or (jd_eqI (jv_li rfl) jv_ci) (fun _ => (jd_eqI (jv_li rfl) jv_ci))) (fun _ => (jd_eqI (jv_li rfl) jv_ci))) (fun _ => (jd_eqI (jv_li rfl) jv_ci))) (fun _ => (jd_eqI (jv_li rfl) jv_ci))) (fun _ => (jd_eqI (jv_li rfl) jv_ci))) (fun _ => (jd_eqI (jv_li rfl) jv_ci))) (fun _ => (jd_eqI (jv_li rfl) jv_ci))) (fun _ => (jd_eqI (jv_li rfl) jv_ci)))) (by unfold sgn; simp only [decide_eq_true_eq]; congr 1; apply propext; omega)) ?_
          refine jt_pI (jr_lr rfl) (by first | rfl | assumption) (jv_is (x' := (if sgn (T p) = true then T p else 3)) (jv_cv (jd_b (jv_li rfl)) (fun _ => (jv_li rfl)) (fun _ => jv_ci)) (by rfl)) ?_
          try dsimp only
          refine q _ _ (jnf_up (jnf_up fr1 (by decide)) (by decide)) (jnl_rf _) ?_
          unfold tkP tkE tkK
          rw [if_neg (show ¬ Ln ≤ p by omega), if_neg c4, if_neg c2, if_neg (show ¬ Ln ≤ p by omega), if_neg c4, if_neg c2]
          have nk : ∀ z : Int, (z = 1 ∨ z = 2) → ¬ (if sgn (T p) = true then T p else 3) = z := by
            intro z hz y
            split at y
            · rename_i w
              unfold sgn at w
              simp only [decide_eq_true_eq] at w
              omega
            · omega
          refine ⟨by rw [ja_upO (by omega)]; exact ja_upE rfl rfl, by rw [ja_upO (by omega), ja_upO (by omega)]; exact s1, ?_, fun y => absurd y (nk 2 (Or.inr rfl)), fun y => absurd y (nk 1 (Or.inl rfl))⟩
          unfold tkM
          rw [if_neg (nk 1 (Or.inl rfl)), if_neg (nk 2 (Or.inr rfl))]
          exact ja_upE rfl rfl
          skip
