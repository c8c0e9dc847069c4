/-! strings -/
theorem jr_st {L : ja_L} {h : ja_H} {i : Nat} : jr (jb_st i) L h (some (1000000 + i)) := fun _ w => w
theorem jr_sv {L : ja_L} {h : ja_H} {r : ja_ER} {i : Nat} (o : jr r L h (some (1000000 + i))) (hi : i < 12) : jr (jb_sv r) L h (some (2000000 + i)) := fun _ w => o _ ⟨i, rfl, hi, w⟩
theorem jv_sc {L : ja_L} {h : ja_H} {r : ja_ER} {i : Nat} (o : jr r L h (some (1000000 + i))) (hi : i < 12) : jv (jb_sc r) L h 0 := fun _ w => o _ ⟨i, rfl, hi, w⟩
theorem jv_sl {L : ja_L} {h : ja_H} {r : ja_ER} {i : Nat} (o : jr r L h (some (2000000 + i))) (hi : i < 12) : jv (jb_sl r) L h ((jst_len.getD i 0 : Nat) : Int) := fun _ w => o _ ⟨i, rfl, hi, w⟩
theorem jv_sb {L : ja_L} {h : ja_H} {r : ja_ER} {e : ja_EI} {i : Nat} {z : Int} (o : jr r L h (some (2000000 + i))) (p : jv e L h z) (hi : i < 12) (h0 : 0 ≤ z) (h1 : z < (jst_len.getD i 0 : Nat)) : jv (jb_sb r e) L h (jst_b i z.toNat) := fun _ w => o _ (p _ ⟨i, rfl, hi, h0, h1, w⟩)
theorem jv_i2c {L : ja_L} {h : ja_H} {e : ja_EI} {x : Int} (p : jv e L h x) : jv (jb_i2c e) L h (ja_c16 x) := fun _ w => p _ w
theorem jv_ct {L : ja_L} {h : ja_H} {l : Launch} {d : Nat} {sh : ja_S} {M : ja_M} {r : ja_ER} {A : ja_EA} {vs : List ja_W} {v : Int} {i : Nat} (o : jr r L h (some (1000000 + i))) (hi : i < 12) (a : jA A L h vs) (c : ∀ Q : ja_Q, Q (some (.inl v)) h → ja_C l d M sh (.inr (.inr (some (1000000 + i))) :: vs) h Q) : jv (jb_xI (jb_ct l d sh M r A)) L h v := fun _ w => o _ (a _ ⟨i, rfl, hi, c _ ⟨v, rfl, fun _ => w⟩⟩)
theorem jt_rN {L : ja_L} {h : ja_H} {ty : FieldType} {e : ja_EI} {x : Int} {N B C : ja_P} {R : ja_Q} (p : jv e L h x) (hn : narrow ty (.int (Int32.ofInt x)) = .int (Int32.ofInt x)) (q : R (some (.inl x)) h) : jb_rN ty e N B C R L h := p _ ⟨hn, q⟩
theorem kJ3_checkIndex {l : Launch} {d : Nat} {sh : ja_S} {h : ja_H} {Q : ja_Q} {x y : Int} {z : Option Nat} (h0 : 0 ≤ x) (h1 : x < y) (q : Q (some (.inl x)) h) : ja_C l (d + 1) mJ3_checkIndex_8e157 sh [.inl x, .inl y, .inr (.inr z)] h Q := by
  refine ja_met (by decide +kernel) (Nat.le_of_ble_eq_true rfl) ?_
  intro X ok hl hsh hnl hR has hho
  subst hl; subst hsh
  have ok : ja_Ok X cJ3_checkIndex_8e157 RJ3 (d + 1) := ok
  have hR : ja_RI X cJ3_checkIndex_8e157 Q := hR
  have key : ja_Rz X [] 0 (jb_lt (jb_li 0) (jb_ci 0) (fun _ _ => False) (jb_lt (jb_li 0) (jb_li 1) (jb_rI (jb_li 0) (fun _ _ => False) (fun _ _ => False) (fun _ _ => False) Q) (fun _ _ => False))) :=
    jc_lt0_t (p1 := 1) (tgt := 9) ok (jc_iload_n ok dJ3_checkIndex_8e157_0 rfl) dJ3_checkIndex_8e157_1 rfl ja_c0 (fun _ _ q => q.elim) (jc_lt_t (p1 := 5) (p2 := 6) (tgt := 16) ok (jc_iload_n ok dJ3_checkIndex_8e157_4 rfl) (jc_iload_n ok dJ3_checkIndex_8e157_5 rfl) dJ3_checkIndex_8e157_6 rfl ja_c0 (jc_rI (p1 := 17) (jc_iload_n ok dJ3_checkIndex_8e157_16 rfl) hR dJ3_checkIndex_8e157_17) (fun _ _ q => q.elim))
  exact key _ _ (jd_lt (jv_li rfl) jv_ci _ _ (fun w => absurd h0 (by omega)) (fun _ => jd_lt (jv_li rfl) (jv_li rfl) _ _ (fun _ => jt_rI (jv_li rfl) q) (fun w => w h1)))
theorem jx_pg {L : ja_L} {h : ja_H} {l : Launch} {d : Nat} {sh : ja_S} {M : ja_M} {A : ja_EA} {vs : List ja_W} {N B C : ja_P} {R : ja_Q} (a : jA A L h vs) (c : ∀ z, ja_C l d M sh (vs ++ [.inr (.inr z)]) h (fun r h' => ∃ z, r = some (.inl z) ∧ (ja_r z → N L h'))) : jb_po (jb_xI (jb_ca l d sh M (jb_ar A jb_gsi))) N B C R L h := a _ c
theorem kJ0_checkIndex {l : Launch} {d : Nat} {sh : ja_S} {h : ja_H} {Q : ja_Q} {x y : Int} (h0 : 0 ≤ x) (h1 : x < y) (q : Q none h) : ja_C l (d + 2) mJ0_checkIndex_df160 sh [.inl x, .inl y] h Q := by
  refine eJ0_checkIndex_df160 _ _ fun _ _ _ => ?_
  unfold bJ0_checkIndex_df160
  exact jx_pg (jA_i (jA_i jA_0 (jv_li rfl)) (jv_li rfl)) fun z => kJ3_checkIndex h0 h1 ⟨_, rfl, fun _ => q⟩
theorem kJ0_coder {l : Launch} {d : Nat} {sh : ja_S} {h : ja_H} {Q : ja_Q} {i : Nat} (hi : i < 12) (q : Q (some (.inl 0)) h) : ja_C l (d + 1) mJ0_coder_7d493 sh [.inr (.inr (some (1000000 + i)))] h Q := by
  refine eJ0_coder_7d493 _ fun _ => ?_
  unfold bJ0_coder_7d493
  exact jt_rN (x := 0) (jv_is (jv_cv (φ := True) (y := 1) (jd_eq (jd_bt jv_ci) (by decide)) (fun _ => jv_sc (jr_lr rfl) hi) (fun _ => jv_ci)) (if_pos trivial)) rfl q
theorem kJ0_isLatin1 {l : Launch} {d : Nat} {sh : ja_S} {h : ja_H} {Q : ja_Q} {i : Nat} (hi : i < 12) (q : Q (some (.inl 1)) h) : ja_C l (d + 1) mJ0_isLatin1_aae02 sh [.inr (.inr (some (1000000 + i)))] h Q := by
  refine eJ0_isLatin1_aae02 _ fun _ => ?_
  unfold bJ0_isLatin1_aae02
  exact jt_rZ (φ := True) (jv_is (jv_cv (φ := True) (x := 1) (y := 0) (jd_eq (jd_and (jd_bt jv_ci) (fun _ => jd_eqI (jv_sc (jr_lr rfl) hi) jv_ci)) (by decide)) (fun _ => jv_ci) (fun _ => jv_ci)) rfl) q
theorem jst_shr : ∀ i, i < 12 → ja_shr ((jst_len.getD i 0 : Nat) : Int) 0 = ((jst_len.getD i 0 : Nat) : Int) := by decide
theorem kJ0_length {l : Launch} {d : Nat} {sh : ja_S} {h : ja_H} {Q : ja_Q} {i : Nat} (hi : i < 12) (q : Q (some (.inl ((jst_len.getD i 0 : Nat) : Int))) h) : ja_C l (d + 2) mJ0_length_8abf5 sh [.inr (.inr (some (1000000 + i)))] h Q := by
  refine eJ0_length_8abf5 _ fun _ => ?_
  unfold bJ0_length_8abf5
  exact jt_rI (jv_is (jv_shr (jv_sl (jr_sv (jr_lr rfl) hi) hi) (jv_ct (jr_lr rfl) hi jA_0 fun _ => kJ0_coder hi)) (jst_shr i hi)) q
theorem jst_c16 : ∀ i, i < 12 → ∀ j, j < jst_len.getD i 0 → ja_c16 (ja_land (jst_b i j) 255) = jst_b i j ∧ 65 ≤ jst_b i j ∧ jst_b i j ≤ 122 := by decide
theorem jst_nar {x : Int} (h0 : 0 ≤ x) (h1 : x ≤ 255) : narrow .char (.int (Int32.ofInt x)) = .int (Int32.ofInt x) := by
  obtain ⟨k, rfl⟩ : ∃ k : Nat, x = (k : Int) := ⟨x.toNat, by omega⟩
  have key : ∀ k, k < 256 → ((Int32.ofInt ((k : Nat) : Int)).toUInt32 % 65536).toInt32 = Int32.ofInt ((k : Nat) : Int) := by decide +kernel
  have := key k (by omega)
  simp only [narrow]
  exact congrArg _ this
theorem kJ1_charAt {l : Launch} {d : Nat} {sh : ja_S} {h : ja_H} {Q : ja_Q} {i j : Nat} {z : Int} (hi : i < 12) (hz : z = (j : Int)) (hj : j < jst_len.getD i 0) (q : Q (some (.inl (jst_b i j))) h) : ja_C l (d + 3) mJ1_charAt_3b067 sh [.inr (.inr (some (2000000 + i))), .inl z] h Q := by
  have w := jst_c16 i hi j hj
  refine eJ1_charAt_3b067 _ _ fun _ _ => ?_
  unfold bJ1_charAt_3b067
  show (jb_ai (jb_ai jb_a0 (jb_li 1)) (jb_sl (jb_lr 0))) (fun vs L h => ja_C l (d + 2) mJ0_checkIndex_df160 sh vs h fun r h' => r = none ∧ (jb_rN .char (jb_i2c (jb_iand (jb_sb (jb_lr 0) (jb_li 1)) (jb_ci 255)))) _ _ _ Q L h') _ _
  refine (jA_i (jA_i jA_0 (jv_li rfl)) (jv_sl (jr_lr rfl) hi)) _ (kJ0_checkIndex (by omega) (by omega) ⟨rfl, ?_⟩)
  exact jt_rN (jv_is (jv_i2c (jv_and (jv_sb (jr_lr rfl) (jv_li rfl) hi (by omega) (by omega)) jv_ci)) (by rw [hz]; exact w.1)) (jst_nar (by omega) (by omega)) q
theorem kJ0_charAt {l : Launch} {d : Nat} {sh : ja_S} {h : ja_H} {Q : ja_Q} {i j : Nat} {z : Int} (hi : i < 12) (hz : z = (j : Int)) (hj : j < jst_len.getD i 0) (q : Q (some (.inl (jst_b i j))) h) : ja_C l (d + 4) mJ0_charAt_5068e sh [.inr (.inr (some (1000000 + i))), .inl z] h Q := by
  have w := jst_c16 i hi j hj
  refine eJ0_charAt_5068e _ _ fun _ _ => ?_
  unfold bJ0_charAt_5068e
  refine jb_if_d (φ := True) (jd_eq (jd_bt (jv_ct (jr_lr rfl) hi jA_0 fun _ => kJ0_isLatin1 hi)) (by decide)) (fun _ => ?_) (fun c => absurd trivial c)
  exact jt_rN (jy_sI (jA_i (jA_r jA_0 (jr_sv (jr_lr rfl) hi)) (jv_li rfl)) fun _ => kJ1_charAt hi hz hj) (jst_nar (by omega) (by omega)) q
/-- the token is that word -/
def tkW (T : Nat → Int) (Ln s i : Nat) : Bool := decide (tkK T Ln s = 1 ∧ tkE T Ln s = s + jst_len.getD i 0 ∧ ∀ j, j < jst_len.getD i 0 → T (s + j) = jst_b i j)
theorem pkN_in {T T' : Nat → Int} {s s' : Nat} : ∀ a b, a ≤ 7 → b ≤ 7 → (∀ i, i < a → 1 ≤ T (s + i) ∧ T (s + i) ≤ 255) → (∀ i, i < b → 1 ≤ T' (s' + i) ∧ T' (s' + i) ≤ 255) → pkN T s a = pkN T' s' b → a = b ∧ ∀ i, i < a → T (s + i) = T' (s' + i)
  | 0, 0, _, _, _, _, _ => ⟨rfl, fun i hi => by omega⟩
  | 0, b + 1, _, hb, _, h2, e => by
    have := h2 b (by omega)
    simp only [pkN] at e
    rw [if_pos (by omega)] at e
    omega
  | a + 1, 0, ha, _, h1, _, e => by
    have := h1 a (by omega)
    simp only [pkN] at e
    rw [if_pos (by omega)] at e
    omega
  | a + 1, b + 1, ha, hb, h1, h2, e => by
    have t1 := h1 a (by omega)
    have t2 := h2 b (by omega)
    simp only [pkN] at e
    rw [if_pos (by omega), if_pos (by omega)] at e
    have ih := pkN_in (T := T) (T' := T') (s := s) (s' := s') a b (by omega) (by omega) (fun i hi => h1 i (by omega)) (fun i hi => h2 i (by omega)) (by omega)
    obtain ⟨i1, i2⟩ := ih
    subst i1
    refine ⟨rfl, fun i hi => ?_⟩
    by_cases z : i = a
    · subst z; omega
    · exact i2 i (by omega)
theorem pkN_eq {T T' : Nat → Int} {s s' : Nat} : ∀ a, (∀ i, i < a → T (s + i) = T' (s' + i)) → pkN T s a = pkN T' s' a
  | 0, _ => rfl
  | a + 1, h => by
    have ih := pkN_eq (T := T) (T' := T') (s := s) (s' := s') a (fun i hi => h i (by omega))
    simp only [pkN]
    rw [ih, h a (by omega)]
/-- the word's number -/
def jst_n (i : Nat) : Nat := pkN (jst_b i) 0 (jst_len.getD i 0)
theorem jst_l7 : ∀ i, i < 12 → jst_len.getD i 0 ≤ 7 ∧ 1 ≤ jst_len.getD i 0 := by decide
theorem tkW_n {T : Nat → Int} {Ln s i : Nat} (hi : i < 12) (hk : tkK T Ln s = 1) : pkW T s (tkE T Ln s - s) = ((jst_n i : Nat) : Int) ↔ tkW T Ln s i = true := by
  have l7 := jst_l7 i hi
  have hs : ¬ Ln ≤ s := by intro w; unfold tkK at hk; rw [if_pos w] at hk; exact absurd hk (by decide)
  have eb := tkE_b (T := T) (Ln := Ln) (s := s) (by omega)
  have hl : ∀ j, j < tkE T Ln s - s → 65 ≤ T (s + j) ∧ T (s + j) ≤ 122 := by
    intro j hj
    have lt : ltr (T s) = true := by
      by_cases z : ltr (T s) = true
      · exact z
      · exfalso
        unfold tkK at hk
        rw [if_neg hs, if_neg z] at hk
        split at hk
        · omega
        · split at hk
          · rename_i w
            unfold sgn at w
            simp only [decide_eq_true_eq] at w
            omega
          · omega
    have rb := rnE_b (p := ltr) (T := T) (Ln := Ln) s
    unfold tkE at hj
    rw [if_neg hs, if_pos lt] at hj
    have := rb.2.2 (s + j) (by omega) (by omega)
    unfold ltr at this
    simp only [decide_eq_true_eq] at this
    omega
  have hw : ∀ j, j < jst_len.getD i 0 → 65 ≤ jst_b i (0 + j) ∧ jst_b i (0 + j) ≤ 122 := fun j hj => by rw [Nat.zero_add]; exact (jst_c16 i hi j hj).2
  have pos : 1 ≤ jst_n i := by
    unfold jst_n
    cases e : jst_len.getD i 0 with
    | zero => omega
    | succ m =>
      have := hw m (by omega)
      simp only [pkN]
      rw [if_pos (by omega)]
      omega
  unfold tkW
  simp only [decide_eq_true_eq]
  constructor
  · intro e
    unfold pkW at e
    split at e
    · omega
    · rename_i c
      have := pkN_in (T := T) (T' := jst_b i) (s := s) (s' := 0) (tkE T Ln s - s) (jst_len.getD i 0) (by omega) (by omega) (fun j hj => by have := hl j hj; omega) (fun j hj => by have := hw j hj; omega) (by unfold jst_n at e; exact Int.ofNat.inj e)
      refine ⟨hk, by omega, fun j hj => ?_⟩
      have := this.2 j (by omega)
      rw [Nat.zero_add] at this
      exact this
  · rintro ⟨_, e2, e3⟩
    unfold pkW
    rw [if_neg (by omega), show tkE T Ln s - s = jst_len.getD i 0 by omega]
    unfold jst_n
    rw [pkN_eq (T' := jst_b i) (s' := 0) (jst_len.getD i 0) (fun j hj => by rw [Nat.zero_add]; exact e3 j hj)]
set_option maxRecDepth 10000 in
theorem kX5_isWord {l : Launch} {d : Nat} {h : ja_H} {Q : ja_Q} {n Ln s i : Nat} {T : Nat → Int} (hi : i < 12) (hG : jG h.1) (hL : h.2.1 48 1 = (Ln : Int)) (hL3 : Ln ≤ 300) (hT : h.2.1 49 = T) (hs : s ≤ Ln) (hk : tkO T Ln s h.2.1) (q : Q (some (.inl (if tkW T Ln s i = true then 1 else 0))) h) : ja_C l (d + 5) mX5_isWord (js_sh n) [.inr (.inr (some (48))), .inr (.inr ((some (1000000 + i))))] h Q := by
  obtain ⟨k1, k2, k3, _⟩ := hk
  have eb := tkE_b (T := T) (Ln := Ln) hs
  have l7 := jst_l7 i hi
  have ew : (tkW T Ln s i = true) ↔ (tkK T Ln s = 1 ∧ tkE T Ln s = s + jst_len.getD i 0 ∧ ∀ j, j < jst_len.getD i 0 → T (s + j) = jst_b i j) := by unfold tkW; simp only [decide_eq_true_eq]
  obtain ⟨e, he⟩ : ∃ e : Nat, tkE T Ln s = e := ⟨_, rfl⟩
  obtain ⟨z, hz⟩ : ∃ z : Nat, jst_len.getD i 0 = z := ⟨_, rfl⟩
  rw [he] at k1 eb ew
  rw [hz] at l7 ew
  refine eX5_isWord _ _ fun ho => ?_
  unfold bX5_isWord
  refine jb_if_d (φ := ¬ (tkK T Ln s = 1 ∧ e = s + z)) (jd_eq (jd_or (jd_ne (jv_gF (jr_lr rfl) rfl k2) jv_ci) (fun _ => (jd_ne (jv_w (jv_sub (jv_gF (jr_lr rfl) rfl k1) (jv_gF (jr_lr rfl) rfl k3)) (by first | (unfold ja_r; omega) | (unfold ja_rl; omega) | omega | assumption)) (jv_is (x' := (z : Int)) (jv_ct (jr_lr rfl) hi jA_0 fun _ => kJ0_length hi) (by rw [hz]))))) (by omega)) (fun c1 => ?_) (fun c1 => ?_)
  · rw [if_neg (show ¬ tkW T Ln s i = true from fun y => c1 ⟨(ew.mp y).1, (ew.mp y).2.1⟩)] at q
    refine jv_ci _ ⟨Or.inl rfl, ?_⟩
    exact q
  · have c1 := Classical.not_not.mp c1
    refine jt_sI jv_ci ?_
    refine jb_forc (z) (fun (j : Nat) L' h' => ∃ (v_i : Int), L' = [some (.inr (.inr (some (48)))), some (.inr (.inr ((some (1000000 + i))))), some (.inl (v_i))] ∧ v_i = (j : Int) ∧ h = h' ∧ (∀ k, k < j → T (s + k) = jst_b i k)) ⟨_, rfl, (by first | rfl | omega | (simp; done) | (simp; omega)), rfl, (by exact fun k hk => absurd hk (by omega))⟩ ?_ ?_ ?_
    · rintro j h_j _ _ ⟨v_i0, rfl, rfl, rfl, fa⟩
      exact jd_eq (jd_lt (jv_li rfl) (jv_is (x' := (z : Int)) (jv_ct (jr_lr rfl) hi jA_0 fun _ => kJ0_length hi) (by rw [hz]))) (by omega)
    · rintro j h_j _ _ ⟨v_i0, rfl, rfl, rfl, fa⟩
      refine jb_if_d (φ := ¬ T (s + j) = jst_b i j) (jd_eq (jd_ne (jy_mI (jr_lr rfl) rfl (jA_i jA_0 (jv_is (x' := ((s + j : Nat) : Int)) (jv_w (jv_add (jv_gF (jr_lr rfl) rfl k3) (jv_li rfl)) (by first | (unfold ja_r; omega) | (unfold ja_rl; omega) | omega | assumption)) (by omega))) fun _ => kX5_byteAt hG hL hL3 hT) (jv_ct (jr_lr rfl) hi (jA_i jA_0 (jv_li rfl)) fun _ => kJ0_charAt hi rfl (by omega))) (by rw [if_pos (by omega)])) (fun c2 => ?_) (fun c2 => ?_)
      · rw [if_neg (show ¬ tkW T Ln s i = true from fun y => c2 ((ew.mp y).2.2 j (by omega)))] at q
        refine jv_ci _ ⟨Or.inl rfl, ?_⟩
        exact q
      · have c2 := Classical.not_not.mp c2
        exact jt_inc rfl (by first | (unfold ja_r; omega) | (unfold ja_rl; omega) | omega | assumption) ⟨_, rfl, (by first | rfl | omega | (simp; done) | (simp; omega)), rfl, (by 
              intro k hk
              by_cases y : k = j
              · subst y; exact c2
              · exact fa k (by omega))⟩
    · rintro _ _ ⟨v_i0, rfl, rfl, rfl, fa⟩
      rw [if_pos (ew.mpr ⟨c1.1, c1.2, fa⟩)] at q
      refine jv_ci _ ⟨Or.inr rfl, ?_⟩
      exact q
