theorem jt_pX {L : ja_L} {h : ja_H} {e : ja_EI} {r : ja_ER} {N B C : ja_P} {R : ja_Q} {sh : ja_S} {ci j k : Nat} (p : jr r L h (some k)) (q : e (fun z L' h' => ∃ k0, some k = some k0 ∧ sh[k0]? = some (0, ci) ∧ N L' (h'.1, ja_up h'.2.1 k0 j z, h'.2.2)) L h) : jb_pI sh ci j r e N B C R L h := p _ q
/-- what text() leaves in the reference: the fault of R, its place, the text's number -/
def tmF (t : Nat) (I f : Nat → Nat → Int) : Prop := jfr [90, 91, 93, 98, 99] I f ∧ (∀ j, j < 16 ∨ 35 < j → f 90 j = I 90 j) ∧ (∀ i, i ≠ 3 → f 91 i = I 91 i) ∧ ∀ i, i < 1000 * t ∨ 1000 * t + 1000 ≤ i → f 93 i = I 93 i
set_option maxRecDepth 10000 in
theorem kX12_text {l : Launch} {d : Nat} {h : ja_H} {Q : ja_Q} {T K N : Nat → Int} {n Ln t : Nat} (hG : jG h.1) (hL : h.2.1 90 16 = (Ln : Int)) (hL3 : Ln ≤ 300) (hTT : h.2.1 97 = T) (hb : ∀ j, j < Ln → 0 ≤ T j ∧ T j ≤ 255) (ht : h.2.1 91 3 = (t : Int)) (ht6 : t ≤ 6) (R : acR) (hR : R = txA T Ln K N)
    (q6 : t = 6 → Q (some (.inl (-1))) h)
    (q : t < 6 → ∀ f g, tmF t h.2.1 f → jnl h.2.2 g → (f 90 16 = 0 ∧ f 90 17 = R.1 ∧ f 90 18 = (if R.1 = 0 then -1 else (R.2.1 : Int)) ∧ f 91 3 = if R.1 = 0 then (t : Int) + 1 else (t : Int)) → (R.1 = 0 → f 93 (1000 * t) = (R.2.2.1 : Int) ∧ txR (f 93) (1000 * t) R.2.2.1 R.2.2.2.1 R.2.2.2.2.1 [] ∧ cdR (1000 * t) R.2.2.2.2.2 f) → Q (some (.inl (if R.1 = 0 then (t : Int) else -1))) (h.1, f, g)) : ja_C l (d + 10) mX12_text (js_sh n) [.inr (.inr (some (90)))] h Q := by
  have h3 : h.2.1 91 (3 : Int).toNat = (t : Int) := ht
  refine eX12_text _ fun ho => ?_
  unfold bX12_text
  refine jb_if_d (φ := t = 6) (jd_eq (jd_eqI (jv_fI (jr_g (jr_lr rfl) rfl (by exact jG_90 hG rfl)) jv_ci rfl (by decide) (by decide) h3) jv_ci) (by omega)) (fun c1 => ?_) (fun c1 => ?_)
  · refine jt_rI jv_ci ?_
    exact q6 c1
  · have t6 : t < 6 := by omega
    refine jt_pX (jr_lr rfl) ?_
    refine jx_mI (jr_lr rfl) rfl jA_0 (kX12_readText hG hL hL3 hTT hb ht t6 R hR fun f1 g1 fr1 gr1 e20 w1 => ⟨_, rfl, fun _ => ⟨90, rfl, rfl, ?_⟩⟩)
    dsimp only
    obtain ⟨f2, hf2⟩ : ∃ f2, ja_up f1 90 17 R.1 = f2 := ⟨_, rfl⟩
    have o2 : ∀ c j, (c ≠ 90 ∨ j ≠ 17) → f2 c j = f1 c j := fun c j y => by rw [← hf2, ja_upO y]
    have u17 : f2 90 17 = R.1 := by rw [← hf2, ja_upE rfl rfl]
    have u20 : f2 90 20 = ((R.2.1 : Nat) : Int) := (o2 _ _ (by omega)).trans e20
    rw [hf2]
    refine jt_pI (jr_lr rfl) (by first | rfl | assumption) (jv_is (x' := (if R.1 = 0 then -1 else (R.2.1 : Int))) (jv_cv (jd_eqI (jv_gF (jr_lr rfl) rfl u17) jv_ci) (fun _ => jv_ci) (fun _ => (jv_gF (jr_lr rfl) rfl u20))) (by rfl)) ?_
    try dsimp only
    refine jt_pI (jr_lr rfl) (by first | rfl | assumption) jv_ci ?_
    try dsimp only
    obtain ⟨f3, hf3⟩ : ∃ f3, ja_up (ja_up f2 90 18 (if R.1 = 0 then -1 else (R.2.1 : Int))) 90 16 0 = f3 := ⟨_, rfl⟩
    have o3 : ∀ c j, (c ≠ 90 ∨ (j ≠ 16 ∧ j ≠ 17 ∧ j ≠ 18)) → f3 c j = f1 c j := fun c j y => by rw [← hf3, ja_upO (by omega), ja_upO (by omega), o2 _ _ (by omega)]
    have v16 : f3 90 16 = 0 := by rw [← hf3, ja_upE rfl rfl]
    have v18 : f3 90 18 = (if R.1 = 0 then -1 else (R.2.1 : Int)) := by rw [← hf3, ja_upO (by omega), ja_upE rfl rfl]
    have v17 : f3 90 17 = R.1 := by rw [← hf3, ja_upO (by omega), ja_upO (by omega)]; exact u17
    have v3 : f3 91 3 = (t : Int) := (o3 _ _ (by omega)).trans ((congrFun (fr1.1 91 (by simp)) 3).trans ht)
    have fr3 : tmF t h.2.1 f3 := by
      refine ⟨fun k hk => ?_, fun j hj => (o3 _ _ (by omega)).trans (fr1.2.1 j (by omega)), fun i _ => (o3 _ _ (by omega)).trans (congrFun (fr1.1 91 (by simp)) i), fun i hi => (o3 _ _ (by omega)).trans (fr1.2.2 i hi)⟩
      simp only [List.mem_cons, List.not_mem_nil, or_false, not_or] at hk
      funext j
      rw [o3 _ _ (by omega), fr1.1 k (by simp; omega)]
    have e93 : f3 93 = f1 93 := by funext j; exact o3 _ _ (by omega)
    rw [hf3]
    refine jb_if_d (jd_ne (jv_gF (jr_lr rfl) rfl v17) jv_ci) (fun c2 => ?_) (fun c2 => ?_)
    · refine jt_rI jv_ci ?_
      have := q t6 f3 g1 fr3 gr1 ⟨v16, v17, v18, by rw [if_neg c2]; exact v3⟩ (fun y => absurd y c2)
      rw [if_neg c2] at this
      exact this
    · have c2 := Classical.not_not.mp c2
      have h33 : f3 91 (3 : Int).toNat = (t : Int) := v3
      refine jt_uB (w := (t : Int) + 1) (jr_g (jr_lr rfl) rfl (by exact jG_90 hG rfl)) rfl jv_ci (by decide) (by decide) jv_ci (by dsimp only; rw [h33, ja_w_id (by unfold ja_r; omega)]) ?_
      dsimp only
      obtain ⟨f4, hf4⟩ : ∃ f4, ja_up f3 91 (3 : Int).toNat ((t : Int) + 1) = f4 := ⟨_, rfl⟩
      have o4 : ∀ c j, (c ≠ 91 ∨ j ≠ 3) → f4 c j = f3 c j := fun c j y => by rw [← hf4]; exact ja_upO y
      have w3 : f4 91 (3 : Int).toNat = (t : Int) + 1 := by rw [← hf4]; exact ja_upE rfl rfl
      have fr4 : tmF t h.2.1 f4 := by
        refine ⟨fun k hk => ?_, fun j hj => (o4 _ _ (by omega)).trans (fr3.2.1 j (by omega)), fun i hi => (o4 _ _ (by omega)).trans (fr3.2.2.1 i hi), fun i hi => (o4 _ _ (by omega)).trans (fr3.2.2.2 i hi)⟩
        have hk2 := hk
        simp only [List.mem_cons, List.not_mem_nil, or_false, not_or] at hk
        rw [← fr3.1 k hk2]
        funext j
        exact o4 _ _ (by omega)
      rw [hf4]
      refine jt_rI (x := (t : Int)) (jv_is (jv_w (jv_sub (jv_fI (jr_g (jr_lr rfl) rfl (by exact jG_90 hG rfl)) jv_ci rfl (by decide) (by decide) w3) jv_ci) (by unfold ja_r; omega)) (by omega)) ?_
      have e94 : f4 93 = f1 93 := by rw [← e93]; funext j; exact o4 _ _ (by omega)
      have := q t6 f4 g1 fr4 gr1 ⟨(o4 _ _ (by omega)).trans v16, (o4 _ _ (by omega)).trans v17, (o4 _ _ (by omega)).trans v18, by rw [if_pos c2]; exact w3⟩ (fun y => by
        obtain ⟨x1, x2, x3⟩ := w1 y
        refine ⟨by rw [e94]; exact x1, by rw [e94]; exact x2, fun j hj => ?_⟩
        rw [e94]; exact x3 j hj)
      rw [if_pos c2] at this
      exact this
theorem jG_65 {n i : Nat} {R : Nat → Nat → Option Nat} (hG : jG R) (hi : i < 6) : R 65 i = some (66 + 4 * i) := by
  match i, hi with
  | 0, _ => exact jG_at hG rfl
  | 1, _ => exact jG_at hG rfl
  | 2, _ => exact jG_at hG rfl
  | 3, _ => exact jG_at hG rfl
  | 4, _ => exact jG_at hG rfl
  | 5, _ => exact jG_at hG rfl
set_option maxRecDepth 10000 in
theorem kX11_text {l : Launch} {d : Nat} {h : ja_H} {Q : ja_Q} {T : Nat → Int} {n Ln t : Nat} (hG : jG h.1) (hL : h.2.1 48 1 = (Ln : Int)) (hL3 : Ln ≤ 300) (hTT : h.2.1 49 = T) (hb : ∀ j, j < Ln → 0 ≤ T j ∧ T j ≤ 255) (ht : h.2.1 1 9 = (t : Int)) (ht6 : t ≤ 6)
    (q6 : t = 6 → Q (some (.inl (-1))) h)
    (q : t < 6 → ∀ f R P, P = 66 + 4 * t → R = txA T Ln (h.2.1 (P + 1)) (h.2.1 (P + 2)) → (jfr [1, 48, P, P + 1, P + 2, P + 3] h.2.1 f ∧ (∀ j, j ≠ 9 → f 1 j = h.2.1 1 j) ∧ f 48 7 = 1) → (f 48 1 = 0 ∧ f 48 8 = R.1 ∧ f 48 9 = (if R.1 = 0 then -1 else (R.2.1 : Int)) ∧ f 1 9 = if R.1 = 0 then (t : Int) + 1 else (t : Int)) → (f P 3 = (R.2.2.1 : Int) ∧ R.2.2.1 ≤ 16 ∧ f (P + 1) = R.2.2.2.1 ∧ f (P + 2) = R.2.2.2.2.1 ∧ ∀ j, j < R.2.2.2.2.2.length → f (P + 3) j = R.2.2.2.2.2.getD j 0) → Q (some (.inl (if R.1 = 0 then (t : Int) else -1))) (ja_up h.1 48 6 (some P), f, h.2.2)) : ja_C l (d + 47) mX11_text (js_sh n) [.inr (.inr (some (0)))] h Q := by
  refine eX11_text _ fun ho => ?_
  unfold bX11_text
  refine jb_if_d (φ := t = 6) (jd_eq (jd_or (jd_not (jd_b (jy_sI (jA_i (jA_i (jA_i jA_0 (jv_gF (jr_g (jr_lr rfl) rfl (jG_at hG rfl)) rfl ht)) jv_ci) (jv_w (jv_sub (jv_len (jr_g (jr_lr rfl) rfl (jG_at hG rfl)) rfl (by decide)) jv_ci) (by unfold ja_r; omega))) fun _ => kX11_within))) (fun y => jd_isn (jr_is (q' := some (66 + 4 * t)) (jr_aG (jr_g (jr_lr rfl) rfl (jG_at hG rfl)) (jv_gF (jr_g (jr_lr rfl) rfl (jG_at hG rfl)) rfl ht) rfl (by omega) (by omega)) (by rw [show ((t : Nat) : Int).toNat = t by omega]; exact jG_65 (n := n) hG (by omega))))) (by simp; omega)) (fun c1 => ?_) (fun c1 => ?_)
  · refine jt_rI jv_ci ?_
    exact q6 c1
  · have t6 : t < 6 := by omega
    refine jx_m (jr_g (jr_lr rfl) rfl (jG_at hG rfl)) rfl (jA_r jA_0 (jr_is (q' := some (66 + 4 * t)) (jr_aG (jr_g (jr_lr rfl) rfl (jG_at hG rfl)) (jv_gF (jr_g (jr_lr rfl) rfl (jG_at hG rfl)) rfl ht) rfl (by omega) (by omega)) (by rw [show ((t : Nat) : Int).toNat = t by omega]; exact jG_65 (n := n) hG (by omega)))) (kX5_read (P := 66 + 4 * t) hG t6 rfl hL hL3 hTT hb fun r f1 er fr1 hA => ⟨rfl, ?_⟩)
    have hG1 := jG_u6 (v := some (66 + 4 * t)) hG
    obtain ⟨P, hP⟩ : ∃ P, P = 66 + 4 * t := ⟨_, rfl⟩
    rw [← hP] at er fr1 hA hG1 ⊢
    obtain ⟨hS, ⟨x1, x2, x3, x4⟩, x5, x6, x7⟩ := hA
    dsimp only at x1 x3 x4 x5 x6 x7
    obtain ⟨R1, hR1⟩ : ∃ R1, ja_up h.1 48 6 (some P) = R1 := ⟨_, rfl⟩
    rw [hR1] at hG1 ⊢
    refine jt_pI (jr_g (jr_lr rfl) rfl (jG_at hG1 rfl)) rfl jv_ci ?_
    dsimp only
    obtain ⟨f2, hf2⟩ : ∃ f2, ja_up f1 48 1 0 = f2 := ⟨_, rfl⟩
    have o2 : ∀ c j, (c ≠ 48 ∨ j ≠ 1) → f2 c j = f1 c j := fun c j y => by rw [← hf2, ja_upO y]
    have u1 : f2 48 1 = 0 := by rw [← hf2, ja_upE rfl rfl]
    have u8 : f2 48 8 = r.1 := (o2 _ _ (by omega)).trans x6
    have u9 : f2 1 9 = (t : Int) := (o2 _ _ (by omega)).trans ((congrFun (fr1.1 1 (by simp; omega)) 9).trans ht)
    rw [hf2]
    refine jb_if_d (jd_ne (jv_gF (jr_g (jr_lr rfl) rfl (jG_at hG1 rfl)) rfl u8) jv_ci) (fun c2 => ?_) (fun c2 => ?_)
    · refine jt_rI jv_ci ?_
      have := q t6 f2 r P hP er ⟨fun k hk => ?_, fun j _ => (o2 _ _ (by omega)).trans (congrFun (fr1.1 1 (by simp; omega)) j), (o2 _ _ (by omega)).trans fr1.2⟩ ⟨u1, u8, (o2 _ _ (by omega)).trans x7, by rw [if_neg c2]; exact u9⟩ ⟨(o2 _ _ (by omega)).trans x1, x2, (by funext j; exact o2 _ _ (by omega) : f2 (P + 1) = f1 (P + 1)).trans x3, (by funext j; exact o2 _ _ (by omega) : f2 (P + 2) = f1 (P + 2)).trans x4, fun j hj => (o2 _ _ (by omega)).trans (x5 j hj)⟩
      · rw [if_neg c2, hR1] at this
        exact this
      · simp only [List.mem_cons, List.not_mem_nil, or_false, not_or] at hk
        rw [← fr1.1 k (by simp; omega)]
        funext j
        exact o2 _ _ (by omega)
    · have c2 := Classical.not_not.mp c2
      refine jt_uG (w := (t : Int) + 1) (jr_g (jr_lr rfl) rfl (jG_at hG1 rfl)) rfl jv_ci (by dsimp only; rw [u9, ja_w_id (by unfold ja_r; omega)]) ?_
      dsimp only
      obtain ⟨f3, hf3⟩ : ∃ f3, ja_up f2 1 9 ((t : Int) + 1) = f3 := ⟨_, rfl⟩
      have o3 : ∀ c j, (c ≠ 1 ∨ j ≠ 9) → f3 c j = f2 c j := fun c j y => by rw [← hf3, ja_upO y]
      have w9 : f3 1 9 = (t : Int) + 1 := by rw [← hf3, ja_upE rfl rfl]
      rw [hf3]
      refine jt_rI (x := (t : Int)) (jv_is (jv_w (jv_sub (jv_gF (jr_g (jr_lr rfl) rfl (jG_at hG1 rfl)) rfl w9) jv_ci) (by unfold ja_r; omega)) (by omega)) ?_
      have o4 : ∀ c j, (c ≠ 1 ∨ j ≠ 9) → (c ≠ 48 ∨ j ≠ 1) → f3 c j = f1 c j := fun c j y z => (o3 c j y).trans (o2 c j z)
      have := q t6 f3 r P hP er ⟨fun k hk => ?_, fun j hj => (o4 _ _ (by omega) (by omega)).trans (congrFun (fr1.1 1 (by simp; omega)) j), (o4 _ _ (by omega) (by omega)).trans fr1.2⟩ ⟨(o3 _ _ (by omega)).trans u1, (o3 _ _ (by omega)).trans u8, (o4 _ _ (by omega) (by omega)).trans x7, by rw [if_pos c2]; exact w9⟩ ⟨(o4 _ _ (by omega) (by omega)).trans x1, x2, (by funext j; exact o4 _ _ (by omega) (by omega) : f3 (P + 1) = f1 (P + 1)).trans x3, (by funext j; exact o4 _ _ (by omega) (by omega) : f3 (P + 2) = f1 (P + 2)).trans x4, fun j hj => (o4 _ _ (by omega) (by omega)).trans (x5 j hj)⟩
      · rw [if_pos c2, hR1] at this
        exact this
      · simp only [List.mem_cons, List.not_mem_nil, or_false, not_or] at hk
        rw [← fr1.1 k (by simp; omega)]
        funext j
        exact o4 _ _ (by omega) (by omega)
