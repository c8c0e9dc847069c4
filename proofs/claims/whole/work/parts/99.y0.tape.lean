/-- i bytes of w come behind L ones: cell and slot of the length, cell of the tape -/
def apX (co so ct : Nat) (I f : Nat → Nat → Int) (L : Nat) (w : Int) (i : Nat) : Prop := f co so = (L : Int) + (i : Int) ∧ (∀ j, j ≠ so → f co j = I co j) ∧ (∀ m, m < i → f ct (L + m) = byt w m) ∧ (∀ j, j < L → f ct j = I ct j) ∧ jfr [co, ct] I f ∧ ∀ j, L + i ≤ j → f ct j = I ct j
theorem apX_s {co so ct : Nat} {I f : Nat → Nat → Int} {L i : Nat} {w : Int} (hc : co ≠ ct) (h : apX co so ct I f L w i) : apX co so ct I (ja_up (ja_up f ct (L + i) (byt w i)) co so ((L : Int) + (i : Int) + 1)) L w (i + 1) := by
  obtain ⟨h1, h2, h3, h4, h5, h6⟩ := h
  refine ⟨?_, ?_, ?_, ?_, ?_, fun j hj => by rw [ja_upO (by omega), ja_upO (by omega)]; exact h6 j (by omega)⟩
  · rw [ja_upE rfl rfl]; omega
  · intro j hj; rw [ja_upO (by omega), ja_upO (by omega)]; exact h2 j hj
  · intro m hm
    rw [ja_upO (by omega)]
    by_cases z : m = i
    · subst z; rw [ja_upE rfl rfl]
    · rw [ja_upO (by omega)]; exact h3 m (by omega)
  · intro j hj; rw [ja_upO (by omega), ja_upO (by omega)]; exact h4 j hj
  · exact jfr_up (jfr_up h5 (by simp)) (by simp)
def fdX (co so ct : Nat) (I f : Nat → Nat → Int) (L : Nat) (a b c d e : Int) : Prop := f co so = (L : Int) + 20 ∧ (∀ j, j ≠ so → f co j = I co j) ∧ (∀ m, m < 20 → f ct (L + m) = fdB a b c d e m) ∧ (∀ j, j < L → f ct j = I ct j) ∧ jfr [co, ct] I f ∧ ∀ j, L + 20 ≤ j → f ct j = I ct j
theorem fdX_of {co so ct : Nat} {I f1 f2 f3 f4 f5 : Nat → Nat → Int} {L : Nat} {a b c d e : Int} (h1 : apX co so ct I f1 L a 4) (h2 : apX co so ct f1 f2 (L + 4) b 4) (h3 : apX co so ct f2 f3 (L + 8) c 4) (h4 : apX co so ct f3 f4 (L + 12) d 4) (h5 : apX co so ct f4 f5 (L + 16) e 4) : fdX co so ct I f5 L a b c d e := by
  obtain ⟨a1, a2, a3, a4, a5, a6⟩ := h1
  obtain ⟨b1, b2, b3, b4, b5, b6⟩ := h2
  obtain ⟨c1, c2, c3, c4, c5, c6⟩ := h3
  obtain ⟨d1, d2, d3, d4, d5, d6⟩ := h4
  obtain ⟨e1, e2, e3, e4, e5, e6⟩ := h5
  refine ⟨by omega, fun j hj => by rw [e2 j hj, d2 j hj, c2 j hj, b2 j hj, a2 j hj], fun m hm => ?_, fun j hj => by rw [e4 j (by omega), d4 j (by omega), c4 j (by omega), b4 j (by omega), a4 j hj], jfr_tr (jfr_tr (jfr_tr (jfr_tr a5 b5) c5) d5) e5, fun j hj => by rw [e6 j (by omega), d6 j (by omega), c6 j (by omega), b6 j (by omega), a6 j (by omega)]⟩
  unfold fdB
  obtain ⟨r, hr⟩ : ∃ r, m % 4 = r := ⟨_, rfl⟩
  rw [hr]
  rcases (show m / 4 = 0 ∨ m / 4 = 1 ∨ m / 4 = 2 ∨ m / 4 = 3 ∨ m / 4 = 4 by omega) with z | z | z | z | z <;> rw [z]
  · rw [e4 _ (by omega), d4 _ (by omega), c4 _ (by omega), b4 _ (by omega), show L + m = L + r by omega, a3 r (by omega)]; rfl
  · rw [e4 _ (by omega), d4 _ (by omega), c4 _ (by omega), show L + m = L + 4 + r by omega, b3 r (by omega)]; rfl
  · rw [e4 _ (by omega), d4 _ (by omega), show L + m = L + 8 + r by omega, c3 r (by omega)]; rfl
  · rw [e4 _ (by omega), show L + m = L + 12 + r by omega, d3 r (by omega)]; rfl
  · rw [show L + m = L + 16 + r by omega, e3 r (by omega)]; rfl
set_option maxRecDepth 10000 in
theorem kX5_appendX {l : Launch} {d : Nat} {h : ja_H} {Q : ja_Q} {n L : Nat} {w : Int} (hG : jG h.1) (hL : h.2.1 48 1 = (L : Int)) (h4 : L + 4 ≤ 300) (q : ∀ f, apX 48 1 49 h.2.1 f L w 4 → Q none (h.1, f, h.2.2)) : ja_C l (d + 2) mX5_append (js_sh n) [.inr (.inr (some (48))), .inl (w)] h Q := by
  refine eX5_append _ _ fun r_word ho => ?_
  unfold bX5_append
  unfold ja_r at r_word
  refine jt_sI jv_ci ?_
  refine jb_forc (4) (fun (i : Nat) L' h' => ∃ (v_down : Int) (f : Nat → Nat → Int), L' = [some (.inr (.inr (some (48)))), some (.inl (w)), some (.inl (v_down))] ∧ v_down = 24 - 8 * (i : Int) ∧ (h.1, f, h.2.2) = h' ∧ (apX 48 1 49 h.2.1 f L w i)) ⟨_, _, rfl, (by first | rfl | omega | (simp; done) | (simp; omega)), rfl, (by exact ⟨hL.trans (by omega), fun _ _ => rfl, fun m hm => by omega, fun _ _ => rfl, jfr_rf _ _, fun _ _ => rfl⟩)⟩ ?_ ?_ ?_
  · rintro i h_i _ _ ⟨v_down0, f, rfl, rfl, rfl, fa⟩
    exact jd_eq (jd_ge (jv_li rfl) jv_ci) (by omega)
  · rintro i h_i _ _ ⟨v_down0, f, rfl, rfl, rfl, fa⟩
    have f0 : f 48 1 = (L : Int) + (i : Int) := fa.1
    refine jb_if_d (jd_b (jy_sI (jA_i (jA_i (jA_i jA_0 (jv_gF (jr_lr rfl) (by first | rfl | assumption) (by first | assumption | rfl))) jv_ci) (jv_w (jv_sub (jv_len (jr_g (jr_lr rfl) (by first | rfl | assumption) (by first | rfl | assumption | exact jG_at hG rfl | exact jG_90 hG rfl)) (by first | rfl | assumption) (by first | (unfold ja_r; omega) | (unfold ja_rl; omega) | omega | assumption)) jv_ci) (by first | (unfold ja_r; omega) | (unfold ja_rl; omega) | omega | assumption))) fun _ => kX11_within)) (fun c1 => ?_) (fun c1 => ?_)
    · refine jt_wI (jr_g (jr_lr rfl) (by first | rfl | assumption) (by first | rfl | assumption | exact jG_at hG rfl | exact jG_90 hG rfl)) (by first | rfl | assumption) (jv_gF (jr_lr rfl) (by first | rfl | assumption) (by first | assumption | rfl)) (jv_is (x' := byt w i) (jv_and (jv_ushr (jv_li rfl) (jv_li rfl)) jv_ci) (by rfl)) (by first | (unfold ja_r; omega) | (unfold ja_rl; omega) | omega | assumption) (by first | (unfold ja_r; omega) | (unfold ja_rl; omega) | omega | assumption) ?_
      try dsimp only
      refine jt_uG (w := (L : Int) + (i : Int) + 1) (jr_lr rfl) (by first | rfl | assumption) jv_ci (by dsimp only; rw [ja_upO (by omega), f0, ja_w_id (by unfold ja_r; omega)]) ?_
      try dsimp only
      exact jt_inc rfl (by first | (unfold ja_r; omega) | (unfold ja_rl; omega) | omega | assumption) ⟨_, _, rfl, (by first | rfl | omega | (simp; done) | (simp; omega)), rfl, (by have s := apX_s (by decide) fa; rw [show ((L : Int) + (i : Int)).toNat = L + i by omega]; exact s)⟩
    · exact absurd (by omega) c1
  · rintro _ _ ⟨v_down0, f, rfl, rfl, rfl, fa⟩
    exact q f fa
set_option maxRecDepth 10000 in
theorem kX12_fourX {l : Launch} {d : Nat} {h : ja_H} {Q : ja_Q} {n L : Nat} {w : Int} (hG : jG h.1) (hL : h.2.1 90 16 = (L : Int)) (h4 : L + 4 ≤ 300) (q : ∀ f, apX 90 16 97 h.2.1 f L w 4 → Q none (h.1, f, h.2.2)) : ja_C l (d + 1) mX12_four (js_sh n) [.inr (.inr (some (90))), .inl (w)] h Q := by
  refine eX12_four _ _ fun r_v ho => ?_
  unfold bX12_four
  unfold ja_r at r_v
  refine jt_sI jv_ci ?_
  refine jb_forc (4) (fun (i : Nat) L' h' => ∃ (v_k : Int) (f : Nat → Nat → Int), L' = [some (.inr (.inr (some (90)))), some (.inl (w)), some (.inl (v_k))] ∧ v_k = 24 - 8 * (i : Int) ∧ (h.1, f, h.2.2) = h' ∧ (apX 90 16 97 h.2.1 f L w i)) ⟨_, _, rfl, (by first | rfl | omega | (simp; done) | (simp; omega)), rfl, (by exact ⟨hL.trans (by omega), fun _ _ => rfl, fun m hm => by omega, fun _ _ => rfl, jfr_rf _ _, fun _ _ => rfl⟩)⟩ ?_ ?_ ?_
  · rintro i h_i _ _ ⟨v_k0, f, rfl, rfl, rfl, fa⟩
    exact jd_eq (jd_ge (jv_li rfl) jv_ci) (by omega)
  · rintro i h_i _ _ ⟨v_k0, f, rfl, rfl, rfl, fa⟩
    have f0 : f 90 16 = (L : Int) + (i : Int) := fa.1
    refine jt_wI (jr_g (jr_lr rfl) (by first | rfl | assumption) (by first | rfl | assumption | exact jG_at hG rfl | exact jG_90 hG rfl)) (by first | rfl | assumption) (jv_gF (jr_lr rfl) (by first | rfl | assumption) (by first | assumption | rfl)) (jv_is (x' := byt w i) (jv_and (jv_shr (jv_li rfl) (jv_li rfl)) jv_ci) (by exact byt_e (by omega))) (by first | (unfold ja_r; omega) | (unfold ja_rl; omega) | omega | assumption) (by first | (unfold ja_r; omega) | (unfold ja_rl; omega) | omega | assumption) ?_
    try dsimp only
    refine jt_uG (w := (L : Int) + (i : Int) + 1) (jr_lr rfl) (by first | rfl | assumption) jv_ci (by dsimp only; rw [ja_upO (by omega), f0, ja_w_id (by unfold ja_r; omega)]) ?_
    try dsimp only
    exact jt_inc rfl (by first | (unfold ja_r; omega) | (unfold ja_rl; omega) | omega | assumption) ⟨_, _, rfl, (by first | rfl | omega | (simp; done) | (simp; omega)), rfl, (by have s := apX_s (by decide) fa; rw [show ((L : Int) + (i : Int)).toNat = L + i by omega]; exact s)⟩
  · rintro _ _ ⟨v_k0, f, rfl, rfl, rfl, fa⟩
    exact q f fa
set_option maxRecDepth 10000 in
theorem kX11_feedX {l : Launch} {d : Nat} {h : ja_H} {Q : ja_Q} {n L : Nat} {a b c d0 e : Int} (hG : jG h.1) (hL : h.2.1 48 1 = (L : Int)) (hL3 : L ≤ 300) (q1 : L + 20 ≤ 300 → ∀ f, fdX 48 1 49 h.2.1 f L a b c d0 e → Q (some (.inl ((L : Int) + 20))) (h.1, f, h.2.2)) (q2 : ¬ L + 20 ≤ 300 → Q (some (.inl (-1))) h) : ja_C l (d + 3) mX11_feed (js_sh n) [.inr (.inr (some (0))), .inl (a), .inl (b), .inl (c), .inl (d0), .inl (e)] h Q := by
  refine eX11_feed _ _ _ _ _ _ fun r_a r_b r_c r_d r_e ho => ?_
  unfold bX11_feed
  unfold ja_r at r_a r_b r_c r_d r_e
  refine jb_if_d (φ := ¬ L + 20 ≤ 300) (jd_eq (jd_gt (jv_w (jv_add (jv_gF (jr_g (jr_lr rfl) (by first | rfl | assumption) (by first | rfl | assumption | exact jG_at hG rfl | exact jG_90 hG rfl)) (by first | rfl | assumption) (by first | assumption | rfl)) jv_ci) (by first | (unfold ja_r; omega) | (unfold ja_rl; omega) | omega | assumption)) jv_ci) (by omega)) (fun c1 => ?_) (fun c1 => ?_)
  · refine jt_rI jv_ci ?_
    exact q2 c1
  · have c1 := Classical.not_not.mp c1
    refine jx_m (jr_g (jr_lr rfl) (by first | rfl | assumption) (by first | rfl | assumption | exact jG_at hG rfl | exact jG_90 hG rfl)) (by first | rfl | assumption) (jA_i jA_0 (jv_li rfl)) (kX5_appendX (h := h) (L := L + 0) hG hL (by omega) fun f1 a1 => ⟨rfl, ?_⟩)
    skip
    refine jx_m (jr_g (jr_lr rfl) (by first | rfl | assumption) (by first | rfl | assumption | exact jG_at hG rfl | exact jG_90 hG rfl)) (by first | rfl | assumption) (jA_i jA_0 (jv_li rfl)) (kX5_appendX (h := (h.1, f1, h.2.2)) (L := L + 4) hG (by show f1 48 1 = _; rw [a1.1]; omega) (by omega) fun f2 a2 => ⟨rfl, ?_⟩)
    skip
    refine jx_m (jr_g (jr_lr rfl) (by first | rfl | assumption) (by first | rfl | assumption | exact jG_at hG rfl | exact jG_90 hG rfl)) (by first | rfl | assumption) (jA_i jA_0 (jv_li rfl)) (kX5_appendX (h := (h.1, f2, h.2.2)) (L := L + 8) hG (by show f2 48 1 = _; rw [a2.1]; omega) (by omega) fun f3 a3 => ⟨rfl, ?_⟩)
    skip
    refine jx_m (jr_g (jr_lr rfl) (by first | rfl | assumption) (by first | rfl | assumption | exact jG_at hG rfl | exact jG_90 hG rfl)) (by first | rfl | assumption) (jA_i jA_0 (jv_li rfl)) (kX5_appendX (h := (h.1, f3, h.2.2)) (L := L + 12) hG (by show f3 48 1 = _; rw [a3.1]; omega) (by omega) fun f4 a4 => ⟨rfl, ?_⟩)
    skip
    refine jx_m (jr_g (jr_lr rfl) (by first | rfl | assumption) (by first | rfl | assumption | exact jG_at hG rfl | exact jG_90 hG rfl)) (by first | rfl | assumption) (jA_i jA_0 (jv_li rfl)) (kX5_appendX (h := (h.1, f4, h.2.2)) (L := L + 16) hG (by show f4 48 1 = _; rw [a4.1]; omega) (by omega) fun f5 a5 => ⟨rfl, ?_⟩)
    have fd := fdX_of a1 a2 a3 a4 a5
    have f0 : f5 48 1 = (L : Int) + 20 := fd.1
    refine jt_rI (jv_gF (jr_g (jr_lr rfl) (by first | rfl | assumption) (by first | rfl | assumption | exact jG_at hG rfl | exact jG_90 hG rfl)) (by first | rfl | assumption) (by first | assumption | rfl)) ?_
    exact q1 c1 f5 fd
set_option maxRecDepth 10000 in
theorem kX12_feedX {l : Launch} {d : Nat} {h : ja_H} {Q : ja_Q} {n L : Nat} {a b c d0 e : Int} (hG : jG h.1) (hL : h.2.1 90 16 = (L : Int)) (hL3 : L ≤ 300) (q1 : L + 20 ≤ 300 → ∀ f, fdX 90 16 97 h.2.1 f L a b c d0 e → Q (some (.inl ((L : Int) + 20))) (h.1, f, h.2.2)) (q2 : ¬ L + 20 ≤ 300 → Q (some (.inl (-1))) h) : ja_C l (d + 2) mX12_feed (js_sh n) [.inr (.inr (some (90))), .inl (a), .inl (b), .inl (c), .inl (d0), .inl (e)] h Q := by
  refine eX12_feed _ _ _ _ _ _ fun r_a r_b r_c r_d r_e ho => ?_
  unfold bX12_feed
  unfold ja_r at r_a r_b r_c r_d r_e
  refine jb_if_d (φ := ¬ L + 20 ≤ 300) (jd_eq (jd_gt (jv_w (jv_add (jv_gF (jr_lr rfl) (by first | rfl | assumption) (by first | assumption | rfl)) jv_ci) (by first | (unfold ja_r; omega) | (unfold ja_rl; omega) | omega | assumption)) jv_ci) (by omega)) (fun c1 => ?_) (fun c1 => ?_)
  · refine jt_rI jv_ci ?_
    exact q2 c1
  · have c1 := Classical.not_not.mp c1
    refine jx_m (jr_lr rfl) (by first | rfl | assumption) (jA_i jA_0 (jv_li rfl)) (kX12_fourX (h := h) (L := L + 0) hG hL (by omega) fun f1 a1 => ⟨rfl, ?_⟩)
    skip
    refine jx_m (jr_lr rfl) (by first | rfl | assumption) (jA_i jA_0 (jv_li rfl)) (kX12_fourX (h := (h.1, f1, h.2.2)) (L := L + 4) hG (by show f1 90 16 = _; rw [a1.1]; omega) (by omega) fun f2 a2 => ⟨rfl, ?_⟩)
    skip
    refine jx_m (jr_lr rfl) (by first | rfl | assumption) (jA_i jA_0 (jv_li rfl)) (kX12_fourX (h := (h.1, f2, h.2.2)) (L := L + 8) hG (by show f2 90 16 = _; rw [a2.1]; omega) (by omega) fun f3 a3 => ⟨rfl, ?_⟩)
    skip
    refine jx_m (jr_lr rfl) (by first | rfl | assumption) (jA_i jA_0 (jv_li rfl)) (kX12_fourX (h := (h.1, f3, h.2.2)) (L := L + 12) hG (by show f3 90 16 = _; rw [a3.1]; omega) (by omega) fun f4 a4 => ⟨rfl, ?_⟩)
    skip
    refine jx_m (jr_lr rfl) (by first | rfl | assumption) (jA_i jA_0 (jv_li rfl)) (kX12_fourX (h := (h.1, f4, h.2.2)) (L := L + 16) hG (by show f4 90 16 = _; rw [a4.1]; omega) (by omega) fun f5 a5 => ⟨rfl, ?_⟩)
    have fd := fdX_of a1 a2 a3 a4 a5
    have f0 : f5 90 16 = (L : Int) + 20 := fd.1
    refine jt_rI (jv_gF (jr_lr rfl) (by first | rfl | assumption) (by first | assumption | rfl)) ?_
    exact q1 c1 f5 fd
