def suO (M : Nat → Int) (v i z : Int) : Prop := ∃ (c : Int) (s : Nat → Nat), suC M v c s ∧ z = (if i = -1 then c else if i < c then ltold (s i.toNat) else -1)
theorem suC_b {M : Nat → Int} {v c : Int} {s : Nat → Nat} (h : suC M v c s) : (-1 ≤ c ∧ c ≤ 3) ∧ ∀ j : Nat, (j : Int) < c → s j < 726 := by
  rcases h with ⟨h1, h2⟩ | ⟨h0, ⟨e, a, b⟩ | ⟨n1, ⟨e, a, b⟩ | ⟨n2, ⟨e, a, b⟩ | ⟨e, n3⟩⟩⟩⟩
  · exact ⟨by omega, fun j hj => by omega⟩
  · exact ⟨by omega, fun j hj => by rw [show j = 0 by omega]; exact a.1⟩
  · obtain ⟨a1, a2, a3⟩ := a
    exact ⟨by omega, fun j hj => by rcases (show j = 0 ∨ j = 1 by omega) with z | z <;> subst z <;> omega⟩
  · obtain ⟨a1, a2, a3, a4⟩ := a
    exact ⟨by omega, fun j hj => by rcases (show j = 0 ∨ j = 1 ∨ j = 2 by omega) with z | z | z <;> subst z <;> omega⟩
  · exact ⟨by omega, fun j hj => by omega⟩
theorem suO_u {M : Nat → Int} {v i z z' : Int} (hi : -1 ≤ i) (h : suO M v i z) (h' : suO M v i z') : z = z' := by
  obtain ⟨c, s, h1, h2⟩ := h
  obtain ⟨c', s', h1', h2'⟩ := h'
  obtain ⟨e, es⟩ := suC_u h1 h1'
  subst e
  rw [h2, h2']
  by_cases a : i = -1
  · rw [if_pos a, if_pos a]
  · rw [if_neg a, if_neg a]
    by_cases b : i < c
    · rw [if_pos b, if_pos b, es i.toNat (by omega)]
    · rw [if_neg b, if_neg b]
theorem suO_3 {M : Nat → Int} {v i z : Int} (hi : 3 ≤ i) (h : suO M v i z) : z = -1 := by
  obtain ⟨c, s, h1, h2⟩ := h
  have := (suC_b h1).1
  rw [h2, if_neg (by omega), if_neg (by omega)]
set_option maxRecDepth 10000 in
theorem kX7_sun {l : Launch} {d : Nat} {h : ja_H} {Q : ja_Q} {n : Nat} {i c : Int} (hG : jG h.1) (hi : 0 ≤ i ∧ i < c) (hc : c ≤ 3) (q : Q (some (.inl (h.2.1 33 (3 - c + i).toNat))) h) : ja_C l (d + 2) mX7_sun (js_sh n) [.inr (.inr (some (29))), .inl (i), .inl (c)] h Q := by
  refine eX7_sun _ _ _ fun r_i r_count ho => ?_
  unfold bX7_sun
  unfold ja_r at r_i r_count
  refine jt_sI (jv_w (jv_add (jv_w (jv_sub jv_ci (jv_li rfl)) (by first | (unfold ja_r; omega) | (unfold ja_rl; omega) | omega | assumption)) (jv_li rfl)) (by first | (unfold ja_r; omega) | (unfold ja_rl; omega) | omega | assumption)) ?_
  refine jt_rI (x := h.2.1 33 (3 - c + i).toNat) (jv_is (jv_cv (φ := True) (jd_eq (jd_b (jy_sI (jA_i (jA_i (jA_i jA_0 (jv_li rfl)) jv_ci) jv_ci) fun _ => kX11_within)) (by simp; omega)) (fun _ => (jv_aI (jr_g (jr_lr rfl) rfl (jG_at hG rfl)) (jv_li rfl) rfl (by omega) (by omega))) (fun y => absurd trivial y) (y := 0)) (by exact if_pos trivial)) ?_
  exact q
set_option maxRecDepth 10000 in
theorem kX11_suns {l : Launch} {d : Nat} {h : ja_H} {Q : ja_Q} {n s t : Nat} {v i : Int} (hG : jG h.1) (hs : h.2.1 1 6 = (s : Int)) (ht : h.2.1 1 7 = (t : Int)) (hs2 : s ≤ 12) (ht2 : t ≤ 8) (q1 : jtd s t v ∧ -1 ≤ i → ∀ f z, jfr [29, 31, 32, 33] h.2.1 f → suO (fun q => ja_land (h.2.1 30 q) v) v i z → Q (some (.inl z)) (h.1, f, h.2.2)) (q2 : ¬ (jtd s t v ∧ -1 ≤ i) → Q (some (.inl (-1))) h) : ja_C l (d + 6) mX11_suns (js_sh n) [.inr (.inr (some (0))), .inl (v), .inl (i)] h Q := by
  refine eX11_suns _ _ _ fun r_set r_i ho => ?_
  unfold bX11_suns
  unfold ja_r at r_set r_i
  refine jb_if_d (φ := ¬ (jtd s t v ∧ -1 ≤ i)) (jd_eq (jd_or (jd_not (jd_b (jy_mI (jr_lr rfl) (by first | rfl | assumption) (jA_i jA_0 (jv_li rfl)) fun _ => kX11_areTold hG hs ht hs2 ht2))) (fun _ => (jd_lt (jv_li rfl) jv_ci))) (by exact or_i)) (fun c1 => ?_) (fun c1 => ?_)
  · refine jt_rI jv_ci ?_
    exact q2 c1
  · have c1 := Classical.not_not.mp c1
    have c2 := c1.2
    have h20 := jtd_20 hs2 ht2 c1.1
    refine jx_mI (jr_g (jr_lr rfl) (by first | rfl | assumption) (by first | rfl | assumption | exact jG_at hG rfl | exact jG_90 hG rfl)) (by first | rfl | assumption) (jA_i jA_0 (jv_li rfl)) (kX7_findSuns hG h20 fun f c su fr hsu hf => ⟨c, rfl, fun _ => ?_⟩)
    have cb := suC_b hsu
    refine jb_if_d (jd_eqI (jv_li rfl) jv_ci) (fun c2 => ?_) (fun c2 => ?_)
    · refine jt_rI (jv_li rfl) ?_
      exact q1 c1 f _ fr ⟨c, su, hsu, by rw [if_pos c2]⟩
    · by_cases ic : i < c
      · obtain ⟨j, hj⟩ : ∃ j : Nat, i = (j : Int) := ⟨i.toNat, by omega⟩
        have e := hf j (by omega)
        rw [← hj] at e
        have b := cb.2 j (by omega)
        refine jt_rI (x := ltold (su j)) (jv_is (jv_cv (φ := i < c) (y := 0) (jd_lt (jv_li rfl) (jv_li rfl)) (fun _ => (jy_mI (jr_g (jr_lr rfl) rfl (jG_at hG rfl)) rfl (jA_i jA_0 (jv_is (x' := ((su j : Nat) : Int)) (jy_mI (jr_g (jr_lr rfl) rfl (jG_at hG rfl)) rfl (jA_i (jA_i jA_0 (jv_li rfl)) (jv_li rfl)) fun _ => kX7_sun (h := (h.1, f, h.2.2)) hG (by omega) (by omega)) e)) fun _ => kX7_nameOf)) (fun y => absurd ic y)) (by rw [if_pos ic, if_pos (by omega)])) ?_
        exact q1 c1 f _ fr ⟨c, su, hsu, by rw [if_neg (by omega), if_pos ic, hj, Int.toNat_natCast]⟩
      · refine jt_rI (x := -1) (jv_is (jv_cv (φ := i < c) (x := 0) (jd_lt (jv_li rfl) (jv_li rfl)) (fun y => absurd y ic) (fun _ => jv_ci)) (if_neg ic)) ?_
        exact q1 c1 f _ fr ⟨c, su, hsu, by rw [if_neg (by omega), if_neg ic]⟩
set_option maxRecDepth 10000 in
theorem kX12_areEnough1 {l : Launch} {d : Nat} {h : ja_H} {Q : ja_Q} {n : Nat} {v : Int} {M : Nat → Int} (hG : jG h.1) (hM : ∀ q, q < 726 → h.2.1 94 q = M q) (q1 : ∀ f (a : Nat), jfr [95] h.2.1 f → S1 M v a → (∀ q, S1 M v q → a ≤ q) → f 95 0 = (a : Int) → Q (some (.inl 1)) (h.1, f, h.2.2)) (q0 : (∀ q, ¬ S1 M v q) → ∀ f, jfr [95] h.2.1 f → Q (some (.inl 0)) (h.1, f, h.2.2)) : ja_C l (d + 1) mX12_areEnough (js_sh n) [.inr (.inr (some (90))), .inl (v), .inl (1)] h Q := by
  refine eX12_areEnough _ _ _ fun r_set r_n ho => ?_
  unfold bX12_areEnough
  unfold ja_r at r_set r_n
  refine jb_if_d (jd_eqI (jv_li rfl) jv_ci) (fun c1 => ?_) (fun c1 => ?_)
  · exact absurd c1 (by decide)
  · refine jt_sI jv_ci ?_
    refine jb_forc (726) (fun (a : Nat) L' h' => ∃ (v_q : Int) (o4_4 : Option ja_W) (o4_5 : Option ja_W) (o4_6 : Option ja_W) (o4_7 : Option ja_W) (f : Nat → Nat → Int), L' = [some (.inr (.inr (some (90)))), some (.inl (v)), some (.inl (1)), some (.inl (v_q)), o4_4, o4_5, o4_6, o4_7] ∧ v_q = (a : Int) ∧ (h.1, f, h.2.2) = h' ∧ (jfr [95] h.2.1 f) ∧ (∀ q, q < a → ¬ S1 M v q)) ⟨_, _, _, _, _, _, rfl, (by first | rfl | omega | (simp; done) | (simp; omega)), rfl, (by exact jfr_rf _ _), (by intro q hq; omega)⟩ ?_ ?_ ?_
    · rintro a h_a _ _ ⟨v_q0, o4_4, o4_5, o4_6, o4_7, f, rfl, rfl, rfl, fr, no⟩
      exact jd_eq (jd_lt (jv_li rfl) jv_ci) (by omega)
    · rintro a h_a _ _ ⟨v_q0, o4_4, o4_5, o4_6, o4_7, f, rfl, rfl, rfl, fr, no⟩
      have ea : f 94 ((a : Nat) : Int).toNat = M a := by rw [fr 94 (by decide)]; exact hM a h_a
      refine jt_sI (x := mn v (M a)) (jv_is (jv_is (x' := mn v (M a)) (jv_and (jv_li rfl) (jv_xor (jv_fI (jr_g (jr_lr rfl) rfl (jG_90 hG rfl)) (jv_li rfl) rfl (by omega) (by omega) ea) jv_ci)) rfl) (by rfl)) ?_
      refine jt_wI (jr_g (jr_lr rfl) (by first | rfl | assumption) (by first | rfl | assumption | exact jG_at hG rfl | exact jG_90 hG rfl)) (by first | rfl | assumption) jv_ci (jv_li rfl) (by first | (unfold ja_r; omega) | (unfold ja_rl; omega) | omega | assumption) (by first | (unfold ja_r; omega) | (unfold ja_rl; omega) | omega | assumption) ?_
      try dsimp only
      refine jb_if_d (jd_eqI (jv_li rfl) jv_ci) (fun c2 => ?_) (fun c2 => ?_)
      · refine jb_if_d (φ := mn v (M a) = 0) (jd_eq (jd_eqI (jv_li rfl) jv_ci) (by exact Iff.rfl)) (fun c3 => ?_) (fun c3 => ?_)
        · refine jv_ci _ ⟨Or.inr rfl, ?_⟩
          exact q1 _ a (jfr_up fr (by decide)) ⟨h_a, c3⟩ (fun q hq => by rcases Nat.lt_or_ge q a with y | y; exact absurd hq (no q y); exact y) (ja_upE rfl rfl)
        · exact jt_inc rfl (by first | (unfold ja_r; omega) | (unfold ja_rl; omega) | omega | assumption) ⟨_, _, _, _, _, _, rfl, (by first | rfl | omega | (simp; done) | (simp; omega)), rfl, (by exact jfr_up fr (by decide)), (by intro q hq; by_cases z : q = a; subst z; exact fun y => c3 y.2; exact no q (by omega))⟩
      · exact absurd rfl c2
    · rintro _ _ ⟨v_q0, o4_4, o4_5, o4_6, o4_7, f, rfl, rfl, rfl, fr, no⟩
      refine jv_ci _ ⟨Or.inl rfl, ?_⟩
      exact q0 (fun q hq => no q hq.1 hq) f fr
set_option maxRecDepth 10000 in
theorem kX12_areEnough2 {l : Launch} {d : Nat} {h : ja_H} {Q : ja_Q} {n : Nat} {v : Int} {M : Nat → Int} (hG : jG h.1) (hM : ∀ q, q < 726 → h.2.1 94 q = M q) (q1 : ∀ f (a b : Nat), jfr [95] h.2.1 f → S2 M v a b → (∀ q r, S2 M v q r → a < q ∨ (a = q ∧ b ≤ r)) → f 95 0 = (a : Int) → f 95 1 = (b : Int) → Q (some (.inl 1)) (h.1, f, h.2.2)) (q0 : (∀ q r, ¬ S2 M v q r) → ∀ f, jfr [95] h.2.1 f → Q (some (.inl 0)) (h.1, f, h.2.2)) : ja_C l (d + 1) mX12_areEnough (js_sh n) [.inr (.inr (some (90))), .inl (v), .inl (2)] h Q := by
  refine eX12_areEnough _ _ _ fun r_set r_n ho => ?_
  unfold bX12_areEnough
  unfold ja_r at r_set r_n
  refine jb_if_d (jd_eqI (jv_li rfl) jv_ci) (fun c1 => ?_) (fun c1 => ?_)
  · exact absurd c1 (by decide)
  · refine jt_sI jv_ci ?_
    refine jb_forc (726) (fun (a : Nat) L' h' => ∃ (v_q : Int) (o4_4 : Option ja_W) (o4_5 : Option ja_W) (o4_6 : Option ja_W) (o4_7 : Option ja_W) (f : Nat → Nat → Int), L' = [some (.inr (.inr (some (90)))), some (.inl (v)), some (.inl (2)), some (.inl (v_q)), o4_4, o4_5, o4_6, o4_7] ∧ v_q = (a : Int) ∧ (h.1, f, h.2.2) = h' ∧ (jfr [95] h.2.1 f) ∧ (∀ q, q < a → ∀ r, ¬ S2 M v q r)) ⟨_, _, _, _, _, _, rfl, (by first | rfl | omega | (simp; done) | (simp; omega)), rfl, (by exact jfr_rf _ _), (by intro q hq; omega)⟩ ?_ ?_ ?_
    · rintro a h_a _ _ ⟨v_q0, o4_4, o4_5, o4_6, o4_7, f, rfl, rfl, rfl, fr, no⟩
      exact jd_eq (jd_lt (jv_li rfl) jv_ci) (by omega)
    · rintro a h_a _ _ ⟨v_q0, o4_4, o4_5, o4_6, o4_7, f, rfl, rfl, rfl, fr, no⟩
      have ea : f 94 ((a : Nat) : Int).toNat = M a := by rw [fr 94 (by decide)]; exact hM a h_a
      refine jt_sI (x := mn v (M a)) (jv_is (jv_is (x' := mn v (M a)) (jv_and (jv_li rfl) (jv_xor (jv_fI (jr_g (jr_lr rfl) rfl (jG_90 hG rfl)) (jv_li rfl) rfl (by omega) (by omega) ea) jv_ci)) rfl) (by rfl)) ?_
      refine jt_wI (jr_g (jr_lr rfl) (by first | rfl | assumption) (by first | rfl | assumption | exact jG_at hG rfl | exact jG_90 hG rfl)) (by first | rfl | assumption) jv_ci (jv_li rfl) (by first | (unfold ja_r; omega) | (unfold ja_rl; omega) | omega | assumption) (by first | (unfold ja_r; omega) | (unfold ja_rl; omega) | omega | assumption) ?_
      try dsimp only
      refine jb_if_d (jd_eqI (jv_li rfl) jv_ci) (fun c2 => ?_) (fun c2 => ?_)
      · exact absurd c2 (by decide)
      · refine jt_sI (x := ((a + 1 + 0 : Nat) : Int)) (jv_is (jv_w (jv_add (jv_li rfl) jv_ci) (by first | (unfold ja_r; omega) | (unfold ja_rl; omega) | omega | assumption)) (by omega)) ?_
        refine jb_forc (726 - (a + 1)) (fun (b : Nat) L' h' => ∃ (v_r : Int) (o12_6 : Option ja_W) (o12_7 : Option ja_W) (g : Nat → Nat → Int), L' = [some (.inr (.inr (some (90)))), some (.inl (v)), some (.inl (2)), some (.inl ((a : Int))), some (.inl (mn v (M a))), some (.inl (v_r)), o12_6, o12_7] ∧ v_r = ((a + 1 + b : Nat) : Int) ∧ (h.1, g, h.2.2) = h' ∧ (jfr [95] h.2.1 g) ∧ (g 95 0 = (a : Int)) ∧ (∀ r, a < r → r < a + 1 + b → ¬ S2 M v a r)) ⟨_, _, _, _, rfl, (by first | rfl | omega | (simp; done) | (simp; omega)), rfl, (by exact jfr_up fr (by decide)), (by exact ja_upE rfl rfl), (by intro r h1 h2; omega)⟩ ?_ ?_ ?_
        · rintro b h_b _ _ ⟨v_r0, o12_6, o12_7, g, rfl, rfl, rfl, gr, g0, gno⟩
          exact jd_eq (jd_lt (jv_li rfl) jv_ci) (by omega)
        · rintro b h_b _ _ ⟨v_r0, o12_6, o12_7, g, rfl, rfl, rfl, gr, g0, gno⟩
          have eb : g 94 ((a + 1 + b : Nat) : Int).toNat = M (a + 1 + b) := by rw [gr 94 (by decide)]; exact hM (a + 1 + b) (by omega)
          refine jt_sI (x := mn (mn v (M a)) (M (a + 1 + b))) (jv_is (jv_is (x' := mn (mn v (M a)) (M (a + 1 + b))) (jv_and (jv_li rfl) (jv_xor (jv_fI (jr_g (jr_lr rfl) rfl (jG_90 hG rfl)) (jv_li rfl) rfl (by omega) (by omega) eb) jv_ci)) rfl) (by rfl)) ?_
          refine jt_wI (jr_g (jr_lr rfl) (by first | rfl | assumption) (by first | rfl | assumption | exact jG_at hG rfl | exact jG_90 hG rfl)) (by first | rfl | assumption) jv_ci (jv_li rfl) (by first | (unfold ja_r; omega) | (unfold ja_rl; omega) | omega | assumption) (by first | (unfold ja_r; omega) | (unfold ja_rl; omega) | omega | assumption) ?_
          try dsimp only
          refine jb_if_d (jd_eqI (jv_li rfl) jv_ci) (fun c3 => ?_) (fun c3 => ?_)
          · refine jb_if_d (φ := mn (mn v (M a)) (M (a + 1 + b)) = 0) (jd_eq (jd_eqI (jv_li rfl) jv_ci) (by exact Iff.rfl)) (fun c4 => ?_) (fun c4 => ?_)
            · refine jv_ci _ ⟨Or.inr rfl, ?_⟩
              refine q1 _ a (a + 1 + b) (jfr_up gr (by decide)) ⟨by omega, by omega, c4⟩ (fun q r hq => ?_) (by rw [ja_upO (by omega)]; exact g0) (ja_upE rfl rfl)
              rcases Nat.lt_trichotomy q a with y | y | y
              · exact absurd hq (no q y r)
              · subst y
                refine Or.inr ⟨rfl, ?_⟩
                rcases Nat.lt_or_ge r (q + 1 + b) with u | u
                · exact absurd hq (gno r hq.1 u)
                · exact u
              · exact Or.inl y
            · exact jt_inc rfl (by first | (unfold ja_r; omega) | (unfold ja_rl; omega) | omega | assumption) ⟨_, _, _, _, rfl, (by first | rfl | omega | (simp; done) | (simp; omega)), rfl, (by exact jfr_up gr (by decide)), (by rw [ja_upO (by omega)]; exact g0), (by intro r h1 h2; by_cases z : r = a + 1 + b; subst z; exact fun y => c4 y.2.2; exact gno r h1 (by omega))⟩
          · exact absurd rfl c3
        · rintro _ _ ⟨v_r0, o12_6, o12_7, g, rfl, rfl, rfl, gr, g0, gno⟩
          exact jt_inc rfl (by first | (unfold ja_r; omega) | (unfold ja_rl; omega) | omega | assumption) ⟨_, _, _, _, _, _, rfl, (by first | rfl | omega | (simp; done) | (simp; omega)), rfl, (by exact gr), (by intro q hq r; by_cases z : q = a; subst z; exact fun y => gno r y.1 (by have := y.2.1; omega) y; exact no q (by omega) r)⟩
    · rintro _ _ ⟨v_q0, o4_4, o4_5, o4_6, o4_7, f, rfl, rfl, rfl, fr, no⟩
      refine jv_ci _ ⟨Or.inl rfl, ?_⟩
      exact q0 (fun q r hq => no q (by have := hq.1; have := hq.2.1; omega) r hq) f fr
set_option maxRecDepth 10000 in
theorem kX12_areEnough3 {l : Launch} {d : Nat} {h : ja_H} {Q : ja_Q} {n : Nat} {v : Int} {M : Nat → Int} (hG : jG h.1) (hM : ∀ q, q < 726 → h.2.1 94 q = M q) (q1 : ∀ f (a b c : Nat), jfr [95] h.2.1 f → S3 M v a b c → (∀ q r t, S3 M v q r t → a < q ∨ (a = q ∧ (b < r ∨ (b = r ∧ c ≤ t)))) → f 95 0 = (a : Int) → f 95 1 = (b : Int) → f 95 2 = (c : Int) → Q (some (.inl 1)) (h.1, f, h.2.2)) (q0 : (∀ q r t, ¬ S3 M v q r t) → ∀ f, jfr [95] h.2.1 f → Q (some (.inl 0)) (h.1, f, h.2.2)) : ja_C l (d + 1) mX12_areEnough (js_sh n) [.inr (.inr (some (90))), .inl (v), .inl (3)] h Q := by
  refine eX12_areEnough _ _ _ fun r_set r_n ho => ?_
  unfold bX12_areEnough
  unfold ja_r at r_set r_n
  refine jb_if_d (jd_eqI (jv_li rfl) jv_ci) (fun c1 => ?_) (fun c1 => ?_)
  · exact absurd c1 (by decide)
  · refine jt_sI jv_ci ?_
    refine jb_forc (726) (fun (a : Nat) L' h' => ∃ (v_q : Int) (o4_4 : Option ja_W) (o4_5 : Option ja_W) (o4_6 : Option ja_W) (o4_7 : Option ja_W) (f : Nat → Nat → Int), L' = [some (.inr (.inr (some (90)))), some (.inl (v)), some (.inl (3)), some (.inl (v_q)), o4_4, o4_5, o4_6, o4_7] ∧ v_q = (a : Int) ∧ (h.1, f, h.2.2) = h' ∧ (jfr [95] h.2.1 f) ∧ (∀ q, q < a → ∀ r t, ¬ S3 M v q r t)) ⟨_, _, _, _, _, _, rfl, (by first | rfl | omega | (simp; done) | (simp; omega)), rfl, (by exact jfr_rf _ _), (by intro q hq; omega)⟩ ?_ ?_ ?_
    · rintro a h_a _ _ ⟨v_q0, o4_4, o4_5, o4_6, o4_7, f, rfl, rfl, rfl, fr, no⟩
      exact jd_eq (jd_lt (jv_li rfl) jv_ci) (by omega)
    · rintro a h_a _ _ ⟨v_q0, o4_4, o4_5, o4_6, o4_7, f, rfl, rfl, rfl, fr, no⟩
      have ea : f 94 ((a : Nat) : Int).toNat = M a := by rw [fr 94 (by decide)]; exact hM a h_a
      refine jt_sI (x := mn v (M a)) (jv_is (jv_is (x' := mn v (M a)) (jv_and (jv_li rfl) (jv_xor (jv_fI (jr_g (jr_lr rfl) rfl (jG_90 hG rfl)) (jv_li rfl) rfl (by omega) (by omega) ea) jv_ci)) rfl) (by rfl)) ?_
      refine jt_wI (jr_g (jr_lr rfl) (by first | rfl | assumption) (by first | rfl | assumption | exact jG_at hG rfl | exact jG_90 hG rfl)) (by first | rfl | assumption) jv_ci (jv_li rfl) (by first | (unfold ja_r; omega) | (unfold ja_rl; omega) | omega | assumption) (by first | (unfold ja_r; omega) | (unfold ja_rl; omega) | omega | assumption) ?_
      try dsimp only
      refine jb_if_d (jd_eqI (jv_li rfl) jv_ci) (fun c2 => ?_) (fun c2 => ?_)
      · exact absurd c2 (by decide)
      · refine jt_sI (x := ((a + 1 + 0 : Nat) : Int)) (jv_is (jv_w (jv_add (jv_li rfl) jv_ci) (by first | (unfold ja_r; omega) | (unfold ja_rl; omega) | omega | assumption)) (by omega)) ?_
        refine jb_forc (726 - (a + 1)) (fun (b : Nat) L' h' => ∃ (v_r : Int) (o12_6 : Option ja_W) (o12_7 : Option ja_W) (g : Nat → Nat → Int), L' = [some (.inr (.inr (some (90)))), some (.inl (v)), some (.inl (3)), some (.inl ((a : Int))), some (.inl (mn v (M a))), some (.inl (v_r)), o12_6, o12_7] ∧ v_r = ((a + 1 + b : Nat) : Int) ∧ (h.1, g, h.2.2) = h' ∧ (jfr [95] h.2.1 g) ∧ (g 95 0 = (a : Int)) ∧ (∀ r, a < r → r < a + 1 + b → ∀ t, ¬ S3 M v a r t)) ⟨_, _, _, _, rfl, (by first | rfl | omega | (simp; done) | (simp; omega)), rfl, (by exact jfr_up fr (by decide)), (by exact ja_upE rfl rfl), (by intro r h1 h2; omega)⟩ ?_ ?_ ?_
        · rintro b h_b _ _ ⟨v_r0, o12_6, o12_7, g, rfl, rfl, rfl, gr, g0, gno⟩
          exact jd_eq (jd_lt (jv_li rfl) jv_ci) (by omega)
        · rintro b h_b _ _ ⟨v_r0, o12_6, o12_7, g, rfl, rfl, rfl, gr, g0, gno⟩
          have eb : g 94 ((a + 1 + b : Nat) : Int).toNat = M (a + 1 + b) := by rw [gr 94 (by decide)]; exact hM (a + 1 + b) (by omega)
          refine jt_sI (x := mn (mn v (M a)) (M (a + 1 + b))) (jv_is (jv_is (x' := mn (mn v (M a)) (M (a + 1 + b))) (jv_and (jv_li rfl) (jv_xor (jv_fI (jr_g (jr_lr rfl) rfl (jG_90 hG rfl)) (jv_li rfl) rfl (by omega) (by omega) eb) jv_ci)) rfl) (by rfl)) ?_
          refine jt_wI (jr_g (jr_lr rfl) (by first | rfl | assumption) (by first | rfl | assumption | exact jG_at hG rfl | exact jG_90 hG rfl)) (by first | rfl | assumption) jv_ci (jv_li rfl) (by first | (unfold ja_r; omega) | (unfold ja_rl; omega) | omega | assumption) (by first | (unfold ja_r; omega) | (unfold ja_rl; omega) | omega | assumption) ?_
          try dsimp only
          refine jb_if_d (jd_eqI (jv_li rfl) jv_ci) (fun c3 => ?_) (fun c3 => ?_)
          · exact absurd c3 (by decide)
          · refine jt_sI (x := ((a + 1 + b + 1 + 0 : Nat) : Int)) (jv_is (jv_w (jv_add (jv_li rfl) jv_ci) (by first | (unfold ja_r; omega) | (unfold ja_rl; omega) | omega | assumption)) (by omega)) ?_
            refine jb_forc (726 - (a + 1 + b + 1)) (fun (c : Nat) L' h' => ∃ (v_t : Int) (u : Nat → Nat → Int), L' = [some (.inr (.inr (some (90)))), some (.inl (v)), some (.inl (3)), some (.inl ((a : Int))), some (.inl (mn v (M a))), some (.inl (((a + 1 + b : Nat) : Int))), some (.inl (mn (mn v (M a)) (M (a + 1 + b)))), some (.inl (v_t))] ∧ v_t = ((a + 1 + b + 1 + c : Nat) : Int) ∧ (h.1, u, h.2.2) = h' ∧ (jfr [95] h.2.1 u) ∧ (u 95 0 = (a : Int)) ∧ (u 95 1 = ((a + 1 + b : Nat) : Int)) ∧ (∀ t, a + 1 + b < t → t < a + 1 + b + 1 + c → ¬ S3 M v a (a + 1 + b) t)) ⟨_, _, rfl, (by first | rfl | omega | (simp; done) | (simp; omega)), rfl, (by exact jfr_up gr (by decide)), (by rw [ja_upO (by omega)]; exact g0), (by exact ja_upE rfl rfl), (by intro t h1 h2; omega)⟩ ?_ ?_ ?_
            · rintro c h_c _ _ ⟨v_t0, u, rfl, rfl, rfl, kr, k0, k1, kno⟩
              exact jd_eq (jd_lt (jv_li rfl) jv_ci) (by omega)
            · rintro c h_c _ _ ⟨v_t0, u, rfl, rfl, rfl, kr, k0, k1, kno⟩
              have ec : ja_up u 95 (2 : Int).toNat ((a + 1 + b + 1 + c : Nat) : Int) 94 ((a + 1 + b + 1 + c : Nat) : Int).toNat = M (a + 1 + b + 1 + c) := by rw [ja_upO (by omega), kr 94 (by decide)]; exact hM (a + 1 + b + 1 + c) (by omega)
              refine jt_wI (jr_g (jr_lr rfl) (by first | rfl | assumption) (by first | rfl | assumption | exact jG_at hG rfl | exact jG_90 hG rfl)) (by first | rfl | assumption) jv_ci (jv_li rfl) (by first | (unfold ja_r; omega) | (unfold ja_rl; omega) | omega | assumption) (by first | (unfold ja_r; omega) | (unfold ja_rl; omega) | omega | assumption) ?_
              try dsimp only
              refine jb_if_d (φ := mn (mn (mn v (M a)) (M (a + 1 + b))) (M (a + 1 + b + 1 + c)) = 0) (jd_eq (jd_eqI (jv_is (x' := mn (mn (mn v (M a)) (M (a + 1 + b))) (M (a + 1 + b + 1 + c))) (jv_and (jv_li rfl) (jv_xor (jv_fI (jr_g (jr_lr rfl) rfl (jG_90 hG rfl)) (jv_li rfl) rfl (by omega) (by omega) ec) jv_ci)) rfl) jv_ci) (by exact Iff.rfl)) (fun c4 => ?_) (fun c4 => ?_)
              · refine jv_ci _ ⟨Or.inr rfl, ?_⟩
                refine q1 _ a (a + 1 + b) (a + 1 + b + 1 + c) (jfr_up kr (by decide)) ⟨by omega, by omega, by omega, c4⟩ (fun q r t hq => ?_) (by rw [ja_upO (by omega)]; exact k0) (by rw [ja_upO (by omega)]; exact k1) (ja_upE rfl rfl)
                rcases Nat.lt_trichotomy q a with y | y | y
                · exact absurd hq (no q y r t)
                · subst y
                  refine Or.inr ⟨rfl, ?_⟩
                  rcases Nat.lt_trichotomy r (q + 1 + b) with u1 | u1 | u1
                  · exact absurd hq (gno r hq.1 u1 t)
                  · subst u1
                    refine Or.inr ⟨rfl, ?_⟩
                    rcases Nat.lt_or_ge t (q + 1 + b + 1 + c) with u2 | u2
                    · exact absurd hq (kno t hq.2.1 u2)
                    · exact u2
                  · exact Or.inl u1
                · exact Or.inl y
              · exact jt_inc rfl (by first | (unfold ja_r; omega) | (unfold ja_rl; omega) | omega | assumption) ⟨_, _, rfl, (by first | rfl | omega | (simp; done) | (simp; omega)), rfl, (by exact jfr_up kr (by decide)), (by rw [ja_upO (by omega)]; exact k0), (by rw [ja_upO (by omega)]; exact k1), (by intro t h1 h2; by_cases z : t = a + 1 + b + 1 + c; subst z; exact fun y => c4 y.2.2.2; exact kno t h1 (by omega))⟩
            · rintro _ _ ⟨v_t0, u, rfl, rfl, rfl, kr, k0, k1, kno⟩
              exact jt_inc rfl (by first | (unfold ja_r; omega) | (unfold ja_rl; omega) | omega | assumption) ⟨_, _, _, _, rfl, (by first | rfl | omega | (simp; done) | (simp; omega)), rfl, (by exact kr), (by exact k0), (by intro r h1 h2 t; by_cases z : r = a + 1 + b; subst z; exact fun y => kno t y.2.1 (by have := y.2.2.1; omega) y; exact gno r h1 (by omega) t)⟩
        · rintro _ _ ⟨v_r0, o12_6, o12_7, g, rfl, rfl, rfl, gr, g0, gno⟩
          exact jt_inc rfl (by first | (unfold ja_r; omega) | (unfold ja_rl; omega) | omega | assumption) ⟨_, _, _, _, _, _, rfl, (by first | rfl | omega | (simp; done) | (simp; omega)), rfl, (by exact gr), (by intro q hq r t; by_cases z : q = a; subst z; exact fun y => gno r y.1 (by have := y.2.1; have := y.2.2.1; omega) t y; exact no q (by omega) r t)⟩
    · rintro _ _ ⟨v_q0, o4_4, o4_5, o4_6, o4_7, f, rfl, rfl, rfl, fr, no⟩
      refine jv_ci _ ⟨Or.inl rfl, ?_⟩
      exact q0 (fun q r t hq => no q (by have := hq.1; have := hq.2.1; have := hq.2.2.1; omega) r t hq) f fr
