/-! odds: what both reckon -/
theorem jt_rL {L : ja_L} {h : ja_H} {e : ja_EI} {x : Int} {N B C : ja_P} {R : ja_Q} (p : jv e L h x) (q : R (some (.inr (.inl x))) h) : jb_rL e N B C R L h := p _ q
def wnd (wn off : Int) : Nat → Int
  | 0 => off
  | y + 1 => (wnd wn off y * wn).tdiv 100
theorem td100 {x : Int} (h : -4900 ≤ x ∧ x ≤ 4900) : -49 ≤ x.tdiv 100 ∧ x.tdiv 100 ≤ 49 := by
  rw [Int.tdiv_eq_ediv, show Int.sign 100 = 1 from rfl]
  split <;> omega
theorem wnd_b {wn off : Int} (h1 : 0 ≤ wn ∧ wn ≤ 100) (h2 : -49 ≤ off ∧ off ≤ 49) : ∀ y, -49 ≤ wnd wn off y ∧ wnd wn off y ≤ 49
  | 0 => h2
  | y + 1 => by
    have ih := wnd_b h1 h2 y
    have m := jmb (a := wnd wn off y) (b := wn) (A := 49) (B := 100) (by omega) (by omega)
    exact td100 (by omega)
def chn (wt : Int) (hb : Nat → Int) (wn : Int) (yr : Nat) (has : Int) : Nat → Int
  | 0 => wt
  | k + 1 => chn wt hb wn yr has k * (if jbt has k = true then 50 + wnd wn (hb k - 50) yr else 50 - wnd wn (hb k - 50) yr)
theorem chn_b {wt wn : Int} {hb : Nat → Int} {yr : Nat} {has : Int} (h0 : 0 ≤ wt ∧ wt ≤ 9) (h1 : 0 ≤ wn ∧ wn ≤ 100) : ∀ k : Nat, (∀ j, j < k → 1 ≤ hb j ∧ hb j ≤ 99) → 0 ≤ chn wt hb wn yr has k ∧ chn wt hb wn yr has k ≤ 9 * ((99 ^ k : Nat) : Int)
  | 0, _ => by simp only [chn]; omega
  | k + 1, h => by
    have ih := chn_b h0 h1 (yr := yr) (has := has) k (fun j hj => h j (by omega))
    have hk := h k (by omega)
    have wb := wnd_b (wn := wn) (off := hb k - 50) h1 (by omega) yr
    simp only [chn]
    generalize hf : (if jbt has k = true then 50 + wnd wn (hb k - 50) yr else 50 - wnd wn (hb k - 50) yr) = f
    have fb : 0 ≤ f ∧ f ≤ 99 := by rw [← hf]; split <;> omega
    refine ⟨Int.mul_nonneg ih.1 fb.1, ?_⟩
    have m1 : chn wt hb wn yr has k * f ≤ 9 * ((99 ^ k : Nat) : Int) * 99 := Int.mul_le_mul ih.2 fb.2 fb.1 (by omega)
    have m2 : ((99 ^ (k + 1) : Nat) : Int) = ((99 ^ k : Nat) : Int) * 99 := by rw [Nat.pow_succ]; omega
    omega
theorem chn_b5 {wt wn : Int} {hb : Nat → Int} {yr : Nat} {has : Int} (h0 : 0 ≤ wt ∧ wt ≤ 9) (h1 : 0 ≤ wn ∧ wn ≤ 100) (hh : ∀ j, j < 6 → 1 ≤ hb j ∧ hb j ≤ 99) {k : Nat} (hk : k ≤ 6) : 0 ≤ chn wt hb wn yr has k ∧ chn wt hb wn yr has k ≤ 8473321344609 := by
  have b := chn_b h0 h1 (yr := yr) (has := has) k (fun j hj => hh j (by omega))
  have p : 99 ^ k ≤ 99 ^ 6 := Nat.pow_le_pow_right (by decide) hk
  have e : (99 ^ 6 : Nat) = 941480149401 := by decide
  omega
def smc (C : Nat → Int) : Nat → Int
  | 0 => 0
  | m + 1 => smc C m + C m
theorem smc_b {C : Nat → Int} (h : ∀ m, m < 4 → 0 ≤ C m ∧ C m ≤ 8473321344609) : ∀ k, k ≤ 4 → (0 ≤ smc C k ∧ smc C k ≤ 8473321344609 * k) ∧ ∀ m, m < k → C m ≤ smc C k
  | 0, _ => ⟨by simp [smc], fun m hm => by omega⟩
  | k + 1, hk => by
    have ih := smc_b h k (by omega)
    have hc := h k (by omega)
    simp only [smc]
    refine ⟨by omega, fun m hm => ?_⟩
    by_cases z : m = k
    · subst z; omega
    · have := ih.2 m (by omega); omega
def odF (C : Nat → Int) (m : Nat) : Int := if smc C 4 ≤ 0 then -1 else (1000 * C m).tdiv (smc C 4)
theorem odF_b {C : Nat → Int} {m : Nat} (h : ∀ m, m < 4 → 0 ≤ C m ∧ C m ≤ 8473321344609) (hm : m < 4) (hp : 0 < smc C 4) : 0 ≤ (1000 * C m).tdiv (smc C 4) ∧ (1000 * C m).tdiv (smc C 4) ≤ 1000 := by
  have b := (smc_b h 4 (by decide)).2 m hm
  have c := h m hm
  rw [Int.tdiv_eq_ediv_of_nonneg (by omega)]
  refine ⟨Int.ediv_nonneg (by omega) (by omega), ?_⟩
  have : 1000 * C m / smc C 4 ≤ 1000 * smc C 4 / smc C 4 := Int.ediv_le_ediv hp (by omega)
  rw [Int.mul_ediv_cancel _ (by omega)] at this
  exact this
def hbo (wt wn : Int) (hb : Nat → Int) : Prop := (0 ≤ wt ∧ wt ≤ 9) ∧ (0 ≤ wn ∧ wn ≤ 100) ∧ ∀ j, j < 6 → 1 ≤ hb j ∧ hb j ≤ 99
set_option maxRecDepth 10000 in
theorem kX8_waned {l : Launch} {d : Nat} {h : ja_H} {Q : ja_Q} {n y0 : Nat} {v wn : Int} (hw : h.2.1 1 5 = wn) (hwn : 0 ≤ wn ∧ wn ≤ 100) (hv : 1 ≤ v ∧ v ≤ 99) (q : Q (some (.inl (50 + wnd wn (v - 50) y0))) h) : ja_C l (d + 1) mX8_waned (js_sh n) [.inr (.inr (some (1))), .inl (v), .inl ((y0 : Int))] h Q := by
  refine eX8_waned _ _ _ fun r_habit r_year ho => ?_
  unfold bX8_waned
  unfold ja_r at r_habit r_year
  refine jt_sI (jv_w (jv_sub (jv_li rfl) jv_ci) (by first | (unfold ja_r; omega) | (unfold ja_rl; omega) | omega | assumption)) ?_
  refine jt_sI jv_ci ?_
  refine jb_forc (y0) (fun (i : Nat) L' h' => ∃ (v_off : Int) (v_i : Int), L' = [some (.inr (.inr (some (1)))), some (.inl (v)), some (.inl ((y0 : Int))), some (.inl (v_off)), some (.inl (v_i))] ∧ v_off = wnd wn (v - 50) i ∧ v_i = (i : Int) ∧ h = h') ⟨_, _, rfl, (by rfl), (by first | rfl | omega | (simp; done) | (simp; omega)), rfl⟩ ?_ ?_ ?_
  · rintro i h_i _ _ ⟨v_off0, v_i0, rfl, rfl, rfl, rfl⟩
    exact jd_eq (jd_lt (jv_li rfl) (jv_li rfl)) (by omega)
  · rintro i h_i _ _ ⟨v_off0, v_i0, rfl, rfl, rfl, rfl⟩
    have wb := wnd_b (wn := wn) (off := v - 50) hwn (by omega) i
    have m := jmb (a := wnd wn (v - 50) i) (b := wn) (A := 49) (B := 100) (by omega) (by omega)
    have tb := td100 (x := wnd wn (v - 50) i * wn) (by omega)
    refine jt_sI (jv_w (jv_div (jv_w (jv_mul (jv_li rfl) (jv_gF (jr_lr rfl) rfl hw)) (by first | (unfold ja_r; omega) | (unfold ja_rl; omega) | omega | assumption)) jv_ci (by decide)) (by first | (unfold ja_r; omega) | (unfold ja_rl; omega) | omega | assumption)) ?_
    exact jt_inc rfl (by first | (unfold ja_r; omega) | (unfold ja_rl; omega) | omega | assumption) ⟨_, _, rfl, (by first | rfl | omega | (simp; done) | (simp; omega)), (by first | rfl | omega | (simp; done) | (simp; omega)), rfl⟩
  · rintro _ _ ⟨v_off0, v_i0, rfl, rfl, rfl, rfl⟩
    have wb := wnd_b (wn := wn) (off := v - 50) hwn (by omega) y0
    refine jt_rI (jv_w (jv_add jv_ci (jv_li rfl)) (by first | (unfold ja_r; omega) | (unfold ja_rl; omega) | omega | assumption)) ?_
    exact q
set_option maxRecDepth 10000 in
theorem kX8_chance {l : Launch} {d : Nat} {h : ja_H} {Q : ja_Q} {n y0 m : Nat} {wt wn has : Int} {hb : Nat → Int} (hG : jG h.1) (hm : m < 4) (hw : h.2.1 1 5 = wn) (hwt : h.2.1 3 m = wt) (hhb : ∀ k, k < 6 → h.2.1 4 (6 * m + k) = hb k) (ok : hbo wt wn hb) (q : Q (some (.inr (.inl (chn wt hb wn y0 has 6)))) h) : ja_C l (d + 3) mX8_chance (js_sh n) [.inr (.inr (some (1))), .inl ((m : Int)), .inl ((y0 : Int)), .inl (has)] h Q := by
  obtain ⟨ok1, hwn, ok3⟩ := id ok
  have e3 : h.2.1 3 ((m : Nat) : Int).toNat = wt := hwt
  refine eX8_chance _ _ _ _ fun r_maker r_year r_has ho => ?_
  unfold bX8_chance
  unfold ja_r at r_maker r_year r_has
  refine jb_if_d (jd_not (jd_b (jy_sI (jA_i jA_0 (jv_li rfl)) fun _ => kX11_isMaker))) (fun c1 => ?_) (fun c1 => ?_)
  · exact absurd (by omega) c1
  · refine jt_sL (x := chn wt hb wn y0 has 0) (jv_is (jv_fI (jr_g (jr_lr rfl) (by first | rfl | assumption) (by first | rfl | assumption | exact jG_at hG rfl | exact jG_90 hG rfl)) (jv_li rfl) (by first | rfl | assumption) (by first | (unfold ja_r; omega) | (unfold ja_rl; omega) | omega | assumption) (by first | (unfold ja_r; omega) | (unfold ja_rl; omega) | omega | assumption) (by first | assumption | rfl)) (by rfl)) ?_
    refine jt_sI jv_ci ?_
    refine jb_forc (6) (fun (i : Nat) L' h' => ∃ (v_chance : Int) (v_i : Int) (o5_7 : Option ja_W), L' = [some (.inr (.inr (some (1)))), some (.inl ((m : Int))), some (.inl ((y0 : Int))), some (.inl (has)), some (.inr (.inl (v_chance))), none, some (.inl (v_i)), o5_7] ∧ v_chance = chn wt hb wn y0 has i ∧ v_i = (i : Int) ∧ h = h') ⟨_, _, _, rfl, (by first | rfl | omega | (simp; done) | (simp; omega)), (by first | rfl | omega | (simp; done) | (simp; omega)), rfl⟩ ?_ ?_ ?_
    · rintro i h_i _ _ ⟨v_chance0, v_i0, o5_7, rfl, rfl, rfl, rfl⟩
      exact jd_eq (jd_lt (jv_li rfl) jv_ci) (by omega)
    · rintro i h_i _ _ ⟨v_chance0, v_i0, o5_7, rfl, rfl, rfl, rfl⟩
      have e4 : h.2.1 4 ((m : Int) * 6 + (i : Int)).toNat = hb i := by rw [show ((m : Int) * 6 + (i : Int)).toNat = 6 * m + i by omega]; exact hhb i h_i
      have hbi := ok3 i h_i
      have wb := wnd_b (wn := wn) (off := hb i - 50) hwn (by omega) y0
      have cb := chn_b5 ok1 hwn ok3 (yr := y0) (has := has) (k := i) (by omega)
      have cb2 := chn_b5 ok1 hwn ok3 (yr := y0) (has := has) (k := i + 1) (by omega)
      simp only [chn] at cb2
      refine jt_sI (x := 50 + wnd wn (hb i - 50) y0) (jv_is (jy_mI (jr_lr rfl) (by first | rfl | assumption) (jA_i (jA_i jA_0 (jv_fI (jr_g (jr_lr rfl) (by first | rfl | assumption) (by first | rfl | assumption | exact jG_at hG rfl | exact jG_90 hG rfl)) (jv_w (jv_add (jv_w (jv_mul (jv_li rfl) jv_ci) (by first | (unfold ja_r; omega) | (unfold ja_rl; omega) | omega | assumption)) (jv_li rfl)) (by first | (unfold ja_r; omega) | (unfold ja_rl; omega) | omega | assumption)) (by first | rfl | assumption) (by first | (unfold ja_r; omega) | (unfold ja_rl; omega) | omega | assumption) (by first | (unfold ja_r; omega) | (unfold ja_rl; omega) | omega | assumption) (by first | assumption | rfl))) (jv_li rfl)) fun _ => kX8_waned hw hwn (by first | (unfold ja_r; omega) | (unfold ja_rl; omega) | omega | assumption)) (by rfl)) ?_
      refine jt_sL (jv_wl (jv_mulL (jv_ll rfl) (jv_is (x' := (if jbt has i = true then 50 + wnd wn (hb i - 50) y0 else 50 - wnd wn (hb i - 50) y0)) (jv_cv (jd_eq (φ' := jbt has i = true) (jd_eqI (jv_and (jv_shr (jv_li rfl) (jv_li rfl)) jv_ci) jv_ci) (by rw [ja_bit (by omega)]; cases jbt has i <;> simp)) (fun _ => (jv_li rfl)) (fun _ => (jv_w (jv_sub jv_ci (jv_li rfl)) (by first | (unfold ja_r; omega) | (unfold ja_rl; omega) | omega | assumption)))) (by split <;> omega))) (by unfold ja_rl; omega)) ?_
      exact jt_inc rfl (by first | (unfold ja_r; omega) | (unfold ja_rl; omega) | omega | assumption) ⟨_, _, _, rfl, (by rfl), (by first | rfl | omega | (simp; done) | (simp; omega)), rfl⟩
    · rintro _ _ ⟨v_chance0, v_i0, o5_7, rfl, rfl, rfl, rfl⟩
      refine jt_rL (jv_ll rfl) ?_
      exact q
set_option maxRecDepth 10000 in
theorem kX12_chance {l : Launch} {d : Nat} {h : ja_H} {Q : ja_Q} {n y0 m : Nat} {wt wn has : Int} {hb a : Nat → Int} (hG : jG h.1) (ha : h.2.1 91 = a) (hm : m < 4) (hw : a 4 = wn) (hwt : a (880 + m) = wt) (hhb : ∀ k, k < 6 → a (890 + 6 * m + k) = hb k) (ok : hbo wt wn hb) (q : Q (some (.inr (.inl (chn wt hb wn y0 has 6)))) h) : ja_C l (d + 1) mX12_chance (js_sh n) [.inr (.inr (some (90))), .inl ((m : Int)), .inl ((y0 : Int)), .inl (has)] h Q := by
  obtain ⟨ok1, hwn, ok3⟩ := id ok
  have e3 : h.2.1 91 (880 + (m : Int)).toNat = wt := by rw [ha, show (880 + (m : Int)).toNat = 880 + m by omega]; exact hwt
  have e5 : h.2.1 91 (4 : Int).toNat = wn := by rw [ha]; exact hw
  refine eX12_chance _ _ _ _ fun r_maker r_year r_has ho => ?_
  unfold bX12_chance
  unfold ja_r at r_maker r_year r_has
  refine jt_sL (x := chn wt hb wn y0 has 0) (jv_is (jv_fI (jr_g (jr_lr rfl) (by first | rfl | assumption) (by first | rfl | assumption | exact jG_at hG rfl | exact jG_90 hG rfl)) (jv_w (jv_add jv_ci (jv_li rfl)) (by first | (unfold ja_r; omega) | (unfold ja_rl; omega) | omega | assumption)) (by first | rfl | assumption) (by first | (unfold ja_r; omega) | (unfold ja_rl; omega) | omega | assumption) (by first | (unfold ja_r; omega) | (unfold ja_rl; omega) | omega | assumption) (by first | assumption | rfl)) (by rfl)) ?_
  refine jt_sI jv_ci ?_
  refine jb_forc (6) (fun (i : Nat) L' h' => ∃ (v_v : Int) (v_k : Int) (o3_7 : Option ja_W) (o3_8 : Option ja_W), L' = [some (.inr (.inr (some (90)))), some (.inl ((m : Int))), some (.inl ((y0 : Int))), some (.inl (has)), some (.inr (.inl (v_v))), none, some (.inl (v_k)), o3_7, o3_8] ∧ v_v = chn wt hb wn y0 has i ∧ v_k = (i : Int) ∧ h = h') ⟨_, _, _, _, rfl, (by first | rfl | omega | (simp; done) | (simp; omega)), (by first | rfl | omega | (simp; done) | (simp; omega)), rfl⟩ ?_ ?_ ?_
  · rintro i h_i _ _ ⟨v_v0, v_k0, o3_7, o3_8, rfl, rfl, rfl, rfl⟩
    exact jd_eq (jd_lt (jv_li rfl) jv_ci) (by omega)
  · rintro i h_i _ _ ⟨v_v0, v_k0, o3_7, o3_8, rfl, rfl, rfl, rfl⟩
    have e4 : h.2.1 91 (890 + 6 * (m : Int) + (i : Int)).toNat = hb i := by rw [ha, show (890 + 6 * (m : Int) + (i : Int)).toNat = 890 + 6 * m + i by omega]; exact hhb i h_i
    have hbi := ok3 i h_i
    have wb0 := wnd_b (wn := wn) (off := hb i - 50) hwn (by omega) y0
    have cb := chn_b5 ok1 hwn ok3 (yr := y0) (has := has) (k := i) (by omega)
    have cb2 := chn_b5 ok1 hwn ok3 (yr := y0) (has := has) (k := i + 1) (by omega)
    simp only [chn] at cb2
    refine jt_sI (jv_w (jv_sub (jv_fI (jr_g (jr_lr rfl) (by first | rfl | assumption) (by first | rfl | assumption | exact jG_at hG rfl | exact jG_90 hG rfl)) (jv_w (jv_add (jv_w (jv_add jv_ci (jv_w (jv_mul jv_ci (jv_li rfl)) (by first | (unfold ja_r; omega) | (unfold ja_rl; omega) | omega | assumption))) (by first | (unfold ja_r; omega) | (unfold ja_rl; omega) | omega | assumption)) (jv_li rfl)) (by first | (unfold ja_r; omega) | (unfold ja_rl; omega) | omega | assumption)) (by first | rfl | assumption) (by first | (unfold ja_r; omega) | (unfold ja_rl; omega) | omega | assumption) (by first | (unfold ja_r; omega) | (unfold ja_rl; omega) | omega | assumption) (by first | assumption | rfl)) jv_ci) (by first | (unfold ja_r; omega) | (unfold ja_rl; omega) | omega | assumption)) ?_
    refine jt_sI jv_ci ?_
    refine jb_forc (y0) (fun (j : Nat) L' h' => ∃ (v_off : Int) (v_y : Int), L' = [some (.inr (.inr (some (90)))), some (.inl ((m : Int))), some (.inl ((y0 : Int))), some (.inl (has)), some (.inr (.inl (chn wt hb wn y0 has i))), none, some (.inl ((i : Int))), some (.inl (v_off)), some (.inl (v_y))] ∧ v_off = wnd wn (hb i - 50) j ∧ v_y = (j : Int) ∧ h = h') ⟨_, _, rfl, (by rfl), (by first | rfl | omega | (simp; done) | (simp; omega)), rfl⟩ ?_ ?_ ?_
    · rintro j h_j _ _ ⟨v_off0, v_y0, rfl, rfl, rfl, rfl⟩
      exact jd_eq (jd_lt (jv_li rfl) (jv_li rfl)) (by omega)
    · rintro j h_j _ _ ⟨v_off0, v_y0, rfl, rfl, rfl, rfl⟩
      have wb := wnd_b (wn := wn) (off := hb i - 50) hwn (by omega) j
      have m := jmb (a := wnd wn (hb i - 50) j) (b := wn) (A := 49) (B := 100) (by omega) (by omega)
      have tb := td100 (x := wnd wn (hb i - 50) j * wn) (by omega)
      refine jt_sI (jv_w (jv_div (jv_w (jv_mul (jv_li rfl) (jv_fI (jr_g (jr_lr rfl) rfl (jG_90 hG rfl)) jv_ci rfl (by decide) (by decide) e5)) (by first | (unfold ja_r; omega) | (unfold ja_rl; omega) | omega | assumption)) jv_ci (by decide)) (by first | (unfold ja_r; omega) | (unfold ja_rl; omega) | omega | assumption)) ?_
      exact jt_inc rfl (by first | (unfold ja_r; omega) | (unfold ja_rl; omega) | omega | assumption) ⟨_, _, rfl, (by first | rfl | omega | (simp; done) | (simp; omega)), (by first | rfl | omega | (simp; done) | (simp; omega)), rfl⟩
    · rintro _ _ ⟨v_off0, v_y0, rfl, rfl, rfl, rfl⟩
      refine jt_sL (jv_wl (jv_mulL (jv_ll rfl) (jv_is (x' := (if jbt has i = true then 50 + wnd wn (hb i - 50) y0 else 50 - wnd wn (hb i - 50) y0)) (jv_cv (jd_eq (φ' := jbt has i = true) (jd_eqI (jv_and (jv_shr (jv_li rfl) (jv_li rfl)) jv_ci) jv_ci) (by rw [ja_bit (by omega)]; cases jbt has i <;> simp)) (fun _ => (jv_w (jv_add jv_ci (jv_li rfl)) (by first | (unfold ja_r; omega) | (unfold ja_rl; omega) | omega | assumption))) (fun _ => (jv_w (jv_sub jv_ci (jv_li rfl)) (by first | (unfold ja_r; omega) | (unfold ja_rl; omega) | omega | assumption)))) rfl)) (by unfold ja_rl; omega)) ?_
      exact jt_inc rfl (by first | (unfold ja_r; omega) | (unfold ja_rl; omega) | omega | assumption) ⟨_, _, _, _, rfl, (by rfl), (by first | rfl | omega | (simp; done) | (simp; omega)), rfl⟩
  · rintro _ _ ⟨v_v0, v_k0, o3_7, o3_8, rfl, rfl, rfl, rfl⟩
    refine jt_rL (jv_ll rfl) ?_
    exact q
set_option maxRecDepth 10000 in
theorem kX11_odds {l : Launch} {d : Nat} {h : ja_H} {Q : ja_Q} {n : Nat} {m y has : Int} {C : Nat → Int} {wn : Int} (hG : jG h.1) (hw : h.2.1 1 5 = wn) (ok : ∀ m, m < 4 → hbo (h.2.1 3 m) wn (fun k => h.2.1 4 (6 * m + k))) (cC : ∀ m, m < 4 → C m = chn (h.2.1 3 m) (fun k => h.2.1 4 (6 * m + k)) wn y.toNat has 6) (q1 : (0 ≤ m ∧ m ≤ 3) ∧ (0 ≤ y ∧ y ≤ 50) ∧ 0 ≤ has ∧ has ≤ 63 → Q (some (.inl (odF C m.toNat))) h) (q2 : ¬ ((0 ≤ m ∧ m ≤ 3) ∧ (0 ≤ y ∧ y ≤ 50) ∧ 0 ≤ has ∧ has ≤ 63) → Q (some (.inl (-1))) h) : ja_C l (d + 4) mX11_odds (js_sh n) [.inr (.inr (some (0))), .inl (m), .inl (y), .inl (has)] h Q := by
  have hC : ∀ m, m < 4 → 0 ≤ C m ∧ C m ≤ 8473321344609 := fun m hm => by rw [cC m hm]; exact chn_b5 (ok m hm).1 (ok m hm).2.1 (ok m hm).2.2 (by decide)
  have sb4 := smc_b hC 4 (by decide)
  refine eX11_odds _ _ _ _ fun r_maker r_year r_has ho => ?_
  unfold bX11_odds
  unfold ja_r at r_maker r_year r_has
  refine jb_if_d (φ := ¬ ((0 ≤ m ∧ m ≤ 3) ∧ (0 ≤ y ∧ y ≤ 50) ∧ 0 ≤ has ∧ has ≤ 63)) (jd_eq (jd_or (jd_or (jd_not (jd_b (jy_sI (jA_i jA_0 (jv_li rfl)) fun _ => kX11_isMaker))) (fun _ => (jd_not (jd_b (jy_sI (jA_i (jA_i (jA_i jA_0 (jv_li rfl)) jv_ci) jv_ci) fun _ => kX11_within))))) (fun _ => (jd_not (jd_b (jy_sI (jA_i (jA_i (jA_i jA_0 (jv_li rfl)) jv_ci) jv_ci) fun _ => kX11_within))))) (by omega)) (fun c1 => ?_) (fun c1 => ?_)
  · refine jt_rI jv_ci ?_
    exact q2 c1
  · have c1 := Classical.not_not.mp c1
    have q := q1 c1
    unfold odF at q
    obtain ⟨y0, rfl⟩ : ∃ y0 : Nat, y = (y0 : Int) := ⟨y.toNat, by omega⟩
    rw [Int.toNat_natCast] at cC
    obtain ⟨m0, rfl⟩ : ∃ m0 : Nat, m = (m0 : Int) := ⟨m.toNat, by omega⟩
    rw [Int.toNat_natCast] at q
    have hm0 : m0 < 4 := by omega
    refine jt_sL jv_ci ?_
    refine jt_sI jv_ci ?_
    refine jb_forc (4) (fun (i : Nat) L' h' => ∃ (v_all : Int) (v_i : Int), L' = [some (.inr (.inr (some (0)))), some (.inl ((m0 : Int))), some (.inl ((y0 : Int))), some (.inl (has)), some (.inr (.inl (v_all))), none, some (.inl (v_i))] ∧ v_all = smc C i ∧ v_i = (i : Int) ∧ h = h') ⟨_, _, rfl, (by first | rfl | omega | (simp; done) | (simp; omega)), (by first | rfl | omega | (simp; done) | (simp; omega)), rfl⟩ ?_ ?_ ?_
    · rintro i h_i _ _ ⟨v_all0, v_i0, rfl, rfl, rfl, rfl⟩
      exact jd_eq (jd_lt (jv_li rfl) jv_ci) (by omega)
    · rintro i h_i _ _ ⟨v_all0, v_i0, rfl, rfl, rfl, rfl⟩
      have hci := hC i h_i
      have sb := smc_b hC i (by omega)
      refine jt_sL (jv_wl (jv_addL (jv_ll rfl) (jy_mL (jr_g (jr_lr rfl) rfl (jG_at hG rfl)) rfl (jA_i (jA_i (jA_i jA_0 (jv_li rfl)) (jv_li rfl)) (jv_li rfl)) fun _ w => kX8_chance hG h_i hw rfl (fun k hk => rfl) (ok i h_i) (by rw [← cC i h_i]; exact w))) (by unfold ja_rl; omega)) ?_
      exact jt_inc rfl (by first | (unfold ja_r; omega) | (unfold ja_rl; omega) | omega | assumption) ⟨_, _, rfl, (by rfl), (by first | rfl | omega | (simp; done) | (simp; omega)), rfl⟩
    · rintro _ _ ⟨v_all0, v_i0, rfl, rfl, rfl, rfl⟩
      refine jb_if_d (jd_leL (jv_ll rfl) jv_ci) (fun c2 => ?_) (fun c2 => ?_)
      · rw [if_pos c2] at q
        refine jt_rI jv_ci ?_
        exact q
      · rw [if_neg c2] at q
        have od := odF_b hC hm0 (by omega)
        have cm := hC m0 hm0
        refine jt_rI (jv_w (jv_l2i (jv_wl (jv_divL (jv_wl (jv_mulL jv_ci (jy_mL (jr_g (jr_lr rfl) rfl (jG_at hG rfl)) rfl (jA_i (jA_i (jA_i jA_0 (jv_li rfl)) (jv_li rfl)) (jv_li rfl)) fun _ w => kX8_chance hG hm0 hw rfl (fun k hk => rfl) (ok m0 hm0) (by rw [← cC m0 hm0]; exact w))) (by unfold ja_rl; omega)) (jv_ll rfl) (by omega)) (by unfold ja_rl; omega))) (by unfold ja_r; omega)) ?_
        exact q
set_option maxRecDepth 10000 in
theorem kX12_odds {l : Launch} {d : Nat} {h : ja_H} {Q : ja_Q} {n : Nat} {m y has : Int} {C a : Nat → Int} {wn : Int} (hG : jG h.1) (ha : h.2.1 91 = a) (hw : a 4 = wn) (ok : ∀ m, m < 4 → hbo (a (880 + m)) wn (fun k => a (890 + 6 * m + k))) (cC : ∀ m, m < 4 → C m = chn (a (880 + m)) (fun k => a (890 + 6 * m + k)) wn y.toNat has 6) (q1 : (0 ≤ m ∧ m ≤ 3) ∧ (0 ≤ y ∧ y ≤ 50) ∧ 0 ≤ has ∧ has ≤ 63 → Q (some (.inl (odF C m.toNat))) h) (q2 : ¬ ((0 ≤ m ∧ m ≤ 3) ∧ (0 ≤ y ∧ y ≤ 50) ∧ 0 ≤ has ∧ has ≤ 63) → Q (some (.inl (-1))) h) : ja_C l (d + 3) mX12_odds (js_sh n) [.inr (.inr (some (90))), .inl (m), .inl (y), .inl (has)] h Q := by
  have hC : ∀ m, m < 4 → 0 ≤ C m ∧ C m ≤ 8473321344609 := fun m hm => by rw [cC m hm]; exact chn_b5 (ok m hm).1 (ok m hm).2.1 (ok m hm).2.2 (by decide)
  have sb4 := smc_b hC 4 (by decide)
  refine eX12_odds _ _ _ _ fun r_maker r_year r_has ho => ?_
  unfold bX12_odds
  unfold ja_r at r_maker r_year r_has
  refine jb_if_d (φ := ¬ ((0 ≤ m ∧ m ≤ 3) ∧ (0 ≤ y ∧ y ≤ 50) ∧ 0 ≤ has ∧ has ≤ 63)) (jd_eq (jd_or (jd_or (jd_not (jd_b (jy_sI (jA_i jA_0 (jv_li rfl)) fun _ => kX12_isMaker))) (fun _ => (jd_not (jd_b (jy_sI (jA_i (jA_i (jA_i jA_0 (jv_li rfl)) jv_ci) jv_ci) fun _ => kX12_isIn))))) (fun _ => (jd_not (jd_b (jy_sI (jA_i (jA_i (jA_i jA_0 (jv_li rfl)) jv_ci) jv_ci) fun _ => kX12_isIn))))) (by omega)) (fun c1 => ?_) (fun c1 => ?_)
  · refine jt_rI jv_ci ?_
    exact q2 c1
  · have c1 := Classical.not_not.mp c1
    have q := q1 c1
    unfold odF at q
    obtain ⟨y0, rfl⟩ : ∃ y0 : Nat, y = (y0 : Int) := ⟨y.toNat, by omega⟩
    rw [Int.toNat_natCast] at cC
    obtain ⟨m0, rfl⟩ : ∃ m0 : Nat, m = (m0 : Int) := ⟨m.toNat, by omega⟩
    rw [Int.toNat_natCast] at q
    have hm0 : m0 < 4 := by omega
    refine jt_sL jv_ci ?_
    refine jt_sI jv_ci ?_
    refine jb_forc (4) (fun (i : Nat) L' h' => ∃ (v_all : Int) (v_m : Int), L' = [some (.inr (.inr (some (90)))), some (.inl ((m0 : Int))), some (.inl ((y0 : Int))), some (.inl (has)), some (.inr (.inl (v_all))), none, some (.inl (v_m))] ∧ v_all = smc C i ∧ v_m = (i : Int) ∧ h = h') ⟨_, _, rfl, (by first | rfl | omega | (simp; done) | (simp; omega)), (by first | rfl | omega | (simp; done) | (simp; omega)), rfl⟩ ?_ ?_ ?_
    · rintro i h_i _ _ ⟨v_all0, v_m0, rfl, rfl, rfl, rfl⟩
      exact jd_eq (jd_lt (jv_li rfl) jv_ci) (by omega)
    · rintro i h_i _ _ ⟨v_all0, v_m0, rfl, rfl, rfl, rfl⟩
      have hci := hC i h_i
      have sb := smc_b hC i (by omega)
      refine jt_sL (jv_wl (jv_addL (jv_ll rfl) (jy_mL (jr_lr rfl) rfl (jA_i (jA_i (jA_i jA_0 (jv_li rfl)) (jv_li rfl)) (jv_li rfl)) fun _ w => kX12_chance hG ha h_i hw rfl (fun k hk => rfl) (ok i h_i) (by rw [← cC i h_i]; exact w))) (by unfold ja_rl; omega)) ?_
      exact jt_inc rfl (by first | (unfold ja_r; omega) | (unfold ja_rl; omega) | omega | assumption) ⟨_, _, rfl, (by rfl), (by first | rfl | omega | (simp; done) | (simp; omega)), rfl⟩
    · rintro _ _ ⟨v_all0, v_m0, rfl, rfl, rfl, rfl⟩
      have od := fun z => odF_b hC hm0 z
      have cm := hC m0 hm0
      refine jt_rI (x := (if smc C 4 ≤ 0 then -1 else (1000 * C m0).tdiv (smc C 4))) (jv_is (jv_cv (jd_eqL (jv_ll rfl) jv_ci) (fun _ => jv_ci) (fun z => (jv_w (jv_l2i (jv_wl (jv_divL (jv_wl (jv_mulL jv_ci (jy_mL (jr_lr rfl) rfl (jA_i (jA_i (jA_i jA_0 (jv_li rfl)) (jv_li rfl)) (jv_li rfl)) fun _ w => kX12_chance hG ha hm0 hw rfl (fun k hk => rfl) (ok m0 hm0) (by rw [← cC m0 hm0]; exact w))) (by unfold ja_rl; omega)) (jv_ll rfl) (by omega)) (by have := od (by omega); unfold ja_rl; omega))) (by have := od (by omega); unfold ja_r; omega)))) (by 
            have z : smc C 4 = 0 ↔ smc C 4 ≤ 0 := by omega
            simp only [z])) ?_
      exact q
