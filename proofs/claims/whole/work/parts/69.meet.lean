/-! points by their numbers: 81 a row -/
def pX (p : Nat) : Int := ((p % 81 : Nat) : Int) - 40
def pY (p : Nat) : Int := ((p / 81 : Nat) : Int) - 40
def cP (X Y U V : Nat → Int) (sl : Int) (m p : Nat) : Nat := ncn (thb X Y U V sl (pX p) (pY p)) m
def mt (c : Nat → Nat) (f : Nat → Nat → Int) (p : Nat) : Prop := f 34 7 = (if p = 0 then -1 else ((c (bs c p) : Nat) : Int)) ∧ (p ≠ 0 → f 34 5 = pX (bs c p) ∧ f 34 6 = pY (bs c p))
theorem mt_T {c : Nat → Nat} {f : Nat → Nat → Int} {p : Nat} (h : (if p = 0 then -1 else ((c (bs c p) : Nat) : Int)) < (c p : Int)) (e5 : f 34 5 = pX p) (e6 : f 34 6 = pY p) (e7 : f 34 7 = (c p : Nat)) : mt c f (p + 1) := by
  have e := bs_T h
  unfold mt
  rw [e, if_neg (by omega)]
  exact ⟨e7, fun _ => ⟨e5, e6⟩⟩
theorem mt_F {c : Nat → Nat} {f : Nat → Nat → Int} {p : Nat} (h : ¬ (if p = 0 then -1 else ((c (bs c p) : Nat) : Int)) < (c p : Int)) (m : mt c f p) : mt c f (p + 1) := by
  obtain ⟨e, z⟩ := bs_F h
  unfold mt at *
  rw [e, if_neg (by omega)]
  rw [if_neg z] at m
  exact ⟨m.1, fun _ => m.2 z⟩
theorem p_xy {i j : Nat} (hj : j < 81) : pX (81 * i + j) = (j : Int) - 40 ∧ pY (81 * i + j) = (i : Int) - 40 := by
  unfold pX pY; omega
theorem cP_xy {X Y U V : Nat → Int} {sl : Int} {m i j : Nat} (hj : j < 81) : ncn (thb X Y U V sl ((j : Int) - 40) ((i : Int) - 40)) m = cP X Y U V sl m (81 * i + j) := by
  unfold cP; rw [(p_xy hj).1, (p_xy hj).2]
set_option maxRecDepth 10000 in
theorem kX2_findMeeting {l : Launch} {d : Nat} {h : ja_H} {Q : ja_Q} {n m : Nat} {X Y U V : Nat → Int} {sl : Int} (hG : jG h.1) (x1 : h.2.1 35 = X) (x2 : h.2.1 36 = Y) (x3 : h.2.1 37 = U) (x4 : h.2.1 38 = V) (hm : m ≤ 10) (bd : ∀ k, k < m → lnB (X k) (Y k) (U k) (V k)) (hs : 0 ≤ sl ∧ sl ≤ 9) (q : ∀ f, jfr [34, 39] h.2.1 f → mt (cP X Y U V sl m) f 6561 → Q none (h.1, f, h.2.2)) : ja_C l (d + 4) mX2_findMeeting (js_sh n) [.inr (.inr (some (34))), .inl ((m : Int)), .inl (sl)] h Q := by
  refine eX2_findMeeting _ _ _ fun r_count r_slack ho => ?_
  unfold bX2_findMeeting
  unfold ja_r at r_count r_slack
  refine jt_pI (jr_lr rfl) (by first | rfl | assumption) jv_ci ?_
  try dsimp only
  refine jt_sI (x := ((0 : Nat) : Int) - 40) (jv_is jv_ci (by rfl)) ?_
  refine jb_forc (81) (fun (i : Nat) L' h' => ∃ (v_y : Int) (o3_4 : Option ja_W) (f : Nat → Nat → Int), L' = [some (.inr (.inr (some (34)))), some (.inl ((m : Int))), some (.inl (sl)), some (.inl (v_y)), o3_4] ∧ v_y = (i : Int) - 40 ∧ (h.1, f, h.2.2) = h' ∧ (jfr [34, 39] h.2.1 f) ∧ (mt (cP X Y U V sl m) f (81 * i))) ⟨_, _, _, rfl, (by first | rfl | omega | (simp; done) | (simp; omega)), rfl, (by exact jfr_up (jfr_rf _ _) (by decide)), (by exact ⟨ja_upE rfl rfl, fun z => absurd rfl z⟩)⟩ ?_ ?_ ?_
  · rintro i h_i _ _ ⟨v_y0, o3_4, f, rfl, rfl, rfl, fr, fm⟩
    exact jd_eq (jd_le (jv_li rfl) jv_ci) (by omega)
  · rintro i h_i _ _ ⟨v_y0, o3_4, f, rfl, rfl, rfl, fr, fm⟩
    refine jx_m (jr_lr rfl) (by first | rfl | assumption) (jA_i (jA_i (jA_i jA_0 (jv_li rfl)) (jv_li rfl)) (jv_li rfl)) (kX2_countThrough (h := (h.1, f, h.2.2)) (X := X) (Y := Y) (U := U) (V := V) hG (by show f 35 = X; rw [fr 35 (by decide), x1]) (by show f 36 = Y; rw [fr 36 (by decide), x2]) (by show f 37 = U; rw [fr 37 (by decide), x3]) (by show f 38 = V; rw [fr 38 (by decide), x4]) hm bd hs (by omega) fun f2 fr2 f3 => ⟨rfl, ?_⟩)
    have fr3 : jfr [34, 39] h.2.1 f2 := jfr_tr fr (jfr_sub fr2 (by decide))
    have fm2 : mt (cP X Y U V sl m) f2 (81 * i) := by
      unfold mt at *
      rw [show f2 34 = f 34 from fr2 34 (by decide)]
      exact fm
    refine jt_sI jv_ci ?_
    refine jb_forc (81) (fun (j : Nat) L' h' => ∃ (v_i : Int) (g : Nat → Nat → Int), L' = [some (.inr (.inr (some (34)))), some (.inl ((m : Int))), some (.inl (sl)), some (.inl ((i : Int) - 40)), some (.inl (v_i))] ∧ v_i = (j : Int) ∧ (h.1, g, h.2.2) = h' ∧ (jfr [34, 39] h.2.1 g) ∧ (∀ j : Nat, j < 81 → g 39 j = (cP X Y U V sl m (81 * i + j) : Nat)) ∧ (mt (cP X Y U V sl m) g (81 * i + j))) ⟨_, _, rfl, (by first | rfl | omega | (simp; done) | (simp; omega)), rfl, (by exact fr3), (by intro j hj; rw [← cP_xy hj]; exact f3 j hj), (by exact fm2)⟩ ?_ ?_ ?_
    · rintro j h_j _ _ ⟨v_i0, g, rfl, rfl, rfl, gr, g1, gm⟩
      exact jd_eq (jd_lt (jv_li rfl) (jv_len (jr_g (jr_lr rfl) (by first | rfl | assumption) (by first | rfl | assumption | exact jG_at hG rfl | exact jG_90 hG rfl)) (by first | rfl | assumption) (by first | (unfold ja_r; omega) | (unfold ja_rl; omega) | omega | assumption))) (by omega)
    · rintro j h_j _ _ ⟨v_i0, g, rfl, rfl, rfl, gr, g1, gm⟩
      have tj : g 39 ((j : Nat) : Int).toNat = ((cP X Y U V sl m (81 * i + j) : Nat) : Int) := g1 j h_j
      have t7 := gm.1
      have xy := p_xy (i := i) h_j
      refine jb_if_d (jd_gt (jv_fI (jr_g (jr_lr rfl) (by first | rfl | assumption) (by first | rfl | assumption | exact jG_at hG rfl | exact jG_90 hG rfl)) (jv_li rfl) (by first | rfl | assumption) (by first | (unfold ja_r; omega) | (unfold ja_rl; omega) | omega | assumption) (by first | (unfold ja_r; omega) | (unfold ja_rl; omega) | omega | assumption) (by first | assumption | rfl)) (jv_gF (jr_lr rfl) (by first | rfl | assumption) (by first | assumption | rfl))) (fun c1 => ?_) (fun c1 => ?_)
      · refine jt_pI (jr_lr rfl) (by first | rfl | assumption) (jv_fI (jr_g (jr_lr rfl) (by first | rfl | assumption) (by first | rfl | assumption | exact jG_at hG rfl | exact jG_90 hG rfl)) (jv_li rfl) (by first | rfl | assumption) (by first | (unfold ja_r; omega) | (unfold ja_rl; omega) | omega | assumption) (by first | (unfold ja_r; omega) | (unfold ja_rl; omega) | omega | assumption) (by first | assumption | rfl)) ?_
        try dsimp only
        refine jt_pI (jr_lr rfl) (by first | rfl | assumption) (jv_w (jv_sub (jv_li rfl) jv_ci) (by first | (unfold ja_r; omega) | (unfold ja_rl; omega) | omega | assumption)) ?_
        try dsimp only
        refine jt_pI (jr_lr rfl) (by first | rfl | assumption) (jv_li rfl) ?_
        try dsimp only
        exact jt_inc rfl (by first | (unfold ja_r; omega) | (unfold ja_rl; omega) | omega | assumption) ⟨_, _, rfl, (by first | rfl | omega | (simp; done) | (simp; omega)), rfl, (by (repeat' (first | exact gr | refine jfr_up ?_ (by decide)))), (by first | exact g1 | (intro j2 hj2; rw [ja_upO (by omega), ja_upO (by omega), ja_upO (by omega)]; exact g1 j2 hj2)), (by first | exact mt_F (p := 81 * i + j) c1 gm | exact mt_T (p := 81 * i + j) c1 (by rw [ja_upO (by omega), ja_upE rfl rfl, xy.1]) (by rw [ja_upE rfl rfl, xy.2]) (by rw [ja_upO (by omega), ja_upO (by omega), ja_upE rfl rfl]))⟩
      · exact jt_inc rfl (by first | (unfold ja_r; omega) | (unfold ja_rl; omega) | omega | assumption) ⟨_, _, rfl, (by first | rfl | omega | (simp; done) | (simp; omega)), rfl, (by (repeat' (first | exact gr | refine jfr_up ?_ (by decide)))), (by first | exact g1 | (intro j2 hj2; rw [ja_upO (by omega), ja_upO (by omega), ja_upO (by omega)]; exact g1 j2 hj2)), (by first | exact mt_F (p := 81 * i + j) c1 gm | exact mt_T (p := 81 * i + j) c1 (by rw [ja_upO (by omega), ja_upE rfl rfl, xy.1]) (by rw [ja_upE rfl rfl, xy.2]) (by rw [ja_upO (by omega), ja_upO (by omega), ja_upE rfl rfl]))⟩
    · rintro _ _ ⟨v_i0, g, rfl, rfl, rfl, gr, g1, gm⟩
      exact jt_inc rfl (by first | (unfold ja_r; omega) | (unfold ja_rl; omega) | omega | assumption) ⟨_, _, _, rfl, (by first | rfl | omega | (simp; done) | (simp; omega)), rfl, (by exact gr), (by exact gm)⟩
  · rintro _ _ ⟨v_y0, o3_4, f, rfl, rfl, rfl, fr, fm⟩
    exact q f fr (by rw [show (6561 : Nat) = 81 * 81 from rfl]; exact fm)
set_option maxRecDepth 10000 in
theorem kX2_missing {l : Launch} {d : Nat} {h : ja_H} {Q : ja_Q} {n m : Nat} {X Y U V : Nat → Int} {sl px py : Int} (hG : jG h.1) (x1 : h.2.1 35 = X) (x2 : h.2.1 36 = Y) (x3 : h.2.1 37 = U) (x4 : h.2.1 38 = V) (hm : m ≤ 10) (bd : ∀ k, k < m → lnB (X k) (Y k) (U k) (V k)) (hs : 0 ≤ sl ∧ sl ≤ 9) (h5 : h.2.1 34 5 = px) (h6 : h.2.1 34 6 = py) (bx : -40 ≤ px ∧ px ≤ 40) (bY : -40 ≤ py ∧ py ≤ 40) (q : Q (some (.inl (tst (fun k => !thb X Y U V sl px py k) m))) h) : ja_C l (d + 3) mX2_missing (js_sh n) [.inr (.inr (some (34))), .inl ((m : Int)), .inl (sl)] h Q := by
  refine eX2_missing _ _ _ fun r_count r_slack ho => ?_
  unfold bX2_missing
  unfold ja_r at r_count r_slack
  refine jt_sI jv_ci ?_
  refine jt_sI jv_ci ?_
  refine jb_forc (m) (fun (k : Nat) L' h' => ∃ (v_bits : Int) (v_line : Int) (o3_5 : Option ja_W), L' = [some (.inr (.inr (some (34)))), some (.inl ((m : Int))), some (.inl (sl)), some (.inl (v_bits)), some (.inl (v_line)), o3_5] ∧ v_bits = tst (fun k => !thb X Y U V sl px py k) k ∧ v_line = (k : Int) ∧ h = h') ⟨_, _, _, rfl, (by first | rfl | omega | (simp; done) | (simp; omega)), (by first | rfl | omega | (simp; done) | (simp; omega)), rfl⟩ ?_ ?_ ?_
  · rintro k h_k _ _ ⟨v_bits0, v_line0, o3_5, rfl, rfl, rfl, rfl⟩
    exact jd_eq (jd_lt (jv_li rfl) (jy_sI (jA_i (jA_i jA_0 (jv_li rfl)) jv_ci) fun _ => kJ9_min)) (by omega)
  · rintro k h_k _ _ ⟨v_bits0, v_line0, o3_5, rfl, rfl, rfl, rfl⟩
    have y1 : h.2.1 35 ((k : Nat) : Int).toNat = X k := by rw [x1]; rfl
    have y2 : h.2.1 36 ((k : Nat) : Int).toNat = Y k := by rw [x2]; rfl
    have y3 : h.2.1 37 ((k : Nat) : Int).toNat = U k := by rw [x3]; rfl
    have y4 : h.2.1 38 ((k : Nat) : Int).toNat = V k := by rw [x4]; rfl
    have bk := bd k h_k
    have tb := thb_b bk bx bY hs
    obtain ⟨bk1, bk2, bk3, bk4⟩ := id bk
    refine jt_sI (jv_w (jv_sub (jv_w (jv_mul (jv_fI (jr_g (jr_lr rfl) (by first | rfl | assumption) (by first | rfl | assumption | exact jG_at hG rfl | exact jG_90 hG rfl)) (jv_li rfl) (by first | rfl | assumption) (by first | (unfold ja_r; omega) | (unfold ja_rl; omega) | omega | assumption) (by first | (unfold ja_r; omega) | (unfold ja_rl; omega) | omega | assumption) (by first | assumption | rfl)) (jv_w (jv_sub (jv_gF (jr_lr rfl) (by first | rfl | assumption) (by first | assumption | rfl)) (jv_fI (jr_g (jr_lr rfl) (by first | rfl | assumption) (by first | rfl | assumption | exact jG_at hG rfl | exact jG_90 hG rfl)) (jv_li rfl) (by first | rfl | assumption) (by first | (unfold ja_r; omega) | (unfold ja_rl; omega) | omega | assumption) (by first | (unfold ja_r; omega) | (unfold ja_rl; omega) | omega | assumption) (by first | assumption | rfl))) (by first | (unfold ja_r; omega) | (unfold ja_rl; omega) | omega | assumption))) (by first | (unfold ja_r; omega) | (unfold ja_rl; omega) | omega | assumption)) (jv_w (jv_mul (jv_fI (jr_g (jr_lr rfl) (by first | rfl | assumption) (by first | rfl | assumption | exact jG_at hG rfl | exact jG_90 hG rfl)) (jv_li rfl) (by first | rfl | assumption) (by first | (unfold ja_r; omega) | (unfold ja_rl; omega) | omega | assumption) (by first | (unfold ja_r; omega) | (unfold ja_rl; omega) | omega | assumption) (by first | assumption | rfl)) (jv_w (jv_sub (jv_gF (jr_lr rfl) (by first | rfl | assumption) (by first | assumption | rfl)) (jv_fI (jr_g (jr_lr rfl) (by first | rfl | assumption) (by first | rfl | assumption | exact jG_at hG rfl | exact jG_90 hG rfl)) (jv_li rfl) (by first | rfl | assumption) (by first | (unfold ja_r; omega) | (unfold ja_rl; omega) | omega | assumption) (by first | (unfold ja_r; omega) | (unfold ja_rl; omega) | omega | assumption) (by first | assumption | rfl))) (by first | (unfold ja_r; omega) | (unfold ja_rl; omega) | omega | assumption))) (by first | (unfold ja_r; omega) | (unfold ja_rl; omega) | omega | assumption))) (by first | (unfold ja_r; omega) | (unfold ja_rl; omega) | omega | assumption)) ?_
    refine jb_if_d (jd_gt (jy_sI (jA_i jA_0 (jv_li rfl)) fun _ => kJ9_abs (by first | (unfold ja_r; omega) | (unfold ja_rl; omega) | omega | assumption)) (jy_mI (jr_lr rfl) (by first | rfl | assumption) (jA_i (jA_i jA_0 (jv_li rfl)) (jv_li rfl)) fun _ => kX2_reachOf hG x3 x4 (by first | (unfold ja_r; omega) | (unfold ja_rl; omega) | omega | assumption) (by first | (unfold ja_r; omega) | (unfold ja_rl; omega) | omega | assumption) (by first | (unfold ja_r; omega) | (unfold ja_rl; omega) | omega | assumption) (by first | (unfold ja_r; omega) | (unfold ja_rl; omega) | omega | assumption))) (fun c1 => ?_) (fun c1 => ?_)
    · refine jt_sI (jv_or (jv_li rfl) (jv_shl jv_ci (jv_li rfl))) ?_
      exact jt_inc rfl (by first | (unfold ja_r; omega) | (unfold ja_rl; omega) | omega | assumption) ⟨_, _, _, rfl, (by simp only [tst]; first | (rw [if_pos (by unfold thb; simp; omega)]) | (rw [if_neg (by unfold thb; simp; omega)])), (by first | rfl | omega | (simp; done) | (simp; omega)), rfl⟩
    · exact jt_inc rfl (by first | (unfold ja_r; omega) | (unfold ja_rl; omega) | omega | assumption) ⟨_, _, _, rfl, (by simp only [tst]; first | (rw [if_pos (by unfold thb; simp; omega)]) | (rw [if_neg (by unfold thb; simp; omega)])), (by first | rfl | omega | (simp; done) | (simp; omega)), rfl⟩
  · rintro _ _ ⟨v_bits0, v_line0, o3_5, rfl, rfl, rfl, rfl⟩
    refine jt_rI (jv_li rfl) ?_
    exact q
def lnA (ax ay bx bY : Int) : Prop := (-99 ≤ ax ∧ ax ≤ 99) ∧ (-99 ≤ ay ∧ ay ≤ 99) ∧ (-99 ≤ bx ∧ bx ≤ 99) ∧ (-99 ≤ bY ∧ bY ≤ 99) ∧ ¬ (ax = bx ∧ ay = bY)
def mtF (X Y U V : Nat → Int) (sl : Int) (m : Nat) (w : Int) : Int := if w = 0 then pX (bs (cP X Y U V sl m) 6561) else if w = 1 then pY (bs (cP X Y U V sl m) 6561) else if w = 2 then (cP X Y U V sl m (bs (cP X Y U V sl m) 6561) : Nat) else tst (fun k => !thb X Y U V sl (pX (bs (cP X Y U V sl m) 6561)) (pY (bs (cP X Y U V sl m) 6561)) k) m
theorem p_b {p : Nat} (h : p < 6561) : (-40 ≤ pX p ∧ pX p ≤ 40) ∧ -40 ≤ pY p ∧ pY p ≤ 40 := by unfold pX pY; omega
set_option maxRecDepth 10000 in
theorem kX11_line {l : Launch} {d : Nat} {h : ja_H} {Q : ja_Q} {n m : Nat} {ax ay bx bY : Int} (hG : jG h.1) (hl : h.2.1 1 8 = (m : Int)) (hm : m ≤ 10) (q1 : lnA ax ay bx bY ∧ m < 10 → Q (some (.inl (m : Int))) (h.1, ja_up (ja_up (ja_up (ja_up (ja_up h.2.1 35 m ax) 36 m ay) 37 m (bx - ax)) 38 m (bY - ay)) 1 8 ((m : Int) + 1), h.2.2)) (q2 : ¬ (lnA ax ay bx bY ∧ m < 10) → Q (some (.inl (-1))) h) : ja_C l (d + 3) mX11_line (js_sh n) [.inr (.inr (some (0))), .inl (ax), .inl (ay), .inl (bx), .inl (bY)] h Q := by
  refine eX11_line _ _ _ _ _ fun r_ax r_ay r_bx r_by ho => ?_
  unfold bX11_line
  unfold ja_r at r_ax r_ay r_bx r_by
  refine jt_sI (jv_cb (jd_or (jd_ne (jv_li rfl) (jv_li rfl)) (fun _ => (jd_ne (jv_li rfl) (jv_li rfl))))) ?_
  refine jb_if_d (φ := ¬ (lnA ax ay bx bY ∧ m < 10)) (jd_eq (jd_or (jd_or (jd_or (jd_not (jd_b (jy_sI (jA_i (jA_i jA_0 (jv_li rfl)) (jv_li rfl)) fun _ => kX11_isPoint))) (fun _ => (jd_not (jd_b (jy_sI (jA_i (jA_i jA_0 (jv_li rfl)) (jv_li rfl)) fun _ => kX11_isPoint))))) (fun _ => (jd_not (jd_b (jv_li rfl))))) (fun _ => (jd_ge (jv_gF (jr_g (jr_lr rfl) (by first | rfl | assumption) (by first | rfl | assumption | exact jG_at hG rfl | exact jG_90 hG rfl)) (by first | rfl | assumption) (by first | assumption | rfl)) jv_ci))) (by unfold lnA; omega)) (fun c1 => ?_) (fun c1 => ?_)
  · refine jt_rI jv_ci ?_
    exact q2 c1
  · have c1 := Classical.not_not.mp c1
    have c2 := c1.2
    obtain ⟨⟨a1, a2, a3, a4, a5⟩, -⟩ := id c1
    refine jx_m (jr_g (jr_lr rfl) (by first | rfl | assumption) (by first | rfl | assumption | exact jG_at hG rfl | exact jG_90 hG rfl)) (by first | rfl | assumption) (jA_i (jA_i (jA_i (jA_i (jA_i jA_0 (jv_gF (jr_g (jr_lr rfl) (by first | rfl | assumption) (by first | rfl | assumption | exact jG_at hG rfl | exact jG_90 hG rfl)) (by first | rfl | assumption) (by first | assumption | rfl))) (jv_li rfl)) (jv_li rfl)) (jv_li rfl)) (jv_li rfl)) (kX2_put hG (by omega) a1 a2 a3 a4 ⟨rfl, ?_⟩)
    try dsimp only
    rw [show ((m : Nat) : Int).toNat = m by omega]
    refine jt_uG (w := (m : Int) + 1) (jr_g (jr_lr rfl) (by first | rfl | assumption) (by first | rfl | assumption | exact jG_at hG rfl | exact jG_90 hG rfl)) (by first | rfl | assumption) jv_ci (by dsimp only; (repeat (first | rw [ja_upE rfl (by omega)] | rw [ja_upO (by omega)])); rw [hl, ja_w_id (by unfold ja_r; omega)]) ?_
    try dsimp only
    refine jt_rI (x := (m : Int)) (jv_is (jv_w (jv_sub (jv_gF (jr_g (jr_lr rfl) rfl (jG_at hG rfl)) rfl (x := (m : Int) + 1) (by dsimp only; exact ja_upE rfl rfl)) jv_ci) (by unfold ja_r; omega)) (by omega)) ?_
    exact q1 c1
set_option maxRecDepth 10000 in
theorem kX11_meet {l : Launch} {d : Nat} {h : ja_H} {Q : ja_Q} {n m : Nat} {X Y U V : Nat → Int} {sl w : Int} (hG : jG h.1) (hl : h.2.1 1 8 = (m : Int)) (x1 : h.2.1 35 = X) (x2 : h.2.1 36 = Y) (x3 : h.2.1 37 = U) (x4 : h.2.1 38 = V) (hm : m ≤ 10) (bd : ∀ k, k < m → lnB (X k) (Y k) (U k) (V k)) (q1 : (0 ≤ sl ∧ sl ≤ 9) ∧ (0 ≤ w ∧ w ≤ 3) ∧ m ≠ 0 → ∀ f, jfr [34, 39] h.2.1 f → Q (some (.inl (mtF X Y U V sl m w))) (h.1, f, h.2.2)) (q2 : ¬ ((0 ≤ sl ∧ sl ≤ 9) ∧ (0 ≤ w ∧ w ≤ 3) ∧ m ≠ 0) → Q (some (.inl (-1000))) h) : ja_C l (d + 5) mX11_meet (js_sh n) [.inr (.inr (some (0))), .inl (sl), .inl (w)] h Q := by
  refine eX11_meet _ _ _ fun r_slack r_what ho => ?_
  unfold bX11_meet
  unfold ja_r at r_slack r_what
  refine jb_if_d (φ := ¬ ((0 ≤ sl ∧ sl ≤ 9) ∧ (0 ≤ w ∧ w ≤ 3) ∧ m ≠ 0)) (jd_eq (jd_or (jd_or (jd_not (jd_b (jy_sI (jA_i (jA_i (jA_i jA_0 (jv_li rfl)) jv_ci) jv_ci) fun _ => kX11_within))) (fun _ => (jd_not (jd_b (jy_sI (jA_i (jA_i (jA_i jA_0 (jv_li rfl)) jv_ci) jv_ci) fun _ => kX11_within))))) (fun _ => (jd_eqI (jv_gF (jr_g (jr_lr rfl) (by first | rfl | assumption) (by first | rfl | assumption | exact jG_at hG rfl | exact jG_90 hG rfl)) (by first | rfl | assumption) (by first | assumption | rfl)) jv_ci))) (by omega)) (fun c1 => ?_) (fun c1 => ?_)
  · refine jt_rI jv_ci ?_
    exact q2 c1
  · have c1 := Classical.not_not.mp c1
    refine jx_m (jr_g (jr_lr rfl) (by first | rfl | assumption) (by first | rfl | assumption | exact jG_at hG rfl | exact jG_90 hG rfl)) (by first | rfl | assumption) (jA_i (jA_i jA_0 (jv_gF (jr_g (jr_lr rfl) (by first | rfl | assumption) (by first | rfl | assumption | exact jG_at hG rfl | exact jG_90 hG rfl)) (by first | rfl | assumption) (by first | assumption | rfl))) (jv_li rfl)) (kX2_findMeeting hG x1 x2 x3 x4 hm bd c1.1 fun f fr fm => ⟨rfl, ?_⟩)
    have q := q1 c1 f fr
    unfold mtF at q
    have bl := bs_lt (cP X Y U V sl m) 6561 (by decide)
    unfold mt at fm
    generalize hb : bs (cP X Y U V sl m) 6561 = b at q bl fm
    have pb := p_b bl
    have f7 : f 34 7 = ((cP X Y U V sl m b : Nat) : Int) := fm.1
    have f5 : f 34 5 = pX b := (fm.2 (by decide)).1
    have f6 : f 34 6 = pY b := (fm.2 (by decide)).2
    have f8 : f 1 8 = (m : Int) := by rw [fr 1 (by decide)]; exact hl
    refine jb_if_d (jd_eqI (jv_li rfl) jv_ci) (fun c2 => ?_) (fun c2 => ?_)
    · rw [if_pos c2] at q
      refine jt_rI (jv_gF (jr_g (jr_lr rfl) (by first | rfl | assumption) (by first | rfl | assumption | exact jG_at hG rfl | exact jG_90 hG rfl)) (by first | rfl | assumption) (by first | assumption | rfl)) ?_
      exact q
    · rw [if_neg c2] at q
      refine jb_if_d (jd_eqI (jv_li rfl) jv_ci) (fun c3 => ?_) (fun c3 => ?_)
      · rw [if_pos c3] at q
        refine jt_rI (jv_gF (jr_g (jr_lr rfl) (by first | rfl | assumption) (by first | rfl | assumption | exact jG_at hG rfl | exact jG_90 hG rfl)) (by first | rfl | assumption) (by first | assumption | rfl)) ?_
        exact q
      · rw [if_neg c3] at q
        refine jt_rI (jv_cv (jd_eqI (jv_li rfl) jv_ci) (fun _ => (jv_gF (jr_g (jr_lr rfl) rfl (jG_at hG rfl)) rfl f7)) (fun _ => (jy_mI (jr_g (jr_lr rfl) rfl (jG_at hG rfl)) rfl (jA_i (jA_i jA_0 (jv_gF (jr_g (jr_lr rfl) rfl (jG_at hG rfl)) rfl f8)) (jv_li rfl)) fun _ => kX2_missing (h := (h.1, f, h.2.2)) hG (by show f 35 = X; rw [fr 35 (by decide), x1]) (by show f 36 = Y; rw [fr 36 (by decide), x2]) (by show f 37 = U; rw [fr 37 (by decide), x3]) (by show f 38 = V; rw [fr 38 (by decide), x4]) hm bd c1.1 f5 f6 pb.1 pb.2))) ?_
        exact q
