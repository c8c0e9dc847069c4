theorem dpt_b {C : Nat → Int} {f t : Nat} (h : wfC C f t) : ∀ i, f + i ≤ t → dpt C f i ≤ 64
  | 0, _ => by simp [dpt]
  | i + 1, hi => by
    have ih := dpt_b h i (by omega)
    obtain ⟨w1, w2, w3, w4⟩ := h.2.2.1 i (by omega)
    simp only [dpt]
    by_cases c1 : C (f + i) < 1006
    · rw [if_pos c1]; have := w2 c1; omega
    · rw [if_neg c1]; split <;> omega
def nmF (lt : Int → Int → Int) (x y rd : Int) : Nat → Int
  | 0 => lt x y
  | 1 => x
  | 2 => y
  | 3 => lt (x - 1) y
  | 4 => lt x (y - 1)
  | _ => rd
theorem jp_w {w g : Int} {n k : Nat} {h : ja_H} {f e : Nat → Nat → Int} (hp : jp w g n k h) (hf : f k = h.2.1 k) : jp w g n k (h.1, f, e) := by
  obtain ⟨a, b, c, d, i, j⟩ := hp
  exact ⟨a, b, c, by show f k 0 = w; rw [hf]; exact d, by show f k 1 = g; rw [hf]; exact i, j⟩
theorem jpx_w {w g : Int} {k : Nat} {h : ja_H} {f e : Nat → Nat → Int} (hf : f (k + 1) = h.2.1 (k + 1)) : jpx (h.1, f, e) w g k = jpx h w g k := by
  funext x y
  unfold jpx jp_lt
  try dsimp only
  rw [hf]
theorem nmF_b {lt : Int → Int → Int} {x y rd : Int} (hl : ∀ x y, 0 ≤ lt x y ∧ lt x y ≤ 99) (hx : 0 ≤ x ∧ x < 12) (hy : 0 ≤ y ∧ y < 12) (hr : 0 ≤ rd ∧ rd ≤ 9) : ∀ j, j < 6 → -1000000 ≤ nmF lt x y rd j ∧ nmF lt x y rd j ≤ 1000000 := by
  intro j hj
  have h1 := hl x y
  have h2 := hl (x - 1) y
  have h3 := hl x (y - 1)
  match j, hj with
  | 0, _ => simp only [nmF]; omega
  | 1, _ => simp only [nmF]; omega
  | 2, _ => simp only [nmF]; omega
  | 3, _ => simp only [nmF]; omega
  | 4, _ => simp only [nmF]; omega
  | 5, _ => simp only [nmF]; omega
set_option maxRecDepth 10000 in
theorem kX1_sumAt {l : Launch} {d : Nat} {h : ja_H} {Q : ja_Q} {n P k f t : Nat} {x y w g rd : Int} {C : Nat → Int} (hG : jG h.1) (hg : jPg n P h.1) (h3 : h.1 50 3 = some P) (h4 : h.1 50 4 = some k) (hp : jp w g n k h) (hk : k + 1 < 48) (hC : h.2.1 (P + 3) = C) (hP : 66 ≤ P) (h5 : h.2.1 52 5 = rd) (hw : wfC C f t) (hl : ∀ x y, 0 ≤ jpx h w g k x y ∧ jpx h w g k x y ≤ 99) (hx : 0 ≤ x ∧ x < 12) (hy : 0 ≤ y ∧ y < 12) (hr : 0 ≤ rd ∧ rd ≤ 9)
    (q : ∀ u, jfr [51, 52] h.2.1 u → u 52 5 = rd → Q (some (.inl ((svN (nmF (jpx h w g k) x y rd) C f (t - f)).headD 0))) (h.1, u, h.2.2)) : ja_C l (d + 3) mX1_sumAt (js_sh n) [.inr (.inr (some (50))), .inl (x), .inl (y), .inl ((f : Int)), .inl ((t : Int))] h Q := by
  have hb := nmF_b hl hx hy hr
  obtain ⟨nm, hnm⟩ : ∃ nm, nmF (jpx h w g k) x y rd = nm := ⟨_, rfl⟩
  have hft := hw.1
  have ht3 := hw.2.1
  have hend := hw.2.2.2
  refine eX1_sumAt _ _ _ _ _ fun r_x r_y r_from r_behind ho => ?_
  unfold bX1_sumAt
  unfold ja_r at r_x r_y r_from r_behind
  refine jt_wI (jr_g (jr_lr rfl) rfl (by exact jG_at (k := 50) (j := 2) (r := 52) hG rfl)) rfl jv_ci (jy_mI (jr_g (jr_lr rfl) rfl h4) hp.1 (jA_i (jA_i jA_0 (jv_li rfl)) (jv_li rfl)) fun _ => kX3_getX hp) (by decide) (by decide) ?_
  try dsimp only
  refine jt_wI (jr_g (jr_lr rfl) rfl (by exact jG_at (k := 50) (j := 2) (r := 52) hG rfl)) rfl jv_ci (jv_li rfl) (by decide) (by decide) ?_
  try dsimp only
  refine jt_wI (jr_g (jr_lr rfl) rfl (by exact jG_at (k := 50) (j := 2) (r := 52) hG rfl)) rfl jv_ci (jv_li rfl) (by decide) (by decide) ?_
  try dsimp only
  obtain ⟨f3, hf3⟩ : ∃ f3, ja_up (ja_up (ja_up h.2.1 52 (0 : Int).toNat (jpx h w g k x y)) 52 (1 : Int).toNat x) 52 (2 : Int).toNat y = f3 := ⟨_, rfl⟩
  have o3 : ∀ c j, (c ≠ 52 ∨ (j ≠ 0 ∧ j ≠ 1 ∧ j ≠ 2)) → f3 c j = h.2.1 c j := fun c j z => by
    rw [← hf3, ja_upO (by show c ≠ 52 ∨ j ≠ 2; omega), ja_upO (by show c ≠ 52 ∨ j ≠ 1; omega), ja_upO (by show c ≠ 52 ∨ j ≠ 0; omega)]
  have y0 : f3 52 0 = jpx h w g k x y := by rw [← hf3, ja_upO (by show 52 ≠ 52 ∨ 0 ≠ 2; omega), ja_upO (by show 52 ≠ 52 ∨ 0 ≠ 1; omega)]; exact ja_upE rfl rfl
  have y1 : f3 52 1 = x := by rw [← hf3, ja_upO (by show 52 ≠ 52 ∨ 1 ≠ 2; omega)]; exact ja_upE rfl rfl
  have y2 : f3 52 2 = y := by rw [← hf3]; exact ja_upE rfl rfl
  have hp3 : jp w g n k (h.1, f3, h.2.2) := jp_w hp (by funext j; exact o3 _ _ (by omega))
  have hx3 : jpx (h.1, f3, h.2.2) w g k = jpx h w g k := jpx_w (by funext j; exact o3 _ _ (by omega))
  rw [hf3]
  refine jt_wI (jr_g (jr_lr rfl) rfl (by exact jG_at (k := 50) (j := 2) (r := 52) hG rfl)) rfl jv_ci (jv_is (x' := jpx h w g k (x - 1) y) (jy_mI (jr_g (jr_lr rfl) rfl h4) hp.1 (jA_i (jA_i jA_0 (jv_w (jv_sub (jv_li rfl) jv_ci) (by unfold ja_r; omega))) (jv_li rfl)) fun _ => kX3_getX hp3) (by rw [hx3])) (by decide) (by decide) ?_
  try dsimp only
  obtain ⟨f4, hf4⟩ : ∃ f4, ja_up f3 52 (3 : Int).toNat (jpx h w g k (x - 1) y) = f4 := ⟨_, rfl⟩
  have o4 : ∀ c j, (c ≠ 52 ∨ j ≠ 3) → f4 c j = f3 c j := fun c j z => by rw [← hf4]; exact ja_upO z
  have y3 : f4 52 3 = jpx h w g k (x - 1) y := by rw [← hf4]; exact ja_upE rfl rfl
  have hp4 : jp w g n k (h.1, f4, h.2.2) := jp_w hp (by funext j; rw [o4 _ _ (by omega)]; exact o3 _ _ (by omega))
  have hx4 : jpx (h.1, f4, h.2.2) w g k = jpx h w g k := jpx_w (by funext j; rw [o4 _ _ (by omega)]; exact o3 _ _ (by omega))
  rw [hf4]
  refine jt_wI (jr_g (jr_lr rfl) rfl (by exact jG_at (k := 50) (j := 2) (r := 52) hG rfl)) rfl jv_ci (jv_is (x' := jpx h w g k x (y - 1)) (jy_mI (jr_g (jr_lr rfl) rfl h4) hp.1 (jA_i (jA_i jA_0 (jv_li rfl)) (jv_w (jv_sub (jv_li rfl) jv_ci) (by unfold ja_r; omega))) fun _ => kX3_getX hp4) (by rw [hx4])) (by decide) (by decide) ?_
  try dsimp only
  obtain ⟨f5, hf5⟩ : ∃ f5, ja_up f4 52 (4 : Int).toNat (jpx h w g k x (y - 1)) = f5 := ⟨_, rfl⟩
  have o5 : ∀ c j, (c ≠ 52 ∨ j ≠ 4) → f5 c j = f4 c j := fun c j z => by rw [← hf5]; exact ja_upO z
  have y4 : f5 52 4 = jpx h w g k x (y - 1) := by rw [← hf5]; exact ja_upE rfl rfl
  have o6 : ∀ c j, (c ≠ 52 ∨ 4 < j) → f5 c j = h.2.1 c j := fun c j z => by rw [o5 _ _ (by omega), o4 _ _ (by omega), o3 _ _ (by omega)]
  have fnm : ∀ j, j < 6 → f5 52 j = nm j := by
    intro j hj
    rw [← hnm]
    match j, hj with
    | 0, _ => rw [o5 _ _ (by omega), o4 _ _ (by omega)]; exact y0
    | 1, _ => rw [o5 _ _ (by omega), o4 _ _ (by omega)]; exact y1
    | 2, _ => rw [o5 _ _ (by omega), o4 _ _ (by omega)]; exact y2
    | 3, _ => rw [o5 _ _ (by omega)]; exact y3
    | 4, _ => exact y4
    | 5, _ => rw [o6 _ _ (by omega)]; exact h5
  have fr5 : jfr [51, 52] h.2.1 f5 := fun c hc => by
    simp only [List.mem_cons, List.not_mem_nil, or_false, not_or] at hc
    funext j
    exact o6 _ _ (by omega)
  rw [hnm] at hb q
  rw [hf5]
  refine jt_sI jv_ci ?_
  refine jt_sI (jv_li rfl) ?_
  refine jb_forc (t - f) (fun (m : Nat) L' h' => ∃ (v_stacked : Int) (v_i : Int) (o8_7 : Option ja_W) (u : Nat → Nat → Int), L' = [some (.inr (.inr (some (50)))), some (.inl (x)), some (.inl (y)), some (.inl ((f : Int))), some (.inl ((t : Int))), some (.inl (v_stacked)), some (.inl (v_i)), o8_7] ∧ v_stacked = ((dpt C f m : Nat) : Int) ∧ v_i = (f : Int) + (m : Int) ∧ (h.1, u, h.2.2) = h' ∧ (jfr [51] f5 u) ∧ (skR 51 u (svN nm C f m))) ⟨_, _, _, _, rfl, (by first | rfl | omega | (simp; done) | (simp; omega)), (by first | rfl | omega | (simp; done) | (simp; omega)), rfl, (by exact jfr_rf _ _), (by exact trivial)⟩ ?_ ?_ ?_
  · rintro m h_m _ _ ⟨v_stacked0, v_i0, o8_7, u, rfl, rfl, rfl, rfl, fr, sk⟩
    exact jd_eq (jd_lt (jv_li rfl) (jv_li rfl)) (by omega)
  · rintro m h_m _ _ ⟨v_stacked0, v_i0, o8_7, u, rfl, rfl, rfl, rfl, fr, sk⟩
    obtain ⟨w1, w2, w3, w4⟩ := hw.2.2.1 m (by omega)
    have ln := svN_l (nm := nm) hw m (by omega)
    have db := dpt_b hw m (by omega)
    have bd := svN_b hw hb m (by omega)
    have uC : u (P + 3) (f + m) = C (f + m) := by rw [fr (P + 3) (by simp; omega), o6 _ _ (by omega), hC]
    have unm : ∀ z : Int, 1000 ≤ z ∧ z < 1006 → u 52 (z - 1000).toNat = nm (z - 1000).toNat := fun z hz => by rw [fr 52 (by simp)]; exact fnm _ (by omega)
    refine jt_sI (x := C (f + m)) (jv_is (jy_mI (jr_g (jr_lr rfl) rfl h3) hg.1 (jA_i jA_0 (jv_is (x' := ((f + m : Nat) : Int)) (jv_li rfl) (by omega))) fun _ => kX4_codeAt (h := (h.1, u, h.2.2)) (a := f + m) hg (by omega)) (by exact uC)) ?_
    refine jb_if_d (jd_lt (jv_li rfl) jv_ci) (fun c1 => ?_) (fun c1 => ?_)
    · refine jb_if_d (jd_lt (jv_li rfl) jv_ci) (fun c2 => ?_) (fun c2 => absurd (w2 c1) (by omega))
      have vv : sv1 nm (C (f + m)) (svN nm C f m) = (if C (f + m) < 1000 then C (f + m) else nm (C (f + m) - 1000).toNat) :: svN nm C f m := by
        unfold sv1
        by_cases z : C (f + m) < 1000
        · rw [if_pos z, if_pos z]
        · rw [if_neg z, if_neg z, if_pos c1]
      refine jt_wI (jr_g (jr_lr rfl) rfl (by exact jG_at (k := 50) (j := 1) (r := 51) hG rfl)) rfl (jv_li rfl) (jv_is (x' := if C (f + m) < 1000 then C (f + m) else nm (C (f + m) - 1000).toNat) (jv_cv (jd_lt (jv_li rfl) jv_ci) (fun _ => jv_li rfl) (fun z => jv_fI (jr_g (jr_lr rfl) rfl (by exact jG_at (k := 50) (j := 2) (r := 52) hG rfl)) (jv_w (jv_sub (jv_li rfl) jv_ci) (by unfold ja_r; omega)) rfl (by omega) (by omega) (unm _ (by omega)))) rfl) (by omega) (by omega) ?_
      try dsimp only
      rw [show ((dpt C f m : Nat) : Int).toNat = dpt C f m by omega]
      generalize (if C (f + m) < 1000 then C (f + m) else nm (C (f + m) - 1000).toNat) = vx at vv ⊢
      obtain ⟨u2, hu2⟩ : ∃ u2, ja_up u 51 (dpt C f m) vx = u2 := ⟨_, rfl⟩
      have v1 : jfr [51] u u2 := by rw [← hu2]; exact jfr_up (jfr_rf _ _) (by simp)
      have v2 : skR 51 u2 (sv1 nm (C (f + m)) (svN nm C f m)) := by
        rw [vv, ← hu2]
        exact ⟨ja_upE rfl ln, skR_o (fun j hj => ja_upO (by omega)) sk⟩
      rw [hu2]
      refine jt_inc rfl (by unfold ja_r; omega) ?_
      exact jt_inc rfl (by unfold ja_r; omega) ⟨_, _, _, u2, rfl, by simp only [dpt]; rw [if_pos c1]; omega, by omega, rfl, jfr_tr fr v1, by simp only [svN]; exact v2⟩
    · refine jb_if_d (jd_eqI (jv_li rfl) jv_ci) (fun c2 => ?_) (fun c2 => ?_)
      · have hd := w3 c2
        refine jb_if_d (jd_ge (jv_li rfl) jv_ci) (fun c3 => ?_) (fun c3 => absurd hd (by omega))
        obtain ⟨a, r, hst⟩ : ∃ a r, svN nm C f m = a :: r := by
          cases e : svN nm C f m with
          | nil => rw [e] at ln; simp only [List.length_nil] at ln; omega
          | cons a r => exact ⟨a, r, rfl⟩
        rw [hst] at sk ln bd
        simp only [List.length_cons] at ln
        have ba := bd a (by simp)
        have ua : u 51 (((dpt C f m : Nat) : Int) - 1).toNat = a := by rw [show (((dpt C f m : Nat) : Int) - 1).toNat = r.length by omega]; exact sk.1
        have vv : sv1 nm (C (f + m)) (svN nm C f m) = (-a) :: r := by
          rw [hst]
          unfold sv1
          rw [if_neg (by omega), if_neg c1, if_pos c2]
        refine jt_wI (jr_g (jr_lr rfl) rfl (by exact jG_at (k := 50) (j := 1) (r := 51) hG rfl)) rfl (jv_w (jv_sub (jv_li rfl) jv_ci) (by unfold ja_r; omega)) (jv_w (jv_neg (jv_fI (jr_g (jr_lr rfl) rfl (by exact jG_at (k := 50) (j := 1) (r := 51) hG rfl)) (jv_w (jv_sub (jv_li rfl) jv_ci) (by unfold ja_r; omega)) rfl (by omega) (by omega) ua)) (by unfold ja_r; omega)) (by omega) (by omega) ?_
        try dsimp only
        rw [show (((dpt C f m : Nat) : Int) - 1).toNat = r.length by omega]
        obtain ⟨u2, hu2⟩ : ∃ u2, ja_up u 51 r.length (-a) = u2 := ⟨_, rfl⟩
        have v1 : jfr [51] u u2 := by rw [← hu2]; exact jfr_up (jfr_rf _ _) (by simp)
        have v2 : skR 51 u2 (sv1 nm (C (f + m)) (svN nm C f m)) := by
          rw [vv, ← hu2]
          exact ⟨ja_upE rfl rfl, skR_o (fun j hj => ja_upO (by omega)) sk.2⟩
        rw [hu2]
        exact jt_inc rfl (by unfold ja_r; omega) ⟨_, _, _, u2, rfl, by simp only [dpt]; rw [if_neg c1, if_pos c2], by omega, rfl, jfr_tr fr v1, by simp only [svN]; exact v2⟩
      · have hd := w4 (by omega) c2
        refine jb_if_d (jd_ge (jv_li rfl) jv_ci) (fun c3 => ?_) (fun c3 => absurd hd (by omega))
        obtain ⟨b, a, r, hst⟩ : ∃ b a r, svN nm C f m = b :: a :: r := by
          cases e : svN nm C f m with
          | nil => rw [e] at ln; simp only [List.length_nil] at ln; omega
          | cons b r =>
            cases r with
            | nil => rw [e] at ln; simp only [List.length_cons, List.length_nil] at ln; omega
            | cons a r => exact ⟨b, a, r, rfl⟩
        rw [hst] at sk ln bd
        simp only [List.length_cons] at ln
        have bb := bd b (by simp)
        have ba := bd a (by simp)
        have vv : sv1 nm (C (f + m)) (svN nm C f m) = rkn (C (f + m)) a b :: r := by
          rw [hst]
          unfold sv1
          rw [if_neg (by omega), if_neg c1, if_neg c2]
        refine jt_inc rfl (by unfold ja_r; omega) ?_
        have ub : u 51 (((dpt C f m : Nat) : Int) + (-1)).toNat = b := by rw [show (((dpt C f m : Nat) : Int) + (-1)).toNat = (a :: r).length by simp only [List.length_cons]; omega]; exact sk.1
        have ua : u 51 (((dpt C f m : Nat) : Int) + (-1) - 1).toNat = a := by rw [show (((dpt C f m : Nat) : Int) + (-1) - 1).toNat = r.length by omega]; exact sk.2.1
        refine jt_wI (jr_g (jr_lr rfl) rfl (by exact jG_at (k := 50) (j := 1) (r := 51) hG rfl)) rfl (jv_w (jv_sub (jv_li rfl) jv_ci) (by unfold ja_r; omega)) (jy_sI (jA_i (jA_i (jA_i jA_0 (jv_li rfl)) (jv_fI (jr_g (jr_lr rfl) rfl (by exact jG_at (k := 50) (j := 1) (r := 51) hG rfl)) (jv_w (jv_sub (jv_li rfl) jv_ci) (by unfold ja_r; omega)) rfl (by omega) (by omega) ua)) (jv_fI (jr_g (jr_lr rfl) rfl (by exact jG_at (k := 50) (j := 1) (r := 51) hG rfl)) (jv_li rfl) rfl (by omega) (by omega) ub)) fun _ => kX1_reckon ba bb) (by omega) (by omega) ?_
        try dsimp only
        rw [show (((dpt C f m : Nat) : Int) + (-1) - 1).toNat = r.length by omega]
        obtain ⟨u2, hu2⟩ : ∃ u2, ja_up u 51 r.length (rkn (C (f + m)) a b) = u2 := ⟨_, rfl⟩
        have v1 : jfr [51] u u2 := by rw [← hu2]; exact jfr_up (jfr_rf _ _) (by simp)
        have v2 : skR 51 u2 (sv1 nm (C (f + m)) (svN nm C f m)) := by
          rw [vv, ← hu2]
          exact ⟨ja_upE rfl rfl, skR_o (fun j hj => ja_upO (by omega)) sk.2.2⟩
        rw [hu2]
        exact jt_inc rfl (by unfold ja_r; omega) ⟨_, _, _, u2, rfl, by simp only [dpt]; rw [if_neg c1, if_neg c2]; omega, by omega, rfl, jfr_tr fr v1, by simp only [svN]; exact v2⟩
  · rintro _ _ ⟨v_stacked0, v_i0, o8_7, u, rfl, rfl, rfl, rfl, fr, sk⟩
    have ln := svN_l (nm := nm) hw (t - f) (by omega)
    rw [hend] at ln
    obtain ⟨a, hst⟩ : ∃ a, svN nm C f (t - f) = [a] := by
      cases e : svN nm C f (t - f) with
      | nil => rw [e] at ln; simp at ln
      | cons a r =>
        cases r with
        | nil => exact ⟨a, rfl⟩
        | cons b r => rw [e] at ln; simp at ln
    rw [hst] at sk q
    have u0 : u 51 (0 : Int).toNat = a := sk.1
    refine jt_rI (x := a) (jv_is (jv_fI (jr_g (jr_lr rfl) rfl (by exact jG_at (k := 50) (j := 1) (r := 51) hG rfl)) jv_ci rfl (by decide) (by decide) u0) (by rfl)) ?_
    exact q u (jfr_tr fr5 (jfr_sub fr (by simp))) (by rw [fr 52 (by simp), o6 _ _ (by omega)]; exact h5)
