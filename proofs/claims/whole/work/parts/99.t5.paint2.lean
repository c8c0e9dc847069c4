theorem jt_wX {L : ja_L} {h : ja_H} {i e : ja_EI} {r : ja_ER} {N B C : ja_P} {R : ja_Q} {sh : ja_S} {k n : Nat} {z : Int} (p : jr r L h (some k)) (hk : sh[k]? = some (1, n)) (q : jv i L h z) (h0 : 0 ≤ z) (h1 : z < (n : Nat)) (s : e (fun v L' h' => N L' (h'.1, ja_up h'.2.1 k z.toNat v, h'.2.2)) L h) (mono : ∀ (K K' : Int → ja_P), (∀ v L h, K v L h → K' v L h) → e K L h → e K' L h) : jb_wI sh r i e N B C R L h := p _ (q _ (mono _ _ (fun v L' h' w => ⟨k, n, rfl, hk, h0, h1, w⟩) s))
theorem jt_wY {L : ja_L} {h : ja_H} {i e : ja_EI} {r : ja_ER} {N B C : ja_P} {R : ja_Q} {sh : ja_S} {k : Nat} {z : Int} (p : jr r L h (some k)) (q : jv i L h z) (s : e (fun v L' h' => ∃ k0 n0, some k = some k0 ∧ sh[k0]? = some (1, n0) ∧ 0 ≤ z ∧ z < (n0 : Nat) ∧ N L' (h'.1, ja_up h'.2.1 k0 z.toNat v, h'.2.2)) L h) : jb_wI sh r i e N B C R L h := p _ (q _ s)
theorem jm_w {w g : Int} {h : ja_H} {f e : Nat → Nat → Int} (hm : jm w g h) (hf : f 90 = h.2.1 90) : jm w g (h.1, f, e) := by
  obtain ⟨a, b, c, d⟩ := hm
  exact ⟨a, by show f 90 0 = w; rw [hf]; exact b, by show f 90 1 = g; rw [hf]; exact c, d⟩
theorem jmx_w {w g p : Int} {h : ja_H} {f e : Nat → Nat → Int} (hf : f 91 = h.2.1 91) : jmx (h.1, f, e) w g p = jmx h w g p := by
  funext x y
  unfold jmx jm_lt
  dsimp only
  rw [hf]
theorem kX12_lightM {l : Launch} {d n : Nat} {p x y w g : Int} {h : ja_H} {Q : ja_Q} (hm : jm w g h) (hp : 0 ≤ p ∧ p ≤ 4) (hx : 0 ≤ x ∧ x < w) (hy : 0 ≤ y ∧ y < g) (q : Q (some (.inl (jmx h w g p x y))) h) : ja_C l (d + 2) mX12_lightAt (js_sh n) [.inr (.inr (some 90)), .inl p, .inl x, .inl y] h Q := by
  have r := hm.2.2.2
  refine kX12_lightAt hm hp (by omega) (by omega) ?_
  unfold jmx at q
  rw [if_pos ⟨hx, hy⟩] at q
  exact q
/-- of the reference's numbers only those of picture p's light change -/
def pcF (p : Int) (I f : Nat → Nat → Int) : Prop := ∀ i : Nat, ¬ (10 + 144 * p ≤ (i : Int) ∧ (i : Int) < 154 + 144 * p) → f 91 i = I 91 i
theorem pcF_rf {p : Int} {I f : Nat → Nat → Int} (h : f 91 = I 91) : pcF p I f := fun i _ => by rw [h]
theorem pcF_tr {p : Int} {I f g : Nat → Nat → Int} (a : pcF p I f) (b : pcF p f g) : pcF p I g := fun i hi => (b i hi).trans (a i hi)
theorem pcF_up {p x y v w g : Int} {I f : Nat → Nat → Int} (a : pcF p I f) (hp : 0 ≤ p) (hw : w ≤ 12) (hg : g ≤ 12) (hx : 0 ≤ x ∧ x < w) (hy : 0 ≤ y ∧ y < g) : pcF p I (ja_up f 91 (10 + 144 * p + 12 * y + x).toNat v) := fun i hi => by rw [ja_upO (by omega)]; exact a i hi
theorem jmx_0 {h : ja_H} {w g p x y : Int} (hx : ¬ ((0 ≤ x ∧ x < w) ∧ 0 ≤ y ∧ y < g)) : jmx h w g p x y = 0 := by unfold jmx; exact if_neg hx
set_option maxRecDepth 10000 in
theorem kX12_paint {l : Launch} {d : Nat} {h : ja_H} {Q : ja_Q} {n tx a : Nat} {w g p : Int} (hG : jG h.1) (hm : jm w g h) (hp : 0 ≤ p ∧ p ≤ 4) (htx : tx < 6) (ha : a < 16) (hl : l99 (jmx h w g p)) {f t : Nat} {x0 y0 wd ht rd : Int} {C : Nat → Int} (N0 : h.2.1 93 (1000 * tx + 1 + 12 * a + 1) = x0) (N1 : h.2.1 93 (1000 * tx + 1 + 12 * a + 2) = y0) (N2 : h.2.1 93 (1000 * tx + 1 + 12 * a + 3) = wd) (N3 : h.2.1 93 (1000 * tx + 1 + 12 * a + 4) = ht) (N4 : h.2.1 93 (1000 * tx + 1 + 12 * a + 8) = (f : Int)) (N5 : h.2.1 93 (1000 * tx + 1 + 12 * a + 9) = (t : Int)) (hcd : ∀ i, f ≤ i → i < t → h.2.1 93 (1000 * tx + 200 + 2 * i) = eo (C i) ∧ h.2.1 93 (1000 * tx + 200 + 2 * i + 1) = ev (C i)) (hr : (0 ≤ x0 ∧ x0 ≤ 99) ∧ (0 ≤ y0 ∧ y0 ≤ 99) ∧ (1 ≤ wd ∧ wd ≤ 99) ∧ (1 ≤ ht ∧ ht ≤ 99)) (hw : wfC C f t) (hrd : 0 ≤ rd ∧ rd ≤ 9) (h5 : h.2.1 100 5 = rd)
    (q : ∀ u v, jfr [91, 100] h.2.1 u → pcF p h.2.1 u → u 100 5 = rd → jfr [101] h.2.2 v → jmx (h.1, u, v) w g p = pnA (ptF C f t rd) (jmx h w g p) x0 y0 (min (x0 + wd) w - x0).toNat (min (y0 + ht) g - y0).toNat → Q none (h.1, u, v)) : ja_C l (d + 4) mX12_paint (js_sh n) [.inr (.inr (some (90))), .inl ((tx : Int)), .inl (((1000 * tx + 1 + 12 * a : Nat) : Int)), .inl (p)] h Q := by
  obtain ⟨hw4, hw12, hg4, hg12⟩ := hm.2.2.2
  obtain ⟨lt, hlt⟩ : ∃ lt, jmx h w g p = lt := ⟨_, rfl⟩
  rw [hlt] at hl q
  obtain ⟨nx, hnx⟩ : ∃ nx, (min (x0 + wd) w - x0).toNat = nx := ⟨_, rfl⟩
  obtain ⟨ny, hny⟩ : ∃ ny, (min (y0 + ht) g - y0).toNat = ny := ⟨_, rfl⟩
  rw [hnx, hny] at q
  have t1 : h.2.1 93 (((1000 * tx + 1 + 12 * a : Nat) : Int) + 1).toNat = x0 := by rw [show (((1000 * tx + 1 + 12 * a : Nat) : Int) + 1).toNat = 1000 * tx + 1 + 12 * a + 1 by omega]; exact N0
  have t2 : h.2.1 93 (((1000 * tx + 1 + 12 * a : Nat) : Int) + 2).toNat = y0 := by rw [show (((1000 * tx + 1 + 12 * a : Nat) : Int) + 2).toNat = 1000 * tx + 1 + 12 * a + 2 by omega]; exact N1
  have t3 : h.2.1 93 (((1000 * tx + 1 + 12 * a : Nat) : Int) + 3).toNat = wd := by rw [show (((1000 * tx + 1 + 12 * a : Nat) : Int) + 3).toNat = 1000 * tx + 1 + 12 * a + 3 by omega]; exact N2
  have t4 : h.2.1 93 (((1000 * tx + 1 + 12 * a : Nat) : Int) + 4).toNat = ht := by rw [show (((1000 * tx + 1 + 12 * a : Nat) : Int) + 4).toNat = 1000 * tx + 1 + 12 * a + 4 by omega]; exact N3
  refine eX12_paint _ _ _ _ fun r_text r_act r_p ho => ?_
  unfold bX12_paint
  unfold ja_r at r_text r_act r_p
  refine jt_sI (x := y0) (jv_is (jv_fI (jr_g (jr_lr rfl) rfl (by exact jG_90 (j := 4) (r := 93) hG rfl)) (jv_w (jv_add (jv_li rfl) jv_ci) (by unfold ja_r; omega)) rfl (by omega) (by omega) t2) (by rfl)) ?_
  refine jb_forc (ht.toNat) (fun (j : Nat) L' h' => ∃ (v_y : Int) (o2_5 : Option ja_W) (u v : Nat → Nat → Int), L' = [some (.inr (.inr (some (90)))), some (.inl ((tx : Int))), some (.inl (((1000 * tx + 1 + 12 * a : Nat) : Int))), some (.inl (p)), some (.inl (v_y)), o2_5] ∧ v_y = y0 + (j : Int) ∧ (h.1, u, v) = h' ∧ (jfr [91, 100] h.2.1 u) ∧ (pcF p h.2.1 u) ∧ (u 100 5 = rd) ∧ (jfr [101] h.2.2 v) ∧ (jmx (h.1, u, v) w g p = pnA (ptF C f t rd) lt x0 y0 nx (min j ny))) ⟨_, _, _, _, rfl, (by first | rfl | omega | (simp; done) | (simp; omega)), rfl, (by exact jfr_rf _ _), (by exact pcF_rf rfl), (by exact h5), (by exact jfr_rf _ _), (by rw [show min 0 ny = 0 by omega]; exact hlt)⟩ ?_ ?_ ?_
  · rintro j h_j _ _ ⟨v_y0, o2_5, u, v, rfl, rfl, rfl, fr, pf, u5, vr, ul⟩
    have T2 := (congrFun (fr 93 (by simp)) _).trans t2
    have T4 := (congrFun (fr 93 (by simp)) _).trans t4
    exact jd_eq (jd_lt (jv_li rfl) (jv_w (jv_add (jv_fI (jr_g (jr_lr rfl) rfl (by exact jG_90 (j := 4) (r := 93) hG rfl)) (jv_w (jv_add (jv_li rfl) jv_ci) (by unfold ja_r; omega)) rfl (by omega) (by omega) T2) (jv_fI (jr_g (jr_lr rfl) rfl (by exact jG_90 (j := 4) (r := 93) hG rfl)) (jv_w (jv_add (jv_li rfl) jv_ci) (by unfold ja_r; omega)) rfl (by omega) (by omega) T4)) (by unfold ja_r; omega))) (by omega)
  · rintro j h_j _ _ ⟨v_y0, o2_5, u, v, rfl, rfl, rfl, fr, pf, u5, vr, ul⟩
    have T1 := (congrFun (fr 93 (by simp)) _).trans t1
    refine jt_sI (x := x0) (jv_is (jv_fI (jr_g (jr_lr rfl) rfl (by exact jG_90 (j := 4) (r := 93) hG rfl)) (jv_w (jv_add (jv_li rfl) jv_ci) (by unfold ja_r; omega)) rfl (by omega) (by omega) T1) (by rfl)) ?_
    refine jb_forc (wd.toNat) (fun (i : Nat) L' h' => ∃ (v_x : Int) (u2 v2 : Nat → Nat → Int), L' = [some (.inr (.inr (some (90)))), some (.inl ((tx : Int))), some (.inl (((1000 * tx + 1 + 12 * a : Nat) : Int))), some (.inl (p)), some (.inl (y0 + (j : Int))), some (.inl (v_x))] ∧ v_x = x0 + (i : Int) ∧ (h.1, u2, v2) = h' ∧ (jfr [91, 100] h.2.1 u2) ∧ (pcF p h.2.1 u2) ∧ (u2 100 5 = rd) ∧ (jfr [101] h.2.2 v2) ∧ (jmx (h.1, u2, v2) w g p = if j < ny then pnR (ptF C f t rd) (pnA (ptF C f t rd) lt x0 y0 nx j) (y0 + (j : Int)) x0 (min i nx) else pnA (ptF C f t rd) lt x0 y0 nx ny)) ⟨_, _, _, rfl, (by first | rfl | omega | (simp; done) | (simp; omega)), rfl, (by exact fr), (by exact pf), (by exact u5), (by exact vr), (by 
          rw [ul]
          by_cases z : j < ny
          · rw [if_pos z, show min j ny = j by omega, show min 0 nx = 0 by omega]
            rfl
          · rw [if_neg z, show min j ny = ny by omega])⟩ ?_ ?_ ?_
    · rintro i h_i _ _ ⟨v_x0, u2, v2, rfl, rfl, rfl, fr2, pf2, u25, vr2, ul2⟩
      have T1 := (congrFun (fr2 93 (by simp)) _).trans t1
      have T3 := (congrFun (fr2 93 (by simp)) _).trans t3
      exact jd_eq (jd_lt (jv_li rfl) (jv_w (jv_add (jv_fI (jr_g (jr_lr rfl) rfl (by exact jG_90 (j := 4) (r := 93) hG rfl)) (jv_w (jv_add (jv_li rfl) jv_ci) (by unfold ja_r; omega)) rfl (by omega) (by omega) T1) (jv_fI (jr_g (jr_lr rfl) rfl (by exact jG_90 (j := 4) (r := 93) hG rfl)) (jv_w (jv_add (jv_li rfl) jv_ci) (by unfold ja_r; omega)) rfl (by omega) (by omega) T3)) (by unfold ja_r; omega))) (by omega)
    · rintro i h_i _ _ ⟨v_x0, u2, v2, rfl, rfl, rfl, fr2, pf2, u25, vr2, ul2⟩
      have hm2 : jm w g (h.1, u2, v2) := jm_w hm (fr2 90 (by simp))
      refine jb_if_d (φ := ¬ (i < nx ∧ j < ny)) (jd_eq (jd_not (jd_b (jy_mI (jr_lr rfl) rfl (jA_i (jA_i jA_0 (jv_li rfl)) (jv_li rfl)) fun _ => kX12_isCell hm2))) (by omega)) (fun c1 => ?_) (fun c1 => ?_)
      · exact jt_inc rfl (by first | (unfold ja_r; omega) | (unfold ja_rl; omega) | omega | assumption) ⟨_, _, _, rfl, (by first | rfl | omega | (simp; done) | (simp; omega)), rfl, (by first | exact fr2 | exact zfr), (by first | exact pf2 | exact zpf), (by first | exact u25 | exact zu5), (by first | exact vr2 | exact zvr), (by 
              first
              | exact zul
              | (rw [ul2]
                 by_cases z : j < ny
                 · rw [if_pos z, if_pos z, show min (i + 1) nx = min i nx by omega]
                 · rw [if_neg z, if_neg z]))⟩
      · have c1 := Classical.not_not.mp c1
        rw [if_pos c1.2, show min i nx = i by omega] at ul2
        have lb := pnR_b (y := y0 + (j : Int)) (x0 := x0) (pnA_b (x0 := x0) (y0 := y0) (nx := nx) hl (ptF_b (C := C) (f := f) (t := t) (rd := rd)) j) (ptF_b (C := C) (f := f) (t := t) (rd := rd)) i
        rw [← ul2] at lb
        refine jt_wI (jr_g (jr_lr rfl) rfl (by exact jG_90 (j := 36) (r := 100) hG rfl)) rfl jv_ci (jy_mI (jr_lr rfl) rfl (jA_i (jA_i (jA_i jA_0 (jv_li rfl)) (jv_li rfl)) (jv_li rfl)) fun _ => kX12_lightM hm2 hp (by omega) (by omega)) (by decide) (by decide) ?_
        try dsimp only
        refine jt_wI (jr_g (jr_lr rfl) rfl (by exact jG_90 (j := 36) (r := 100) hG rfl)) rfl jv_ci (jv_li rfl) (by decide) (by decide) ?_
        try dsimp only
        refine jt_wI (jr_g (jr_lr rfl) rfl (by exact jG_90 (j := 36) (r := 100) hG rfl)) rfl jv_ci (jv_li rfl) (by decide) (by decide) ?_
        try dsimp only
        obtain ⟨L, hL⟩ : ∃ L, jmx (h.1, u2, v2) w g p = L := ⟨_, rfl⟩
        rw [hL] at ul2 lb
        obtain ⟨f3, hf3⟩ : ∃ f3, ja_up (ja_up (ja_up u2 100 (0 : Int).toNat (jmx (h.1, u2, v2) w g p (x0 + (i : Int)) (y0 + (j : Int)))) 100 (1 : Int).toNat (x0 + (i : Int))) 100 (2 : Int).toNat (y0 + (j : Int)) = f3 := ⟨_, rfl⟩
        have o3 : ∀ c j, (c ≠ 100 ∨ (j ≠ 0 ∧ j ≠ 1 ∧ j ≠ 2)) → f3 c j = u2 c j := fun c j z => by
          rw [← hf3, ja_upO (by show c ≠ 100 ∨ j ≠ 2; omega), ja_upO (by show c ≠ 100 ∨ j ≠ 1; omega), ja_upO (by show c ≠ 100 ∨ j ≠ 0; omega)]
        have y0' : f3 100 0 = L (x0 + (i : Int)) (y0 + (j : Int)) := by rw [← hf3, ja_upO (by show 100 ≠ 100 ∨ 0 ≠ 2; omega), ja_upO (by show 100 ≠ 100 ∨ 0 ≠ 1; omega), ← hL]; exact ja_upE rfl rfl
        have y1 : f3 100 1 = x0 + (i : Int) := by rw [← hf3, ja_upO (by show 100 ≠ 100 ∨ 1 ≠ 2; omega)]; exact ja_upE rfl rfl
        have y2 : f3 100 2 = y0 + (j : Int) := by rw [← hf3]; exact ja_upE rfl rfl
        have hm3 : jm w g (h.1, f3, v2) := jm_w (h := (h.1, u2, v2)) hm2 (by funext c; exact o3 _ _ (by omega))
        have hx3 : jmx (h.1, f3, v2) w g p = L := by rw [← hL]; exact jmx_w (h := (h.1, u2, v2)) (by funext c; exact o3 _ _ (by omega))
        rw [hf3]
        refine jt_wI (jr_g (jr_lr rfl) rfl (by exact jG_90 (j := 36) (r := 100) hG rfl)) rfl jv_ci (jv_is (x' := L (x0 + (i : Int) - 1) (y0 + (j : Int))) (jv_cv (jd_gt (jv_li rfl) jv_ci) (fun _ => (jy_mI (jr_lr rfl) rfl (jA_i (jA_i (jA_i jA_0 (jv_li rfl)) (jv_w (jv_sub (jv_li rfl) jv_ci) (by unfold ja_r; omega))) (jv_li rfl)) fun _ => kX12_lightM hm3 hp (by omega) (by omega))) (fun _ => jv_ci)) (by rw [hx3]; split; rfl; rw [← hx3, jmx_0 (by omega)])) (by decide) (by decide) ?_
        try dsimp only
        obtain ⟨f4, hf4⟩ : ∃ f4, ja_up f3 100 (3 : Int).toNat (L (x0 + (i : Int) - 1) (y0 + (j : Int))) = f4 := ⟨_, rfl⟩
        have o4 : ∀ c j, (c ≠ 100 ∨ j ≠ 3) → f4 c j = f3 c j := fun c j z => by rw [← hf4]; exact ja_upO z
        have y3 : f4 100 3 = L (x0 + (i : Int) - 1) (y0 + (j : Int)) := by rw [← hf4]; exact ja_upE rfl rfl
        have hm4 : jm w g (h.1, f4, v2) := jm_w (h := (h.1, f3, v2)) hm3 (by funext c; exact o4 _ _ (by omega))
        have hx4 : jmx (h.1, f4, v2) w g p = L := by rw [← hx3]; exact jmx_w (h := (h.1, f3, v2)) (by funext c; exact o4 _ _ (by omega))
        rw [hf4]
        refine jt_wI (jr_g (jr_lr rfl) rfl (by exact jG_90 (j := 36) (r := 100) hG rfl)) rfl jv_ci (jv_is (x' := L (x0 + (i : Int)) (y0 + (j : Int) - 1)) (jv_cv (jd_gt (jv_li rfl) jv_ci) (fun _ => (jy_mI (jr_lr rfl) rfl (jA_i (jA_i (jA_i jA_0 (jv_li rfl)) (jv_li rfl)) (jv_w (jv_sub (jv_li rfl) jv_ci) (by unfold ja_r; omega))) fun _ => kX12_lightM hm4 hp (by omega) (by omega))) (fun _ => jv_ci)) (by rw [hx4]; split; rfl; rw [← hx4, jmx_0 (by omega)])) (by decide) (by decide) ?_
        try dsimp only
        obtain ⟨f5, hf5⟩ : ∃ f5, ja_up f4 100 (4 : Int).toNat (L (x0 + (i : Int)) (y0 + (j : Int) - 1)) = f5 := ⟨_, rfl⟩
        have o5 : ∀ c j, (c ≠ 100 ∨ j ≠ 4) → f5 c j = f4 c j := fun c j z => by rw [← hf5]; exact ja_upO z
        have y4 : f5 100 4 = L (x0 + (i : Int)) (y0 + (j : Int) - 1) := by rw [← hf5]; exact ja_upE rfl rfl
        have o6 : ∀ c j, (c ≠ 100 ∨ 4 < j) → f5 c j = u2 c j := fun c j z => by rw [o5 _ _ (by omega), o4 _ _ (by omega), o3 _ _ (by omega)]
        have hx5 : jmx (h.1, f5, v2) w g p = L := by rw [← hx4]; exact jmx_w (h := (h.1, f4, v2)) (by funext c; exact o5 _ _ (by omega))
        have fnm : ∀ c, c < 6 → f5 100 c = nmF L (x0 + (i : Int)) (y0 + (j : Int)) rd c := by
          intro c hc
          match c, hc with
          | 0, _ => rw [o5 _ _ (by omega), o4 _ _ (by omega)]; exact y0'
          | 1, _ => rw [o5 _ _ (by omega), o4 _ _ (by omega)]; exact y1
          | 2, _ => rw [o5 _ _ (by omega), o4 _ _ (by omega)]; exact y2
          | 3, _ => rw [o5 _ _ (by omega)]; exact y3
          | 4, _ => exact y4
          | 5, _ => rw [o6 _ _ (by omega)]; exact u25
        have e93 : ∀ c, f5 93 c = h.2.1 93 c := fun c => (o6 _ _ (by omega)).trans (congrFun (fr2 93 (by simp)) c)
        have fr5 : jfr [91, 100] h.2.1 f5 := fun c hc => by
          have hc2 := hc
          simp only [List.mem_cons, List.not_mem_nil, or_false, not_or] at hc
          rw [← fr2 c hc2]
          funext b
          exact o6 _ _ (by omega)
        have pf5 : pcF p h.2.1 f5 := pcF_tr pf2 (pcF_rf (by funext c; exact o6 _ _ (by omega)))
        rw [hf5]
        refine jt_wY (jr_g (jr_lr rfl) rfl (by exact jG_90 (j := 2) (r := 91) hG rfl)) (jy_sI (jA_i (jA_i (jA_i jA_0 (jv_li rfl)) (jv_li rfl)) (jv_li rfl)) fun _ => kX12_spot hp (by omega) (by omega)) ?_
        refine jx_mI (jr_lr rfl) rfl (jA_i (jA_i jA_0 (jv_li rfl)) (jv_li rfl)) (kX12_sumOf (h := (h.1, f5, v2)) (nm := nmF L (x0 + (i : Int)) (y0 + (j : Int)) rd) hG htx ha hw ((e93 _).trans N4) ((e93 _).trans N5) (fun c h1 h2 => ⟨(e93 _).trans (hcd c h1 h2).1, (e93 _).trans (hcd c h1 h2).2⟩) fnm (nmF_b lb (by omega) (by omega) hrd) fun v5 vr5 => ⟨_, rfl, fun _ => ⟨91, 920, rfl, rfl, by omega, by omega, ?_⟩⟩)
        have zfr := jfr_up (j := (10 + 144 * p + 12 * (y0 + (j : Int)) + (x0 + (i : Int))).toNat) (v := ptF C f t rd L (x0 + (i : Int)) (y0 + (j : Int))) fr5 (show 91 ∈ [91, 100] by simp)
        have zpf := pcF_up (v := ptF C f t rd L (x0 + (i : Int)) (y0 + (j : Int))) (w := w) (g := g) (x := x0 + (i : Int)) (y := y0 + (j : Int)) pf5 hp.1 (by omega) (by omega) (by omega) (by omega)
        have zu5 : ja_up f5 91 (10 + 144 * p + 12 * (y0 + (j : Int)) + (x0 + (i : Int))).toNat (ptF C f t rd L (x0 + (i : Int)) (y0 + (j : Int))) 100 5 = rd := by rw [ja_upO (by omega), o6 _ _ (by omega)]; exact u25
        have zvr := jfr_tr vr2 vr5
        have hx6 : jmx (h.1, f5, v5) w g p = L := by rw [← hx5]; exact jmx_w (h := (h.1, f5, v2)) rfl
        have zul : jmx (h.1, ja_up f5 91 (10 + 144 * p + 12 * (y0 + (j : Int)) + (x0 + (i : Int))).toNat (ptF C f t rd L (x0 + (i : Int)) (y0 + (j : Int))), v5) w g p = if j < ny then pnR (ptF C f t rd) (pnA (ptF C f t rd) lt x0 y0 nx j) (y0 + (j : Int)) x0 (min (i + 1) nx) else pnA (ptF C f t rd) lt x0 y0 nx ny := by
          rw [jmx_put hp (by omega) (by omega) (by omega) (by omega), hx6, if_pos c1.2, show min (i + 1) nx = i + 1 by omega]
          simp only [pnR]
          rw [← ul2]
        exact jt_inc rfl (by first | (unfold ja_r; omega) | (unfold ja_rl; omega) | omega | assumption) ⟨_, _, _, rfl, (by first | rfl | omega | (simp; done) | (simp; omega)), rfl, (by first | exact fr2 | exact zfr), (by first | exact pf2 | exact zpf), (by first | exact u25 | exact zu5), (by first | exact vr2 | exact zvr), (by 
              first
              | exact zul
              | (rw [ul2]
                 by_cases z : j < ny
                 · rw [if_pos z, if_pos z, show min (i + 1) nx = min i nx by omega]
                 · rw [if_neg z, if_neg z]))⟩
    · rintro _ _ ⟨v_x0, u2, v2, rfl, rfl, rfl, fr2, pf2, u25, vr2, ul2⟩
      exact jt_inc rfl (by first | (unfold ja_r; omega) | (unfold ja_rl; omega) | omega | assumption) ⟨_, _, _, _, rfl, (by first | rfl | omega | (simp; done) | (simp; omega)), rfl, (by exact fr2), (by exact pf2), (by exact u25), (by exact vr2), (by 
            rw [ul2]
            by_cases z : j < ny
            · rw [if_pos z, show min (j + 1) ny = j + 1 by omega, show min wd.toNat nx = nx by omega]
              rfl
            · rw [if_neg z, show min (j + 1) ny = ny by omega])⟩
  · rintro _ _ ⟨v_y0, o2_5, u, v, rfl, rfl, rfl, fr, pf, u5, vr, ul⟩
    rw [show min ht.toNat ny = ny by omega] at ul
    exact q u v fr pf u5 vr ul
