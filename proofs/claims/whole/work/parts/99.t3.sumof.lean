theorem jv_negL {L : ja_L} {h : ja_H} {e : ja_EI} {x : Int} (p : jv e L h x) : jv (jb_negL e) L h (ja_wl (-x)) := fun _ w => p _ w
theorem jv_fL {L : ja_L} {h : ja_H} {r : ja_ER} {e : ja_EI} {x y : Int} {sh : ja_S} {k n : Nat} (p : jr r L h (some k)) (q : jv e L h x) (hk : sh[k]? = some (3, n)) (h0 : 0 ≤ x) (h1 : x < (n : Nat)) (e' : h.2.2 k x.toNat = y) : jv (jb_aL sh r e) L h y := jv_is (jv_aL p q hk h0 h1) e'
theorem eo_le {c : Int} : eo c ≤ 1 ↔ c < 1006 := by unfold eo; split <;> (try split) <;> (try split) <;> omega
theorem eo_0 {c : Int} : eo c = 0 ↔ c < 1000 := by unfold eo; split <;> (try split) <;> (try split) <;> omega
theorem eo_2 {c : Int} : eo c = 2 ↔ c = 1010 := by unfold eo; split <;> (try split) <;> (try split) <;> omega
def c99 (v : Int) : Int := max 0 (min 99 v)
set_option maxRecDepth 10000 in
theorem kX12_sumOf {l : Launch} {d : Nat} {h : ja_H} {Q : ja_Q} {n f t tx a : Nat} {C nm : Nat → Int} (hG : jG h.1) (htx : tx < 6) (ha : a < 16) (hw : wfC C f t) (h8 : h.2.1 93 (1000 * tx + 1 + 12 * a + 8) = (f : Int)) (h9 : h.2.1 93 (1000 * tx + 1 + 12 * a + 9) = (t : Int)) (hcd : ∀ i, f ≤ i → i < t → h.2.1 93 (1000 * tx + 200 + 2 * i) = eo (C i) ∧ h.2.1 93 (1000 * tx + 200 + 2 * i + 1) = ev (C i)) (hnm : ∀ j, j < 6 → h.2.1 100 j = nm j) (hb : ∀ j, j < 6 → -1000000 ≤ nm j ∧ nm j ≤ 1000000)
    (q : ∀ u, jfr [101] h.2.2 u → Q (some (.inl (c99 ((svN nm C f (t - f)).headD 0)))) (h.1, h.2.1, u)) : ja_C l (d + 3) mX12_sumOf (js_sh n) [.inr (.inr (some (90))), .inl ((tx : Int)), .inl (((1000 * tx + 1 + 12 * a : Nat) : Int))] h Q := by
  have hft := hw.1
  have ht3 := hw.2.1
  have hend := hw.2.2.2
  have e8 : h.2.1 93 (((1000 * tx + 1 + 12 * a : Nat) : Int) + 8).toNat = (f : Int) := by rw [show (((1000 * tx + 1 + 12 * a : Nat) : Int) + 8).toNat = 1000 * tx + 1 + 12 * a + 8 by omega]; exact h8
  have e9 : h.2.1 93 (((1000 * tx + 1 + 12 * a : Nat) : Int) + 9).toNat = (t : Int) := by rw [show (((1000 * tx + 1 + 12 * a : Nat) : Int) + 9).toNat = 1000 * tx + 1 + 12 * a + 9 by omega]; exact h9
  refine eX12_sumOf _ _ _ fun r_text r_act ho => ?_
  unfold bX12_sumOf
  unfold ja_r at r_text r_act
  refine jt_sI (x := ((1000 * tx + 200 : Nat) : Int)) (jv_is (jv_w (jv_add (jv_w (jv_mul jv_ci (jv_li rfl)) (by first | (unfold ja_r; omega) | (unfold ja_rl; omega) | omega | assumption)) jv_ci) (by first | (unfold ja_r; omega) | (unfold ja_rl; omega) | omega | assumption)) (by omega)) ?_
  refine jt_sI jv_ci ?_
  refine jt_sI (x := (f : Int)) (jv_is (jv_fI (jr_g (jr_lr rfl) rfl (by exact jG_90 (j := 4) (r := 93) hG rfl)) (jv_w (jv_add (jv_li rfl) jv_ci) (by unfold ja_r; omega)) rfl (by omega) (by omega) e8) (by rfl)) ?_
  refine jb_forc (t - f) (fun (m : Nat) L' h' => ∃ (v_n : Int) (v_i : Int) (o4_6 : Option ja_W) (o4_7 : Option ja_W) (u : Nat → Nat → Int), L' = [some (.inr (.inr (some (90)))), some (.inl ((tx : Int))), some (.inl (((1000 * tx + 1 + 12 * a : Nat) : Int))), some (.inl (((1000 * tx + 200 : Nat) : Int))), some (.inl (v_n)), some (.inl (v_i)), o4_6, o4_7] ∧ v_n = ((dpt C f m : Nat) : Int) ∧ v_i = (f : Int) + (m : Int) ∧ (h.1, h.2.1, u) = h' ∧ (jfr [101] h.2.2 u) ∧ (skR 101 u (svN nm C f m))) ⟨_, _, _, _, _, rfl, (by first | rfl | omega | (simp; done) | (simp; omega)), (by first | rfl | omega | (simp; done) | (simp; omega)), rfl, (by exact jfr_rf _ _), (by exact trivial)⟩ ?_ ?_ ?_
  · rintro m h_m _ _ ⟨v_n0, v_i0, o4_6, o4_7, u, rfl, rfl, rfl, rfl, fr, sk⟩
    exact jd_eq (jd_lt (jv_li rfl) (jv_fI (jr_g (jr_lr rfl) rfl (by exact jG_90 (j := 4) (r := 93) hG rfl)) (jv_w (jv_add (jv_li rfl) jv_ci) (by unfold ja_r; omega)) rfl (by omega) (by omega) e9)) (by omega)
  · rintro m h_m _ _ ⟨v_n0, v_i0, o4_6, o4_7, u, rfl, rfl, rfl, rfl, fr, sk⟩
    obtain ⟨w1, w2, w3, w4⟩ := hw.2.2.1 m (by omega)
    have ln := svN_l (nm := nm) hw m (by omega)
    have db := dpt_b hw m (by omega)
    have bd := svN_b hw hb m (by omega)
    obtain ⟨k1, k2⟩ := hcd (f + m) (by omega) (by omega)
    have g1 : h.2.1 93 (((1000 * tx + 200 : Nat) : Int) + 2 * ((f : Int) + (m : Int))).toNat = eo (C (f + m)) := by rw [show (((1000 * tx + 200 : Nat) : Int) + 2 * ((f : Int) + (m : Int))).toNat = 1000 * tx + 200 + 2 * (f + m) by omega]; exact k1
    have g2 : h.2.1 93 (((1000 * tx + 200 : Nat) : Int) + 2 * ((f : Int) + (m : Int)) + 1).toNat = ev (C (f + m)) := by rw [show (((1000 * tx + 200 : Nat) : Int) + 2 * ((f : Int) + (m : Int)) + 1).toNat = 1000 * tx + 200 + 2 * (f + m) + 1 by omega]; exact k2
    refine jt_sI (x := eo (C (f + m))) (jv_is (jv_fI (jr_g (jr_lr rfl) rfl (by exact jG_90 (j := 4) (r := 93) hG rfl)) (jv_w (jv_add (jv_li rfl) (jv_w (jv_mul jv_ci (jv_li rfl)) (by unfold ja_r; omega))) (by unfold ja_r; omega)) rfl (by omega) (by omega) g1) (by rfl)) ?_
    refine jt_sI (x := ev (C (f + m))) (jv_is (jv_fI (jr_g (jr_lr rfl) rfl (by exact jG_90 (j := 4) (r := 93) hG rfl)) (jv_w (jv_add (jv_w (jv_add (jv_li rfl) (jv_w (jv_mul jv_ci (jv_li rfl)) (by unfold ja_r; omega))) (by unfold ja_r; omega)) jv_ci) (by unfold ja_r; omega)) rfl (by omega) (by omega) g2) (by rfl)) ?_
    refine jb_if_d (jd_eq (φ' := C (f + m) < 1006) (jd_le (jv_li rfl) jv_ci) eo_le) (fun c1 => ?_) (fun c1 => ?_)
    · have vv : sv1 nm (C (f + m)) (svN nm C f m) = (if C (f + m) < 1000 then C (f + m) else nm (C (f + m) - 1000).toNat) :: svN nm C f m := by
        unfold sv1
        by_cases z : C (f + m) < 1000
        · rw [if_pos z, if_pos z]
        · rw [if_neg z, if_neg z, if_pos c1]
      have hd := w2 c1
      have e1 : C (f + m) < 1000 → ev (C (f + m)) = C (f + m) := fun z => by unfold ev; rw [if_pos z]
      have e2 : ¬ C (f + m) < 1000 → ev (C (f + m)) = C (f + m) - 1000 := fun z => by unfold ev; rw [if_neg z, if_pos c1]
      refine jt_wL (jr_g (jr_lr rfl) rfl (by exact jG_90 (j := 37) (r := 101) hG rfl)) rfl (jv_li rfl) (jv_is (x' := if C (f + m) < 1000 then C (f + m) else nm (C (f + m) - 1000).toNat) (jv_cv (jd_eq (φ' := C (f + m) < 1000) (jd_eqI (jv_li rfl) jv_ci) eo_0) (fun z => jv_is (jv_li rfl) (e1 z)) (fun z => jv_fI (jr_g (jr_lr rfl) rfl (by exact jG_90 (j := 36) (r := 100) hG rfl)) (jv_is (jv_li rfl) (e2 z)) rfl (by omega) (by omega) (hnm _ (by omega)))) rfl) (by omega) (by omega) ?_
      try dsimp only
      rw [show ((dpt C f m : Nat) : Int).toNat = dpt C f m by omega]
      generalize (if C (f + m) < 1000 then C (f + m) else nm (C (f + m) - 1000).toNat) = vx at vv ⊢
      obtain ⟨u2, hu2⟩ : ∃ u2, ja_up u 101 (dpt C f m) vx = u2 := ⟨_, rfl⟩
      have v1 : jfr [101] u u2 := by rw [← hu2]; exact jfr_up (jfr_rf _ _) (by simp)
      have v2 : skR 101 u2 (sv1 nm (C (f + m)) (svN nm C f m)) := by
        rw [vv, ← hu2]
        exact ⟨ja_upE rfl ln, skR_o (fun j hj => ja_upO (by omega)) sk⟩
      rw [hu2]
      refine jt_inc rfl (by unfold ja_r; omega) ?_
      exact jt_inc rfl (by unfold ja_r; omega) ⟨_, _, _, _, u2, rfl, by simp only [dpt]; rw [if_pos c1]; omega, by omega, rfl, jfr_tr fr v1, by simp only [svN]; exact v2⟩
    · refine jb_if_d (jd_eq (φ' := C (f + m) = 1010) (jd_eqI (jv_li rfl) jv_ci) eo_2) (fun c2 => ?_) (fun c2 => ?_)
      · have hd := w3 c2
        obtain ⟨a, r, hst⟩ : ∃ a r, svN nm C f m = a :: r := by
          cases e : svN nm C f m with
          | nil => rw [e] at ln; simp only [List.length_nil] at ln; omega
          | cons a r => exact ⟨a, r, rfl⟩
        rw [hst] at sk ln bd
        simp only [List.length_cons] at ln
        have ba := bd a (by simp)
        have ua : u 101 (((dpt C f m : Nat) : Int) - 1).toNat = a := by rw [show (((dpt C f m : Nat) : Int) - 1).toNat = r.length by omega]; exact sk.1
        have vv : sv1 nm (C (f + m)) (svN nm C f m) = (-a) :: r := by
          rw [hst]
          unfold sv1
          rw [if_neg (by omega), if_neg c1, if_pos c2]
        refine jt_wL (jr_g (jr_lr rfl) rfl (by exact jG_90 (j := 37) (r := 101) hG rfl)) rfl (jv_w (jv_sub (jv_li rfl) jv_ci) (by unfold ja_r; omega)) (jv_wl (jv_negL (jv_fL (jr_g (jr_lr rfl) rfl (by exact jG_90 (j := 37) (r := 101) hG rfl)) (jv_w (jv_sub (jv_li rfl) jv_ci) (by unfold ja_r; omega)) rfl (by omega) (by omega) ua)) (by unfold ja_rl; omega)) (by omega) (by omega) ?_
        try dsimp only
        rw [show (((dpt C f m : Nat) : Int) - 1).toNat = r.length by omega]
        obtain ⟨u2, hu2⟩ : ∃ u2, ja_up u 101 r.length (-a) = u2 := ⟨_, rfl⟩
        have v1 : jfr [101] u u2 := by rw [← hu2]; exact jfr_up (jfr_rf _ _) (by simp)
        have v2 : skR 101 u2 (sv1 nm (C (f + m)) (svN nm C f m)) := by
          rw [vv, ← hu2]
          exact ⟨ja_upE rfl rfl, skR_o (fun j hj => ja_upO (by omega)) sk.2⟩
        rw [hu2]
        exact jt_inc rfl (by unfold ja_r; omega) ⟨_, _, _, _, u2, rfl, by simp only [dpt]; rw [if_neg c1, if_pos c2], by omega, rfl, jfr_tr fr v1, by simp only [svN]; exact v2⟩
      · have hd := w4 (by omega) c2
        obtain ⟨b, a, r, hst⟩ : ∃ b a r, svN nm C f m = b :: a :: r := by
          cases e : svN nm C f m with
          | nil => rw [e] at ln; simp only [List.length_nil] at ln; omega
          | cons b r =>
            cases r with
            | nil => rw [e] at ln; simp only [List.length_cons, List.length_nil] at ln; omega
            | cons a r => exact ⟨b, a, r, rfl⟩
        rw [hst] at sk ln bd
        simp only [List.length_cons] at ln
        have bb := bd b (by simp)
        have ba := bd a (by simp)
        have eoc : eo (C (f + m)) = C (f + m) - 1003 := by unfold eo; rw [if_neg (by omega), if_neg c1, if_neg c2]
        have vv : sv1 nm (C (f + m)) (svN nm C f m) = rkn (C (f + m)) a b :: r := by
          rw [hst]
          unfold sv1
          rw [if_neg (by omega), if_neg c1, if_neg c2]
        refine jt_inc rfl (by unfold ja_r; omega) ?_
        have ub : u 101 (((dpt C f m : Nat) : Int) + (-1)).toNat = b := by rw [show (((dpt C f m : Nat) : Int) + (-1)).toNat = (a :: r).length by simp only [List.length_cons]; omega]; exact sk.1
        have ua : u 101 (((dpt C f m : Nat) : Int) + (-1) - 1).toNat = a := by rw [show (((dpt C f m : Nat) : Int) + (-1) - 1).toNat = r.length by omega]; exact sk.2.1
        refine jt_wL (jr_g (jr_lr rfl) rfl (by exact jG_90 (j := 37) (r := 101) hG rfl)) rfl (jv_w (jv_sub (jv_li rfl) jv_ci) (by unfold ja_r; omega)) (jy_sL (jA_l (jA_l (jA_i jA_0 (jv_li rfl)) (jv_fL (jr_g (jr_lr rfl) rfl (by exact jG_90 (j := 37) (r := 101) hG rfl)) (jv_w (jv_sub (jv_li rfl) jv_ci) (by unfold ja_r; omega)) rfl (by omega) (by omega) ua)) (jv_fL (jr_g (jr_lr rfl) rfl (by exact jG_90 (j := 37) (r := 101) hG rfl)) (jv_li rfl) rfl (by omega) (by omega) ub)) fun _ => kX12_worked (c := C (f + m)) (by omega) eoc ba bb) (by omega) (by omega) ?_
        try dsimp only
        rw [show (((dpt C f m : Nat) : Int) + (-1) - 1).toNat = r.length by omega]
        obtain ⟨u2, hu2⟩ : ∃ u2, ja_up u 101 r.length (rkn (C (f + m)) a b) = u2 := ⟨_, rfl⟩
        have v1 : jfr [101] u u2 := by rw [← hu2]; exact jfr_up (jfr_rf _ _) (by simp)
        have v2 : skR 101 u2 (sv1 nm (C (f + m)) (svN nm C f m)) := by
          rw [vv, ← hu2]
          exact ⟨ja_upE rfl rfl, skR_o (fun j hj => ja_upO (by omega)) sk.2.2⟩
        rw [hu2]
        exact jt_inc rfl (by unfold ja_r; omega) ⟨_, _, _, _, u2, rfl, by simp only [dpt]; rw [if_neg c1, if_neg c2]; omega, by omega, rfl, jfr_tr fr v1, by simp only [svN]; exact v2⟩
  · rintro _ _ ⟨v_n0, v_i0, o4_6, o4_7, u, rfl, rfl, rfl, rfl, fr, sk⟩
    have ln := svN_l (nm := nm) hw (t - f) (by omega)
    rw [hend] at ln
    have bd := svN_b hw hb (t - f) (by omega)
    obtain ⟨a', hst⟩ : ∃ a', svN nm C f (t - f) = [a'] := by
      cases e : svN nm C f (t - f) with
      | nil => rw [e] at ln; simp at ln
      | cons a r =>
        cases r with
        | nil => exact ⟨a, rfl⟩
        | cons b r => rw [e] at ln; simp at ln
    rw [hst] at sk q bd
    have ba := bd a' (by simp)
    have u0 : u 101 (0 : Int).toNat = a' := sk.1
    refine jt_rI (x := c99 a') (jv_is (jv_cv (jd_ltL (jv_fL (jr_g (jr_lr rfl) rfl (by exact jG_90 (j := 37) (r := 101) hG rfl)) jv_ci rfl (by decide) (by decide) u0) jv_ci) (fun _ => jv_ci) (fun _ => jv_cv (jd_gtL (jv_fL (jr_g (jr_lr rfl) rfl (by exact jG_90 (j := 37) (r := 101) hG rfl)) jv_ci rfl (by decide) (by decide) u0) jv_ci) (fun _ => jv_ci) (fun _ => jv_w (jv_l2i (jv_fL (jr_g (jr_lr rfl) rfl (by exact jG_90 (j := 37) (r := 101) hG rfl)) jv_ci rfl (by decide) (by decide) u0)) (by unfold ja_r; omega)))) (by unfold c99; split <;> (try split) <;> omega)) ?_
    exact q u fr
