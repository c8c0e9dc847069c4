section JPF
variable {l : Launch} {n P k A : Nat} {p w g : Int} {K N C : Nat → Int} {px : Int → LT} {Dp : Nat → Nat}
def jPA (l : Launch) (n P k A : Nat) (p w g : Int) (K N C : Nat → Int) (px : Int → LT) (Dp : Nat → Nat) (kf : Nat) : Prop := ∀ {D nx bh nst dn r : Nat} {lt : LT} {h : ja_H} {Q : ja_Q}, dS n P k p w g K N C px lt dn h → l99 lt → nx ≤ bh → bh ≤ A → (∀ b, nx ≤ b → b < bh → nst ≤ Dp b ∧ (K b = 5 → N (7 * b + 1) ≤ (bh : Int))) → nst ≤ 8 → r ≤ 9 → dn ≤ 300 → 11 * (bh - nx) + 1 ≤ kf → 2 * (8 - nst) + 6 ≤ D → (∀ s u, s = pf (a1 px p K N C w g) K N kf 0 nx bh r (lt, dn) → fD k h.2.1 u → dS n P k p w g K N C px s.1 s.2 (h.1, u, h.2.2) → l99 s.1 → s.2 ≤ 300 → Q none (h.1, u, h.2.2)) → ja_C l D mX1_performActs (js_sh n) [.inr (.inr (some 50)), .inl (nx : Int), .inl (bh : Int), .inl (r : Int), .inl (nst : Int)] h Q
def jPB (l : Launch) (n P k A : Nat) (p w g : Int) (K N C : Nat → Int) (px : Int → LT) (Dp : Nat → Nat) (kf : Nat) : Prop := ∀ {D a e nst dn : Nat} {lt : LT} {h : ja_H} {Q : ja_Q}, dS n P k p w g K N C px lt dn h → l99 lt → a < A → K a = 5 → N (7 * a + 1) = (e : Int) → nst ≤ Dp a → dn ≤ 300 → 11 * (e - (a + 1)) + 11 ≤ kf → 2 * (8 - nst) + 5 ≤ D → (∀ s u, s = pf (a1 px p K N C w g) K N kf 1 a e 0 (lt, dn) → fD k h.2.1 u → dS n P k p w g K N C px s.1 s.2 (h.1, u, h.2.2) → l99 s.1 → s.2 ≤ 300 → Q none (h.1, u, h.2.2)) → ja_C l D mX1_repeat (js_sh n) [.inr (.inr (some 50)), .inl (a : Int), .inl (e : Int), .inl (nst : Int)] h Q
set_option maxRecDepth 10000 in
theorem kX1_repeat {kf : Nat} (hp : 0 ≤ p ∧ p ≤ 4) (hk : k = 5 + 2 * p.toNat) (hP : 66 ≤ P ∧ P ≤ 86) (hw : wfP A K N C Dp) (ih : ∀ j, j ≤ kf → jPA l n P k A p w g K N C px Dp j) : jPB l n P k A p w g K N C px Dp (kf + 1) := by
  intro D a e nst dn lt h Q hd hl ha h5 he hn hdn hf hD q
  obtain ⟨wa1, _, _, _, _, wa⟩ := hw.2 a ha
  obtain ⟨w1, w2, w3, w4⟩ := wa h5
  have hA := hw.1
  rw [he] at w2 w4
  obtain ⟨d, rfl⟩ : ∃ d, D = d + 7 := ⟨D - 7, by omega⟩
  obtain ⟨R, hR⟩ : ∃ R, pf (a1 px p K N C w g) K N (kf + 1) 1 a e 0 (lt, dn) = R := ⟨_, rfl⟩
  rw [hR] at q
  obtain ⟨⟨hG, hg, g3, g4, g5⟩, hW, ⟨b1, b2, b3⟩, h6, hx, hpx⟩ := id hd
  have N0 : h.2.1 (P + 2) (7 * a + 0) = N (7 * a + 0) := by rw [b2]
  refine eX1_repeat _ _ _ _ fun _ _ _ ho => ?_
  unfold bX1_repeat
  refine jb_if_d (jd_ge (jv_li rfl) jv_ci) (fun y => absurd y (by omega)) (fun _ => ?_)
  refine jt_sI (x := N (7 * a + 0)) (jv_is (jy_mI (jr_g (jr_lr rfl) rfl g3) hg.1 (jA_i (jA_i jA_0 (jv_li rfl)) jv_ci) fun _ => kX4_numberOf (a := a) (s := 0) hg (by omega) (by omega)) N0) ?_
  refine jt_sI jv_ci ?_
  refine jb_lpu (fun m L' h' => ∃ (i j dn' : Nat) (lt' : LT) (u : Nat → Nat → Int), L' = [some (.inr (.inr (some 50))), some (.inl (a : Int)), some (.inl (e : Int)), some (.inl (nst : Int)), some (.inl (N (7 * a + 0))), some (.inl (i : Int))] ∧ (h.1, u, h.2.2) = h' ∧ fD k h.2.1 u ∧ dS n P k p w g K N C px lt' dn' (h.1, u, h.2.2) ∧ l99 lt' ∧ (dn' ≤ 300 ∧ i ≤ 9 ∧ m + i = 9 ∧ 11 * (e - (a + 1)) + 11 ≤ j + i ∧ j ≤ kf + 1 ∧ (i : Int) ≤ N (7 * a + 0)) ∧ pf (a1 px p K N C w g) K N j 1 a e i (lt', dn') = R) ⟨9, 0, kf + 1, dn, lt, h.2.1, rfl, rfl, fD_rf, hd, hl, ⟨hdn, by omega, by omega, by omega, by omega, by omega⟩, hR⟩ ?_
  intro m L' h' z
  obtain ⟨i, j, dn', lt', u, z1, z2, fr, hd', hl', z3, jR⟩ := z
  have a1' := z3.1
  have a2 := z3.2.1
  have a3 := z3.2.2.1
  have a4 := z3.2.2.2.1
  have a5 := z3.2.2.2.2.1
  have a6 := z3.2.2.2.2.2
  clear z3
  subst z1
  subst z2
  have h6' : u 50 6 = (dn' : Int) := hd'.2.2.2.1
  have ej : j = (j - 1) + 1 := by omega
  generalize j - 1 = j0 at ej
  subst ej
  rw [pf, if_neg (by decide)] at jR
  refine (jd_eq (φ' := (i : Int) < N (7 * a + 0) ∧ dn' < 300) (jd_and (jd_lt (jv_li rfl) (jv_li rfl)) (fun _ => jd_lt (jv_gF (jr_lr rfl) rfl h6') jv_ci)) (by omega)) _ _ (fun c => ?_) (fun c => ?_)
  · rw [if_pos c] at jR
    refine jx_m (jr_lr rfl) rfl (jA_i (jA_i (jA_i (jA_i jA_0 (jv_is (x' := ((a + 1 : Nat) : Int)) (jv_w (jv_add (jv_li rfl) jv_ci) (by unfold ja_r; omega)) (by omega))) (jv_li rfl)) (jv_li rfl)) (jv_is (x' := ((nst + 1 : Nat) : Int)) (jv_w (jv_add (jv_li rfl) jv_ci) (by unfold ja_r; omega)) (by omega))) (ih j0 (by omega) hd' hl' (by omega) (by omega) (fun b h1 h2 => ?_) (by omega) a2 a1' (by omega) (by omega) (fun s u2 es fr2 hd2 hl2 hs2 => ⟨rfl, ?_⟩))
    · have := w4 b (by omega) (by omega)
      exact ⟨by omega, this.2⟩
    · rw [← es] at jR
      refine jt_inc rfl (by unfold ja_r; omega) ?_
      exact ⟨m - 1, by omega, i + 1, j0, s.2, s.1, u2, rfl, rfl, fD_tr fr fr2, hd2, hl2, ⟨hs2, by omega, by omega, by omega, by omega, by omega⟩, jR⟩
  · rw [if_neg c] at jR
    subst jR
    exact q _ u rfl fr hd' hl' a1'
set_option maxRecDepth 10000 in
theorem kX1_performActs {kf : Nat} (hp : 0 ≤ p ∧ p ≤ 4) (hk : k = 5 + 2 * p.toNat) (hP : 66 ≤ P ∧ P ≤ 86) (hw : wfP A K N C Dp) (hpl : ∀ r, l99 (px r)) (ih : ∀ j, j ≤ kf → jPB l n P k A p w g K N C px Dp j) : jPA l n P k A p w g K N C px Dp (kf + 1) := by
  intro D nx bh nst dn r lt h Q hd hl hnx hbA hb hn8 hr hdn hf hD q
  have hA := hw.1
  obtain ⟨d, rfl⟩ : ∃ d, D = d + 6 := ⟨D - 6, by omega⟩
  obtain ⟨R, hR⟩ : ∃ R, pf (a1 px p K N C w g) K N (kf + 1) 0 nx bh r (lt, dn) = R := ⟨_, rfl⟩
  rw [hR] at q
  refine eX1_performActs _ _ _ _ _ fun _ _ _ _ ho => ?_
  unfold bX1_performActs
  refine jt_sI (jv_li rfl) ?_
  refine jb_whl (fun m L' h' => ∃ (x j dn' : Nat) (lt' : LT) (u : Nat → Nat → Int) (o6 : Option ja_W), L' = [some (.inr (.inr (some 50))), some (.inl (nx : Int)), some (.inl (bh : Int)), some (.inl (r : Int)), some (.inl (nst : Int)), some (.inl (x : Int)), o6] ∧ (h.1, u, h.2.2) = h' ∧ fD k h.2.1 u ∧ dS n P k p w g K N C px lt' dn' (h.1, u, h.2.2) ∧ l99 lt' ∧ (dn' ≤ 300 ∧ nx ≤ x ∧ m + x = bh ∧ 11 * (bh - x) + 1 ≤ j ∧ j ≤ kf + 1) ∧ pf (a1 px p K N C w g) K N j 0 x bh r (lt', dn') = R) ⟨bh - nx, nx, kf + 1, dn, lt, h.2.1, none, rfl, rfl, fD_rf, hd, hl, ⟨hdn, by omega, by omega, by omega, by omega⟩, hR⟩ ?_
  intro m L' h' z
  obtain ⟨x, j, dn', lt', u, o6, z1, z2, fr, hd', hl', z3, jR⟩ := z
  have a1' := z3.1
  have a2 := z3.2.1
  have a3 := z3.2.2.1
  have a4 := z3.2.2.2.1
  have a5 := z3.2.2.2.2
  clear z3
  subst z1
  subst z2
  have h6' : u 50 6 = (dn' : Int) := hd'.2.2.2.1
  have ej : j = (j - 1) + 1 := by omega
  generalize j - 1 = j0 at ej
  subst ej
  rw [pf, if_pos rfl] at jR
  refine (jd_eq (φ' := x < bh ∧ dn' < 300) (jd_and (jd_lt (jv_li rfl) (jv_li rfl)) (fun _ => jd_lt (jv_gF (jr_lr rfl) rfl h6') jv_ci)) (by omega)) _ _ (fun c => ?_) (fun c => ?_)
  · rw [if_pos c] at jR
    dsimp only at jR
    have wa := hw.2 x (by omega)
    refine jt_sI (jv_li rfl) ?_
    refine jt_inc rfl (by unfold ja_r; omega) ?_
    refine jt_uG (w := ((dn' + 1 : Nat) : Int)) (jr_lr rfl) rfl jv_ci (by dsimp only; rw [h6', ja_w_id (by unfold ja_r; omega)]; omega) ?_
    dsimp only
    obtain ⟨u1, hu1⟩ : ∃ u1, ja_up u 50 6 ((dn' + 1 : Nat) : Int) = u1 := ⟨_, rfl⟩
    have fr1 : fD k u u1 := by rw [← hu1]; exact ⟨jfr_up (jfr_rf _ _) (by simp), fun j hj => ja_upO (by omega)⟩
    have v6 : u1 50 6 = ((dn' + 1 : Nat) : Int) := by rw [← hu1, ja_upE rfl rfl]
    have hl1 : jpx (h.1, u1, h.2.2) w g k = lt' := by rw [← hd'.2.2.2.2.1]; exact jpx_w (h := (h.1, u, h.2.2)) (by rw [← hu1]; funext c; exact ja_upO (by omega))
    have hd1 : dS n P k p w g K N C px lt' (dn' + 1) (h.1, u1, h.2.2) := dS_mk (h := (h.1, u, h.2.2)) hd' hp hk hP fr1 v6 hl1
    rw [hu1]
    obtain ⟨⟨hG, hg, g3, g4, g5⟩, hW, ⟨b1, b2, b3⟩, h6, hx, hpx⟩ := id hd1
    dsimp only at b1 b2 b3 h6
    have Kx : u1 (P + 1) x = K x := by rw [b1]
    have Nx : ∀ s, u1 (P + 2) (7 * x + s) = N (7 * x + s) := fun s => by rw [b2]
    have hS : jS w g n 1 (h.1, u1, h.2.2) := jS1_of hG hW
    have hpk : jp w g n k (h.1, u1, h.2.2) := jp_of hG hW (by rw [hk]; have : p.toNat = 0 ∨ p.toNat = 1 ∨ p.toNat = 2 ∨ p.toNat = 3 ∨ p.toNat = 4 := by omega
                                                              rcases this with y | y | y | y | y <;> rw [y] <;> decide)
    have hq : jp w g n 53 (h.1, u1, h.2.2) := jp_of hG hW (by decide)
    have hlx : l99 (jpx (h.1, u1, h.2.2) w g k) := by rw [hl1]; exact hl'
    have fin : ∀ (lt2 : LT) (u2 : Nat → Nat → Int), K x ≠ 5 → lt2 = a1 px p K N C w g x (r : Int) lt' → jfr [k + 1, 51, 52, 54] u1 u2 → jpx (h.1, u2, h.2.2) w g k = lt2 → (∃ m', m' < m ∧ ∃ (x' j dn' : Nat) (lt' : LT) (u : Nat → Nat → Int) (o6' : Option ja_W), [some (.inr (.inr (some 50))), some (.inl (nx : Int)), some (.inl (bh : Int)), some (.inl (r : Int)), some (.inl (nst : Int)), some (.inl ((x : Int) + 1)), some (.inl (x : Int))] = ([some (.inr (.inr (some 50))), some (.inl (nx : Int)), some (.inl (bh : Int)), some (.inl (r : Int)), some (.inl (nst : Int)), some (.inl (x' : Int)), o6'] : ja_L) ∧ (h.1, u, h.2.2) = (h.1, u2, h.2.2) ∧ fD k h.2.1 u ∧ dS n P k p w g K N C px lt' dn' (h.1, u, h.2.2) ∧ l99 lt' ∧ (dn' ≤ 300 ∧ nx ≤ x' ∧ m' + x' = bh ∧ 11 * (bh - x') + 1 ≤ j ∧ j ≤ kf + 1) ∧ pf (a1 px p K N C w g) K N j 0 x' bh r (lt', dn') = R) := by
      intro lt2 u2 k5 e2 fr0 hl2
      rw [if_neg k5, ← e2] at jR
      have fr2 : fD k u1 u2 := fD_of fr0 (fun c hc => hc) (by omega)
      have v62 : u2 50 6 = ((dn' + 1 : Nat) : Int) := (congrFun (fr0 50 (by simp; omega)) 6).trans v6
      exact ⟨m - 1, by omega, x + 1, j0, dn' + 1, lt2, u2, _, rfl, rfl, fD_tr fr (fD_tr fr1 fr2), dS_mk (h := (h.1, u1, h.2.2)) hd1 hp hk hP fr2 v62 hl2, by rw [e2]; exact a1_b wa hpl hl', ⟨by omega, by omega, by omega, by omega, by omega⟩, jR⟩
    refine jt_sw (jv_is (jy_mI (jr_g (jr_lr rfl) rfl g3) hg.1 (jA_i jA_0 (jv_li rfl)) fun _ => kX4_kindOf (h := (h.1, u1, h.2.2)) (a := x) hg (by omega)) Kx) ?_
    simp only [jb_cs]
    by_cases k1 : K x = 1
    · rw [if_pos k1]
      have ww := wa.2.1 k1
      refine jx_m (jr_lr rfl) rfl (jA_i jA_0 (jv_li rfl)) (kX1_paste (h := (h.1, u1, h.2.2)) hG hg g3 g4 hpk (by omega) hP.1 (by omega) hS g5 hq (Nx 0) (Nx 1) (Nx 2) (Nx 3) (Nx 4) (Nx 5) (Nx 6) ww fun u2 fr2 e2 => ⟨rfl, ?_⟩)
      refine fin _ u2 (by omega) ?_ (jfr_sub fr2 (by simp)) rfl
      rw [e2, hl1]
      unfold a1
      rw [if_pos k1]
      by_cases y : N (7 * x + 0) = p
      · rw [if_pos y, y, ← hk, hl1]
      · rw [if_neg y, hpx _ (by omega) (by omega) y]
    rw [if_neg k1]
    by_cases k2 : K x = 2
    · rw [if_pos k2]
      have ww := wa.2.2.1 k2
      refine jx_m (jr_lr rfl) rfl (jA_i (jA_i jA_0 (jv_li rfl)) (jv_li rfl)) (kX1_paint (h := (h.1, u1, h.2.2)) (f := (N (7 * x + 4)).toNat) (t := (N (7 * x + 5)).toNat) hG hg g3 g4 hpk (by omega) hP.1 (by omega) hlx b3 (Nx 0) (Nx 1) (Nx 2) (Nx 3) ((Nx 4).trans (by omega)) ((Nx 5).trans (by omega)) ww.1 ww.2.2.2 (by omega) fun u2 fr2 e2 => ⟨rfl, ?_⟩)
      refine fin _ u2 (by omega) ?_ (jfr_sub fr2 (by simp)) rfl
      rw [e2, hl1]
      unfold a1
      rw [if_neg k1, if_pos k2]
    rw [if_neg k2]
    by_cases k3 : K x = 3
    · rw [if_pos k3]
      have ww := wa.2.2.2.1 k3
      refine jx_m (jr_lr rfl) rfl (jA_i jA_0 (jv_li rfl)) (kX1_keep (h := (h.1, u1, h.2.2)) hG hg g3 g4 hpk (by omega) hP.1 (by omega) hlx (Nx 0) (Nx 1) (Nx 2) ww fun u2 fr2 e2 => ⟨rfl, ?_⟩)
      refine fin _ u2 (by omega) ?_ (jfr_sub fr2 (by simp)) rfl
      rw [e2, hl1]
      unfold a1
      rw [if_neg k1, if_neg k2, if_pos k3]
    rw [if_neg k3]
    by_cases k4 : K x = 4
    · rw [if_pos k4]
      have ww := wa.2.2.2.2.1 k4
      refine jx_m (jr_lr rfl) rfl (jA_i jA_0 (jv_li rfl)) (kX1_flip (h := (h.1, u1, h.2.2)) hG hg g3 g4 hpk (by omega) hP.1 (by omega) (Nx 0) (Nx 1) (Nx 2) (Nx 3) ww fun u2 fr2 e2 => ⟨rfl, ?_⟩)
      refine fin _ u2 (by omega) ?_ (jfr_sub fr2 (by simp)) rfl
      rw [e2, hl1]
      unfold a1
      rw [if_neg k1, if_neg k2, if_neg k3]
    rw [if_neg k4]
    have k5 : K x = 5 := by have := wa.1; omega
    have ww := wa.2.2.2.2.2 k5
    have he := (hb x (by omega) (by omega)).2 k5
    obtain ⟨e, hee⟩ : ∃ e : Nat, N (7 * x + 1) = (e : Int) := ⟨(N (7 * x + 1)).toNat, by omega⟩
    rw [if_pos k5, hee, show max (x + 1) ((e : Int)).toNat = e by omega] at jR
    refine jt_sI (x := (e : Int)) (jv_is (jy_sI (jA_i (jA_i jA_0 (jv_li rfl)) (jv_is (x' := (e : Int)) (jy_mI (jr_g (jr_lr rfl) rfl g3) hg.1 (jA_i (jA_i jA_0 (jv_li rfl)) jv_ci) fun _ => kX4_numberOf (h := (h.1, u1, h.2.2)) (a := x) (s := 1) hg (by omega) (by omega)) ((Nx 1).trans hee))) fun _ => kJ9_max) (by omega)) ?_
    refine jx_m (jr_lr rfl) rfl (jA_i (jA_i (jA_i jA_0 (jv_li rfl)) (jv_li rfl)) (jv_li rfl)) (ih j0 (by omega) hd1 hl' (by omega) k5 hee (hb x (by omega) (by omega)).1 (by omega) (by omega) (by omega) (fun s u2 es fr2 hd2 hl2 hs2 => ⟨rfl, ?_⟩))
    rw [← es] at jR
    exact ⟨bh - e, by omega, e, j0, s.2, s.1, u2, _, rfl, rfl, fD_tr fr (fD_tr fr1 fr2), hd2, hl2, ⟨hs2, by omega, by omega, by omega, by omega⟩, jR⟩
  · rw [if_neg c] at jR
    subst jR
    exact q _ u rfl fr hd' hl' a1'
end JPF
