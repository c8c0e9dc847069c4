noncomputable def cN (D : Nat → LT → LT) (T : Nat) (gl lt : LT) (m : Nat) : Nat := cnt (fun x => okS D T gl m x lt) (T ^ m)
noncomputable def lsN (D : Nat → LT → LT) (T : Nat) (gl lt : LT) (m : Nat) : Nat := lst (fun x => okS D T gl m x lt) (T ^ m)
noncomputable def stW (D : Nat → LT → LT) (T : Nat) (gl lt : LT) (m : Nat) (i : Int) : Int := if i = -2 then (cN D T gl lt m : Int) else if i = -1 then (m : Int) else if 0 ≤ i ∧ i < (m : Int) then (((dgs T m (lsN D T gl lt m)).getD i.toNat 0 : Nat) : Int) else -1
/-- what story answers -/
noncomputable def stV (D : Nat → LT → LT) (T : Nat) (gl lt : LT) (i : Int) : Int := if cN D T gl lt 0 > 0 then stW D T gl lt 0 i else if cN D T gl lt 1 > 0 then stW D T gl lt 1 i else if cN D T gl lt 2 > 0 then stW D T gl lt 2 i else if cN D T gl lt 3 > 0 then stW D T gl lt 3 i else -1
theorem stV_m {D : Nat → LT → LT} {T m : Nat} {gl lt : LT} {i : Int} (hm : m ≤ 3) (h0 : ∀ m', m' < m → cN D T gl lt m' = 0) (h1 : cN D T gl lt m > 0) : stV D T gl lt i = stW D T gl lt m i := by
  unfold stV
  have : m = 0 ∨ m = 1 ∨ m = 2 ∨ m = 3 := by omega
  rcases this with rfl | rfl | rfl | rfl
  · rw [if_pos h1]
  · rw [if_neg (by have := h0 0 (by omega); omega), if_pos h1]
  · rw [if_neg (by have := h0 0 (by omega); omega), if_neg (by have := h0 1 (by omega); omega), if_pos h1]
  · rw [if_neg (by have := h0 0 (by omega); omega), if_neg (by have := h0 1 (by omega); omega), if_neg (by have := h0 2 (by omega); omega), if_pos h1]
theorem stV_n {D : Nat → LT → LT} {T : Nat} {gl lt : LT} {i : Int} (h0 : ∀ m, m ≤ 3 → cN D T gl lt m = 0) : stV D T gl lt i = -1 := by
  unfold stV
  rw [if_neg (by have := h0 0 (by omega); omega), if_neg (by have := h0 1 (by omega); omega), if_neg (by have := h0 2 (by omega); omega), if_neg (by have := h0 3 (by omega); omega)]
def stF (D : Nat → LT → LT) (T : Nat) (gl lt : LT) (u : Nat → Nat → Int) : Prop := (∃ m : Nat, m ≤ 3 ∧ (∀ m', m' < m → cN D T gl lt m' = 0) ∧ cN D T gl lt m > 0 ∧ u 55 8 = (m : Int) ∧ u 55 9 = (cN D T gl lt m : Int) ∧ ∀ j, j < m → u 58 j = (((dgs T m (lsN D T gl lt m)).getD j 0 : Nat) : Int)) ∨ ((∀ m, m ≤ 3 → cN D T gl lt m = 0) ∧ u 55 8 = -1)
theorem cN_0 {D : Nat → LT → LT} {T : Nat} {lt : LT} : cN D T lt lt 0 = 1 := by
  have e : okS D T lt 0 0 lt = true := (okS_iff (n := 0)).mpr rfl
  unfold cN
  simp [cnt, e]
theorem jG_55 {R : Nat → Nat → Option Nat} {j : Nat} {v : Option Nat} (hG : jG R) (hj : 3 ≤ j) : jG (ja_up R 55 j v) := by
  refine ⟨fun k i r e => ?_, ?_⟩
  · have : ¬ (k = 55 ∧ i = j) := by
      rintro ⟨rfl, rfl⟩
      match i, hj, e with
      | i + 3, _, e => exact absurd (show (none : Option Nat) = some r from e) (by simp)
    unfold ja_up
    rw [if_neg this]
    exact hG.1 k i r e
  · funext i
    unfold ja_up
    rw [if_neg (by omega), hG.2]
theorem pw_b {T i : Nat} (hT : T ≤ 6) (hi : i ≤ 3) : T ^ i ≤ 216 := Nat.le_trans (Nat.pow_le_pow_left hT i) (Nat.le_trans (Nat.pow_le_pow_right (by decide) hi) (by decide))
set_option maxRecDepth 10000 in
theorem kX9_findShortest {l : Launch} {d n k ko T : Nat} {p w g : Int} {A : Nat → Nat} {K N C : Nat → Nat → Int} {Dp : Nat → Nat → Nat} {px : Int → LT} {gl lt : LT} {h : ja_H} {Q : ja_Q} (hc : tC k ko T p A K N C Dp px) (hG : jG h.1) (hW : jW w g n h.2.1) (hT : h.2.1 1 9 = (T : Int)) (hP : ∀ t, t < T → cPg t (A t) (K t) (N t) (C t) h.2.1) (b1 : jpx h w g k = lt) (b2 : jpx h w g ko = gl) (b3 : ∀ r : Int, 0 ≤ r → r ≤ 4 → r ≠ p → jpx h w g (5 + 2 * r.toNat) = px r) (hl : l99 lt)
    (q : ∀ R u, jG R → jfr [k + 1, 50, 51, 52, 54, 55, 57, 58, 60, 62, 64] h.2.1 u → jpx (R, u, h.2.2) w g k = lt → stF (DD A K N C px p w g) T gl lt u → Q none (R, u, h.2.2)) : ja_C l (d + 32) mX9_findShortest (js_sh n) [.inr (.inr (some 55)), .inr (.inr (some k)), .inr (.inr (some ko)), .inr (.inr (some 1)), .inr (.inr (some 65)), .inr (.inr (some 50))] h Q := by
  obtain ⟨hp, hk, ⟨qq, hq4, hko⟩, hT6, hw, hpl, hp0⟩ := id hc
  refine eX9_findShortest _ _ _ _ _ _ fun ho => ?_
  unfold bX9_findShortest
  refine jt_pR (jr_lr rfl) rfl (jr_lr rfl) ?_
  refine jt_pR (jr_lr rfl) rfl (jr_lr rfl) ?_
  refine jt_pR (jr_lr rfl) rfl (jr_lr rfl) ?_
  refine jt_pR (jr_lr rfl) rfl (jr_lr rfl) ?_
  refine jt_pR (jr_lr rfl) rfl (jr_lr rfl) ?_
  refine jt_pI (jr_lr rfl) rfl jv_ci ?_
  dsimp only
  obtain ⟨R0, hR0⟩ : ∃ R0, ja_up (ja_up (ja_up (ja_up (ja_up h.1 55 3 (some k)) 55 4 (some ko)) 55 5 (some 1)) 55 6 (some 65)) 55 7 (some 50) = R0 := ⟨_, rfl⟩
  rw [hR0]
  have hG0 : jG R0 := by rw [← hR0]; exact jG_55 (jG_55 (jG_55 (jG_55 (jG_55 hG (by decide)) (by decide)) (by decide)) (by decide)) (by decide)
  have r3 : R0 55 3 = some k := by rw [← hR0]; unfold ja_up; simp
  have r4 : R0 55 4 = some ko := by rw [← hR0]; unfold ja_up; simp
  have r5 : R0 55 5 = some 1 := by rw [← hR0]; unfold ja_up; simp
  have r6 : R0 55 6 = some 65 := by rw [← hR0]; unfold ja_up; simp
  have r7 : R0 55 7 = some 50 := by rw [← hR0]; unfold ja_up; simp
  clear hR0
  obtain ⟨f1, hf1⟩ : ∃ f1, ja_up h.2.1 55 9 0 = f1 := ⟨_, rfl⟩
  rw [hf1]
  have o1 : ∀ a, a ≠ 55 → f1 a = h.2.1 a := fun a ha => by rw [← hf1]; funext j; exact ja_upO (Or.inl ha)
  have v9 : f1 55 9 = 0 := by rw [← hf1]; exact ja_upE rfl rfl
  have fr1 : jfr [k + 1, 50, 51, 52, 54, 55, 57, 58, 60, 62, 64] h.2.1 f1 := by rw [← hf1]; exact jfr_up (jfr_rf _ _) (by simp)
  have hs1 : tS n k ko T p w g A K N C px gl lt (R0, f1, h.2.2) := by
    refine ⟨⟨hG0, r3, r4, r5, r6, r7⟩, jW_fr hW (fun j _ => congrFun (o1 90 (by omega)) j) (fun j _ => congrFun (o1 1 (by omega)) j) (fun c hc => o1 c (by simp only [List.mem_cons, List.not_mem_nil, or_false] at hc; omega)), (congrFun (o1 1 (by omega)) 9).trans hT, fun t ht => ?_, ?_, ?_, fun r h0 h4 hr => ?_⟩
    · obtain ⟨c1, c2, c3, c4⟩ := hP t ht
      exact ⟨(congrFun (o1 _ (by omega)) 3).trans c1, (o1 _ (by omega)).trans c2, (o1 _ (by omega)).trans c3, (o1 _ (by omega)).trans c4⟩
    · rw [← b1]; exact jpx_w (h := h) (o1 _ (by omega))
    · rw [← b2]; exact jpx_w (h := h) (o1 _ (by omega))
    · rw [← b3 r h0 h4 hr]; exact jpx_w (h := h) (o1 _ (by omega))
  refine jt_sI jv_ci ?_
  refine jb_forc 4 (fun (i : Nat) L' h' => ∃ (v_i : Int) (R : Nat → Nat → Option Nat) (u : Nat → Nat → Int), L' = [some (.inr (.inr (some 55))), some (.inr (.inr (some k))), some (.inr (.inr (some ko))), some (.inr (.inr (some 1))), some (.inr (.inr (some 65))), some (.inr (.inr (some 50))), some (.inl v_i)] ∧ v_i = (i : Int) ∧ (R, u, h.2.2) = h' ∧ jfr [k + 1, 50, 51, 52, 54, 55, 57, 58, 60, 62, 64] h.2.1 u ∧ tS n k ko T p w g A K N C px gl lt (R, u, h.2.2) ∧ u 55 9 = 0 ∧ ∀ m, m < i → cN (DD A K N C px p w g) T gl lt m = 0) ⟨_, R0, f1, rfl, rfl, rfl, fr1, hs1, v9, fun m hm => absurd hm (by omega)⟩ ?_ ?_ ?_
  · rintro i h_i _ _ ⟨v_i, R, u, rfl, rfl, rfl, fr, hs2, u9, hz⟩
    exact jd_eq (jd_le (jv_li rfl) jv_ci) (by omega)
  · rintro i h_i _ _ ⟨v_i, R, u, rfl, rfl, rfl, fr, hs2, u9, hz⟩
    obtain ⟨⟨hG2, _⟩, _, _, _, b12, b22, _⟩ := id hs2
    refine jt_pI (jr_lr rfl) rfl (jv_li rfl) ?_
    dsimp only
    obtain ⟨u1, hu1⟩ : ∃ u1, ja_up u 55 8 (i : Int) = u1 := ⟨_, rfl⟩
    rw [hu1]
    have w8 : u1 55 8 = (i : Int) := by rw [← hu1]; exact ja_upE rfl rfl
    have w9 : u1 55 9 = 0 := by rw [← hu1, ja_upO (by omega)]; exact u9
    have fr2 : jfr [k + 1, 50, 51, 52, 54, 55, 57, 58, 60, 62, 64] u u1 := by rw [← hu1]; exact jfr_up (jfr_rf _ _) (by simp)
    have o2 : ∀ a, a ≠ 55 → u1 a = u a := fun a ha => by rw [← hu1]; funext j; exact ja_upO (Or.inl ha)
    have hs3 : tS n k ko T p w g A K N C px gl lt (R, u1, h.2.2) := tS_mk (h := (R, u, h.2.2)) hs2 hc fr2 hG2 (fun _ _ => rfl) (by rw [← b12]; exact jpx_w (h := (R, u, h.2.2)) (o2 _ (by omega))) (Or.inr rfl)
    have hne : i = 0 ∨ ko ≠ k := by
      by_cases z : i = 0
      · exact Or.inl z
      · refine Or.inr fun y => ?_
        have := hz 0 (by omega)
        rw [y, b12] at b22
        subst b22
        rw [cN_0] at this
        exact absurd this (by decide)
    refine jx_m (jr_lr rfl) rfl (jA_i jA_0 jv_ci) (kX9_tells (h := (R, u1, h.2.2)) (dn := 0) (c := 0) hc i hs3 hl (by show u1 55 8 = _; rw [w8, Nat.zero_add]) (by show u1 55 9 = _; rw [w9]; rfl) (by omega) hne (by have := pw_b (i := i) hT6 (by omega); omega) (by omega) fun R2 u2 fr3 hs4 c4 hf4 => ⟨rfl, ?_⟩)
    dsimp only at fr3 hs4 c4 hf4 ⊢
    rw [Nat.zero_add] at c4
    have c4 : u2 55 9 = (cN (DD A K N C px p w g) T gl lt i : Int) := c4
    have fr5 : jfr [k + 1, 50, 51, 52, 54, 55, 57, 58, 60, 62, 64] h.2.1 u2 := jfr_tr fr (jfr_tr fr2 fr3.1)
    refine jb_if_d (φ := cN (DD A K N C px p w g) T gl lt i > 0) (jd_eq (jd_gt (jv_gF (jr_lr rfl) rfl c4) jv_ci) (by omega)) (fun z => ?_) (fun z => ?_)
    · refine q R2 u2 hs4.1.1 fr5 hs4.2.2.2.2.1 (Or.inl ⟨i, by omega, hz, z, (fr3.2.1 8 (by omega)).trans w8, c4, fun j hj => ?_⟩)
      have := (hf4.1 ⟨rfl, z⟩).2 j hj
      rw [Nat.zero_add] at this
      exact this
    · refine jt_inc rfl (by unfold ja_r; omega) ⟨_, R2, u2, rfl, by omega, rfl, fr5, hs4, by rw [c4]; omega, fun m hm => ?_⟩
      by_cases y : m = i
      · rw [y]; omega
      · exact hz m (by omega)
  · rintro _ _ ⟨v_i, R, u, rfl, rfl, rfl, fr, hs2, u9, hz⟩
    refine jt_pI (jr_lr rfl) rfl jv_ci ?_
    refine q R _ hs2.1.1 (jfr_up fr (by simp)) ?_ (Or.inr ⟨fun m hm => hz m (by omega), ja_upE rfl rfl⟩)
    rw [← hs2.2.2.2.2.1]
    exact jpx_w (h := (R, u, h.2.2)) (funext fun j => ja_upO (by omega))
def pxC (h : ja_H) (w g : Int) : Int → LT := fun r : Int => if 0 ≤ r ∧ r ≤ 4 then jpx h w g (5 + 2 * r.toNat) else fun _ _ => 0
set_option maxRecDepth 10000 in
theorem kX11_story {l : Launch} {d n T : Nat} {p s i w g : Int} {A : Nat → Nat} {K N C : Nat → Nat → Int} {Dp : Nat → Nat → Nat} {h : ja_H} {Q : ja_Q} (hG : jG h.1) (hW : jW w g n h.2.1) (hT : h.2.1 1 9 = (T : Int)) (hT6 : T ≤ 6) (hP : ∀ t, t < T → wfP (A t) (K t) (N t) (C t) (Dp t) ∧ cPg t (A t) (K t) (N t) (C t) h.2.1) (hl : ∀ r : Int, 0 ≤ r → r ≤ 4 → l99 (jpx h w g (5 + 2 * r.toNat)))
    (q1 : ¬ ((0 ≤ p ∧ p ≤ 4) ∧ (0 ≤ s ∧ s ≤ 4) ∧ -2 ≤ i) → Q (some (.inl (-1))) h)
    (q : (0 ≤ p ∧ p ≤ 4) → (0 ≤ s ∧ s ≤ 4) → -2 ≤ i → ∀ R u, jG R → jfr [5 + 2 * p.toNat + 1, 50, 51, 52, 54, 55, 57, 58, 60, 62, 64] h.2.1 u → jpx (R, u, h.2.2) w g (5 + 2 * p.toNat) = jpx h w g (5 + 2 * p.toNat) → Q (some (.inl (stV (DD A K N C (pxC h w g) p w g) T (jpx h w g (5 + 2 * s.toNat)) (jpx h w g (5 + 2 * p.toNat)) i))) (R, u, h.2.2)) : ja_C l (d + 33) mX11_story (js_sh n) [.inr (.inr (some 0)), .inl p, .inl s, .inl i] h Q := by
  have hS := jS1_of hG hW
  refine eX11_story _ _ _ _ fun _ _ _ _ => ?_
  unfold bX11_story
  refine jt_sR (jr_m1 (jr_g (jr_lr rfl) rfl (jG_at hG rfl)) rfl (jv_li rfl) fun _ => kX8_picture hS) ?_
  refine jt_sR (jr_m1 (jr_g (jr_lr rfl) rfl (jG_at hG rfl)) rfl (jv_li rfl) fun _ => kX8_picture hS) ?_
  by_cases c : 0 ≤ p ∧ p ≤ 4
  · have e : jS_p 1 p = some (5 + 2 * p.toNat) := by unfold jS_p; rw [if_pos c]
    rw [e]
    by_cases c2 : 0 ≤ s ∧ s ≤ 4
    · have e2 : jS_p 1 s = some (5 + 2 * s.toNat) := by unfold jS_p; rw [if_pos c2]
      rw [e2]
      refine jb_if_d (φ := i < -2) (jd_eq (jd_or (jd_or (jd_isn (jr_lr rfl)) (fun _ => jd_isn (jr_lr rfl))) (fun _ => jd_lt (jv_li rfl) jv_ci)) (by simp)) (fun z => ?_) (fun z => ?_)
      · exact jt_rI jv_ci (q1 fun y => absurd y.2.2 (by omega))
      · have hi : -2 ≤ i := by omega
        have hc : tC (5 + 2 * p.toNat) (5 + 2 * s.toNat) T p A K N C Dp (pxC h w g) := by
          refine ⟨c, rfl, ⟨s.toNat, by omega, rfl⟩, hT6, fun t ht => (hP t ht).1, fun r => ?_, fun r hr => ?_⟩
          · unfold pxC
            split
            · rename_i y; exact hl r y.1 y.2
            · exact fun _ _ => ⟨Int.le_refl 0, show (0 : Int) ≤ 99 by decide⟩
          · unfold pxC
            rw [if_neg hr]
        refine jx_m (jr_g (jr_lr rfl) rfl (jG_at hG rfl)) rfl (jA_r (jA_r (jA_r (jA_r (jA_r jA_0 (jr_lr rfl)) (jr_lr rfl)) (jr_g (jr_lr rfl) rfl (jG_at hG rfl))) (jr_g (jr_lr rfl) rfl (jG_at hG rfl))) (jr_g (jr_lr rfl) rfl (jG_at hG rfl))) (kX9_findShortest hc hG hW hT (fun t ht => (hP t ht).2) rfl rfl (fun r h0 h4 _ => by unfold pxC; rw [if_pos ⟨h0, h4⟩]) (hl p c.1 c.2) fun R u hG2 fr hk2 hF => ⟨rfl, ?_⟩)
        have q := q c c2 hi R u hG2 fr hk2
        rcases hF with ⟨m, hm, h0, h1, u8, u9, u58⟩ | ⟨h0, u8⟩
        · rw [stV_m hm h0 h1] at q
          refine jb_if_d (φ := False) (jd_eq (jd_eqI (jv_gF (jr_g (jr_lr rfl) rfl (jG_at hG2 rfl)) rfl u8) jv_ci) (by simp)) (fun y => y.elim) (fun _ => ?_)
          unfold stW at q
          refine jb_if_d (jd_eqI (jv_li rfl) jv_ci) (fun y => ?_) (fun y => ?_)
          · rw [if_pos y] at q
            exact jt_rI (jv_gF (jr_g (jr_lr rfl) rfl (jG_at hG2 rfl)) rfl u9) q
          · rw [if_neg y] at q
            refine jt_rI (x := if i = -1 then (m : Int) else if 0 ≤ i ∧ i < (m : Int) then u 58 i.toNat else -1) (jv_cv (jd_eqI (jv_li rfl) jv_ci) (fun _ => jv_gF (jr_g (jr_lr rfl) rfl (jG_at hG2 rfl)) rfl u8) (fun _ => jy_mI (jr_g (jr_lr rfl) rfl (jG_at hG2 rfl)) rfl (jA_i jA_0 (jv_li rfl)) fun _ => kX9_textOf (h := (R, u, h.2.2)) hG2 u8 (by omega))) ?_
            by_cases z1 : i = -1
            · rw [if_pos z1] at q ⊢
              exact q
            · rw [if_neg z1] at q ⊢
              by_cases z2 : 0 ≤ i ∧ i < (m : Int)
              · rw [if_pos z2] at q ⊢
                rw [u58 _ (by omega)]
                exact q
              · rw [if_neg z2] at q ⊢
                exact q
        · rw [stV_n h0] at q
          refine jb_if_d (φ := True) (jd_eq (jd_eqI (jv_gF (jr_g (jr_lr rfl) rfl (jG_at hG2 rfl)) rfl u8) jv_ci) (by simp)) (fun _ => ?_) (fun y => absurd trivial y)
          exact jt_rI jv_ci q
    · have e2 : jS_p 1 s = none := by unfold jS_p; rw [if_neg c2]
      rw [e2]
      refine jb_if_d (φ := True) (jd_eq (jd_or (ψ := True) (jd_or (jd_isn (jr_lr rfl)) (fun _ => jd_isn (jr_lr rfl))) (fun y => absurd (Or.inr rfl) y)) (by simp)) (fun _ => ?_) (fun y => absurd trivial y)
      exact jt_rI jv_ci (q1 fun y => c2 y.2.1)
  · have e : jS_p 1 p = none := by unfold jS_p; rw [if_neg c]
    rw [e]
    refine jb_if_d (φ := True) (jd_eq (jd_or (ψ := True) (jd_or (ψ := True) (jd_isn (jr_lr rfl)) (fun y => absurd rfl y)) (fun y => absurd (Or.inl rfl) y)) (by simp)) (fun _ => ?_) (fun y => absurd trivial y)
    exact jt_rI jv_ci (q1 fun y => c y.1)
