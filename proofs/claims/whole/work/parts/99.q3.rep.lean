/-- what a repeat reads behind its word; f reads its acts -/
def rpR (T : Nat → Int) (Ln A o s : Nat) (K N : Nat → Int) (cl : List Int) (f : Nat → (Nat → Int) → acR) : acR :=
  let r := nms T Ln (7 * A) [(0, 1, 9)] s N
  if r.1 = 0 then
    if tkK T Ln r.2.1 = 123 then
      if 8 ≤ o then (3, r.2.1, A + 1, K, r.2.2, cl)
      else
        let z := f (nxS T Ln r.2.1) r.2.2
        if z.1 = 0 then
          (if tkK T Ln z.2.1 = 125 then (0, nxS T Ln z.2.1, z.2.2.1, z.2.2.2.1, upF z.2.2.2.2.1 (7 * A + 1) (z.2.2.1 : Int), z.2.2.2.2.2) else (1, z.2.1, z.2.2.1, z.2.2.2.1, upF z.2.2.2.2.1 (7 * A + 1) (z.2.2.1 : Int), z.2.2.2.2.2))
        else z
    else (1, r.2.1, A + 1, K, r.2.2, cl)
  else (r.1, r.2.1, A + 1, K, r.2.2, cl)
def esg (b : Int) : Int := if b ≠ 0 then 125 else 0
def jAs (l : Launch) (n : Nat) (T : Nat → Int) (Ln P kf k : Nat) : Prop := ∀ {D s A o : Nat} {b : Int} {K N : Nat → Int} {cl : List Int} {F Fp : Int} {h : ja_H} {Q : ja_Q}, acS n T Ln P s A K N cl F Fp h → cl.length ≤ s → o ≤ 8 → 2 * (Ln - s) + 2 ≤ k → 4 * (8 - o) + 13 ≤ D → (∀ r : acR, r = acs T Ln kf k 1 o (esg b) s A K N cl → ∀ f, acG n T Ln P F Fp r h.2.1 (h.1, f, h.2.2) → Q (some (.inl (if r.1 = 0 then 1 else 0))) (h.1, f, h.2.2)) → ja_C l D mX5_readActs (js_sh n) [.inr (.inr (some 48)), .inl (o : Int), .inl b] h Q
def jAc (l : Launch) (n : Nat) (T : Nat → Int) (Ln P kf k : Nat) : Prop := ∀ {D s A o : Nat} {K N : Nat → Int} {cl : List Int} {F Fp : Int} {h : ja_H} {Q : ja_Q}, acS n T Ln P s A K N cl F Fp h → cl.length ≤ s → o ≤ 8 → 2 * (Ln - s) + 1 ≤ k → 4 * (8 - o) + 12 ≤ D → (∀ r : acR, r = acs T Ln kf k 0 o 0 s A K N cl → ∀ f, acG n T Ln P F Fp r h.2.1 (h.1, f, h.2.2) → Q (some (.inl (if r.1 = 0 then 1 else 0))) (h.1, f, h.2.2)) → ja_C l D mX5_readAct (js_sh n) [.inr (.inr (some 48)), .inl (o : Int)] h Q
theorem acG_S {n Ln P : Nat} {T : Nat → Int} {F Fp : Int} {r : acR} {I : Nat → Nat → Int} {h : ja_H} (w : acG n T Ln P F Fp r I h) (e : r.1 = 0) : acS n T Ln P r.2.1 r.2.2.1 r.2.2.2.1 r.2.2.2.2.1 r.2.2.2.2.2 F Fp h := by
  have := w.2
  rw [if_pos e, if_pos e] at this
  exact this
theorem acG_tr {n Ln P : Nat} {T : Nat → Int} {F Fp : Int} {r : acR} {I f : Nat → Nat → Int} {h : ja_H} (a : acF P I f) (w : acG n T Ln P F Fp r f h) : acG n T Ln P F Fp r I h := ⟨acF_tr a w.1, w.2⟩
set_option maxRecDepth 10000 in
theorem kX5_readRepeat {l : Launch} {d n Ln P s A o k kf : Nat} {T K N : Nat → Int} {cl : List Int} {F Fp : Int} {h : ja_H} {Q : ja_Q} (hA : acS n T Ln P s (A + 1) K N cl F Fp h) (hcl : cl.length ≤ s) (ho8 : o ≤ 8) (ih : jAs l n T Ln P kf k) (hf : 2 * (Ln - s) ≤ k) (hD : 4 * (8 - o) ≤ d) (q : ∀ r : acR, r = rpR T Ln A o s K N cl (fun t M => acs T Ln kf k 1 (o + 1) 125 t (A + 1) K M cl) → ∀ f, acG n T Ln P F Fp r h.2.1 (h.1, f, h.2.2) → Q (some (.inl (if r.1 = 0 then 1 else 0))) (h.1, f, h.2.2)) : ja_C l (d + 11) mX5_readRepeat (js_sh n) [.inr (.inr (some 48)), .inl (A : Int), .inl (o : Int)] h Q := by
  obtain ⟨⟨hG, hg, h6, hP⟩, ⟨_, hL3, _, hb⟩, hs, _, _⟩ := id hA.1
  have ha : A < 16 := by have := hA.2.1.2.1; omega
  have nb0 := nms_b (T := T) (Ln := Ln) (b := 7 * A) [(0, 1, 9)] s N hs
  unfold rpR at q
  dsimp only at q
  refine eX5_readRepeat _ _ _ fun _ ro ho => ?_
  unfold bX5_readRepeat
  refine jb_if_p ?_
  refine jx_mI (jr_lr rfl) rfl (jA_i (jA_i (jA_i (jA_i jA_0 (jv_li rfl)) jv_ci) jv_ci) jv_ci) (kX5_readNm hA ha (t := 0) (by omega) rfl (fun f1 w1 => ⟨_, rfl, fun _ => ?_⟩))
  generalize nms T Ln (7 * A) [(0, 1, 9)] s N = r1 at w1 q nb0 ⊢
  by_cases e1 : r1.1 = 0
  · rw [if_pos e1, if_neg (by decide)]
    simp only [if_pos e1] at q
    have hA1 := acN_S w1 e1
    have nb := nxS_b (T := T) nb0.2
    refine jx_mI (jr_lr rfl) rfl (jA_i (jA_i jA_0 jv_ci) (jv_li rfl)) (kX5_passOpening hA1.1 (fun y o8 f2 p2 => ⟨_, rfl, fun _ => ?_⟩) (fun y f2 p2 => ⟨_, rfl, fun _ => ?_⟩) (fun y o8 f2 p2 => ⟨_, rfl, fun _ => ?_⟩))
    · rw [if_neg (by decide)]
      have sl := nb.2.2 (tkK_0 (T := T) (by omega))
      simp only [if_pos y, if_neg (Nat.not_le.mpr o8)] at q
      have w2 := ac_rd hA1 rfl p2 nb.2.1
      simp only [List.append_nil] at w2
      try dsimp only at w2
      have hA2 : acS n T Ln P (nxS T Ln r1.2.1) (A + 1) K r1.2.2 cl F Fp (h.1, f2, h.2.2) := w2.2
      refine jb_if_p ?_
      refine jx_mI (jr_lr rfl) rfl (jA_i (jA_i jA_0 (jv_is (x' := ((o + 1 : Nat) : Int)) (jv_w (jv_add (jv_li rfl) jv_ci) (by unfold ja_r; omega)) (by omega))) jv_ci) (ih (b := 1) hA2 (by omega) (by omega) (by omega) (by omega) (fun z ez f3 w3 => ⟨_, rfl, fun _ => ?_⟩))
      have zb := acs_b (T := T) (Ln := Ln) (kf := kf) k 1 (o + 1) 125 (nxS T Ln r1.2.1) (A + 1) K r1.2.2 cl nb.2.1 (by omega) (by omega)
      rw [show esg 1 = 125 from rfl] at ez
      rw [← ez] at q zb
      by_cases e2 : z.1 = 0
      · rw [if_pos e2, if_neg (by decide)]
        simp only [if_pos e2] at q
        have hA3 := acG_S w3 e2
        refine jx_m (jr_g (jr_lr rfl) rfl h6) hg.1 (jA_i (jA_i (jA_i jA_0 (jv_li rfl)) jv_ci) (jv_gF (jr_g (jr_lr rfl) rfl h6) hg.1 hA3.2.1.1)) (kX4_setNumber (h := (h.1, f3, h.2.2)) (s := 1) hg ha (by omega) ⟨rfl, ?_⟩)
        obtain ⟨v4, hA4⟩ := ac_num (i := 7 * A + 1) (v := (z.2.2.1 : Int)) hA3
        dsimp only at v4 hA4 ⊢
        generalize ja_up f3 (P + 2) (7 * A + 1) (z.2.2.1 : Int) = f4 at v4 hA4 ⊢
        refine jx_mI (jr_lr rfl) rfl (jA_i jA_0 jv_ci) (kX5_passN hA4 (fun r er f5 w5 => ⟨_, rfl, fun _ => ?_⟩))
        unfold nmP at er
        rw [if_pos rfl] at er
        dsimp only at er
        have fr5 := acF_tr w1.1 (acF_tr w2.1 (acF_tr w3.1 (acF_tr v4 w5.1)))
        by_cases e3 : tkK T Ln z.2.1 = 125
        · simp only [if_pos e3] at q er
          subst er
          exact ⟨Or.inr rfl, q _ rfl f5 ⟨fr5, w5.2⟩⟩
        · simp only [if_neg e3] at q er
          subst er
          exact ⟨Or.inl rfl, q _ rfl f5 ⟨fr5, w5.2⟩⟩
      · rw [if_neg e2, if_pos rfl]
        simp only [if_neg e2] at q
        have w := q _ rfl f3 ⟨acF_tr w1.1 (acF_tr w2.1 w3.1), w3.2⟩
        rw [if_neg e2] at w
        exact jv_ci _ ⟨Or.inl rfl, w⟩
    · rw [if_pos rfl]
      simp only [if_neg y] at q
      have w2 := ac_rd hA1 rfl p2 nb0.2
      simp only [List.append_nil] at w2
      exact jv_ci _ ⟨Or.inl rfl, q _ rfl f2 ⟨acF_tr w1.1 w2.1, w2.2⟩⟩
    · rw [if_pos rfl]
      simp only [if_pos y, if_pos o8] at q
      have w2 := ac_rd hA1 rfl p2 nb0.2
      simp only [List.append_nil] at w2
      exact jv_ci _ ⟨Or.inl rfl, q _ rfl f2 ⟨acF_tr w1.1 w2.1, w2.2⟩⟩
  · rw [if_neg e1, if_pos rfl]
    simp only [if_neg e1] at q
    have w := q _ rfl f1 w1
    rw [if_neg e1] at w
    exact jv_ci _ ⟨Or.inl rfl, w⟩
