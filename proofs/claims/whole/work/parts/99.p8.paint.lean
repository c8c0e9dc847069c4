/-- what is read of acts: (fault, token, acts, kinds, numbers, code) -/
abbrev acR := Int × Nat × Nat × (Nat → Int) × (Nat → Int) × List Int
def acG (n : Nat) (T : Nat → Int) (Ln P : Nat) (F Fp : Int) (r : acR) (I : Nat → Nat → Int) (h : ja_H) : Prop := acF P I h.2.1 ∧ acS n T Ln P r.2.1 r.2.2.1 r.2.2.2.1 r.2.2.2.2.1 r.2.2.2.2.2 (if r.1 = 0 then F else r.1) (if r.1 = 0 then Fp else (r.2.1 : Int)) h
def ptR (T : Nat → Int) (Ln k b o s A : Nat) (K N : Nat → Int) (cl : List Int) : acR :=
  let r := nms T Ln b [(0, 0, 99), (0 + 1, 0, 99), (0 + 2, 1, 99), (0 + 3, 1, 99)] s N
  let p := prs T Ln k 2 o r.2.1
  if r.1 = 0 then
    (if p.1 = 0 then (if tkK T Ln p.2.1 = 59 then (0, nxS T Ln p.2.1, A, K, upF (upF r.2.2 (b + 4) (cl.length : Int)) (b + 5) ((cl ++ p.2.2).length : Int), cl ++ p.2.2) else (1, p.2.1, A, K, upF (upF r.2.2 (b + 4) (cl.length : Int)) (b + 5) ((cl ++ p.2.2).length : Int), cl ++ p.2.2))
    else (p.1, p.2.1, A, K, upF r.2.2 (b + 4) (cl.length : Int), cl ++ p.2.2))
  else (r.1, r.2.1, A, K, r.2.2, cl)
set_option maxRecDepth 10000 in
theorem kX5_readPaint {l : Launch} {d n Ln P s A a o k : Nat} {T K N : Nat → Int} {cl : List Int} {F Fp : Int} {h : ja_H} {Q : ja_Q} (hA : acS n T Ln P s A K N cl F Fp h) (ha : a < 16) (hcl : cl.length ≤ s) (ho8 : o ≤ 8) (hk : 6 * Ln + 3 ≤ k) (hD : 4 * (8 - o) ≤ d) (q : ∀ r : acR, r = ptR T Ln k (7 * a) o s A K N cl → ∀ f, acG n T Ln P F Fp r h.2.1 (h.1, f, h.2.2) → Q (some (.inl (if r.1 = 0 then 1 else 0))) (h.1, f, h.2.2)) : ja_C l (d + 11) mX5_readPaint (js_sh n) [.inr (.inr (some 48)), .inl (a : Int), .inl (o : Int)] h Q := by
  obtain ⟨⟨hG, hg, h6, hP⟩, ⟨_, hL3, _, hb⟩, hs, _, _⟩ := id hA.1
  unfold ptR at q
  dsimp only at q
  have nb := nms_b (T := T) (Ln := Ln) (b := 7 * a) [(0, 0, 99), (0 + 1, 0, 99), (0 + 2, 1, 99), (0 + 3, 1, 99)] s N hs
  refine eX5_readPaint _ _ _ fun _ _ ho => ?_
  unfold bX5_readPaint
  refine jb_if_p ?_
  refine jx_mI (jr_lr rfl) rfl (jA_i (jA_i jA_0 (jv_li rfl)) jv_ci) (kX5_readField hA ha (t := 0) (by omega) rfl (fun r1 er1 f1 w1 => ⟨_, rfl, fun _ => ?_⟩))
  rw [← er1] at q nb
  by_cases e1 : r1.1 = 0
  · rw [if_pos e1, if_neg (by decide)]
    simp only [if_pos e1] at q
    have hA1 := acN_S w1 e1
    refine jx_m (jr_g (jr_lr rfl) rfl h6) hg.1 (jA_i (jA_i (jA_i jA_0 (jv_li rfl)) jv_ci) (jv_gF (jr_g (jr_lr rfl) rfl h6) hg.1 hA1.1.2.2.2.2)) (kX4_setNumber (h := (h.1, f1, h.2.2)) (s := 4) hg ha (by omega) ⟨rfl, ?_⟩)
    obtain ⟨v1, hA2⟩ := ac_num (i := 7 * a + 4) (v := (cl.length : Int)) hA1
    dsimp only at v1 hA2 ⊢
    generalize ja_up f1 (P + 2) (7 * a + 4) (cl.length : Int) = f2 at v1 hA2 ⊢
    refine jb_if_p ?_
    have pb := prs_b (T := T) (Ln := Ln) k 2 o r1.2.1 nb.2
    refine jx_mI (jr_lr rfl) rfl (jA_i jA_0 (jv_li rfl)) ((kX5_reads k).2.2 hA2.1 (by omega) ho8 (by omega) (by omega) (fun f3 p3 => ⟨_, rfl, fun _ => ?_⟩))
    have w3 := ac_rd hA2 rfl p3 pb.2.1
    dsimp only at w3
    have fr3 := acF_tr w1.1 (acF_tr v1 w3.1)
    generalize prs T Ln k 2 o r1.2.1 = p at q pb p3 w3 ⊢
    by_cases e2 : p.1 = 0
    · rw [if_pos e2, if_neg (by decide)]
      simp only [if_pos e2] at q w3
      have hA3 := w3.2
      refine jx_m (jr_g (jr_lr rfl) rfl h6) hg.1 (jA_i (jA_i (jA_i jA_0 (jv_li rfl)) jv_ci) (jv_gF (jr_g (jr_lr rfl) rfl h6) hg.1 hA3.1.2.2.2.2)) (kX4_setNumber (h := (h.1, f3, h.2.2)) (s := 5) hg ha (by omega) ⟨rfl, ?_⟩)
      obtain ⟨v4, hA4⟩ := ac_num (i := 7 * a + 5) (v := ((cl ++ p.2.2).length : Int)) hA3
      dsimp only at v4 hA4 ⊢
      generalize ja_up f3 (P + 2) (7 * a + 5) ((cl ++ p.2.2).length : Int) = f4 at v4 hA4 ⊢
      refine jx_mI (jr_lr rfl) rfl (jA_i jA_0 jv_ci) (kX5_passN hA4 (fun r er f5 w5 => ⟨_, rfl, fun _ => ?_⟩))
      unfold nmP at er
      rw [if_pos rfl] at er
      dsimp only at er
      by_cases e3 : tkK T Ln p.2.1 = 59
      · simp only [if_pos e3] at q er
        subst er
        exact ⟨Or.inr rfl, q _ rfl f5 ⟨acF_tr fr3 (acF_tr v4 w5.1), w5.2⟩⟩
      · simp only [if_neg e3] at q er
        subst er
        exact ⟨Or.inl rfl, q _ rfl f5 ⟨acF_tr fr3 (acF_tr v4 w5.1), w5.2⟩⟩
    · rw [if_neg e2, if_pos rfl]
      simp only [if_neg e2] at q
      have w := q _ rfl f3 ⟨fr3, w3.2⟩
      rw [if_neg e2] at w
      exact jv_ci _ ⟨Or.inl rfl, w⟩
  · rw [if_neg e1, if_pos rfl]
    simp only [if_neg e1] at q
    have w := q _ rfl f1 w1
    rw [if_neg e1] at w
    exact jv_ci _ ⟨Or.inl rfl, w⟩
