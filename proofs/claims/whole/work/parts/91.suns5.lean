theorem jb_eff {c : ja_EC} {b : ja_T} {N B C : ja_P} {R : ja_Q} {L : ja_L} {h : ja_H} (I : Nat → ja_P) (Fp : ja_P) (h0 : ∃ m, I m L h)
    (hs : ∀ m L h, I m L h → c (b (fun L' h' => ∃ m', m' < m ∧ I m' L' h') N (fun L' h' => ∃ m', m' < m ∧ I m' L' h') R) Fp L h) (hf : ∀ L h, Fp L h → N L h) : jb_lp c b jb_sk N B C R L h :=
  ⟨I, h0, fun m L h hI => ⟨_, _, _, hs m L h hI, fun _ _ q => q, fun _ _ w => w, hf⟩⟩
/-- after n tries of the reference's suns -/
def suT (M : Nat → Int) (v : Int) (n : Nat) : Prop := (1 ≤ n → v ≠ 0) ∧ (2 ≤ n → ∀ q, ¬ S1 M v q) ∧ (3 ≤ n → ∀ q r, ¬ S2 M v q r) ∧ (4 ≤ n → ∀ q r t, ¬ S3 M v q r t)
set_option maxRecDepth 10000 in
theorem kX12_areEnough0 {l : Launch} {d : Nat} {h : ja_H} {Q : ja_Q} {n : Nat} {v : Int} (q : Q (some (.inl (if v = 0 then 1 else 0))) h) : ja_C l (d + 1) mX12_areEnough (js_sh n) [.inr (.inr (some (90))), .inl (v), .inl (0)] h Q := by
  refine eX12_areEnough _ _ _ fun r_set r_n ho => ?_
  unfold bX12_areEnough
  unfold ja_r at r_set r_n
  refine jb_if_d (jd_eqI (jv_li rfl) jv_ci) (fun c1 => ?_) (fun c1 => ?_)
  · refine jt_rZ (jv_cb (jd_eqI (jv_li rfl) jv_ci)) ?_
    exact q
  · exact absurd rfl c1
set_option maxRecDepth 10000 in
theorem kX12_suns {l : Launch} {d : Nat} {h : ja_H} {Q : ja_Q} {n s t : Nat} {a : Nat → Int} {v i0 : Int} (hG : jG h.1) (ha : h.2.1 91 = a) (hs : a 0 = (s : Int)) (ht : a 1 = (t : Int)) (hs2 : s ≤ 12) (ht2 : t ≤ 8) (o1 : ∀ k, k < s → shOk a k) (o2 : ∀ k, k < t → 0 ≤ a (820 + k) ∧ a (820 + k) ≤ 7) (q1 : jtd s t v ∧ -1 ≤ i0 ∧ i0 ≤ 2 → ∀ f z, jfr [94, 95] h.2.1 f → suO (fun q : Nat => lvN a v (q : Int) s t) v i0 z → Q (some (.inl z)) (h.1, f, h.2.2)) (q2 : ¬ (jtd s t v ∧ -1 ≤ i0 ∧ i0 ≤ 2) → Q (some (.inl (-1))) h) : ja_C l (d + 5) mX12_suns (js_sh n) [.inr (.inr (some (90))), .inl (v), .inl (i0)] h Q := by
  refine eX12_suns _ _ _ fun r_set r_i ho => ?_
  unfold bX12_suns
  unfold ja_r at r_set r_i
  refine jb_if_d (φ := ¬ (jtd s t v ∧ -1 ≤ i0 ∧ i0 ≤ 2)) (jd_eq (jd_or (jd_not (jd_b (jy_mI (jr_lr rfl) (by first | rfl | assumption) (jA_i jA_0 (jv_li rfl)) fun _ => kX12_areSigns hG ha hs ht hs2 ht2))) (fun _ => (jd_not (jd_b (jy_sI (jA_i (jA_i (jA_i jA_0 (jv_li rfl)) jv_ci) jv_ci) fun _ => kX12_isIn))))) (by exact or_w)) (fun c1 => ?_) (fun c1 => ?_)
  · refine jt_rI jv_ci ?_
    exact q2 c1
  · have c1 := Classical.not_not.mp c1
    have q := q1 c1
    obtain ⟨ctd, ci⟩ := id c1
    obtain ⟨M, hMe⟩ : ∃ M : Nat → Int, (fun q : Nat => lvN a v (q : Int) s t) = M := ⟨_, rfl⟩
    rw [hMe] at q
    refine jx_m (jr_lr rfl) (by first | rfl | assumption) (jA_i jA_0 (jv_li rfl)) (kX12_findLets hG ha hs ht hs2 ht2 o1 o2 fun f0 fr0 fM0 => ⟨rfl, ?_⟩)
    have fM : ∀ q, q < 726 → f0 94 q = M q := fun q hq => by rw [← hMe]; exact fM0 q hq
    refine jt_sI jv_ci ?_
    refine jb_eff (fun m L' h' => ∃ (n : Nat) (f : Nat → Nat → Int), L' = [some (.inr (.inr (some 90))), some (.inl v), some (.inl i0), some (.inl ((n : Nat) : Int))] ∧ h' = (h.1, f, h.2.2) ∧ jfr [94, 95] h.2.1 f ∧ n + m = 4 ∧ (∀ q, q < 726 → f 94 q = M q) ∧ suT M v n) (fun L' h' => ∃ (n : Nat) (f : Nat → Nat → Int), L' = [some (.inr (.inr (some 90))), some (.inl v), some (.inl i0), some (.inl ((n : Nat) : Int))] ∧ h' = (h.1, f, h.2.2) ∧ jfr [94, 95] h.2.1 f ∧ ((n = 4 ∧ suC M v (-1) (fun _ => 0)) ∨ ∃ c : Nat, c ≤ 3 ∧ ∃ s : Nat → Nat, suC M v c s ∧ (∀ j, j < c → f 95 j = ((s j : Nat) : Int)) ∧ n = c)) ⟨4, 0, f0, rfl, rfl, jfr_sub fr0 (by decide), rfl, fM, ⟨fun w => absurd w (by decide), fun w => absurd w (by decide), fun w => absurd w (by decide), fun w => absurd w (by decide)⟩⟩ ?_ ?_
    · rintro m _ _ ⟨n, f, rfl, rfl, fr, hnm, hM, T⟩
      rcases (show (n = 0 ∧ m = 4) ∨ (n = 1 ∧ m = 3) ∨ (n = 2 ∧ m = 2) ∨ (n = 3 ∧ m = 1) ∨ (n = 4 ∧ m = 0) by omega) with ⟨rfl, rfl⟩ | ⟨rfl, rfl⟩ | ⟨rfl, rfl⟩ | ⟨rfl, rfl⟩ | ⟨rfl, rfl⟩
      · refine jd_lt (jv_li rfl) jv_ci _ _ (fun _ => ?_) (fun w => absurd w (by decide))
        refine (jx_mI (jr_lr rfl) rfl (jA_i (jA_i jA_0 (jv_li rfl)) (jv_li rfl)) (kX12_areEnough0 (h := (h.1, f, h.2.2)) ⟨_, rfl, fun _ => ?_⟩))
        by_cases v0 : v = 0
        · rw [if_pos v0, if_neg (by decide)]
          exact ⟨0, f, rfl, rfl, fr, Or.inr ⟨0, by decide, fun _ => 0, Or.inl ⟨rfl, v0⟩, fun j hj => absurd hj (Nat.not_lt_zero j), rfl⟩⟩
        · rw [if_neg v0, if_pos rfl]
          exact jt_inc rfl (by unfold ja_r; omega) ⟨3, by omega, 1, f, rfl, rfl, fr, by omega, hM, ⟨fun _ => v0, fun w => absurd w (by decide), fun w => absurd w (by decide), fun w => absurd w (by decide)⟩⟩
      · refine jd_lt (jv_li rfl) jv_ci _ _ (fun _ => ?_) (fun w => absurd w (by decide))
        refine (jx_mI (jr_lr rfl) rfl (jA_i (jA_i jA_0 (jv_li rfl)) (jv_li rfl)) (kX12_areEnough1 (h := (h.1, f, h.2.2)) (M := M) hG hM (fun g x g1 s1 s2 e0 => ⟨1, rfl, fun _ => ?_⟩) (fun no g g1 => ⟨0, rfl, fun _ => ?_⟩)))
        · rw [if_neg (by decide)]
          exact ⟨1, g, rfl, rfl, jfr_tr fr (jfr_sub g1 (by decide)), Or.inr ⟨1, by decide, fun _ => x, Or.inr ⟨T.1 (by decide), Or.inl ⟨rfl, s1, s2⟩⟩, fun j hj => match j, hj with | 0, _ => e0 | k + 1, w => absurd w (by omega), rfl⟩⟩
        · rw [if_pos rfl]
          exact jt_inc rfl (by unfold ja_r; omega) ⟨2, by omega, 2, g, rfl, rfl, jfr_tr fr (jfr_sub g1 (by decide)), by omega, fun q hq => by rw [g1 94 (by decide)]; exact hM q hq, ⟨fun _ => T.1 (by decide), fun _ => no, fun w => absurd w (by decide), fun w => absurd w (by decide)⟩⟩
      · refine jd_lt (jv_li rfl) jv_ci _ _ (fun _ => ?_) (fun w => absurd w (by decide))
        refine (jx_mI (jr_lr rfl) rfl (jA_i (jA_i jA_0 (jv_li rfl)) (jv_li rfl)) (kX12_areEnough2 (h := (h.1, f, h.2.2)) (M := M) hG hM (fun g x y g1 s1 s2 e0 e1 => ⟨1, rfl, fun _ => ?_⟩) (fun no g g1 => ⟨0, rfl, fun _ => ?_⟩)))
        · rw [if_neg (by decide)]
          exact ⟨2, g, rfl, rfl, jfr_tr fr (jfr_sub g1 (by decide)), Or.inr ⟨2, by decide, fun j => if j = 0 then x else y, Or.inr ⟨T.1 (by decide), Or.inr ⟨T.2.1 (by decide), Or.inl ⟨rfl, s1, s2⟩⟩⟩, fun j hj => match j, hj with | 0, _ => e0 | 1, _ => e1 | k + 2, w => absurd w (by omega), rfl⟩⟩
        · rw [if_pos rfl]
          exact jt_inc rfl (by unfold ja_r; omega) ⟨1, by omega, 3, g, rfl, rfl, jfr_tr fr (jfr_sub g1 (by decide)), by omega, fun q hq => by rw [g1 94 (by decide)]; exact hM q hq, ⟨fun _ => T.1 (by decide), fun _ => T.2.1 (by decide), fun _ => no, fun w => absurd w (by decide)⟩⟩
      · refine jd_lt (jv_li rfl) jv_ci _ _ (fun _ => ?_) (fun w => absurd w (by decide))
        refine (jx_mI (jr_lr rfl) rfl (jA_i (jA_i jA_0 (jv_li rfl)) (jv_li rfl)) (kX12_areEnough3 (h := (h.1, f, h.2.2)) (M := M) hG hM (fun g x y z g1 s1 s2 e0 e1 e2 => ⟨1, rfl, fun _ => ?_⟩) (fun no g g1 => ⟨0, rfl, fun _ => ?_⟩)))
        · rw [if_neg (by decide)]
          exact ⟨3, g, rfl, rfl, jfr_tr fr (jfr_sub g1 (by decide)), Or.inr ⟨3, by decide, fun j => if j = 0 then x else if j = 1 then y else z, Or.inr ⟨T.1 (by decide), Or.inr ⟨T.2.1 (by decide), Or.inr ⟨T.2.2.1 (by decide), Or.inl ⟨rfl, s1, s2⟩⟩⟩⟩, fun j hj => match j, hj with | 0, _ => e0 | 1, _ => e1 | 2, _ => e2 | k + 3, w => absurd w (by omega), rfl⟩⟩
        · rw [if_pos rfl]
          exact jt_inc rfl (by unfold ja_r; omega) ⟨0, by omega, 4, g, rfl, rfl, jfr_tr fr (jfr_sub g1 (by decide)), by omega, fun q hq => by rw [g1 94 (by decide)]; exact hM q hq, ⟨fun _ => T.1 (by decide), fun _ => T.2.1 (by decide), fun _ => T.2.2.1 (by decide), fun _ => no⟩⟩
      · refine jd_lt (jv_li rfl) jv_ci _ _ (fun w => absurd w (by decide)) (fun _ => ?_)
        exact ⟨4, f, rfl, rfl, fr, Or.inl ⟨rfl, Or.inr ⟨T.1 (by decide), Or.inr ⟨T.2.1 (by decide), Or.inr ⟨T.2.2.1 (by decide), Or.inr ⟨rfl, T.2.2.2 (by decide)⟩⟩⟩⟩⟩⟩
    rintro _ _ ⟨n, f, rfl, rfl, fr, hn⟩
    refine jb_if_d (jd_eqI (jv_li rfl) jv_ci) (fun c2 => ?_) (fun c2 => ?_)
    · have hc : suC M v (-1) (fun _ => 0) := by
        rcases hn with ⟨-, w⟩ | ⟨c, hc, s', w1, w2, w3⟩
        · exact w
        · omega
      refine jt_rI jv_ci ?_
      refine q f _ fr ⟨-1, _, hc, ?_⟩
      split
      · rfl
      · rw [if_neg (by omega)]
    · have hc : ∃ s', suC M v (n : Int) s' ∧ n ≤ 3 ∧ ∀ j, j < n → f 95 j = ((s' j : Nat) : Int) := by
        rcases hn with ⟨w, -⟩ | ⟨c, hc, s', w1, w2, w3⟩
        · omega
        · subst w3; exact ⟨s', w1, hc, w2⟩
      obtain ⟨su, hsu, n3, hf⟩ := hc
      have cb := suC_b hsu
      by_cases i1 : i0 = -1
      · refine jt_rI (x := (n : Int)) (jv_is (jv_cv (φ := i0 = -1) (y := 0) (jd_eqI (jv_li rfl) jv_ci) (fun _ => (jv_li rfl)) (fun y => absurd i1 y)) (if_pos i1)) ?_
        exact q f _ fr ⟨_, su, hsu, by rw [if_pos i1]⟩
      · by_cases ic : i0 < (n : Int)
        · obtain ⟨j, hj⟩ : ∃ j : Nat, i0 = (j : Int) := ⟨i0.toNat, by omega⟩
          have e : f 95 i0.toNat = ((su j : Nat) : Int) := by rw [hj]; exact hf j (by omega)
          have b := cb.2 j (by omega)
          refine jt_rI (x := ltold (su j)) (jv_is (jv_cv (φ := i0 = -1) (x := 0) (jd_eqI (jv_li rfl) jv_ci) (fun y => absurd y i1) (fun _ => (jv_is (x' := ltold (su j)) (jv_cv (φ := i0 < (n : Int)) (y := 0) (jd_lt (jv_li rfl) (jv_li rfl)) (fun _ => (jy_sI (jA_i jA_0 (jv_fI (jr_g (jr_lr rfl) rfl (jG_90 hG rfl)) (jv_li rfl) rfl (by omega) (by omega) e)) fun _ => kX12_told (by omega))) (fun y => absurd ic y)) (if_pos ic)))) (if_neg i1)) ?_
          exact q f _ fr ⟨_, su, hsu, by rw [if_neg i1, if_pos ic, hj, Int.toNat_natCast]⟩
        · refine jt_rI (x := -1) (jv_is (jv_cv (φ := i0 = -1) (x := 0) (jd_eqI (jv_li rfl) jv_ci) (fun y => absurd y i1) (fun _ => (jv_is (x' := -1) (jv_cv (φ := i0 < (n : Int)) (x := 0) (jd_lt (jv_li rfl) (jv_li rfl)) (fun y => absurd y ic) (fun _ => jv_ci)) (if_neg ic)))) (if_neg i1)) ?_
          exact q f _ fr ⟨_, su, hsu, by rw [if_neg i1, if_neg ic]⟩
