theorem suC_0 {M : Nat → Int} {s : Nat → Nat} : suC M 0 0 s := Or.inl ⟨rfl, rfl⟩
set_option maxRecDepth 10000 in
theorem kX7_findSuns {l : Launch} {d : Nat} {h : ja_H} {Q : ja_Q} {n : Nat} {v : Int} (hG : jG h.1) (hr : ∀ k, 20 ≤ k → k < 32 → jbt v k = false) (q : ∀ f (c : Int) (s : Nat → Nat), jfr [29, 31, 32, 33] h.2.1 f → suC (fun q => ja_land (h.2.1 30 q) v) v c s → (∀ j : Nat, (j : Int) < c → f 33 (3 - c + j).toNat = ((s j : Nat) : Int)) → Q (some (.inl c)) (h.1, f, h.2.2)) : ja_C l (d + 5) mX7_findSuns (js_sh n) [.inr (.inr (some (29))), .inl (v)] h Q := by
  refine eX7_findSuns _ _ fun r_set ho => ?_
  unfold bX7_findSuns
  unfold ja_r at r_set
  have r_set2 : ja_r v := r_set
  refine jb_if_d (jd_eqI (jv_li rfl) jv_ci) (fun c1 => ?_) (fun c1 => ?_)
  · refine jt_rI jv_ci ?_
    subst c1
    exact q h.2.1 0 (fun _ => 0) (jfr_rf _ _) suC_0 fun j hj => by omega
  · refine jx_m (jr_lr rfl) (by first | rfl | assumption) (jA_i jA_0 (jv_li rfl)) (kX7_gatherKinds hG hr fun f m mo fr fk => ⟨rfl, ?_⟩)
    obtain ⟨s4, s5, smo, sO, sL, sP⟩ := fk
    obtain ⟨M, hM⟩ : ∃ M : Nat → Int, (fun q => ja_land (h.2.1 30 q) v) = M := ⟨_, rfl⟩
    rw [hM] at q sO
    have mN := kd_m sO
    have fr2 : jfr [29, 31, 32, 33] h.2.1 f := jfr_sub fr (by decide)
    have eL : ∀ i, i < m → f 32 i = (((fun i => (f 32 i).toNat) i : Nat) : Int) := fun i hi => by have := sL i hi; dsimp only; omega
    refine jb_if_p (jx_mI (jr_lr rfl) rfl (jA_i (jA_i jA_0 (jv_li rfl)) (jv_is (x' := ((0 : Nat) : Int)) jv_ci rfl)) (kX7_oneLets (h := (h.1, f, h.2.2)) (Km := f 31) (Lm := fun i => (f 32 i).toNat) hG s4 s5 smo mN (fun _ _ => rfl) eL sP r_set2 hr (fun i h1 h2 h3 h4 => ⟨1, rfl, fun _ => ?_⟩) (fun z0 => ⟨0, rfl, fun _ => ?_⟩)))
    · rw [if_neg (by decide)]
      have s1 := su1 sO r_set2 c1 h2 h3 (fun j hj => h4 j (by omega) hj)
      refine jt_rI jv_ci (q _ 1 (fun _ => (f 32 i).toNat) (jfr_up fr2 (by decide)) (Or.inr ⟨c1, Or.inl ⟨rfl, s1.1, s1.2⟩⟩) fun j hj => ?_)
      rw [show j = 0 by omega]
      exact ja_upE rfl rfl
    rw [if_pos rfl]
    have n1 := su1n sO r_set2 c1 (fun j hj => z0 j (by omega) hj)
    refine jb_if_p (jx_mI (jr_lr rfl) rfl (jA_i (jA_i jA_0 (jv_li rfl)) (jv_is (x' := ((0 : Nat) : Int)) jv_ci rfl)) (kX7_twoLet (h := (h.1, f, h.2.2)) (Km := f 31) (Lm := fun i => (f 32 i).toNat) hG s4 s5 smo mN (fun _ _ => rfl) eL sP r_set2 hr (fun i j h1 h2 h3 h4 h5 => ⟨1, rfl, fun _ => ?_⟩) (fun z1 => ⟨0, rfl, fun _ => ?_⟩)))
    · rw [if_neg (by decide)]
      have s2 := su2 sO r_set2 n1 h2 h3 h4 (fun a b g1 g2 g3 => h5 a b (by omega) g1 g2 g3)
      refine jt_rI jv_ci (q _ 2 (fun a => if a = 0 then (f 32 i).toNat else (f 32 j).toNat) (jfr_up (jfr_up fr2 (by decide)) (by decide)) (Or.inr ⟨c1, Or.inr ⟨n1, Or.inl ⟨rfl, s2.1, s2.2⟩⟩⟩) fun a h1 => ?_)
      rcases (show a = 0 ∨ a = 1 by omega) with y | y <;> subst y
      · exact ja_upE rfl rfl
      · show ja_up _ 33 1 _ 33 2 = _
        rw [ja_upO (by omega)]; exact ja_upE rfl rfl
    rw [if_pos rfl]
    have n2 := su2n sO r_set2 n1 (fun a b g1 g2 => z1 a b (by omega) g1 g2)
    refine jb_cv_p (jx_mI (jr_lr rfl) rfl (jA_i jA_0 (jv_li rfl)) (kX7_threeLet (h := (h.1, f, h.2.2)) (Km := f 31) (Lm := fun i => (f 32 i).toNat) hG s4 s5 smo mN (fun _ _ => rfl) eL sP r_set2 hr (fun i j k h1 h2 h3 h4 h5 => ⟨1, rfl, fun _ => ?_⟩) (fun z2 => ⟨0, rfl, fun _ => ?_⟩)))
    · rw [if_neg (by decide)]
      have s3 := su3 sO r_set2 n2 h1 h2 h3 h4 h5
      refine q _ 3 (fun a => if a = 0 then (f 32 i).toNat else if a = 1 then (f 32 j).toNat else (f 32 k).toNat) (jfr_up (jfr_up (jfr_up fr2 (by decide)) (by decide)) (by decide)) (Or.inr ⟨c1, Or.inr ⟨n1, Or.inr ⟨n2, Or.inl ⟨rfl, s3.1, s3.2⟩⟩⟩⟩) fun a h1 => ?_
      rcases (show a = 0 ∨ a = 1 ∨ a = 2 by omega) with y | y | y <;> subst y
      · exact ja_upE rfl rfl
      · show ja_up _ 33 0 _ 33 1 = _
        rw [ja_upO (by omega)]; exact ja_upE rfl rfl
      · show ja_up _ 33 0 _ 33 2 = _
        rw [ja_upO (by omega), ja_upO (by omega)]; exact ja_upE rfl rfl
    · rw [if_pos rfl]
      have n3 := su3n sO r_set2 n2 z2
      exact q f (-1) (fun _ => 0) fr2 (Or.inr ⟨c1, Or.inr ⟨n1, Or.inr ⟨n2, Or.inr ⟨rfl, n3⟩⟩⟩⟩) fun a h1 => by omega
