/-- the class has program number t as A, K, N, C -/
def cPg (t A : Nat) (K N C : Nat → Int) (f : Nat → Nat → Int) : Prop := f (66 + 4 * t) 3 = (A : Int) ∧ f (66 + 4 * t + 1) = K ∧ f (66 + 4 * t + 2) = N ∧ f (66 + 4 * t + 3) = C
set_option maxRecDepth 10000 in
theorem kX11_act {l : Launch} {d n tN A : Nat} {tt p w g : Int} {K N C : Nat → Int} {Dp : Nat → Nat} {h : ja_H} {Q : ja_Q} (hG : jG h.1) (hW : jW w g n h.2.1) (ht : h.2.1 1 9 = (tN : Int)) (ht6 : tN ≤ 6) (hpg : 0 ≤ tt → tt < (tN : Int) → wfP A K N C Dp ∧ cPg tt.toNat A K N C h.2.1) (hl : ∀ r : Int, 0 ≤ r → r ≤ 4 → l99 (jpx h w g (5 + 2 * r.toNat)))
    (q1 : ¬ ((0 ≤ p ∧ p ≤ 4) ∧ 0 ≤ tt ∧ tt < (tN : Int)) → Q (some (.inl (-1))) h)
    (q : (0 ≤ p ∧ p ≤ 4) → (0 ≤ tt ∧ tt < (tN : Int)) → ∀ s u px, px = (fun r : Int => if 0 ≤ r ∧ r ≤ 4 then jpx h w g (5 + 2 * r.toNat) else fun _ _ => 0) → s = doT px p A K N C w g (jpx h w g (5 + 2 * p.toNat)) → fD (5 + 2 * p.toNat) h.2.1 u → jpx (dR h.1 (66 + 4 * tt.toNat) (5 + 2 * p.toNat), u, h.2.2) w g (5 + 2 * p.toNat) = s.1 → l99 s.1 → s.2 ≤ 300 → Q (some (.inl (s.2 : Int))) (dR h.1 (66 + 4 * tt.toNat) (5 + 2 * p.toNat), u, h.2.2)) : ja_C l (d + 24) mX11_act (js_sh n) [.inr (.inr (some 0)), .inl tt, .inl p] h Q := by
  have hS := jS1_of hG hW
  refine eX11_act _ _ _ fun _ _ _ => ?_
  unfold bX11_act
  refine jt_sR (jr_m1 (jr_g (jr_lr rfl) rfl (jG_at hG rfl)) rfl (jv_li rfl) fun _ => kX8_picture hS) ?_
  by_cases c : 0 ≤ p ∧ p ≤ 4
  · have e : jS_p 1 p = some (5 + 2 * p.toNat) := by unfold jS_p; rw [if_pos c]
    rw [e]
    refine jb_if_d (φ := ¬ (0 ≤ tt ∧ tt < (tN : Int))) (jd_eq (jd_or (jd_or (jd_isn (jr_lr rfl)) (fun _ => jd_not (jd_b (jy_sI (jA_i (jA_i (jA_i jA_0 (jv_li rfl)) jv_ci) (jv_w (jv_sub (jv_gF (jr_g (jr_lr rfl) rfl (jG_at hG rfl)) rfl ht) jv_ci) (by unfold ja_r; omega))) fun _ => kX11_within)))) (fun _ => jd_ge (jv_li rfl) (jv_len (jr_g (jr_lr rfl) rfl (jG_at hG rfl)) rfl (by decide)))) (by simp; omega)) (fun z => ?_) (fun z => ?_)
    · exact jt_rI jv_ci (q1 fun y => z y.2)
    · have z := Classical.not_not.mp z
      obtain ⟨hw, g1, g2, g3, g4⟩ := hpg z.1 z.2
      refine jx_mI (jr_g (jr_lr rfl) rfl (jG_at hG rfl)) rfl (jA_r (jA_r (jA_r jA_0 (jr_is (q' := some (66 + 4 * tt.toNat)) (jr_aG (jr_g (jr_lr rfl) rfl (jG_at hG rfl)) (jv_li rfl) rfl (by omega) (by omega)) (jG_65 (n := n) hG (by omega)))) (jr_lr rfl)) (jr_g (jr_lr rfl) rfl (jG_at hG rfl))) (kX1_perform (t := tt.toNat) hG hW c rfl (by omega) rfl hw g1 g2 g3 g4 hl fun s u px e1 e2 fr e3 l9 s3 => ⟨_, rfl, fun _ => ?_⟩)
      exact q c z s u px e1 e2 fr e3 l9 s3
  · have e : jS_p 1 p = none := by unfold jS_p; rw [if_neg c]
    rw [e]
    refine jb_if_d (φ := True) (jd_eq (jd_or (ψ := True) (jd_or (ψ := True) (jd_isn (jr_lr rfl)) (fun y => absurd rfl y)) (fun y => absurd (Or.inl rfl) y)) (by simp)) (fun _ => ?_) (fun y => absurd trivial y)
    exact jt_rI jv_ci (q1 fun y => c y.1)
set_option maxRecDepth 10000 in
theorem kX12_act {l : Launch} {d n tN A : Nat} {tt p w g : Int} {K N C : Nat → Int} {Dp : Nat → Nat} {h : ja_H} {Q : ja_Q} (hG : jG h.1) (hm : jm w g h) (ht : h.2.1 91 3 = (tN : Int)) (ht6 : tN ≤ 6) (hpg : 0 ≤ tt → tt < (tN : Int) → wfP A K N C Dp ∧ mTx tt.toNat A K N C (h.2.1 93)) (hl : ∀ r : Int, 0 ≤ r → r ≤ 4 → l99 (jmx h w g r))
    (q1 : ¬ ((0 ≤ p ∧ p ≤ 4) ∧ 0 ≤ tt ∧ tt < (tN : Int)) → Q (some (.inl (-1))) h)
    (q : (0 ≤ p ∧ p ≤ 4) → (0 ≤ tt ∧ tt < (tN : Int)) → ∀ s u v px, px = (fun r : Int => if 0 ≤ r ∧ r ≤ 4 then jmx h w g r else fun _ _ => 0) → s = doT px p A K N C w g (jmx h w g p) → fM p h.2.1 u → jfr [101] h.2.2 v → jmx (h.1, u, v) w g p = s.1 → l99 s.1 → s.2 ≤ 300 → Q (some (.inl (s.2 : Int))) (h.1, u, v)) : ja_C l (d + 6) mX12_act (js_sh n) [.inr (.inr (some 90)), .inl tt, .inl p] h Q := by
  have h3 : h.2.1 91 (3 : Int).toNat = (tN : Int) := ht
  refine eX12_act _ _ _ fun _ _ _ => ?_
  unfold bX12_act
  refine jb_cv_p ?_
  refine (jd_eq (φ' := (0 ≤ tt ∧ tt < (tN : Int)) ∧ 0 ≤ p ∧ p ≤ 4) (jd_and (jd_b (jy_sI (jA_i (jA_i (jA_i jA_0 (jv_li rfl)) jv_ci) (jv_w (jv_sub (jv_fI (jr_g (jr_lr rfl) rfl (jG_90 hG rfl)) jv_ci rfl (by decide) (by decide) h3) jv_ci) (by unfold ja_r; omega))) fun _ => kX12_isIn)) (fun _ => jd_b (jy_sI (jA_i jA_0 (jv_li rfl)) fun _ => kX12_isPicture))) (by omega)) _ _ (fun z => ?_) (fun z => ?_)
  · obtain ⟨hw, hX⟩ := hpg z.1.1 z.1.2
    obtain ⟨tn, rfl⟩ : ∃ tn : Nat, tt = (tn : Int) := ⟨tt.toNat, by omega⟩
    exact jx_mI (jr_lr rfl) rfl (jA_i (jA_i jA_0 (jv_li rfl)) (jv_li rfl)) (kX12_doText (tx := tn) hG hm z.2 (by omega) hw hX hl rfl fun s u v e2 fr vr e3 l9 s3 => ⟨_, rfl, fun _ => q z.2 z.1 s u v _ rfl e2 fr vr e3 l9 s3⟩)
  · exact jv_ci _ (q1 fun y => z ⟨y.2, y.1⟩)
