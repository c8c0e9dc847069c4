def twC (p r v : Int) : Prop := (0 ≤ p ∧ p ≤ 4) ∧ (0 ≤ r ∧ r ≤ 4) ∧ ((0 ≤ v ∧ v ≤ 3) ∨ (100 ≤ v ∧ v ≤ 199))
theorem jS_e1 {p : Int} (c : 0 ≤ p ∧ p ≤ 4) : jS_p 1 p = some (5 + 2 * p.toNat) := jS_e c
set_option maxRecDepth 10000 in
theorem kX11_two {l : Launch} {d : Nat} {h : ja_H} {Q : ja_Q} {n w g : Nat} {p r v : Int} {P R : Int → Int → Int} (hG : jG h.1) (hW : jW w g n h.2.1) (hP : 0 ≤ p ∧ p ≤ 4 → jpx h w g (5 + 2 * p.toNat) = P) (hQ : 0 ≤ r ∧ r ≤ 4 → jpx h w g (5 + 2 * r.toNat) = R) (bP : ∀ x y, 0 ≤ P x y ∧ P x y ≤ 99) (bQ : ∀ x y, 0 ≤ R x y ∧ R x y ≤ 99) (q1 : twC p r v → ∀ f, jfr [47] h.2.1 f → Q (some (.inl (twF P R w g v))) (h.1, f, h.2.2)) (q2 : ¬ twC p r v → Q (some (.inl (-1000))) h) : ja_C l (d + 5) mX11_two (js_sh n) [.inr (.inr (some (0))), .inl (p), .inl (r), .inl (v)] h Q := by
  have hs := jS1_of hG hW
  have wr := jW_r hW
  refine eX11_two _ _ _ _ fun r_one r_other r_what ho => ?_
  unfold bX11_two
  unfold ja_r at r_one r_other r_what
  refine jt_sR (jr_m1 (jr_g (jr_lr rfl) rfl (jG_at hG rfl)) rfl (jv_li rfl) fun _ => kX8_picture hs) ?_
  refine jt_sR (jr_m1 (jr_g (jr_lr rfl) rfl (jG_at hG rfl)) rfl (jv_li rfl) fun _ => kX8_picture hs) ?_
  refine jt_sI (jy_sI (jA_i (jA_i (jA_i jA_0 (jv_li rfl)) jv_ci) jv_ci) fun _ => kX11_within) ?_
  refine jb_if_d (φ := ¬ twC p r v) (jd_eq (jd_or (jd_or (jd_isn (jr_lr rfl)) fun _ => jd_isn (jr_lr rfl)) fun _ => jd_not (jd_or (jd_b (jv_li rfl)) fun _ => jd_b (jy_sI (jA_i (jA_i (jA_i jA_0 (jv_li rfl)) jv_ci) jv_ci) fun _ => kX11_within))) (by rw [jS_pn, jS_pn]; unfold twC; omega)) (fun z => ?_) (fun z => ?_)
  · exact jt_rI jv_ci (q2 z)
  have z := Classical.not_not.mp z
  obtain ⟨z1, z2, z3⟩ := id z
  have hp := jS_now hs z1
  have hq := jS_now hs z2
  rw [jS_e z1, jS_e z2]
  have hP := hP z1
  have hQ := hQ z2
  obtain ⟨S, hS⟩ : ∃ S, twS P R w g = S := ⟨_, rfl⟩
  obtain ⟨N, hN⟩ : ∃ N, twN w g = N := ⟨_, rfl⟩
  refine jx_m (jr_g (jr_lr rfl) (by first | rfl | assumption) (by first | rfl | assumption | exact jG_at hG rfl | exact jG_90 hG rfl)) (by first | rfl | assumption) (jA_r (jA_r jA_0 (jr_lr rfl)) (jr_lr rfl)) (kX6_findNearest hp hq hP hQ bP bQ hS hN (by omega) fun f fr ft => ⟨rfl, ?_⟩)
  have q := q1 z f fr
  unfold twF at q
  rw [hS, hN] at q
  have bl := shB_lt S N 49 (by decide)
  unfold twP at ft
  generalize hb : shB S N 49 = b at q ft bl
  have f3 : f 47 3 = N b := ft.1
  have f0 : f 47 0 = shX b := (ft.2 (by decide)).1
  have f1 : f 47 1 = shY b := (ft.2 (by decide)).2.1
  have f2 : f 47 2 = S b := (ft.2 (by decide)).2.2
  have sb := sh_b bl
  have hpf : jp w g n (5 + 2 * p.toNat) (h.1, f, h.2.2) := jp_up hp (fr _ (by simp <;> omega))
  have hqf : jp w g n (5 + 2 * r.toNat) (h.1, f, h.2.2) := jp_up hq (fr _ (by simp <;> omega))
  have hPf : jpx (h.1, f, h.2.2) w g (5 + 2 * p.toNat) = P := by rw [jpx_fr (fr _ (by simp <;> omega))]; exact hP
  have hQf : jpx (h.1, f, h.2.2) w g (5 + 2 * r.toNat) = R := by rw [jpx_fr (fr _ (by simp <;> omega))]; exact hQ
  refine jb_if_d (jd_eqI (jv_li rfl) jv_ci) (fun c1 => ?_) (fun c1 => ?_)
  · rw [if_pos c1] at q
    refine jt_rI (jv_gF (jr_g (jr_lr rfl) (by first | rfl | assumption) (by first | rfl | assumption | exact jG_at hG rfl | exact jG_90 hG rfl)) (by first | rfl | assumption) (by first | assumption | rfl)) ?_
    exact q
  · rw [if_neg c1] at q
    refine jb_if_d (jd_eqI (jv_li rfl) jv_ci) (fun c2 => ?_) (fun c2 => ?_)
    · rw [if_pos c2] at q
      refine jt_rI (jv_gF (jr_g (jr_lr rfl) (by first | rfl | assumption) (by first | rfl | assumption | exact jG_at hG rfl | exact jG_90 hG rfl)) (by first | rfl | assumption) (by first | assumption | rfl)) ?_
      exact q
    · rw [if_neg c2] at q
      refine jb_if_d (jd_eqI (jv_li rfl) jv_ci) (fun c3 => ?_) (fun c3 => ?_)
      · rw [if_pos c3] at q
        refine jt_rI (jv_gF (jr_g (jr_lr rfl) (by first | rfl | assumption) (by first | rfl | assumption | exact jG_at hG rfl | exact jG_90 hG rfl)) (by first | rfl | assumption) (by first | assumption | rfl)) ?_
        exact q
      · rw [if_neg c3] at q
        refine jt_rI (jv_cv (jd_eqI (jv_li rfl) jv_ci) (fun _ => (jv_gF (jr_g (jr_lr rfl) rfl (jG_at hG rfl)) rfl f3)) (fun _ => (jy_mI (jr_g (jr_lr rfl) rfl (jG_at hG rfl)) rfl (jA_i (jA_r (jA_r jA_0 (jr_lr rfl)) (jr_lr rfl)) (jv_w (jv_sub (jv_li rfl) jv_ci) (by first | (unfold ja_r; omega) | (unfold ja_rl; omega) | omega | assumption))) fun _ => kX6_countBeyond hpf hqf hPf hQf bP bQ f0 f1 sb.1 sb.2))) ?_
        exact q
theorem jmx_fr {h : ja_H} {f : Nat → Nat → Int} {w g p : Int} (e : f 91 = h.2.1 91) : jmx (h.1, f, h.2.2) w g p = jmx h w g p := by
  funext x y
  unfold jmx jm_lt
  show (if _ then f 91 _ else 0) = _
  rw [e]
theorem cw_b {c w g : Nat} (hw : 0 < w) (h : c < w * g) : c % w < w ∧ c / w < g := ⟨Nat.mod_lt c hw, by rw [Nat.div_lt_iff_lt_mul hw, Nat.mul_comm]; exact h⟩
/-- of cell c only the slots b to b + 3 change -/
def jf4 (c b : Nat) (I f : Nat → Nat → Int) : Prop := jfr [c] I f ∧ ∀ j, j < b ∨ b + 3 < j → f c j = I c j
theorem jf4_rf (c b : Nat) (I : Nat → Nat → Int) : jf4 c b I I := ⟨jfr_rf _ _, fun _ _ => rfl⟩
theorem jf4_up {c b j : Nat} {I f : Nat → Nat → Int} {v : Int} (h : jf4 c b I f) (hj : b ≤ j ∧ j ≤ b + 3) : jf4 c b I (ja_up f c j v) := ⟨jfr_up h.1 (by simp), fun k hk => by rw [ja_upO (by omega)]; exact h.2 k hk⟩
theorem jf4_W {w g : Int} {n : Nat} {I f : Nat → Nat → Int} (hW : jW w g n I) (h : jf4 90 11 I f) : jW w g n f := jW_fr hW (fun j hj => h.2 j (by omega)) (fun j hj => congrFun (h.1 1 (by decide)) j) (fun k hk => h.1 k (by intro z; simp at z; subst z; revert hk; decide))
set_option maxRecDepth 10000 in
theorem kX12_shift {l : Launch} {d : Nat} {h : ja_H} {Q : ja_Q} {n w g : Nat} {p r : Int} {P R : Int → Int → Int} {S N : Nat → Int} (hG : jG h.1) (hW : jW w g n h.2.1) (hp : 0 ≤ p ∧ p ≤ 4) (hr : 0 ≤ r ∧ r ≤ 4) (hP : jmx h w g p = P) (hQ : jmx h w g r = R) (bP : ∀ x y, 0 ≤ P x y ∧ P x y ≤ 99) (bQ : ∀ x y, 0 ≤ R x y ∧ R x y ≤ 99) (hS : twS P R w g = S) (hN : twN w g = N) (q : ∀ f, jf4 90 11 h.2.1 f → twP 90 11 S N f 49 → Q none (h.1, f, h.2.2)) : ja_C l (d + 3) mX12_shift (js_sh n) [.inr (.inr (some (90))), .inl (p), .inl (r)] h Q := by
  have wr := jW_r hW
  have hwg : ((w * g : Nat) : Int) = (w : Int) * (g : Int) := Int.natCast_mul w g
  have hwg2 : w * g ≤ 144 := by have := Nat.mul_le_mul (show w ≤ 12 by omega) (show g ≤ 12 by omega); omega
  refine eX12_shift _ _ _ fun r_p r_q ho => ?_
  unfold bX12_shift
  unfold ja_r at r_p r_q
  refine jt_pI (jr_lr rfl) (by first | rfl | assumption) jv_ci ?_
  try dsimp only
  refine jt_sI (x := ((0 : Nat) : Int) - 3) (jv_is jv_ci (by rfl)) ?_
  refine jb_forc (7) (fun (i : Nat) L' h' => ∃ (v_dy : Int) (o3_4 : Option ja_W) (o3_5 : Option ja_W) (o3_6 : Option ja_W) (o3_7 : Option ja_W) (o3_8 : Option ja_W) (o3_9 : Option ja_W) (f : Nat → Nat → Int), L' = [some (.inr (.inr (some (90)))), some (.inl (p)), some (.inl (r)), some (.inl (v_dy)), o3_4, o3_5, o3_6, o3_7, o3_8, o3_9] ∧ v_dy = (i : Int) - 3 ∧ (h.1, f, h.2.2) = h' ∧ (jf4 90 11 h.2.1 f) ∧ (twP 90 11 S N f (7 * i))) ⟨_, _, _, _, _, _, _, _, rfl, (by first | rfl | omega | (simp; done) | (simp; omega)), rfl, (by exact jf4_up (jf4_rf _ _ _) (by decide)), (by exact ⟨ja_upE rfl rfl, fun z => absurd rfl z⟩)⟩ ?_ ?_ ?_
  · rintro i h_i _ _ ⟨v_dy0, o3_4, o3_5, o3_6, o3_7, o3_8, o3_9, f, rfl, rfl, rfl, fr, ft⟩
    exact jd_eq (jd_le (jv_li rfl) jv_ci) (by omega)
  · rintro i h_i _ _ ⟨v_dy0, o3_4, o3_5, o3_6, o3_7, o3_8, o3_9, f, rfl, rfl, rfl, fr, ft⟩
    refine jt_sI (x := ((0 : Nat) : Int) - 3) (jv_is jv_ci (by rfl)) ?_
    refine jb_forc (7) (fun (j : Nat) L' h' => ∃ (v_dx : Int) (o5_5 : Option ja_W) (o5_6 : Option ja_W) (o5_7 : Option ja_W) (o5_8 : Option ja_W) (o5_9 : Option ja_W) (g0 : Nat → Nat → Int), L' = [some (.inr (.inr (some (90)))), some (.inl (p)), some (.inl (r)), some (.inl ((i : Int) - 3)), some (.inl (v_dx)), o5_5, o5_6, o5_7, o5_8, o5_9] ∧ v_dx = (j : Int) - 3 ∧ (h.1, g0, h.2.2) = h' ∧ (jf4 90 11 h.2.1 g0) ∧ (twP 90 11 S N g0 (7 * i + j))) ⟨_, _, _, _, _, _, _, rfl, (by first | rfl | omega | (simp; done) | (simp; omega)), rfl, (by exact fr), (by exact ft)⟩ ?_ ?_ ?_
    · rintro j h_j _ _ ⟨v_dx0, o5_5, o5_6, o5_7, o5_8, o5_9, g0, rfl, rfl, rfl, gr, gt⟩
      exact jd_eq (jd_le (jv_li rfl) jv_ci) (by omega)
    · rintro j h_j _ _ ⟨v_dx0, o5_5, o5_6, o5_7, o5_8, o5_9, g0, rfl, rfl, rfl, gr, gt⟩
      obtain ⟨hsx, hsy⟩ := sh_xy (i := i) h_j
      have hWf : jW w g n g0 := jf4_W hW gr
      have w0 : g0 90 0 = (w : Int) := jW_w hWf
      have w1 : g0 90 1 = (g : Int) := jW_g hWf
      have hPf : jmx (h.1, g0, h.2.2) w g p = P := by rw [jmx_fr (gr.1 _ (by decide))]; exact hP
      have hQf : jmx (h.1, g0, h.2.2) w g r = R := by rw [jmx_fr (gr.1 _ (by decide))]; exact hQ
      have i49 : 7 * i + j < 49 := by omega
      have sS := twS_b bP bQ (w := w) (g := g) (by omega) (by omega) (7 * i + j)
      have sN := twN_b (w := w) (g := g) (by omega) (by omega) i49
      have eS : s1 (tsS P R w g ((j : Int) - 3) ((i : Int) - 3)) w (w * g) = S (7 * i + j) := by rw [s1_r _ (by omega), ← hS]; unfold twS; rw [hsx, hsy]
      have eN : s1 (tsN w g ((j : Int) - 3) ((i : Int) - 3)) w (w * g) = N (7 * i + j) := by rw [s1_r _ (by omega), ← hN]; unfold twN; rw [hsx, hsy]
      rw [hS] at sS
      rw [hN] at sN
      have bS := twS_b bP bQ (w := w) (g := g) (by omega) (by omega) (shB S N (7 * i + j))
      rw [hS] at bS
      have bN : 7 * i + j ≠ 0 → 1 ≤ N (shB S N (7 * i + j)) ∧ N (shB S N (7 * i + j)) ≤ 144 := fun z => by
        have := twN_b (w := w) (g := g) (by omega) (by omega) (i := shB S N (7 * i + j)) (by have := shB_lt S N (7 * i + j) (by omega); omega)
        rw [hN] at this
        exact this
      have t3 : g0 90 14 = (if 7 * i + j = 0 then 0 else N (shB S N (7 * i + j))) := gt.1
      have bS1 := tsS_b bP bQ (w : Nat) (g : Nat) ((j : Int) - 3) ((i : Int) - 3)
      have bN1 := tsN_b (w : Nat) (g : Nat) ((j : Int) - 3) ((i : Int) - 3)
      refine jt_sI (x := s1 (tsS P R w g ((j : Int) - 3) ((i : Int) - 3)) w 0) (jv_is jv_ci (by rfl)) ?_
      refine jt_sI (x := s1 (tsN w g ((j : Int) - 3) ((i : Int) - 3)) w 0) (jv_is jv_ci (by rfl)) ?_
      refine jt_sI jv_ci ?_
      refine jb_forc (w * g) (fun (c : Nat) L' h' => ∃ (v_sum : Int) (v_n : Int) (v_c : Int) (o9_8 : Option ja_W) (o9_9 : Option ja_W), L' = [some (.inr (.inr (some (90)))), some (.inl (p)), some (.inl (r)), some (.inl ((i : Int) - 3)), some (.inl ((j : Int) - 3)), some (.inl (v_sum)), some (.inl (v_n)), some (.inl (v_c)), o9_8, o9_9] ∧ v_sum = s1 (tsS P R w g ((j : Int) - 3) ((i : Int) - 3)) w c ∧ v_n = s1 (tsN w g ((j : Int) - 3) ((i : Int) - 3)) w c ∧ v_c = (c : Int) ∧ (h.1, g0, h.2.2) = h') ⟨_, _, _, _, _, rfl, (by rfl), (by rfl), (by first | rfl | omega | (simp; done) | (simp; omega)), rfl⟩ ?_ ?_ ?_
      · rintro c h_c _ _ ⟨v_sum0, v_n0, v_c0, o9_8, o9_9, rfl, rfl, rfl, rfl, rfl⟩
        exact jd_eq (jd_lt (jv_li rfl) (jv_is (jv_w (jv_mul (jv_gF (jr_lr rfl) rfl w0) (jv_gF (jr_lr rfl) rfl w1)) (by rw [← hwg]; unfold ja_r; omega)) hwg.symm)) (by omega)
      · rintro c h_c _ _ ⟨v_sum0, v_n0, v_c0, o9_8, o9_9, rfl, rfl, rfl, rfl, rfl⟩
        obtain ⟨cx, hcx⟩ : ∃ cx : Nat, c % w = cx := ⟨_, rfl⟩
        obtain ⟨cy, hcy⟩ : ∃ cy : Nat, c / w = cy := ⟨_, rfl⟩
        have cb := cw_b (w := w) (g := g) (by omega) h_c
        rw [hcx, hcy] at cb
        have bs := s1_b bS1 w c
        have bn := s1_b bN1 w c
        have l1 := bP (cx : Int) (cy : Int)
        have l2 := bQ ((cx : Int) + ((j : Int) - 3)) ((cy : Int) + ((i : Int) - 3))
        refine jt_sI (x := (cx : Int)) (jv_is (jv_remP (jv_li rfl) (jv_gF (jr_lr rfl) rfl w0) (by first | (unfold ja_r; omega) | (unfold ja_rl; omega) | omega | assumption) (by first | (unfold ja_r; omega) | (unfold ja_rl; omega) | omega | assumption)) (by rw [← hcx]; omega)) ?_
        refine jt_sI (x := (cy : Int)) (jv_is (jv_divP (jv_li rfl) (jv_gF (jr_lr rfl) rfl w0) (by first | (unfold ja_r; omega) | (unfold ja_rl; omega) | omega | assumption) (by first | (unfold ja_r; omega) | (unfold ja_rl; omega) | omega | assumption) (by first | (unfold ja_r; omega) | (unfold ja_rl; omega) | omega | assumption)) (by rw [← Int.natCast_ediv, hcy])) ?_
        refine jb_if_d (φ := ¬ tsI w g ((j : Int) - 3) ((i : Int) - 3) (cx : Int) (cy : Int)) (jd_eq (jd_not (jd_b (jy_mI (jr_lr rfl) rfl (jA_i (jA_i jA_0 (jv_w (jv_add (jv_li rfl) (jv_li rfl)) (by first | (unfold ja_r; omega) | (unfold ja_rl; omega) | omega | assumption))) (jv_w (jv_add (jv_li rfl) (jv_li rfl)) (by first | (unfold ja_r; omega) | (unfold ja_rl; omega) | omega | assumption))) fun _ => kX12_isCell (h := (h.1, g0, h.2.2)) (jm_of hG hWf)))) (by exact Iff.rfl)) (fun c1 => ?_) (fun c1 => ?_)
        · exact jt_inc rfl (by first | (unfold ja_r; omega) | (unfold ja_rl; omega) | omega | assumption) ⟨_, _, _, _, _, rfl, (by show _ = s1 _ w c + tsS _ _ _ _ _ _ _ _; rw [hcx, hcy]; first | (rw [tsS_f c1]; omega) | (rw [tsS_t c1])), (by show _ = s1 _ w c + tsN _ _ _ _ _ _; rw [hcx, hcy]; first | (rw [tsN_f c1]; omega) | (rw [tsN_t c1])), (by first | rfl | omega | (simp; done) | (simp; omega)), rfl⟩
        · have c1 := Classical.not_not.mp c1
          obtain ⟨ci1, ci2⟩ := id c1
          refine jt_inc rfl (by first | (unfold ja_r; omega) | (unfold ja_rl; omega) | omega | assumption) ?_
          refine jt_sI (jv_w (jv_add (jv_li rfl) (jv_is (x' := ((P (cx : Int) (cy : Int) - R ((cx : Int) + ((j : Int) - 3)) ((cy : Int) + ((i : Int) - 3))).natAbs : Int)) (jy_sI (jA_i jA_0 (jv_w (jv_sub (jy_mI (jr_lr rfl) rfl (jA_i (jA_i (jA_i jA_0 (jv_li rfl)) (jv_li rfl)) (jv_li rfl)) fun _ => kX12_lightX (h := (h.1, g0, h.2.2)) hG hWf hp (by omega) (by omega)) (jy_mI (jr_lr rfl) rfl (jA_i (jA_i (jA_i jA_0 (jv_li rfl)) (jv_w (jv_add (jv_li rfl) (jv_li rfl)) (by first | (unfold ja_r; omega) | (unfold ja_rl; omega) | omega | assumption))) (jv_w (jv_add (jv_li rfl) (jv_li rfl)) (by first | (unfold ja_r; omega) | (unfold ja_rl; omega) | omega | assumption))) fun _ => kX12_lightX (h := (h.1, g0, h.2.2)) hG hWf hr (by omega) (by omega))) (by rw [hPf, hQf]; unfold ja_r; omega))) fun _ => kX12_abs (by rw [hPf, hQf]; omega)) (by rw [hPf, hQf]))) (by first | (unfold ja_r; omega) | (unfold ja_rl; omega) | omega | assumption)) ?_
          exact jt_inc rfl (by first | (unfold ja_r; omega) | (unfold ja_rl; omega) | omega | assumption) ⟨_, _, _, _, _, rfl, (by show _ = s1 _ w c + tsS _ _ _ _ _ _ _ _; rw [hcx, hcy]; first | (rw [tsS_f c1]; omega) | (rw [tsS_t c1])), (by show _ = s1 _ w c + tsN _ _ _ _ _ _; rw [hcx, hcy]; first | (rw [tsN_f c1]; omega) | (rw [tsN_t c1])), (by first | rfl | omega | (simp; done) | (simp; omega)), rfl⟩
      · rintro _ _ ⟨v_sum0, v_n0, v_c0, o9_8, o9_9, rfl, rfl, rfl, rfl, rfl⟩
        rw [eS, eN]
        refine jb_if_d (φ := ¬ (7 * i + j = 0 ∨ S (7 * i + j) * N (shB S N (7 * i + j)) < S (shB S N (7 * i + j)) * N (7 * i + j))) ?_ (fun cz => ?_) (fun cz => ?_)
        · by_cases z : 7 * i + j = 0
          · rw [if_pos z] at t3
            exact jd_eq (jd_and (ψ := True) (jd_gt (jv_gF (jr_lr rfl) rfl t3) jv_ci) (fun w => absurd w (by decide))) (by simp [z])
          · rw [if_neg z] at t3
            have t2 : g0 90 13 = S (shB S N (7 * i + j)) := (gt.2 z).2.2
            have bN := bN z
            have m1 := jmb (a := S (7 * i + j)) (b := N (shB S N (7 * i + j))) (A := 14256) (B := 144) (by omega) (by omega)
            have m2 := jmb (a := S (shB S N (7 * i + j))) (b := N (7 * i + j)) (A := 14256) (B := 144) (by omega) (by omega)
            exact jd_eq (jd_and (jd_gt (jv_gF (jr_lr rfl) rfl t3) jv_ci) (fun _ => jd_ge (jv_w (jv_mul (jv_li rfl) (jv_gF (jr_lr rfl) rfl t3)) (by first | (unfold ja_r; omega) | (unfold ja_rl; omega) | omega | assumption)) (jv_w (jv_mul (jv_gF (jr_lr rfl) rfl t2) (jv_li rfl)) (by first | (unfold ja_r; omega) | (unfold ja_rl; omega) | omega | assumption)))) (by omega)
        · exact jt_inc rfl (by first | (unfold ja_r; omega) | (unfold ja_rl; omega) | omega | assumption) ⟨_, _, _, _, _, _, _, rfl, by omega, rfl, gr, twFl (i := 7 * i + j) cz gt⟩
        have cz := Classical.not_not.mp cz
        refine jt_pI (jr_lr rfl) (by first | rfl | assumption) (jv_li rfl) ?_
        try dsimp only
        refine jt_pI (jr_lr rfl) (by first | rfl | assumption) (jv_li rfl) ?_
        try dsimp only
        refine jt_pI (jr_lr rfl) (by first | rfl | assumption) (jv_li rfl) ?_
        try dsimp only
        refine jt_pI (jr_lr rfl) (by first | rfl | assumption) (jv_li rfl) ?_
        try dsimp only
        exact jt_inc rfl (by first | (unfold ja_r; omega) | (unfold ja_rl; omega) | omega | assumption) ⟨_, _, _, _, _, _, _, rfl, (by first | rfl | omega | (simp; done) | (simp; omega)), rfl, (by first | exact jf4_up (jf4_up (jf4_up (jf4_up gr (by decide)) (by decide)) (by decide)) (by decide) | exact gr), (by first | exact twT (i := 7 * i + j) cz (by rw [ja_upO (by omega), ja_upO (by omega), ja_upO (by omega), ja_upE rfl rfl, hsx]) (by rw [ja_upO (by omega), ja_upO (by omega), ja_upE rfl rfl, hsy]) (by rw [ja_upO (by omega), ja_upE rfl rfl]) (by rw [ja_upE rfl rfl]) | exact twFl (i := 7 * i + j) cz gt)⟩
    · rintro _ _ ⟨v_dx0, o5_5, o5_6, o5_7, o5_8, o5_9, g0, rfl, rfl, rfl, gr, gt⟩
      exact jt_inc rfl (by first | (unfold ja_r; omega) | (unfold ja_rl; omega) | omega | assumption) ⟨_, _, _, _, _, _, _, _, rfl, (by first | rfl | omega | (simp; done) | (simp; omega)), rfl, (by exact gr), (by exact gt)⟩
  · rintro _ _ ⟨v_dy0, o3_4, o3_5, o3_6, o3_7, o3_8, o3_9, f, rfl, rfl, rfl, fr, ft⟩
    exact q f fr ft
set_option maxRecDepth 10000 in
theorem kX12_two {l : Launch} {d : Nat} {h : ja_H} {Q : ja_Q} {n w g : Nat} {p r v : Int} {P R : Int → Int → Int} (hG : jG h.1) (hW : jW w g n h.2.1) (hP : 0 ≤ p ∧ p ≤ 4 → jmx h w g p = P) (hQ : 0 ≤ r ∧ r ≤ 4 → jmx h w g r = R) (bP : ∀ x y, 0 ≤ P x y ∧ P x y ≤ 99) (bQ : ∀ x y, 0 ≤ R x y ∧ R x y ≤ 99) (q1 : twC p r v → ∀ f, jf4 90 11 h.2.1 f → Q (some (.inl (twF P R w g v))) (h.1, f, h.2.2)) (q2 : ¬ twC p r v → Q (some (.inl (-1000))) h) : ja_C l (d + 4) mX12_two (js_sh n) [.inr (.inr (some (90))), .inl (p), .inl (r), .inl (v)] h Q := by
  have wr := jW_r hW
  have hwg : ((w * g : Nat) : Int) = (w : Int) * (g : Int) := Int.natCast_mul w g
  have hwg2 : w * g ≤ 144 := by have := Nat.mul_le_mul (show w ≤ 12 by omega) (show g ≤ 12 by omega); omega
  refine eX12_two _ _ _ _ fun r_one r_other r_what ho => ?_
  unfold bX12_two
  unfold ja_r at r_one r_other r_what
  refine jb_if_d (φ := ¬ twC p r v) (jd_eq (jd_or (jd_or (jd_not (jd_b (jy_sI (jA_i jA_0 (jv_li rfl)) fun _ => kX12_isPicture))) (fun _ => (jd_not (jd_b (jy_sI (jA_i jA_0 (jv_li rfl)) fun _ => kX12_isPicture))))) (fun _ => (jd_and (jd_not (jd_b (jy_sI (jA_i (jA_i (jA_i jA_0 (jv_li rfl)) jv_ci) jv_ci) fun _ => kX12_isIn))) (fun _ => (jd_not (jd_b (jy_sI (jA_i (jA_i (jA_i jA_0 (jv_li rfl)) jv_ci) jv_ci) fun _ => kX12_isIn))))))) (by unfold twC; omega)) (fun c1 => ?_) (fun c1 => ?_)
  · refine jt_rI jv_ci ?_
    exact q2 c1
  · have z := Classical.not_not.mp c1
    obtain ⟨hp, hr, z3⟩ := id z
    have hP := hP hp
    have hQ := hQ hr
    obtain ⟨S, hS⟩ : ∃ S, twS P R w g = S := ⟨_, rfl⟩
    obtain ⟨N, hN⟩ : ∃ N, twN w g = N := ⟨_, rfl⟩
    refine jx_m (jr_lr rfl) (by first | rfl | assumption) (jA_i (jA_i jA_0 (jv_li rfl)) (jv_li rfl)) (kX12_shift hG hW hp hr hP hQ bP bQ hS hN fun f fr ft => ⟨rfl, ?_⟩)
    have q := q1 z f fr
    unfold twF at q
    rw [hS, hN] at q
    have bl := shB_lt S N 49 (by decide)
    unfold twP at ft
    generalize hb : shB S N 49 = b at q ft bl
    have f3 : f 90 14 = N b := ft.1
    have f0 : f 90 11 = shX b := (ft.2 (by decide)).1
    have f1 : f 90 12 = shY b := (ft.2 (by decide)).2.1
    have f2 : f 90 13 = S b := (ft.2 (by decide)).2.2
    have sb := sh_b bl
    have hWf : jW w g n f := jf4_W hW fr
    have w0 : f 90 0 = (w : Int) := jW_w hWf
    have w1 : f 90 1 = (g : Int) := jW_g hWf
    have hPf : jmx (h.1, f, h.2.2) w g p = P := by rw [jmx_fr (fr.1 _ (by decide))]; exact hP
    have hQf : jmx (h.1, f, h.2.2) w g r = R := by rw [jmx_fr (fr.1 _ (by decide))]; exact hQ
    have bB := tsB_b P R (w : Nat) (g : Nat) (shX b) (shY b) (v - 100)
    refine jb_if_d (jd_lt (jv_li rfl) jv_ci) (fun c2 => ?_) (fun c2 => ?_)
    · refine jt_rI (x := (if v = 0 then shX b else if v = 1 then shY b else if v = 2 then S b else N b)) (jv_is (jv_cv (jd_eqI (jv_li rfl) jv_ci) (fun _ => (jv_gF (jr_lr rfl) (by first | rfl | assumption) (by first | assumption | rfl))) (fun _ => (jv_cv (jd_eqI (jv_li rfl) jv_ci) (fun _ => (jv_gF (jr_lr rfl) (by first | rfl | assumption) (by first | assumption | rfl))) (fun _ => (jv_cv (jd_eqI (jv_li rfl) jv_ci) (fun _ => (jv_gF (jr_lr rfl) (by first | rfl | assumption) (by first | assumption | rfl))) (fun _ => (jv_gF (jr_lr rfl) (by first | rfl | assumption) (by first | assumption | rfl)))))))) (by rfl)) ?_
      have e : (if v = 0 then shX b else if v = 1 then shY b else if v = 2 then S b else if v = 3 then N b else r2 (tsB P R w g (shX b) (shY b) (v - 100)) 0 0 w g) = (if v = 0 then shX b else if v = 1 then shY b else if v = 2 then S b else N b) := by repeat' split <;> first | rfl | omega
      rw [e] at q
      exact q
    · rw [if_neg (by omega), if_neg (by omega), if_neg (by omega), if_neg (by omega)] at q
      refine jt_sI (x := s1 (tsB P R w g (shX b) (shY b) (v - 100)) w 0) (jv_is jv_ci (by rfl)) ?_
      refine jt_sI jv_ci ?_
      refine jb_forc (w * g) (fun (c : Nat) L' h' => ∃ (v_n : Int) (v_c : Int) (o8_6 : Option ja_W) (o8_7 : Option ja_W), L' = [some (.inr (.inr (some (90)))), some (.inl (p)), some (.inl (r)), some (.inl (v)), some (.inl (v_n)), some (.inl (v_c)), o8_6, o8_7] ∧ v_n = s1 (tsB P R w g (shX b) (shY b) (v - 100)) w c ∧ v_c = (c : Int) ∧ (h.1, f, h.2.2) = h') ⟨_, _, _, _, rfl, (by rfl), (by first | rfl | omega | (simp; done) | (simp; omega)), rfl⟩ ?_ ?_ ?_
      · rintro c h_c _ _ ⟨v_n0, v_c0, o8_6, o8_7, rfl, rfl, rfl, rfl⟩
        exact jd_eq (jd_lt (jv_li rfl) (jv_is (jv_w (jv_mul (jv_gF (jr_lr rfl) rfl w0) (jv_gF (jr_lr rfl) rfl w1)) (by rw [← hwg]; unfold ja_r; omega)) hwg.symm)) (by omega)
      · rintro c h_c _ _ ⟨v_n0, v_c0, o8_6, o8_7, rfl, rfl, rfl, rfl⟩
        obtain ⟨cx, hcx⟩ : ∃ cx : Nat, c % w = cx := ⟨_, rfl⟩
        obtain ⟨cy, hcy⟩ : ∃ cy : Nat, c / w = cy := ⟨_, rfl⟩
        have cb := cw_b (w := w) (g := g) (by omega) h_c
        rw [hcx, hcy] at cb
        have bs := s1_b bB w c
        have l1 := bP (cx : Int) (cy : Int)
        have l2 := bQ ((cx : Int) + shX b) ((cy : Int) + shY b)
        refine jt_sI (x := (cx : Int)) (jv_is (jv_remP (jv_li rfl) (jv_gF (jr_lr rfl) rfl w0) (by first | (unfold ja_r; omega) | (unfold ja_rl; omega) | omega | assumption) (by first | (unfold ja_r; omega) | (unfold ja_rl; omega) | omega | assumption)) (by rw [← hcx]; omega)) ?_
        refine jt_sI (x := (cy : Int)) (jv_is (jv_divP (jv_li rfl) (jv_gF (jr_lr rfl) rfl w0) (by first | (unfold ja_r; omega) | (unfold ja_rl; omega) | omega | assumption) (by first | (unfold ja_r; omega) | (unfold ja_rl; omega) | omega | assumption) (by first | (unfold ja_r; omega) | (unfold ja_rl; omega) | omega | assumption)) (by rw [← Int.natCast_ediv, hcy])) ?_
        refine jb_if_d (φ := tsI w g (shX b) (shY b) (cx : Int) (cy : Int) ∧ v - 100 < ((P (cx : Int) (cy : Int) - R ((cx : Int) + shX b) ((cy : Int) + shY b)).natAbs : Int)) (jd_eq (jd_and (jd_b (jy_mI (jr_lr rfl) rfl (jA_i (jA_i jA_0 (jv_w (jv_add (jv_li rfl) (jv_gF (jr_lr rfl) rfl f0)) (by first | (unfold ja_r; omega) | (unfold ja_rl; omega) | omega | assumption))) (jv_w (jv_add (jv_li rfl) (jv_gF (jr_lr rfl) rfl f1)) (by first | (unfold ja_r; omega) | (unfold ja_rl; omega) | omega | assumption))) fun _ => kX12_isCell (h := (h.1, f, h.2.2)) (jm_of hG hWf))) (fun ci => (jd_gt (jy_sI (jA_i jA_0 (jv_w (jv_sub (jy_mI (jr_lr rfl) rfl (jA_i (jA_i (jA_i jA_0 (jv_li rfl)) (jv_li rfl)) (jv_li rfl)) fun _ => kX12_lightX (h := (h.1, f, h.2.2)) hG hWf hp (by omega) (by omega)) (jy_mI (jr_lr rfl) rfl (jA_i (jA_i (jA_i jA_0 (jv_li rfl)) (jv_w (jv_add (jv_li rfl) (jv_gF (jr_lr rfl) rfl f0)) (by first | (unfold ja_r; omega) | (unfold ja_rl; omega) | omega | assumption))) (jv_w (jv_add (jv_li rfl) (jv_gF (jr_lr rfl) rfl f1)) (by first | (unfold ja_r; omega) | (unfold ja_rl; omega) | omega | assumption))) fun _ => kX12_lightX (h := (h.1, f, h.2.2)) hG hWf hr (by omega) (by omega))) (by rw [hPf, hQf]; unfold ja_r; omega))) fun _ => kX12_abs (by rw [hPf, hQf]; omega)) (jv_w (jv_sub (jv_li rfl) jv_ci) (by first | (unfold ja_r; omega) | (unfold ja_rl; omega) | omega | assumption))))) (by rw [hPf, hQf]; exact Iff.rfl)) (fun c3 => ?_) (fun c3 => ?_)
        · refine jt_inc rfl (by first | (unfold ja_r; omega) | (unfold ja_rl; omega) | omega | assumption) ?_
          exact jt_inc rfl (by first | (unfold ja_r; omega) | (unfold ja_rl; omega) | omega | assumption) ⟨_, _, _, _, rfl, (by show _ = s1 _ w c + tsB _ _ _ _ _ _ _ _ _; rw [hcx, hcy]; first | (rw [tsB_f c3]; omega) | (rw [tsB_t c3])), (by first | rfl | omega | (simp; done) | (simp; omega)), rfl⟩
        · exact jt_inc rfl (by first | (unfold ja_r; omega) | (unfold ja_rl; omega) | omega | assumption) ⟨_, _, _, _, rfl, (by show _ = s1 _ w c + tsB _ _ _ _ _ _ _ _ _; rw [hcx, hcy]; first | (rw [tsB_f c3]; omega) | (rw [tsB_t c3])), (by first | rfl | omega | (simp; done) | (simp; omega)), rfl⟩
      · rintro _ _ ⟨v_n0, v_c0, o8_6, o8_7, rfl, rfl, rfl, rfl⟩
        refine jt_rI (x := r2 (tsB P R w g (shX b) (shY b) (v - 100)) 0 0 w g) (jv_is (jv_li rfl) (by exact s1_r _ (by omega) g)) ?_
        exact q
