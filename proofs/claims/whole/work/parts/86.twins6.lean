set_option maxRecDepth 10000 in
theorem kX12_twice {l : Launch} {d : Nat} {h : ja_H} {Q : ja_Q} {n bx bY : Nat} {p k t v w g : Int} {lt : Int → Int → Int} (hG : jG h.1) (hW : jW w g n h.2.1) (hlt : 0 ≤ p ∧ p ≤ 4 → jmx h w g p = lt) (hb : ∀ x y, 0 ≤ lt x y ∧ lt x y ≤ 99) (hbx : h.2.1 90 8 = (bx : Int)) (hbY : h.2.1 90 9 = (bY : Int)) (bx8 : bx ≤ 8) (bY8 : bY ≤ 8) (q1 : tcC p v k t → ∀ f z, jfT h.2.1 f → tcO (TWq lt k.toNat (w - k + 1).toNat t) (w - k + 1).toNat ((w - k + 1).toNat * (g - k + 1).toNat) v z → Q (some (.inl z)) (h.1, f, h.2.2)) (q2 : ¬ tcC p v k t → Q (some (.inl (-1))) h) : ja_C l (d + 6) mX12_twice (js_sh n) [.inr (.inr (some (90))), .inl (p), .inl (k), .inl (t), .inl (v)] h Q := by
  refine eX12_twice _ _ _ _ _ fun r_picture r_k r_t r_what ho => ?_
  unfold bX12_twice
  unfold ja_r at r_picture r_k r_t r_what
  refine jb_if_d (φ := ¬ tcC p v k t) (jd_eq (jd_or (jd_or (jd_not (jd_b (jy_sI (jA_i jA_0 (jv_li rfl)) fun _ => kX12_isPicture))) (fun _ => (jd_not (jd_b (jy_sI (jA_i (jA_i jA_0 (jv_li rfl)) (jv_li rfl)) fun _ => kX12_isTwiceAsked))))) (fun _ => (jd_not (jd_b (jy_sI (jA_i (jA_i (jA_i jA_0 (jv_li rfl)) jv_ci) jv_ci) fun _ => kX12_isIn))))) (by unfold tcC; omega)) (fun c1 => ?_) (fun c1 => ?_)
  · refine jt_rI jv_ci ?_
    exact q2 c1
  · have z := Classical.not_not.mp c1
    obtain ⟨z1, ⟨z2, z3⟩, z4⟩ := id z
    have q1 := q1 z
    have hlt := hlt z1
    obtain ⟨k0, hk0⟩ : ∃ k0 : Nat, k = (k0 : Int) := ⟨k.toNat, by omega⟩
    obtain ⟨mx, hmx⟩ : ∃ mx : Nat, mx = (w - k + 1).toNat := ⟨_, rfl⟩
    obtain ⟨my, hmy⟩ : ∃ my : Nat, my = (g - k + 1).toNat := ⟨_, rfl⟩
    obtain ⟨all, hall⟩ : ∃ all : Nat, mx * my = all := ⟨_, rfl⟩
    obtain ⟨T, hT⟩ : ∃ T : Nat → Nat → Prop, TWq lt k0 mx t = T := ⟨_, rfl⟩
    have hmx2 : mx = (w - (k0 : Int) + 1).toNat := by rw [← hk0]; exact hmx
    have hmy2 : my = (g - (k0 : Int) + 1).toNat := by rw [← hk0]; exact hmy
    rw [show k.toNat = k0 by omega, ← hmx, ← hmy, hall, hT] at q1
    refine jx_mI (jr_lr rfl) (by first | rfl | assumption) (jA_i (jA_i (jA_i jA_0 (jv_li rfl)) (jv_li rfl)) (jv_li rfl)) (kX12_findTwice (lt := lt) hG hW z1 hlt hb (by omega) hk0 hmx2 hmy2 hT hall hbx hbY bx8 bY8 fun f fr ft => ?_)
    refine ⟨_, rfl, fun _ => ?_⟩
    obtain ⟨c, hc⟩ : ∃ c : Int, ((tcq T all all : Nat) : Int) = c := ⟨_, rfl⟩
    rw [hc] at ft ⊢
    by_cases v0 : v = 0
    · refine jt_rI (x := c) (jv_is (jv_cv (φ := v = 0) (y := 0) (jd_eqI (jv_li rfl) jv_ci) (fun _ => (jv_li rfl)) (fun y => absurd v0 y)) (if_pos v0)) ?_
      exact q1 f _ fr ⟨fun _ => hc.symm, fun y => absurd v0 y⟩
    · have ifc : ∀ A : Int, (if c = 0 then (-1 : Int) else A) = if 0 < c then A else -1 := by
        intro A
        by_cases y : c = 0
        · rw [if_pos y, if_neg (by omega)]
        · rw [if_neg y, if_pos (by omega)]
      refine jt_rI (x := if 0 < c then f 96 (v - 1).toNat else -1) (jv_is (jv_cv (φ := v = 0) (x := 0) (jd_eqI (jv_li rfl) jv_ci) (fun y => absurd y v0) (fun _ => jv_is (x' := if 0 < c then f 96 (v - 1).toNat else -1) (jv_cv (φ := c = 0) (jd_eqI (jv_li rfl) jv_ci) (fun _ => jv_ci) (fun _ => (jv_aI (jr_g (jr_lr rfl) rfl (jG_90 hG rfl)) (jv_w (jv_sub (jv_li rfl) jv_ci) (by first | (unfold ja_r; omega) | (unfold ja_rl; omega) | omega | assumption)) rfl (by omega) (by omega)))) (ifc _))) (if_neg v0)) ?_
      exact q1 f _ fr (tcO_of (by omega) ft.1)
/-- of the reference only cell 96 and the slots 8, 9, 10 of cell 90 change -/
def jfY (I f : Nat → Nat → Int) : Prop := jfr [90, 96] I f ∧ ∀ j, j < 8 ∨ 10 < j → f 90 j = I 90 j
theorem jfY_W {w g : Int} {n : Nat} {I f : Nat → Nat → Int} (hW : jW w g n I) (h : jfY I f) : jW w g n f := jW_fr hW (fun j hj => h.2 j (by omega)) (fun j hj => congrFun (h.1 1 (by decide)) j) (fun k hk => h.1 k (by intro z; simp at z; rcases z with z | z <;> subst z <;> revert hk <;> decide))
theorem jm_lt_fr {h : ja_H} {f : Nat → Nat → Int} {p : Int} (e : f 91 = h.2.1 91) : jm_lt (h.1, f, h.2.2) p = jm_lt h p := by
  funext x y
  unfold jm_lt
  show f 91 _ = _
  rw [e]
set_option maxRecDepth 10000 in
theorem kX12_say {l : Launch} {d : Nat} {h : ja_H} {Q : ja_Q} {n : Nat} {p b k t w g : Int} {lt : Int → Int → Int} (hG : jG h.1) (hW : jW w g n h.2.1) (hlt : 0 ≤ p ∧ p ≤ 4 → jmx h w g p = lt) (hb : ∀ x y, 0 ≤ lt x y ∧ lt x y ≤ 99) (hrg : 0 ≤ p ∧ p ≤ 4 → rg_ok (jm_lt h p) w g) (q1 : syC p b k t w g → ∀ f, jfY h.2.1 f → (0 ≤ f 90 8 ∧ f 90 8 ≤ 8) ∧ (0 ≤ f 90 9 ∧ f 90 9 ≤ 8) → Q (some (.inl (syF (TWq lt k.toNat (w - k + 1).toNat t) k.toNat (w - k + 1).toNat ((w - k + 1).toNat * (g - k + 1).toNat) (4 * (b % (w / 4))).toNat (4 * (b / (w / 4))).toNat (od (rb (jm_lt h p) w b) (md (fun b => rb (jm_lt h p) w (b : Nat)) (w / 4 * (g / 4)).toNat (w / 4 * (g / 4)).toNat) 3)))) (h.1, f, h.2.2)) (q2 : ¬ syC p b k t w g → Q (some (.inl (-1))) h) : ja_C l (d + 7) mX12_say (js_sh n) [.inr (.inr (some (90))), .inl (p), .inl (b), .inl (k), .inl (t)] h Q := by
  have hm := jm_of hG hW
  have wr := jW_r hW
  have kn := bk_n (w := w) (g := g) (by omega) (by omega)
  have w0 := jW_w hW
  refine eX12_say _ _ _ _ _ fun r_picture r_block r_k r_t ho => ?_
  unfold bX12_say
  unfold ja_r at r_picture r_block r_k r_t
  refine jb_if_d (φ := ¬ syC p b k t w g) (jd_eq (jd_or (jd_or (jd_not (jd_b (jy_sI (jA_i jA_0 (jv_li rfl)) fun _ => kX12_isPicture))) (fun _ => (jd_not (jd_b (jy_sI (jA_i (jA_i (jA_i jA_0 (jv_li rfl)) jv_ci) (jv_w (jv_sub (jy_mI (jr_lr rfl) rfl jA_0 fun _ => kX12_blocks hm) jv_ci) (by first | (unfold ja_r; omega) | (unfold ja_rl; omega) | omega | assumption))) fun _ => kX12_isIn))))) (fun _ => (jd_not (jd_b (jy_sI (jA_i (jA_i jA_0 (jv_li rfl)) (jv_li rfl)) fun _ => kX12_isTwiceAsked))))) (by unfold syC; omega)) (fun c1 => ?_) (fun c1 => ?_)
  · refine jt_rI jv_ci ?_
    exact q2 c1
  · have z := Classical.not_not.mp c1
    obtain ⟨z1, ⟨z2, z3⟩, z4⟩ := id z
    have q1 := q1 z
    have hlt := hlt z1
    have hrg := hrg z1
    obtain ⟨k0, hk0⟩ : ∃ k0 : Nat, k = (k0 : Int) := ⟨k.toNat, by omega⟩
    obtain ⟨mx, hmx⟩ : ∃ mx : Nat, mx = (w - k + 1).toNat := ⟨_, rfl⟩
    obtain ⟨my, hmy⟩ : ∃ my : Nat, my = (g - k + 1).toNat := ⟨_, rfl⟩
    obtain ⟨all, hall⟩ : ∃ all : Nat, mx * my = all := ⟨_, rfl⟩
    obtain ⟨T, hT⟩ : ∃ T : Nat → Nat → Prop, TWq lt k0 mx t = T := ⟨_, rfl⟩
    have hmx2 : mx = (w - (k0 : Int) + 1).toNat := by rw [← hk0]; exact hmx
    have hmy2 : my = (g - (k0 : Int) + 1).toNat := by rw [← hk0]; exact hmy
    rw [show k.toNat = k0 by omega, ← hmx, ← hmy, hall, hT] at q1
    have w4 : 0 < w / 4 ∧ w / 4 ≤ 3 := by omega
    have kb := bk_b (w := w) (g := g) (by omega) (by omega) (b := b) (by omega)
    obtain ⟨bx, hbx⟩ : ∃ bx : Nat, (bx : Int) = 4 * (b % (w / 4)) := ⟨(4 * (b % (w / 4))).toNat, by omega⟩
    obtain ⟨bY, hbY⟩ : ∃ bY : Nat, (bY : Int) = 4 * (b / (w / 4)) := ⟨(4 * (b / (w / 4))).toNat, by omega⟩
    rw [← hbx, ← hbY, Int.toNat_natCast, Int.toNat_natCast] at q1
    obtain ⟨o, ho2⟩ : ∃ o : Prop, od (rb (jm_lt h p) w b) (md (fun b => rb (jm_lt h p) w (b : Nat)) (w / 4 * (g / 4)).toNat (w / 4 * (g / 4)).toNat) 3 = o := ⟨_, rfl⟩
    rw [ho2] at q1
    refine jt_pI (jr_lr rfl) (by first | rfl | assumption) (jv_is (x' := (bx : Int)) (jv_w (jv_mul jv_ci (jv_remP (jv_li rfl) (jv_divP (jv_gF (jr_lr rfl) rfl w0) jv_ci (by first | (unfold ja_r; omega) | (unfold ja_rl; omega) | omega | assumption) (by first | (unfold ja_r; omega) | (unfold ja_rl; omega) | omega | assumption) (by first | (unfold ja_r; omega) | (unfold ja_rl; omega) | omega | assumption)) (by first | (unfold ja_r; omega) | (unfold ja_rl; omega) | omega | assumption) (by first | (unfold ja_r; omega) | (unfold ja_rl; omega) | omega | assumption))) (by rw [← hbx]; unfold ja_r; omega)) (by exact hbx.symm)) ?_
    try dsimp only
    have w0b : ja_up h.2.1 90 8 (bx : Int) 90 0 = w := by rw [ja_upO (by omega)]; exact w0
    refine jt_pI (jr_lr rfl) (by first | rfl | assumption) (jv_is (x' := (bY : Int)) (jv_w (jv_mul jv_ci (jv_divP (jv_li rfl) (jv_divP (jv_gF (jr_lr rfl) rfl w0b) jv_ci (by first | (unfold ja_r; omega) | (unfold ja_rl; omega) | omega | assumption) (by first | (unfold ja_r; omega) | (unfold ja_rl; omega) | omega | assumption) (by first | (unfold ja_r; omega) | (unfold ja_rl; omega) | omega | assumption)) (by first | (unfold ja_r; omega) | (unfold ja_rl; omega) | omega | assumption) (by first | (unfold ja_r; omega) | (unfold ja_rl; omega) | omega | assumption) (by first | (unfold ja_r; omega) | (unfold ja_rl; omega) | omega | assumption))) (by rw [← hbY]; unfold ja_r; omega)) (by exact hbY.symm)) ?_
    try dsimp only
    have fy : jfY h.2.1 (ja_up (ja_up h.2.1 90 8 (bx : Int)) 90 9 (bY : Int)) := ⟨jfr_up (jfr_up (jfr_rf _ _) (by decide)) (by decide), fun j hj => by rw [ja_upO (by omega), ja_upO (by omega)]⟩
    obtain ⟨u, hu⟩ : ∃ u, ja_up (ja_up h.2.1 90 8 (bx : Int)) 90 9 (bY : Int) = u := ⟨_, rfl⟩
    have u8 : u 90 8 = (bx : Int) := by rw [← hu, ja_upO (by omega), ja_upE rfl rfl]
    have u9 : u 90 9 = (bY : Int) := by rw [← hu, ja_upE rfl rfl]
    rw [hu] at fy ⊢
    have hWu : jW w g n u := jfY_W hW fy
    have hltu : jmx (h.1, u, h.2.2) w g p = lt := by rw [jmx_fr (fy.1 _ (by decide))]; exact hlt
    refine jx_mP (jr_lr rfl) (by first | rfl | assumption) (jA_i (jA_i (jA_i jA_0 (jv_li rfl)) (jv_li rfl)) (jv_li rfl)) (kX12_findTwice (h := (h.1, u, h.2.2)) (lt := lt) hG hWu z1 hltu hb (by omega) hk0 hmx2 hmy2 hT hall u8 u9 (by omega) (by omega) fun f fr ft => ?_)
    refine ⟨_, rfl, fun _ => ?_⟩
    have fy2 : jfY h.2.1 f := ⟨jfr_tr fy.1 fr.1, fun j hj => by rw [fr.2 j (by omega)]; exact fy.2 j hj⟩
    have q := q1 f fy2 (by rw [fr.2 8 (by decide), fr.2 9 (by decide)]; show (0 ≤ u 90 8 ∧ u 90 8 ≤ 8) ∧ 0 ≤ u 90 9 ∧ u 90 9 ≤ 8; omega)
    have f10 : f 90 10 = pv (tIn T k0 mx all all (all + 1) bx bY) := ft.2
    have hWf : jW w g n f := jfY_W hW fy2
    have el : jm_lt (h.1, f, h.2.2) p = jm_lt h p := jm_lt_fr (fy2.1 _ (by decide))
    unfold syF at q
    refine jt_rI (jv_cv (jd_bt (jv_gF (jr_lr rfl) rfl f10)) (fun _ => jv_ci) (fun _ => jv_is (x' := pv o) (jv_cv (jd_b (jy_mI (jr_lr rfl) rfl (jA_i (jA_i (jA_i jA_0 (jv_li rfl)) (jv_li rfl)) jv_ci) fun _ => kX12_isOdd (h := (h.1, f, h.2.2)) (jm_of hG hWf) z1 (by rw [el]; exact hrg) z4 (by decide))) (fun _ => jv_ci) (fun _ => jv_ci)) (by rw [el]; exact pv_if (by rw [ho2])))) ?_
    exact q
