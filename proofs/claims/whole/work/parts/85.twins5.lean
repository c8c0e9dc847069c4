/-- of the reference only cell 96 and slot 10 of cell 90 change -/
def jfT (I f : Nat → Nat → Int) : Prop := jfr [90, 96] I f ∧ ∀ j, j ≠ 10 → f 90 j = I 90 j
theorem pv_if {φ P : Prop} [Decidable φ] (h : φ ↔ P) : (if φ then (1 : Int) else 0) = pv P := by
  by_cases z : P
  · rw [if_pos (h.mpr z), pv_t z]
  · rw [if_neg (fun w => z (h.mp w)), pv_f z]
theorem jfT_rf (I : Nat → Nat → Int) : jfT I I := ⟨jfr_rf _ _, fun _ _ => rfl⟩
theorem jfT_96 {I f : Nat → Nat → Int} {j : Nat} {v : Int} (h : jfT I f) : jfT I (ja_up f 96 j v) := ⟨jfr_up h.1 (by decide), fun k hk => by rw [ja_upO (by omega)]; exact h.2 k hk⟩
theorem jfT_10 {I f : Nat → Nat → Int} {v : Int} (h : jfT I f) : jfT I (ja_up f 90 10 v) := ⟨jfr_up h.1 (by decide), fun k hk => by rw [ja_upO (by omega)]; exact h.2 k hk⟩
theorem jfT_W {w g : Int} {n : Nat} {I f : Nat → Nat → Int} (hW : jW w g n I) (h : jfT I f) : jW w g n f := jW_fr hW (fun j hj => h.2 j (by omega)) (fun j hj => congrFun (h.1 1 (by decide)) j) (fun k hk => h.1 k (by intro z; simp at z; rcases z with z | z <;> subst z <;> revert hk <;> decide))
set_option maxRecDepth 10000 in
theorem kX12_findTwice {l : Launch} {d : Nat} {h : ja_H} {Q : ja_Q} {n k mx my all bx bY : Nat} {w g p t kI : Int} {lt : Int → Int → Int} {T : Nat → Nat → Prop} (hG : jG h.1) (hW : jW w g n h.2.1) (hp : 0 ≤ p ∧ p ≤ 4) (hlt : jmx h w g p = lt) (hb : ∀ x y, 0 ≤ lt x y ∧ lt x y ≤ 99) (hk : 2 ≤ k ∧ k ≤ 6) (hki : kI = (k : Int)) (hmx : mx = (w - k + 1).toNat) (hmy : my = (g - k + 1).toNat) (hT : TWq lt k mx t = T) (hall : mx * my = all) (hbx : h.2.1 90 8 = (bx : Int)) (hbY : h.2.1 90 9 = (bY : Int)) (bx8 : bx ≤ 8) (bY8 : bY ≤ 8) (q : ∀ f, jfT h.2.1 f → tR k mx T all bx bY all (all + 1) f ((tcq T all all : Nat) : Int) → Q (some (.inl ((tcq T all all : Nat) : Int))) (h.1, f, h.2.2)) : ja_C l (d + 5) mX12_findTwice (js_sh n) [.inr (.inr (some (90))), .inl (p), .inl (kI), .inl (t)] h Q := by
  have wr := jW_r hW
  have w0 := jW_w hW
  have w1 := jW_g hW
  have ha : all ≤ 121 := by rw [← hall]; exact Nat.mul_le_mul (show mx ≤ 11 by omega) (show my ≤ 11 by omega)
  obtain ⟨mI, hmI⟩ : ∃ mI : Int, w - kI + 1 = mI := ⟨_, rfl⟩
  obtain ⟨aI, haI⟩ : ∃ aI : Int, (if mI < 1 ∨ g < kI then 0 else mI * (g - kI + 1)) = aI := ⟨_, rfl⟩
  have eaI : aI = (all : Int) := by
    rw [← haI, ← hall]
    by_cases z : mI < 1 ∨ g < kI
    · rw [if_pos z]
      rcases z with z | z
      · rw [show mx = 0 by omega, Nat.zero_mul]; rfl
      · rw [show my = 0 by omega, Nat.mul_zero]; rfl
    · rw [if_neg z, Int.natCast_mul, show (mx : Int) = mI by omega, show (my : Int) = g - kI + 1 by omega]
  refine eX12_findTwice _ _ _ _ fun r_p r_k r_t ho => ?_
  unfold bX12_findTwice
  unfold ja_r at r_p r_k r_t
  refine jt_sI jv_ci ?_
  refine jt_pZ (jr_lr rfl) (by first | rfl | assumption) jv_ci (by first | exact ja_if01 | simp) ?_
  try dsimp only
  have w0a : ja_up h.2.1 90 10 0 90 0 = w := by rw [ja_upO (by omega)]; exact w0
  have w1a : ja_up h.2.1 90 10 0 90 1 = g := by rw [ja_upO (by omega)]; exact w1
  refine jt_sI (x := mI) (jv_is (jv_w (jv_add (jv_w (jv_sub (jv_gF (jr_lr rfl) (by first | rfl | assumption) (by first | assumption | rfl)) (jv_li rfl)) (by first | (unfold ja_r; omega) | (unfold ja_rl; omega) | omega | assumption)) jv_ci) (by first | (unfold ja_r; omega) | (unfold ja_rl; omega) | omega | assumption)) (by rw [← hmI])) ?_
  refine jt_sI (x := aI) (jv_is (jv_cv (jd_or (jd_lt (jv_li rfl) jv_ci) (fun _ => (jd_lt (jv_gF (jr_lr rfl) rfl w1a) (jv_li rfl)))) (fun _ => jv_ci) (fun y => (jv_w (jv_mul (jv_li rfl) (jv_w (jv_add (jv_w (jv_sub (jv_gF (jr_lr rfl) rfl w1a) (jv_li rfl)) (by first | (unfold ja_r; omega) | (unfold ja_rl; omega) | omega | assumption)) jv_ci) (by first | (unfold ja_r; omega) | (unfold ja_rl; omega) | omega | assumption))) (by have m := jmb (a := mI) (b := g - kI + 1) (A := 11) (B := 11) (by omega) (by omega); unfold ja_r; omega)))) (by exact haI)) ?_
  refine jt_sI jv_ci ?_
  refine jb_forc (all) (fun (i : Nat) L' h' => ∃ (v_n : Int) (v_q : Int) (o6_8 : Option ja_W) (o6_9 : Option ja_W) (o6_10 : Option ja_W) (o6_11 : Option ja_W) (o6_12 : Option ja_W) (f : Nat → Nat → Int), L' = [some (.inr (.inr (some (90)))), some (.inl (p)), some (.inl (kI)), some (.inl (t)), some (.inl (v_n)), some (.inl (mI)), some (.inl (aI)), some (.inl (v_q)), o6_8, o6_9, o6_10, o6_11, o6_12] ∧ v_n = ((tcq T all i + tcr T i (i + 1) : Nat) : Int) ∧ v_q = (i : Int) ∧ (h.1, f, h.2.2) = h' ∧ (jfT h.2.1 f) ∧ (tR k mx T all bx bY i (i + 1) f ((tcq T all i + tcr T i (i + 1) : Nat) : Int))) ⟨_, _, _, _, _, _, _, _, rfl, (by rw [tcr_0 _ (by omega)]; rfl), (by first | rfl | omega | (simp; done) | (simp; omega)), rfl, (by exact jfT_10 (jfT_rf _)), (by refine ⟨⟨rfl, fun _ a b y => by unfold tD at y; omega, fun y => absurd (by rw [tcr_0 _ (by omega)]; rfl) y⟩, ?_⟩; rw [ja_upE rfl rfl, pv_f]; rintro ⟨a, b, y, -⟩; unfold tD at y; omega)⟩ ?_ ?_ ?_
  · rintro i h_i _ _ ⟨v_n0, v_q0, o6_8, o6_9, o6_10, o6_11, o6_12, f, rfl, rfl, rfl, rfl, fr, ft⟩
    exact jd_eq (jd_lt (jv_li rfl) (jv_li rfl)) (by omega)
  · rintro i h_i _ _ ⟨v_n0, v_q0, o6_8, o6_9, o6_10, o6_11, o6_12, f, rfl, rfl, rfl, rfl, fr, ft⟩
    refine jt_sI (x := ((i + 1 + 0 : Nat) : Int)) (jv_is (jv_w (jv_add (jv_li rfl) jv_ci) (by first | (unfold ja_r; omega) | (unfold ja_rl; omega) | omega | assumption)) (by omega)) ?_
    refine jb_forc (all - (i + 1)) (fun (j : Nat) L' h' => ∃ (v_n : Int) (v_r : Int) (o8_9 : Option ja_W) (o8_10 : Option ja_W) (o8_11 : Option ja_W) (o8_12 : Option ja_W) (g0 : Nat → Nat → Int), L' = [some (.inr (.inr (some (90)))), some (.inl (p)), some (.inl (kI)), some (.inl (t)), some (.inl (v_n)), some (.inl (mI)), some (.inl (aI)), some (.inl ((i : Int))), some (.inl (v_r)), o8_9, o8_10, o8_11, o8_12] ∧ v_n = ((tcq T all i + tcr T i (i + 1 + j) : Nat) : Int) ∧ v_r = ((i + 1 + j : Nat) : Int) ∧ (h.1, g0, h.2.2) = h' ∧ (jfT h.2.1 g0) ∧ (tR k mx T all bx bY i (i + 1 + j) g0 ((tcq T all i + tcr T i (i + 1 + j) : Nat) : Int))) ⟨_, _, _, _, _, _, _, rfl, (by rfl), (by first | rfl | omega | (simp; done) | (simp; omega)), rfl, (by exact fr), (by exact ft)⟩ ?_ ?_ ?_
    · rintro j h_j _ _ ⟨v_n0, v_r0, o8_9, o8_10, o8_11, o8_12, g0, rfl, rfl, rfl, rfl, gr, gt⟩
      exact jd_eq (jd_lt (jv_li rfl) (jv_li rfl)) (by omega)
    · rintro j h_j _ _ ⟨v_n0, v_r0, o8_9, o8_10, o8_11, o8_12, g0, rfl, rfl, rfl, rfl, gr, gt⟩
      have h0 : 0 < mx := by
        rcases Nat.eq_zero_or_pos mx with z | z
        · rw [z, Nat.zero_mul] at hall; omega
        · exact z
      have mIe : mI = (mx : Int) := by omega
      obtain ⟨x0, hx0⟩ : ∃ c, i % mx = c := ⟨_, rfl⟩
      obtain ⟨y0, hy0⟩ : ∃ c, i / mx = c := ⟨_, rfl⟩
      obtain ⟨u0, hu0⟩ : ∃ c, (i + 1 + j) % mx = c := ⟨_, rfl⟩
      obtain ⟨v0, hv0⟩ : ∃ c, (i + 1 + j) / mx = c := ⟨_, rfl⟩
      have b1 : x0 < mx ∧ y0 < my := by rw [← hx0, ← hy0]; exact cw_b h0 (by omega)
      have b2 : u0 < mx ∧ v0 < my := by rw [← hu0, ← hv0]; exact cw_b h0 (by omega)
      have hWf : jW w g n g0 := jfT_W hW gr
      have hltf : jmx (h.1, g0, h.2.2) w g p = lt := by rw [jmx_fr (gr.1 _ (by decide))]; exact hlt
      have eT : T i (i + 1 + j) ↔ twn lt k t (x0 : Int) (y0 : Int) (u0 : Int) (v0 : Int) := by rw [← hT]; unfold TWq; rw [hx0, hy0, hu0, hv0]
      obtain ⟨cn, hcn⟩ : ∃ cn : Nat, tcq T all i + tcr T i (i + 1 + j) = cn := ⟨_, rfl⟩
      have cnb : cn ≤ 20000 := by
        have q1 := tcq_le (T := T) (all := all) i
        have q2 := tcr_le (T := T) (q := i) (i + 1 + j)
        have q3 : i * all ≤ 121 * 121 := Nat.mul_le_mul (by omega) ha
        omega
      rw [hcn] at gt ⊢
      have e10 : g0 90 10 = pv (tIn T k mx all i (i + 1 + j) bx bY) := gt.2
      have e8 : g0 90 8 = (bx : Int) := by rw [gr.2 8 (by decide)]; exact hbx
      have e9 : g0 90 9 = (bY : Int) := by rw [gr.2 9 (by decide)]; exact hbY
      have w0f : g0 90 0 = w := jW_w hWf
      have hin : ((pv (tIn T k mx all i (i + 1 + j) bx bY) ≠ 0 ∨ ((x0 : Int) < (bx : Int) + 4 ∧ (bx : Int) < (x0 : Int) + kI) ∧ (y0 : Int) < (bY : Int) + 4 ∧ (bY : Int) < (y0 : Int) + kI) ∨ ((u0 : Int) < (bx : Int) + 4 ∧ (bx : Int) < (u0 : Int) + kI) ∧ (v0 : Int) < (bY : Int) + 4 ∧ (bY : Int) < (v0 : Int) + kI) ↔ (tIn T k mx all i (i + 1 + j) bx bY ∨ tMe k mx bx bY i ∨ tMe k mx bx bY (i + 1 + j)) := by
        unfold tMe
        rw [pv_ne, hx0, hy0, hu0, hv0, or_assoc]
        have a1 : (((x0 : Int) < (bx : Int) + 4 ∧ (bx : Int) < (x0 : Int) + kI) ∧ (y0 : Int) < (bY : Int) + 4 ∧ (bY : Int) < (y0 : Int) + kI) ↔ ((x0 < bx + 4 ∧ bx < x0 + k) ∧ y0 < bY + 4 ∧ bY < y0 + k) := by omega
        have a2 : (((u0 : Int) < (bx : Int) + 4 ∧ (bx : Int) < (u0 : Int) + kI) ∧ (v0 : Int) < (bY : Int) + 4 ∧ (bY : Int) < (v0 : Int) + kI) ↔ ((u0 < bx + 4 ∧ bx < u0 + k) ∧ v0 < bY + 4 ∧ bY < v0 + k) := by omega
        rw [a1, a2]
      refine jt_sI (x := (x0 : Int)) (jv_is (jv_remP (jv_li rfl) (jv_li rfl) (by first | (unfold ja_r; omega) | (unfold ja_rl; omega) | omega | assumption) (by first | (unfold ja_r; omega) | (unfold ja_rl; omega) | omega | assumption)) (by rw [mIe, ← hx0]; omega)) ?_
      refine jt_sI (x := (y0 : Int)) (jv_is (jv_divP (jv_li rfl) (jv_li rfl) (by first | (unfold ja_r; omega) | (unfold ja_rl; omega) | omega | assumption) (by first | (unfold ja_r; omega) | (unfold ja_rl; omega) | omega | assumption) (by first | (unfold ja_r; omega) | (unfold ja_rl; omega) | omega | assumption)) (by rw [mIe, ← Int.natCast_ediv, hy0])) ?_
      refine jt_sI (x := (u0 : Int)) (jv_is (jv_remP (jv_li rfl) (jv_li rfl) (by first | (unfold ja_r; omega) | (unfold ja_rl; omega) | omega | assumption) (by first | (unfold ja_r; omega) | (unfold ja_rl; omega) | omega | assumption)) (by rw [mIe, ← hu0]; omega)) ?_
      refine jt_sI (x := (v0 : Int)) (jv_is (jv_divP (jv_li rfl) (jv_li rfl) (by first | (unfold ja_r; omega) | (unfold ja_rl; omega) | omega | assumption) (by first | (unfold ja_r; omega) | (unfold ja_rl; omega) | omega | assumption) (by first | (unfold ja_r; omega) | (unfold ja_rl; omega) | omega | assumption)) (by rw [mIe, ← Int.natCast_ediv, hv0])) ?_
      refine jb_if_d (φ := ¬ twn lt k t (x0 : Int) (y0 : Int) (u0 : Int) (v0 : Int)) (jd_eq (jd_not (jd_bt (jy_mI (jr_lr rfl) rfl (jA_i (jA_i (jA_i (jA_i (jA_i (jA_i (jA_i jA_0 (jv_li rfl)) (jv_li rfl)) (jv_li rfl)) (jv_li rfl)) (jv_li rfl)) (jv_li rfl)) (jv_li rfl)) fun _ => pv_of (kX12_isTwice (h := (h.1, g0, h.2.2)) hG hWf hp hltf hb hk hki (by omega) (by omega) (by omega) (by omega))))) (by rw [pv_ne])) (fun c1 => ?_) (fun c1 => ?_)
      · exact jt_inc rfl (by first | (unfold ja_r; omega) | (unfold ja_rl; omega) | omega | assumption) ⟨_, _, _, _, _, _, _, rfl, (by first | (rw [show i + 1 + (j + 1) = (i + 1 + j) + 1 by omega, tcr_f (fun y => c1 (eT.mp y)), hcn]) | (rw [show i + 1 + (j + 1) = (i + 1 + j) + 1 by omega, tcr_t (by omega) (eT.mpr c2), ← hcn]; omega)), (by first | rfl | omega | (simp; done) | (simp; omega)), rfl, (by first | exact gr | exact jfT_10 gr | exact jfT_10 (jfT_96 (jfT_96 (jfT_96 (jfT_96 gr))))), (by 
              first
              | (rw [show i + 1 + (j + 1) = (i + 1 + j) + 1 by omega, tcr_f (fun y => c1 (eT.mp y)), hcn]; exact tR_f gt (by omega) (by omega) (fun y => c1 (eT.mp y)))
              | (rw [show i + 1 + (j + 1) = (i + 1 + j) + 1 by omega, tcr_t (by omega) (eT.mpr c2), show ((tcq T all i + (tcr T i (i + 1 + j) + 1) : Nat) : Int) = (cn : Int) + 1 by omega]; refine tR_t gt (by omega) (by omega) (eT.mpr c2) (fun y => by first | exact absurd y c3 | exact ⟨by rw [ja_upO (by omega), ja_upO (by omega), ja_upO (by omega), ja_upO (by omega), ja_upE rfl (by omega), hx0], by rw [ja_upO (by omega), ja_upO (by omega), ja_upO (by omega), ja_upE rfl (by omega), hy0], by rw [ja_upO (by omega), ja_upO (by omega), ja_upE rfl (by omega), hu0], by rw [ja_upO (by omega), ja_upE rfl (by omega), hv0]⟩) (fun y => by first | exact absurd c3 y | (funext a; rw [ja_upO (by omega)])) (by rw [ja_upE rfl rfl])))⟩
      · have c2 := Classical.not_not.mp c1
        refine jb_if_d (jd_eqI (jv_li rfl) jv_ci) (fun c2 => ?_) (fun c2 => ?_)
        · have c3 := c2
          have c2 := Classical.not_not.mp c1
          have e10w : ja_up (ja_up (ja_up (ja_up g0 96 (0 : Int).toNat (x0 : Int)) 96 (1 : Int).toNat (y0 : Int)) 96 (2 : Int).toNat (u0 : Int)) 96 (3 : Int).toNat (v0 : Int) 90 10 = pv (tIn T k mx all i (i + 1 + j) bx bY) := by rw [ja_upO (by omega), ja_upO (by omega), ja_upO (by omega), ja_upO (by omega)]; exact e10
          have e8w : ja_up (ja_up (ja_up (ja_up g0 96 (0 : Int).toNat (x0 : Int)) 96 (1 : Int).toNat (y0 : Int)) 96 (2 : Int).toNat (u0 : Int)) 96 (3 : Int).toNat (v0 : Int) 90 8 = (bx : Int) := by rw [ja_upO (by omega), ja_upO (by omega), ja_upO (by omega), ja_upO (by omega)]; exact e8
          have e9w : ja_up (ja_up (ja_up (ja_up g0 96 (0 : Int).toNat (x0 : Int)) 96 (1 : Int).toNat (y0 : Int)) 96 (2 : Int).toNat (u0 : Int)) 96 (3 : Int).toNat (v0 : Int) 90 9 = (bY : Int) := by rw [ja_upO (by omega), ja_upO (by omega), ja_upO (by omega), ja_upO (by omega)]; exact e9
          refine jt_wI (jr_g (jr_lr rfl) (by first | rfl | assumption) (by first | rfl | assumption | exact jG_at hG rfl | exact jG_90 hG rfl)) (by first | rfl | assumption) jv_ci (jv_li rfl) (by first | (unfold ja_r; omega) | (unfold ja_rl; omega) | omega | assumption) (by first | (unfold ja_r; omega) | (unfold ja_rl; omega) | omega | assumption) ?_
          try dsimp only
          refine jt_wI (jr_g (jr_lr rfl) (by first | rfl | assumption) (by first | rfl | assumption | exact jG_at hG rfl | exact jG_90 hG rfl)) (by first | rfl | assumption) jv_ci (jv_li rfl) (by first | (unfold ja_r; omega) | (unfold ja_rl; omega) | omega | assumption) (by first | (unfold ja_r; omega) | (unfold ja_rl; omega) | omega | assumption) ?_
          try dsimp only
          refine jt_wI (jr_g (jr_lr rfl) (by first | rfl | assumption) (by first | rfl | assumption | exact jG_at hG rfl | exact jG_90 hG rfl)) (by first | rfl | assumption) jv_ci (jv_li rfl) (by first | (unfold ja_r; omega) | (unfold ja_rl; omega) | omega | assumption) (by first | (unfold ja_r; omega) | (unfold ja_rl; omega) | omega | assumption) ?_
          try dsimp only
          refine jt_wI (jr_g (jr_lr rfl) (by first | rfl | assumption) (by first | rfl | assumption | exact jG_at hG rfl | exact jG_90 hG rfl)) (by first | rfl | assumption) jv_ci (jv_li rfl) (by first | (unfold ja_r; omega) | (unfold ja_rl; omega) | omega | assumption) (by first | (unfold ja_r; omega) | (unfold ja_rl; omega) | omega | assumption) ?_
          try dsimp only
          first
          | refine jt_pZ (jr_lr rfl) rfl (jv_is (x' := pv (tIn T k mx all i (i + 1 + j) bx bY ∨ tMe k mx bx bY i ∨ tMe k mx bx bY (i + 1 + j))) (jv_cb (jd_or (jd_or (jd_bt (jv_gF (jr_lr rfl) rfl e10)) (fun _ => (jd_and (jd_b (jy_sI (jA_i (jA_i (jA_i jA_0 (jv_li rfl)) (jv_li rfl)) (jv_gF (jr_lr rfl) rfl e8)) fun _ => kX12_meets (by omega) (by omega) (by omega))) (fun _ => (jd_b (jy_sI (jA_i (jA_i (jA_i jA_0 (jv_li rfl)) (jv_li rfl)) (jv_gF (jr_lr rfl) rfl e9)) fun _ => kX12_meets (by omega) (by omega) (by omega))))))) (fun _ => (jd_and (jd_b (jy_sI (jA_i (jA_i (jA_i jA_0 (jv_li rfl)) (jv_li rfl)) (jv_gF (jr_lr rfl) rfl e8)) fun _ => kX12_meets (by omega) (by omega) (by omega))) (fun _ => (jd_b (jy_sI (jA_i (jA_i (jA_i jA_0 (jv_li rfl)) (jv_li rfl)) (jv_gF (jr_lr rfl) rfl e9)) fun _ => kX12_meets (by omega) (by omega) (by omega)))))))) (pv_if hin)) (by by_cases y : (tIn T k mx all i (i + 1 + j) bx bY ∨ tMe k mx bx bY i ∨ tMe k mx bx bY (i + 1 + j)); exact Or.inr (pv_t y); exact Or.inl (pv_f y)) ?_
          | refine jt_pZ (jr_lr rfl) rfl (jv_is (x' := pv (tIn T k mx all i (i + 1 + j) bx bY ∨ tMe k mx bx bY i ∨ tMe k mx bx bY (i + 1 + j))) (jv_cb (jd_or (jd_or (jd_bt (jv_gF (jr_lr rfl) rfl e10w)) (fun _ => (jd_and (jd_b (jy_sI (jA_i (jA_i (jA_i jA_0 (jv_li rfl)) (jv_li rfl)) (jv_gF (jr_lr rfl) rfl e8w)) fun _ => kX12_meets (by omega) (by omega) (by omega))) (fun _ => (jd_b (jy_sI (jA_i (jA_i (jA_i jA_0 (jv_li rfl)) (jv_li rfl)) (jv_gF (jr_lr rfl) rfl e9w)) fun _ => kX12_meets (by omega) (by omega) (by omega))))))) (fun _ => (jd_and (jd_b (jy_sI (jA_i (jA_i (jA_i jA_0 (jv_li rfl)) (jv_li rfl)) (jv_gF (jr_lr rfl) rfl e8w)) fun _ => kX12_meets (by omega) (by omega) (by omega))) (fun _ => (jd_b (jy_sI (jA_i (jA_i (jA_i jA_0 (jv_li rfl)) (jv_li rfl)) (jv_gF (jr_lr rfl) rfl e9w)) fun _ => kX12_meets (by omega) (by omega) (by omega)))))))) (pv_if hin)) (by by_cases y : (tIn T k mx all i (i + 1 + j) bx bY ∨ tMe k mx bx bY i ∨ tMe k mx bx bY (i + 1 + j)); exact Or.inr (pv_t y); exact Or.inl (pv_f y)) ?_
          try dsimp only
          refine jt_inc rfl (by first | (unfold ja_r; omega) | (unfold ja_rl; omega) | omega | assumption) ?_
          exact jt_inc rfl (by first | (unfold ja_r; omega) | (unfold ja_rl; omega) | omega | assumption) ⟨_, _, _, _, _, _, _, rfl, (by first | (rw [show i + 1 + (j + 1) = (i + 1 + j) + 1 by omega, tcr_f (fun y => c1 (eT.mp y)), hcn]) | (rw [show i + 1 + (j + 1) = (i + 1 + j) + 1 by omega, tcr_t (by omega) (eT.mpr c2), ← hcn]; omega)), (by first | rfl | omega | (simp; done) | (simp; omega)), rfl, (by first | exact gr | exact jfT_10 gr | exact jfT_10 (jfT_96 (jfT_96 (jfT_96 (jfT_96 gr))))), (by 
                first
                | (rw [show i + 1 + (j + 1) = (i + 1 + j) + 1 by omega, tcr_f (fun y => c1 (eT.mp y)), hcn]; exact tR_f gt (by omega) (by omega) (fun y => c1 (eT.mp y)))
                | (rw [show i + 1 + (j + 1) = (i + 1 + j) + 1 by omega, tcr_t (by omega) (eT.mpr c2), show ((tcq T all i + (tcr T i (i + 1 + j) + 1) : Nat) : Int) = (cn : Int) + 1 by omega]; refine tR_t gt (by omega) (by omega) (eT.mpr c2) (fun y => by first | exact absurd y c3 | exact ⟨by rw [ja_upO (by omega), ja_upO (by omega), ja_upO (by omega), ja_upO (by omega), ja_upE rfl (by omega), hx0], by rw [ja_upO (by omega), ja_upO (by omega), ja_upO (by omega), ja_upE rfl (by omega), hy0], by rw [ja_upO (by omega), ja_upO (by omega), ja_upE rfl (by omega), hu0], by rw [ja_upO (by omega), ja_upE rfl (by omega), hv0]⟩) (fun y => by first | exact absurd c3 y | (funext a; rw [ja_upO (by omega)])) (by rw [ja_upE rfl rfl])))⟩
        · have c3 := c2
          have c2 := Classical.not_not.mp c1
          first
          | refine jt_pZ (jr_lr rfl) rfl (jv_is (x' := pv (tIn T k mx all i (i + 1 + j) bx bY ∨ tMe k mx bx bY i ∨ tMe k mx bx bY (i + 1 + j))) (jv_cb (jd_or (jd_or (jd_bt (jv_gF (jr_lr rfl) rfl e10)) (fun _ => (jd_and (jd_b (jy_sI (jA_i (jA_i (jA_i jA_0 (jv_li rfl)) (jv_li rfl)) (jv_gF (jr_lr rfl) rfl e8)) fun _ => kX12_meets (by omega) (by omega) (by omega))) (fun _ => (jd_b (jy_sI (jA_i (jA_i (jA_i jA_0 (jv_li rfl)) (jv_li rfl)) (jv_gF (jr_lr rfl) rfl e9)) fun _ => kX12_meets (by omega) (by omega) (by omega))))))) (fun _ => (jd_and (jd_b (jy_sI (jA_i (jA_i (jA_i jA_0 (jv_li rfl)) (jv_li rfl)) (jv_gF (jr_lr rfl) rfl e8)) fun _ => kX12_meets (by omega) (by omega) (by omega))) (fun _ => (jd_b (jy_sI (jA_i (jA_i (jA_i jA_0 (jv_li rfl)) (jv_li rfl)) (jv_gF (jr_lr rfl) rfl e9)) fun _ => kX12_meets (by omega) (by omega) (by omega)))))))) (pv_if hin)) (by by_cases y : (tIn T k mx all i (i + 1 + j) bx bY ∨ tMe k mx bx bY i ∨ tMe k mx bx bY (i + 1 + j)); exact Or.inr (pv_t y); exact Or.inl (pv_f y)) ?_
          | refine jt_pZ (jr_lr rfl) rfl (jv_is (x' := pv (tIn T k mx all i (i + 1 + j) bx bY ∨ tMe k mx bx bY i ∨ tMe k mx bx bY (i + 1 + j))) (jv_cb (jd_or (jd_or (jd_bt (jv_gF (jr_lr rfl) rfl e10w)) (fun _ => (jd_and (jd_b (jy_sI (jA_i (jA_i (jA_i jA_0 (jv_li rfl)) (jv_li rfl)) (jv_gF (jr_lr rfl) rfl e8w)) fun _ => kX12_meets (by omega) (by omega) (by omega))) (fun _ => (jd_b (jy_sI (jA_i (jA_i (jA_i jA_0 (jv_li rfl)) (jv_li rfl)) (jv_gF (jr_lr rfl) rfl e9w)) fun _ => kX12_meets (by omega) (by omega) (by omega))))))) (fun _ => (jd_and (jd_b (jy_sI (jA_i (jA_i (jA_i jA_0 (jv_li rfl)) (jv_li rfl)) (jv_gF (jr_lr rfl) rfl e8w)) fun _ => kX12_meets (by omega) (by omega) (by omega))) (fun _ => (jd_b (jy_sI (jA_i (jA_i (jA_i jA_0 (jv_li rfl)) (jv_li rfl)) (jv_gF (jr_lr rfl) rfl e9w)) fun _ => kX12_meets (by omega) (by omega) (by omega)))))))) (pv_if hin)) (by by_cases y : (tIn T k mx all i (i + 1 + j) bx bY ∨ tMe k mx bx bY i ∨ tMe k mx bx bY (i + 1 + j)); exact Or.inr (pv_t y); exact Or.inl (pv_f y)) ?_
          try dsimp only
          refine jt_inc rfl (by first | (unfold ja_r; omega) | (unfold ja_rl; omega) | omega | assumption) ?_
          exact jt_inc rfl (by first | (unfold ja_r; omega) | (unfold ja_rl; omega) | omega | assumption) ⟨_, _, _, _, _, _, _, rfl, (by first | (rw [show i + 1 + (j + 1) = (i + 1 + j) + 1 by omega, tcr_f (fun y => c1 (eT.mp y)), hcn]) | (rw [show i + 1 + (j + 1) = (i + 1 + j) + 1 by omega, tcr_t (by omega) (eT.mpr c2), ← hcn]; omega)), (by first | rfl | omega | (simp; done) | (simp; omega)), rfl, (by first | exact gr | exact jfT_10 gr | exact jfT_10 (jfT_96 (jfT_96 (jfT_96 (jfT_96 gr))))), (by 
                first
                | (rw [show i + 1 + (j + 1) = (i + 1 + j) + 1 by omega, tcr_f (fun y => c1 (eT.mp y)), hcn]; exact tR_f gt (by omega) (by omega) (fun y => c1 (eT.mp y)))
                | (rw [show i + 1 + (j + 1) = (i + 1 + j) + 1 by omega, tcr_t (by omega) (eT.mpr c2), show ((tcq T all i + (tcr T i (i + 1 + j) + 1) : Nat) : Int) = (cn : Int) + 1 by omega]; refine tR_t gt (by omega) (by omega) (eT.mpr c2) (fun y => by first | exact absurd y c3 | exact ⟨by rw [ja_upO (by omega), ja_upO (by omega), ja_upO (by omega), ja_upO (by omega), ja_upE rfl (by omega), hx0], by rw [ja_upO (by omega), ja_upO (by omega), ja_upO (by omega), ja_upE rfl (by omega), hy0], by rw [ja_upO (by omega), ja_upO (by omega), ja_upE rfl (by omega), hu0], by rw [ja_upO (by omega), ja_upE rfl (by omega), hv0]⟩) (fun y => by first | exact absurd c3 y | (funext a; rw [ja_upO (by omega)])) (by rw [ja_upE rfl rfl])))⟩
    · rintro _ _ ⟨v_n0, v_r0, o8_9, o8_10, o8_11, o8_12, g0, rfl, rfl, rfl, rfl, gr, gt⟩
      exact jt_inc rfl (by first | (unfold ja_r; omega) | (unfold ja_rl; omega) | omega | assumption) ⟨_, _, _, _, _, _, _, _, rfl, (by rw [show i + 1 + (all - (i + 1)) = all by omega, tcr_0 (q := i + 1) _ (by omega)]; rfl), (by first | rfl | omega | (simp; done) | (simp; omega)), rfl, (by exact gr), (by rw [show i + 1 + (all - (i + 1)) = all by omega] at gt; have y := tR_n gt; rw [tcr_0 (q := i + 1) _ (by omega)]; exact y)⟩
  · rintro _ _ ⟨v_n0, v_q0, o6_8, o6_9, o6_10, o6_11, o6_12, f, rfl, rfl, rfl, rfl, fr, ft⟩
    refine jt_rI (jv_li rfl) ?_
    have y := ft
    rw [tcr_0 _ (by omega), Nat.add_zero] at y ⊢
    exact q f fr y
