theorem stO_s {A x : Nat} {K N : Nat → Int} {Dp : Nat → Nat} {st : List (Nat × Nat)} (h : stO A K N Dp x st) (hx : x < tpE A N st) : stO A K N Dp (x + 1) st := by
  cases st with
  | nil => exact hx
  | cons y st =>
    obtain ⟨a, r⟩ := y
    obtain ⟨⟨g1, g2, g3, g4, g5, g6⟩, g7⟩ := h
    exact ⟨⟨g1, g2, by omega, hx, g5, g6⟩, g7⟩
theorem jb_whlN {c : ja_EC} {b : ja_T} {N B C : ja_P} {R : ja_Q} {L : ja_L} {h : ja_H} (I : Nat → ja_P) (J : ja_P) (h0 : ∃ m, I m L h) (hs : (∀ L h, J L h → N L h) → ∀ m L h, I m L h → c (b (fun L' h' => ∃ m', m' < m ∧ I m' L' h') N (fun L' h' => ∃ m', m' < m ∧ I m' L' h') R) N L h) (hJ : ∀ L h, J L h → N L h) : jb_lp c b jb_sk N B C R L h := jb_whl I h0 (hs hJ)
set_option maxRecDepth 10000 in
theorem kX12_doText {l : Launch} {d n tx A : Nat} {p w g : Int} {K N C : Nat → Int} {Dp : Nat → Nat} {px : Int → LT} {h : ja_H} {Q : ja_Q} (hG : jG h.1) (hm : jm w g h) (hp : 0 ≤ p ∧ p ≤ 4) (htx : tx < 6) (hw : wfP A K N C Dp) (hX : mTx tx A K N C (h.2.1 93)) (hl : ∀ r : Int, 0 ≤ r → r ≤ 4 → l99 (jmx h w g r)) (hpx : px = (fun r : Int => if 0 ≤ r ∧ r ≤ 4 then jmx h w g r else fun _ _ => 0))
    (q : ∀ s u v, s = doT px p A K N C w g (jmx h w g p) → fM p h.2.1 u → jfr [101] h.2.2 v → jmx (h.1, u, v) w g p = s.1 → l99 s.1 → s.2 ≤ 300 → Q (some (.inl (s.2 : Int))) (h.1, u, v)) : ja_C l (d + 5) mX12_doText (js_sh n) [.inr (.inr (some 90)), .inl (tx : Int), .inl p] h Q := by
  have hA := hw.1
  obtain ⟨hw4, hw12, hg4, hg12⟩ := hm.2.2.2
  have hpl : ∀ r, l99 (px r) := fun r => by
    rw [hpx]
    dsimp only
    split
    · rename_i y; exact hl r y.1 y.2
    · exact fun _ _ => ⟨Int.le_refl 0, show (0 : Int) ≤ 99 by decide⟩
  obtain ⟨R, hR⟩ : ∃ R, R = doT px p A K N C w g (jmx h w g p) := ⟨_, rfl⟩
  have hR0 : cPr (a1 px p K N C w g) A K N [] 0 (jmx h w g p, 0) = R := by
    rw [hR, cPr]
    exact pf_fu hw _ _ _ _ _ _ _ (Or.inl ⟨rfl, fun b _ h2 => ⟨h2, fun y => ((hw.2 b h2).2.2.2.2.2 y).2.1.2⟩⟩) (by unfold pBd; rw [if_pos rfl]; omega) (by unfold pBd; rw [if_pos rfl]; omega)
  have hmS : mS tx A p w g K N C Dp px 0 [] (jmx h w g p) h := ⟨hG, hm, hX, Nat.zero_le _, trivial, ⟨rfl, hl p hp.1 hp.2⟩, fun r h0 h4 hr => by rw [hpx]; dsimp only; rw [if_pos ⟨h0, h4⟩]⟩
  refine eX12_doText _ _ _ fun _ _ ho => ?_
  unfold bX12_doText
  refine jt_sI (jv_is (x' := ((1000 * tx : Nat) : Int)) (jv_w (jv_mul jv_ci (jv_li rfl)) (by unfold ja_r; omega)) (by omega)) ?_
  refine jt_sI jv_ci ?_
  refine jt_sI jv_ci ?_
  refine jt_sI jv_ci ?_
  refine jt_sI jv_ci ?_
  refine jb_whl (fun m L' h' => ∃ (dn x : Nat) (st : List (Nat × Nat)) (lt : LT) (u v : Nat → Nat → Int) (mr : Int) (o8 : Option ja_W), L' = [some (.inr (.inr (some 90))), some (.inl (tx : Int)), some (.inl p), some (.inl ((1000 * tx : Nat) : Int)), some (.inl (dn : Int)), some (.inl (st.length : Int)), some (.inl (x : Int)), some (.inl mr), o8] ∧ (h.1, u, v) = h' ∧ fM p h.2.1 u ∧ jfr [101] h.2.2 v ∧ mS tx A p w g K N C Dp px x st lt (h.1, u, v) ∧ dn ≤ 300 ∧ ((mr = 1 ∧ m + dn = 301 ∧ cPr (a1 px p K N C w g) A K N st x (lt, dn) = R) ∨ (mr = 0 ∧ m = 0 ∧ (lt, dn) = R))) ⟨301, 0, 0, [], jmx h w g p, h.2.1, h.2.2, 1, none, rfl, rfl, fM_rf, jfr_rf _ _, hmS, by omega, Or.inl ⟨rfl, rfl, hR0⟩⟩ ?_
  rintro m _ _ ⟨dn, x, st, lt, u, v, mr, o8, rfl, rfl, fr, vr, hS, hdn, hc⟩
  refine (jd_bt (jv_li rfl)) _ _ (fun c => ?_) (fun c => ?_)
  · obtain ⟨rfl, hmm, hcv⟩ : mr = 1 ∧ m + dn = 301 ∧ cPr (a1 px p K N C w g) A K N st x (lt, dn) = R := by
      rcases hc with hc | ⟨y, _⟩
      · exact hc
      · exact absurd y c
    refine jb_whlN (fun m2 L' h' => ∃ (x : Nat) (st : List (Nat × Nat)) (u : Nat → Nat → Int) (o8 : Option ja_W), L' = [some (.inr (.inr (some 90))), some (.inl (tx : Int)), some (.inl p), some (.inl ((1000 * tx : Nat) : Int)), some (.inl (dn : Int)), some (.inl (st.length : Int)), some (.inl (x : Int)), some (.inl 1), o8] ∧ (h.1, u, v) = h' ∧ fM p h.2.1 u ∧ mS tx A p w g K N C Dp px x st lt (h.1, u, v) ∧ mu N st = m2 ∧ cPr (a1 px p K N C w g) A K N st x (lt, dn) = R)
      (fun L' h' => ∃ (x : Nat) (st : List (Nat × Nat)) (u : Nat → Nat → Int) (o8 : Option ja_W), L' = [some (.inr (.inr (some 90))), some (.inl (tx : Int)), some (.inl p), some (.inl ((1000 * tx : Nat) : Int)), some (.inl (dn : Int)), some (.inl (st.length : Int)), some (.inl (x : Int)), some (.inl 1), o8] ∧ (h.1, u, v) = h' ∧ fM p h.2.1 u ∧ mS tx A p w g K N C Dp px x st lt (h.1, u, v) ∧ (x < tpE A N st ∨ (st = [] ∧ x = A)) ∧ cPr (a1 px p K N C w g) A K N st x (lt, dn) = R) ⟨mu N st, x, st, u, o8, rfl, rfl, fr, hS, rfl, hcv⟩ ?_ ?_
    · intro hJ m2 L' h' z
      clear hS hcv fr
      obtain ⟨x, st, u, o8, z1, z2, fr, hS, hmu, hcv⟩ := z
      subst z1
      subst z2
      obtain ⟨_, hm1, hX1, hso, hgo, ⟨hlt, hl9⟩, _⟩ := id hS
      cases st with
      | nil =>
        refine (jd_eq (φ' := False) (jd_and (ψ := False) (jd_gt (jv_li rfl) jv_ci) (fun y => absurd y (by simp))) (by simp)) _ _ (fun c => c.elim) (fun _ => ?_)
        have hx : x ≤ A := hso
        exact hJ _ _ ⟨x, [], u, o8, rfl, rfl, fr, hS, by by_cases y : x < A; exact Or.inl y; exact Or.inr ⟨rfl, by omega⟩, hcv⟩
      | cons y st =>
        obtain ⟨a, r⟩ := y
        obtain ⟨⟨g1, g2, g3, g4, g5, g6⟩, g7⟩ := id hso
        have hst8 := (stO_A hw hso).2.2.2.1
        have hbb := stO_A hw g7
        simp only [List.length_cons] at hst8
        obtain ⟨v1, v2, v3, v4⟩ := (hw.2 a g1).2.2.2.2.2 g2
        have hea : N (7 * a + 1) = (eN N a : Int) := by unfold eN; omega
        have hX2 : mTx tx A K N C (u 93) := hX1
        have e10 : u 93 (((1000 * tx + 1 + 12 * a : Nat) : Int) + 10).toNat = (eN N a : Int) := by
          have := mTx_n (j := 1) hX2 g1 (by rw [g2]; decide)
          rw [g2, show msl 5 1 = 10 from rfl, hea] at this
          rw [show (((1000 * tx + 1 + 12 * a : Nat) : Int) + 10).toNat = 1000 * tx + 1 + 12 * a + 10 by omega]; exact this
        have e1 : u 93 (((1000 * tx + 1 + 12 * a : Nat) : Int) + 1).toNat = N (7 * a + 0) := by
          have := mTx_n (j := 0) hX2 g1 (by rw [g2]; decide)
          rw [g2, show msl 5 0 = 1 from rfl] at this
          rw [show (((1000 * tx + 1 + 12 * a : Nat) : Int) + 1).toNat = 1000 * tx + 1 + 12 * a + 1 by omega]; exact this
        have d1 : ((((a, r) :: st).length : Int) - 1).toNat = st.length := by simp only [List.length_cons]; omega
        have eg : u 103 ((((a, r) :: st).length : Int) - 1).toNat = ((1000 * tx + 1 + 12 * a : Nat) : Int) := by rw [d1]; exact hgo.1.1
        have er : u 104 ((((a, r) :: st).length : Int) - 1).toNat = (r : Int) := by rw [d1]; exact hgo.1.2
        have ln : (((a, r) :: st).length : Int) = (st.length : Int) + 1 := by simp only [List.length_cons]; omega
        refine (jd_eq (φ' := x = eN N a) (jd_and (jd_gt (jv_li rfl) jv_ci) (fun y => jd_eqI (jv_li rfl) (jv_fI (jr_g (jr_lr rfl) rfl (by exact jG_90 (j := 4) (r := 93) hG rfl)) (jv_w (jv_add (jv_fI (jr_g (jr_lr rfl) rfl (by exact jG_90 (j := 39) (r := 103) hG rfl)) (jv_w (jv_sub (jv_li rfl) jv_ci) (by unfold ja_r; omega)) rfl (by omega) (by omega) eg) jv_ci) (by unfold ja_r; omega)) rfl (by omega) (by omega) e10))) (by omega)) _ _ (fun c => ?_) (fun c => ?_)
        · subst c
          refine jt_sI (x := ((1000 * tx + 1 + 12 * a : Nat) : Int)) (jv_fI (jr_g (jr_lr rfl) rfl (by exact jG_90 (j := 39) (r := 103) hG rfl)) (jv_w (jv_sub (jv_li rfl) jv_ci) (by unfold ja_r; omega)) rfl (by omega) (by omega) eg) ?_
          refine jt_uB (w := ((r + 1 : Nat) : Int)) (jr_g (jr_lr rfl) rfl (by exact jG_90 (j := 40) (r := 104) hG rfl)) rfl (jv_w (jv_sub (jv_li rfl) jv_ci) (by unfold ja_r; omega)) (by omega) (by omega) jv_ci (by dsimp only; rw [er, ja_w_id (by unfold ja_r; omega)]; omega) ?_
          dsimp only
          rw [d1]
          obtain ⟨u2, hu2⟩ : ∃ u2, ja_up u 104 st.length ((r + 1 : Nat) : Int) = u2 := ⟨_, rfl⟩
          have o2 : ∀ c j, (c ≠ 104 ∨ j ≠ st.length) → u2 c j = u c j := fun c j y => by rw [← hu2, ja_upO y]
          have fr2 : fM p u u2 := fM_of (S := [104]) (by rw [← hu2]; exact jfr_up (jfr_rf _ _) (by simp)) (by simp)
          have er2 : u2 104 ((((a, r) :: st).length : Int) - 1).toNat = ((r + 1 : Nat) : Int) := by rw [d1, ← hu2, ja_upE rfl rfl]
          have f1 : u2 93 (((1000 * tx + 1 + 12 * a : Nat) : Int) + 1).toNat = N (7 * a + 0) := by rw [o2 _ _ (by omega)]; exact e1
          have f10 : u2 93 (((1000 * tx + 1 + 12 * a : Nat) : Int) + 10).toNat = (eN N a : Int) := by rw [o2 _ _ (by omega)]; exact e10
          have l2 : jmx (h.1, u2, v) w g p = lt := by rw [← hlt]; exact jmx_w (h := (h.1, u, v)) (by funext c; exact o2 _ _ (by omega))
          have g03 : u2 103 st.length = ((1000 * tx + 1 + 12 * a : Nat) : Int) := (o2 _ _ (by omega)).trans hgo.1.1
          have g04 : u2 104 st.length = ((r + 1 : Nat) : Int) := by rw [← hu2, ja_upE rfl rfl]
          have gst : goR (1000 * tx) u2 st := goR_o (fun j hj => ⟨o2 _ _ (by omega), o2 _ _ (by omega)⟩) hgo.2
          have cr := cPr_r (F := a1 px p K N C w g) (s := (lt, dn)) hw hso
          rw [hu2]
          refine jb_if_d (jd_eq (φ' := ((r + 1 : Nat) : Int) < N (7 * a + 0)) (jd_lt (jv_fI (jr_g (jr_lr rfl) rfl (by exact jG_90 (j := 40) (r := 104) hG rfl)) (jv_w (jv_sub (jv_li rfl) jv_ci) (by unfold ja_r; omega)) rfl (by omega) (by omega) er2) (jv_fI (jr_g (jr_lr rfl) rfl (by exact jG_90 (j := 4) (r := 93) hG rfl)) (jv_w (jv_add (jv_li rfl) jv_ci) (by unfold ja_r; omega)) rfl (by omega) (by omega) f1)) Iff.rfl) (fun c1 => ?_) (fun c1 => ?_)
          · obtain ⟨x1, x2⟩ := cr.1 c1
            have hS2 : mS tx A p w g K N C Dp px (a + 1) ((a, r + 1) :: st) lt (h.1, u2, v) := mS_o (h := (h.1, u, v)) hS hp fr2 x2 ⟨⟨g03, g04⟩, gst⟩ l2 hl9
            have td : (((1000 * tx + 1 + 12 * a : Nat) : Int) - ((1000 * tx : Nat) : Int) - 1).tdiv 12 = (a : Int) := by rw [show ((1000 * tx + 1 + 12 * a : Nat) : Int) - ((1000 * tx : Nat) : Int) - 1 = (a : Int) * 12 by omega, Int.mul_tdiv_cancel _ (by decide)]
            refine jt_sI (x := ((a + 1 : Nat) : Int)) (jv_is (jv_w (jv_add (jv_is (x' := (a : Int)) (jv_w (jv_div (jv_w (jv_sub (jv_w (jv_sub (jv_li rfl) (jv_li rfl)) (by unfold ja_r; omega)) jv_ci) (by unfold ja_r; omega)) jv_ci (by decide)) (by unfold ja_r; rw [td]; omega)) td) jv_ci) (by unfold ja_r; omega)) (by omega)) ?_
            refine jb_if_d (jd_eq (φ' := a + 1 = eN N a) (jd_eqI (jv_li rfl) (jv_fI (jr_g (jr_lr rfl) rfl (by exact jG_90 (j := 4) (r := 93) hG rfl)) (jv_w (jv_add (jv_li rfl) jv_ci) (by unfold ja_r; omega)) rfl (by omega) (by omega) f10)) (by omega)) (fun c2 => ?_) (fun c2 => ?_)
            · exact ⟨mu N ((a, r + 1) :: st), by rw [← hmu]; simp only [mu]; omega, a + 1, (a, r + 1) :: st, u2, _, rfl, rfl, fM_tr fr fr2, hS2, rfl, by rw [← x1]; exact hcv⟩
            · exact hJ _ _ ⟨a + 1, (a, r + 1) :: st, u2, _, rfl, rfl, fM_tr fr fr2, hS2, Or.inl (by simp only [tpE]; omega), by rw [← x1]; exact hcv⟩
          · obtain ⟨x1, x2⟩ := cr.2 c1
            refine jt_inc rfl (by unfold ja_r; omega) ?_
            rw [ln, show (st.length : Int) + 1 + (-1) = (st.length : Int) by omega]
            exact ⟨mu N st, by rw [← hmu]; simp only [mu]; omega, eN N a, st, u2, _, rfl, rfl, fM_tr fr fr2, mS_o (h := (h.1, u, v)) hS hp fr2 x2 gst l2 hl9, rfl, by rw [← x1]; exact hcv⟩
        · exact hJ _ _ ⟨x, (a, r) :: st, u, o8, rfl, rfl, fr, hS, Or.inl (by simp only [tpE]; omega), hcv⟩
    · clear hS hcv fr
      rintro _ _ ⟨x, st, u, o8, rfl, rfl, fr, hS, hx, hcv⟩
      obtain ⟨_, hm1, hX1, hso, hgo, ⟨hlt, hl9⟩, hpx1⟩ := id hS
      obtain ⟨t1, t2, t3, t4, t5⟩ := stO_A hw hso
      have hX2 : mTx tx A K N C (u 93) := hX1
      have eA : u 93 ((1000 * tx : Nat) : Int).toNat = (A : Int) := hX2.1
      have er : 0 < st.length → u 104 ((st.length : Int) - 1).toNat = (rdO st : Int) := fun y => by
        cases st with
        | nil => simp at y
        | cons z st =>
          obtain ⟨a, r⟩ := z
          rw [show ((((a, r) :: st).length : Int) - 1).toNat = st.length by simp only [List.length_cons]; omega]
          exact hgo.1.2
      have e0 : ¬ 0 < st.length → rdO st = 0 := fun y => by
        cases st with
        | nil => rfl
        | cons z st => simp at y
      refine jt_sI (jv_cv (φ := x < A ∧ dn < 300) (jd_eq (jd_and (jd_lt (jv_li rfl) (jv_fI (jr_g (jr_lr rfl) rfl (by exact jG_90 (j := 4) (r := 93) hG rfl)) (jv_li rfl) rfl (by omega) (by omega) eA)) (fun _ => jd_lt (jv_li rfl) jv_ci)) (by omega)) (fun _ => jv_ci) (fun _ => jv_ci)) ?_
      by_cases mo : x < A ∧ dn < 300
      · rw [if_pos mo]
        refine jb_if_d (φ := False) (jd_eq (jd_not (jd_bt (jv_li rfl))) (by simp)) (fun c => c.elim) (fun _ => ?_)
        have hxt : x < tpE A N st := by
          rcases hx with y | ⟨_, y⟩
          · exact y
          · omega
        have wa := hw.2 x mo.1
        refine jt_sI (jv_is (x' := ((1000 * tx + 1 + 12 * x : Nat) : Int)) (jv_w (jv_add (jv_w (jv_add (jv_li rfl) jv_ci) (by unfold ja_r; omega)) (jv_w (jv_mul jv_ci (jv_li rfl)) (by unfold ja_r; omega))) (by unfold ja_r; omega)) (by omega)) ?_
        refine jt_inc rfl (by unfold ja_r; omega) ?_
        refine jt_inc rfl (by unfold ja_r; omega) ?_
        refine jt_wI (jr_g (jr_lr rfl) rfl (by exact jG_90 (j := 36) (r := 100) hG rfl)) rfl jv_ci (jv_is (x' := (rdO st : Int)) (jv_cv (φ := 0 < st.length) (jd_eq (jd_gt (jv_li rfl) jv_ci) (by omega)) (fun y => jv_fI (jr_g (jr_lr rfl) rfl (by exact jG_90 (j := 40) (r := 104) hG rfl)) (jv_w (jv_sub (jv_li rfl) jv_ci) (by unfold ja_r; omega)) rfl (by omega) (by omega) (er y)) (fun _ => jv_ci)) (by split; rfl; rename_i y; rw [e0 y]; rfl)) (by decide) (by decide) ?_
        dsimp only
        obtain ⟨f1, hf1⟩ : ∃ f1, ja_up u 100 (5 : Int).toNat (rdO st : Int) = f1 := ⟨_, rfl⟩
        have o1 : ∀ c j, (c ≠ 100 ∨ j ≠ 5) → f1 c j = u c j := fun c j y => by rw [← hf1]; exact ja_upO y
        have v5 : f1 100 5 = (rdO st : Int) := by rw [← hf1]; exact ja_upE rfl rfl
        have fr1 : fM p u f1 := fM_of (S := [100]) (by rw [← hf1]; exact jfr_up (jfr_rf _ _) (by simp)) (by simp)
        have l1 : jmx (h.1, f1, v) w g p = lt := by rw [← hlt]; exact jmx_w (h := (h.1, u, v)) (by funext c; exact o1 _ _ (by omega))
        have hS1 : mS tx A p w g K N C Dp px x st lt (h.1, f1, v) := mS_o (h := (h.1, u, v)) hS hp fr1 hso (goR_o (fun j _ => ⟨o1 _ _ (by omega), o1 _ _ (by omega)⟩) hgo) l1 hl9
        rw [hf1]
        obtain ⟨_, hm2, hX3, _, hgo1, _, hpx2⟩ := id hS1
        have hX3 : mTx tx A K N C (f1 93) := hX3
        have hl1 : l99 (jmx (h.1, f1, v) w g p) := by rw [l1]; exact hl9
        have ek : f1 93 (((1000 * tx + 1 + 12 * x : Nat) : Int)).toNat = K x - 1 := mTx_k hX3 mo.1
        have nn : ∀ j, j < nsl (K x) → f1 93 (1000 * tx + 1 + 12 * x + msl (K x) j) = N (7 * x + j) := fun j hj => mTx_n hX3 mo.1 hj
        have fin : ∀ (lt2 : LT) (u2 v2 : Nat → Nat → Int), K x ≠ 5 → lt2 = a1 px p K N C w g x (rdO st : Int) lt → jfr [91, 100, 102] f1 u2 → pcF p f1 u2 → jfr [101] v v2 → jmx (h.1, u2, v2) w g p = lt2 → (∃ m', m' < m ∧ ∃ (dn' x' : Nat) (st' : List (Nat × Nat)) (lt' : LT) (u v : Nat → Nat → Int) (mr : Int) (o8 : Option ja_W), [some (.inr (.inr (some 90))), some (.inl (tx : Int)), some (.inl p), some (.inl ((1000 * tx : Nat) : Int)), some (.inl ((dn : Int) + 1)), some (.inl (st.length : Int)), some (.inl ((x : Int) + 1)), some (.inl 1), some (.inl ((1000 * tx + 1 + 12 * x : Nat) : Int))] = ([some (.inr (.inr (some 90))), some (.inl (tx : Int)), some (.inl p), some (.inl ((1000 * tx : Nat) : Int)), some (.inl (dn' : Int)), some (.inl (st'.length : Int)), some (.inl (x' : Int)), some (.inl mr), o8] : ja_L) ∧ (h.1, u, v) = (h.1, u2, v2) ∧ fM p h.2.1 u ∧ jfr [101] h.2.2 v ∧ mS tx A p w g K N C Dp px x' st' lt' (h.1, u, v) ∧ dn' ≤ 300 ∧ ((mr = 1 ∧ m' + dn' = 301 ∧ cPr (a1 px p K N C w g) A K N st' x' (lt', dn') = R) ∨ (mr = 0 ∧ m' = 0 ∧ (lt', dn') = R))) := by
          intro lt2 u2 v2 k5 e2 fr0 pc vr2 hl2
          have frM : fM p f1 u2 := ⟨jfr_sub fr0 (by simp), pc⟩
          have c1 := cPr_1 (F := a1 px p K N C w g) (s := (lt, dn)) hw hso hxt mo.2 k5
          exact ⟨m - 1, by omega, dn + 1, x + 1, st, lt2, u2, v2, 1, _, rfl, rfl, fM_tr fr (fM_tr fr1 frM), jfr_tr vr vr2, mS_o (h := (h.1, f1, v)) hS1 hp frM (stO_s hso hxt) (goR_o (fun j _ => ⟨congrFun (fr0 103 (by simp)) j, congrFun (fr0 104 (by simp)) j⟩) hgo1) hl2 (by rw [e2]; exact a1_b wa hpl hl9), by omega, Or.inl ⟨rfl, by omega, by rw [e2, ← hcv]; exact c1.symm⟩⟩
        refine jt_sw (jv_fI (jr_g (jr_lr rfl) rfl (by exact jG_90 (j := 4) (r := 93) hG rfl)) (jv_li rfl) rfl (by omega) (by omega) ek) ?_
        simp only [jb_cs]
        by_cases k1 : K x = 1
        · rw [if_pos (show K x - 1 = 0 by omega)]
          have ww := wa.2.1 k1
          have n1 : ∀ j, j < 7 → f1 93 (1000 * tx + 1 + 12 * x + (j + 1)) = N (7 * x + j) := fun j hj => by
            have := nn j (by rw [k1]; exact hj)
            rw [show msl (K x) j = j + 1 by rw [k1]; unfold msl; rw [if_neg (by omega), if_neg (by omega), if_neg (by omega)]] at this
            exact this
          refine jx_m (jr_lr rfl) rfl (jA_i (jA_i jA_0 (jv_li rfl)) (jv_li rfl)) (kX12_paste (h := (h.1, f1, v)) hG hm2 hp htx (by omega) (n1 0 (by omega)) (n1 1 (by omega)) (n1 2 (by omega)) (n1 3 (by omega)) (n1 4 (by omega)) (n1 5 (by omega)) (n1 6 (by omega)) ww fun u2 fr2 pc2 e2 => ⟨rfl, ?_⟩)
          refine fin _ u2 v (by omega) ?_ (jfr_sub fr2 (by simp)) pc2 (jfr_rf _ _) rfl
          rw [e2, l1]
          unfold a1
          rw [if_pos k1]
          by_cases y : N (7 * x + 0) = p
          · rw [if_pos y, y, l1]
          · rw [if_neg y, hpx2 _ (by omega) (by omega) y]
        rw [if_neg (show ¬ K x - 1 = 0 by omega)]
        by_cases k2 : K x = 2
        · rw [if_pos (show K x - 1 = 1 by omega)]
          have ww := wa.2.2.1 k2
          have n1 : ∀ j, j < 4 → f1 93 (1000 * tx + 1 + 12 * x + (j + 1)) = N (7 * x + j) := fun j hj => by
            have := nn j (by rw [k2]; show j < 6; omega)
            rw [show msl (K x) j = j + 1 by rw [k2]; unfold msl; rw [if_neg (by omega), if_neg (by omega), if_neg (by omega)]] at this
            exact this
          have n4 : f1 93 (1000 * tx + 1 + 12 * x + 8) = N (7 * x + 4) := by
            have := nn 4 (by rw [k2]; decide)
            rw [k2, show msl 2 4 = 8 from rfl] at this
            exact this
          have n5 : f1 93 (1000 * tx + 1 + 12 * x + 9) = N (7 * x + 5) := by
            have := nn 5 (by rw [k2]; decide)
            rw [k2, show msl 2 5 = 9 from rfl] at this
            exact this
          refine jx_m (jr_lr rfl) rfl (jA_i (jA_i (jA_i jA_0 (jv_li rfl)) (jv_li rfl)) (jv_li rfl)) (kX12_paint (h := (h.1, f1, v)) (f := (N (7 * x + 4)).toNat) (t := (N (7 * x + 5)).toNat) hG hm2 hp htx (by omega) hl1 (n1 0 (by omega)) (n1 1 (by omega)) (n1 2 (by omega)) (n1 3 (by omega)) (n4.trans (by omega)) (n5.trans (by omega)) (fun i h1 h2 => hX3.2.2 x mo.1 k2 i (by omega) (by omega)) ww.1 ww.2.2.2 (by omega) v5 fun u2 v2 fr2 pc2 _ vr2 e2 => ⟨rfl, ?_⟩)
          refine fin _ u2 v2 (by omega) ?_ (jfr_sub fr2 (by simp)) pc2 vr2 rfl
          rw [e2, l1]
          unfold a1
          rw [if_neg k1, if_pos k2]
        rw [if_neg (show ¬ K x - 1 = 1 by omega)]
        by_cases k3 : K x = 3
        · rw [if_pos (show K x - 1 = 2 by omega)]
          have ww := wa.2.2.2.1 k3
          have n1 : ∀ j, j < 3 → f1 93 (1000 * tx + 1 + 12 * x + (j + 1)) = N (7 * x + j) := fun j hj => by
            have := nn j (by rw [k3]; exact hj)
            rw [show msl (K x) j = j + 1 by rw [k3]; unfold msl; rw [if_neg (by omega), if_neg (by omega), if_neg (by omega)]] at this
            exact this
          refine jx_m (jr_lr rfl) rfl (jA_i (jA_i jA_0 (jv_li rfl)) (jv_li rfl)) (kX12_keep (h := (h.1, f1, v)) hG hm2 hp htx (by omega) hl1 (n1 0 (by omega)) (n1 1 (by omega)) (n1 2 (by omega)) ww fun u2 fr2 pc2 e2 => ⟨rfl, ?_⟩)
          refine fin _ u2 v (by omega) ?_ (jfr_sub fr2 (by simp)) pc2 (jfr_rf _ _) rfl
          rw [e2, l1]
          unfold a1
          rw [if_neg k1, if_neg k2, if_pos k3]
        rw [if_neg (show ¬ K x - 1 = 2 by omega)]
        by_cases k4 : K x = 4
        · rw [if_pos (show K x - 1 = 3 by omega)]
          have ww := wa.2.2.2.2.1 k4
          have n1 : ∀ j, j < 4 → f1 93 (1000 * tx + 1 + 12 * x + (j + 1)) = N (7 * x + j) := fun j hj => by
            have := nn j (by rw [k4]; exact hj)
            rw [show msl (K x) j = j + 1 by rw [k4]; unfold msl; rw [if_neg (by omega), if_neg (by omega), if_neg (by omega)]] at this
            exact this
          refine jx_m (jr_lr rfl) rfl (jA_i (jA_i jA_0 (jv_li rfl)) (jv_li rfl)) (kX12_flip (h := (h.1, f1, v)) hG hm2 hp htx (by omega) (n1 0 (by omega)) (n1 1 (by omega)) (n1 2 (by omega)) (n1 3 (by omega)) ww fun u2 fr2 pc2 e2 => ⟨rfl, ?_⟩)
          refine fin _ u2 v (by omega) ?_ (jfr_sub fr2 (by simp)) pc2 (jfr_rf _ _) rfl
          rw [e2, l1]
          unfold a1
          rw [if_neg k1, if_neg k2, if_neg k3]
        rw [if_neg (show ¬ K x - 1 = 3 by omega)]
        have k5 : K x = 5 := by have := wa.1; omega
        obtain ⟨c5, s5⟩ := cPr_5 (F := a1 px p K N C w g) (s := (lt, dn)) hw hso hxt mo.2 k5
        refine jt_wI (jr_g (jr_lr rfl) rfl (by exact jG_90 (j := 39) (r := 103) hG rfl)) rfl (jv_li rfl) (jv_li rfl) (by omega) (by omega) ?_
        refine jt_wI (jr_g (jr_lr rfl) rfl (by exact jG_90 (j := 40) (r := 104) hG rfl)) rfl (jv_li rfl) jv_ci (by omega) (by omega) ?_
        refine jt_inc rfl (by unfold ja_r; omega) ?_
        dsimp only
        rw [show ((st.length : Nat) : Int).toNat = st.length by omega]
        obtain ⟨u2, hu2⟩ : ∃ u2, ja_up (ja_up f1 103 st.length ((1000 * tx + 1 + 12 * x : Nat) : Int)) 104 st.length 0 = u2 := ⟨_, rfl⟩
        have o2 : ∀ c j, (c ≠ 103 ∨ j ≠ st.length) → (c ≠ 104 ∨ j ≠ st.length) → u2 c j = f1 c j := fun c j y z => by rw [← hu2, ja_upO z, ja_upO y]
        have fr2 : fM p f1 u2 := fM_of (S := [103, 104]) (by rw [← hu2]; exact jfr_up (jfr_up (jfr_rf _ _) (by simp)) (by simp)) (by simp)
        have l2 : jmx (h.1, u2, v) w g p = lt := by rw [← l1]; exact jmx_w (h := (h.1, f1, v)) (by funext c; exact o2 _ _ (by omega) (by omega))
        rw [hu2]
        exact ⟨m - 1, by omega, dn + 1, x + 1, (x, 0) :: st, lt, u2, v, 1, _, rfl, rfl, fM_tr fr (fM_tr fr1 fr2), vr, mS_o (h := (h.1, f1, v)) hS1 hp fr2 s5 ⟨⟨by rw [← hu2, ja_upO (by omega), ja_upE rfl rfl], by rw [← hu2, ja_upE rfl rfl]; rfl⟩, goR_o (fun j hj => ⟨o2 _ _ (by omega) (by omega), o2 _ _ (by omega) (by omega)⟩) hgo1⟩ l2 hl9, by omega, Or.inl ⟨rfl, by omega, by rw [← hcv]; exact c5.symm⟩⟩
      · rw [if_neg mo]
        refine jb_if_d (φ := True) (jd_eq (jd_not (jd_bt (jv_li rfl))) (by simp)) (fun _ => ?_) (fun c => absurd trivial c)
        refine ⟨0, by omega, dn, x, st, lt, u, v, 0, _, rfl, rfl, fr, vr, hS, hdn, Or.inr ⟨rfl, rfl, ?_⟩⟩
        rw [← hcv]
        by_cases y : dn < 300
        · rcases hx with z | ⟨z1, z2⟩
          · omega
          · rw [z1, z2, cPr, pI_e (by omega)]
        · rw [cPr_3 _ _ _ (by show 300 ≤ dn; omega)]
  · obtain ⟨rfl, hmm, hcv⟩ : mr = 0 ∧ m = 0 ∧ (lt, dn) = R := by
      rcases hc with ⟨y, _⟩ | hc
      · exact absurd (by rw [y]; decide) c
      · exact hc
    refine jt_rI (jv_li rfl) ?_
    have := q R u v hR fr vr (by rw [← hcv]; exact hS.2.2.2.2.2.1.1) (by rw [← hcv]; exact hS.2.2.2.2.2.1.2) (by rw [← hcv]; exact hdn)
    rw [← hcv] at this
    exact this
