theorem dgs_get {T : Nat} : ∀ (n c j : Nat), c < T ^ n → j < n → (dgs T n c).getD j 0 = c / T ^ (n - 1 - j) % T
  | 0, c, j, _, h => absurd h (by omega)
  | n + 1, c, 0, hc, _ => by
    rw [dgs, show n + 1 - 1 - 0 = n by omega]
    have hp : 0 < T ^ n := by
      rcases Nat.eq_zero_or_pos (T ^ n) with y | y
      · rw [Nat.pow_succ, y] at hc; omega
      · exact y
    have : c / T ^ n < T := by
      rw [Nat.div_lt_iff_lt_mul hp, ← Nat.pow_succ']
      exact hc
    simp [Nat.mod_eq_of_lt this]
  | n + 1, c, j + 1, hc, hj => by
    have hp : 0 < T ^ n := by
      rcases Nat.eq_zero_or_pos (T ^ n) with y | y
      · rw [Nat.pow_succ, y] at hc; omega
      · exact y
    have ih := dgs_get (T := T) n (c % T ^ n) j (Nat.mod_lt _ hp) (by omega)
    rw [dgs, show n + 1 - 1 - (j + 1) = n - 1 - j by omega]
    have e : T ^ n = T ^ (n - 1 - j) * T ^ (j + 1) := by rw [← Nat.pow_add]; congr 1; omega
    show (dgs T n (c % T ^ n)).getD j 0 = _
    rw [ih, e, Nat.mod_mul_right_div_self, Nat.mod_mod_of_dvd _ (Nat.dvd_trans (Nat.dvd_refl T) ⟨T ^ j, by rw [Nat.pow_succ, Nat.mul_comm]⟩)]
theorem lst_u {P : Nat → Bool} {m c : Nat} (hc : c < m) (h1 : P c = true) (h2 : ∀ a, a < c → P a = false) : lst P m = c := by
  have hp : cnt P m > 0 := by
    rcases Nat.eq_zero_or_pos (cnt P m) with y | y
    · rw [(cnt_0 m).mp y c hc] at h1; cases h1
    · exact y
  obtain ⟨g1, g2, g3⟩ := lst_s m hp
  rcases Nat.lt_trichotomy (lst P m) c with y | y | y
  · rw [h2 _ y] at g2; cases g2
  · exact y
  · rw [g3 _ y] at h1; cases h1
theorem pxM_w {h : ja_H} {w g : Int} {f e : Nat → Nat → Int} (hf : f 91 = h.2.1 91) : pxM (h.1, f, e) w g = pxM h w g := by
  funext r
  unfold pxM
  rw [jmx_w hf]
set_option maxRecDepth 10000 in
theorem kX12_story {l : Launch} {d n T w g : Nat} {p s i : Int} {A : Nat → Nat} {K N C : Nat → Nat → Int} {Dp : Nat → Nat → Nat} {h : ja_H} {Q : ja_Q} (hG : jG h.1) (hm : jm w g h) (hT : h.2.1 91 3 = (T : Int)) (hT6 : T ≤ 6) (hP : ∀ t, t < T → wfP (A t) (K t) (N t) (C t) (Dp t) ∧ mTx t (A t) (K t) (N t) (C t) (h.2.1 93)) (hl : ∀ r : Int, 0 ≤ r → r ≤ 4 → l99 (jmx h w g r))
    (q1 : ¬ ((0 ≤ p ∧ p ≤ 4) ∧ (0 ≤ s ∧ s ≤ 4) ∧ -2 ≤ i ∧ i ≤ 2) → Q (some (.inl (-1))) h)
    (q : (0 ≤ p ∧ p ≤ 4) → (0 ≤ s ∧ s ≤ 4) → -2 ≤ i ∧ i ≤ 2 → ∀ u v, jfr [100, 102, 103, 104, 105, 106, 107] h.2.1 u → jfr [101] h.2.2 v → Q (some (.inl (stV (DD A K N C (pxM h w g) p w g) T (jmx h w g s) (jmx h w g p) i))) (h.1, u, v)) : ja_C l (d + 7) mX12_story (js_sh n) [.inr (.inr (some 90)), .inl p, .inl s, .inl i] h Q := by
  obtain ⟨hw4, hw12, hg4, hg12⟩ := hm.2.2.2
  refine eX12_story _ _ _ _ fun _ _ _ ho => ?_
  unfold bX12_story
  refine jb_if_d (φ := ¬ ((0 ≤ p ∧ p ≤ 4) ∧ (0 ≤ s ∧ s ≤ 4) ∧ -2 ≤ i ∧ i ≤ 2)) (jd_eq (jd_or (jd_or (jd_not (jd_b (jy_sI (jA_i jA_0 (jv_li rfl)) fun _ => kX12_isPicture))) (fun _ => jd_not (jd_b (jy_sI (jA_i jA_0 (jv_li rfl)) fun _ => kX12_isPicture)))) (fun _ => jd_not (jd_b (jy_sI (jA_i (jA_i (jA_i jA_0 (jv_li rfl)) jv_ci) jv_ci) fun _ => kX12_isIn)))) (by omega)) (fun z => ?_) (fun z => ?_)
  · exact jt_rI jv_ci (q1 z)
  have z := Classical.not_not.mp z
  obtain ⟨hp, hs, hi⟩ := z
  clear q1
  obtain ⟨DF, hDF⟩ : ∃ DF, DF = DD A K N C (pxM h w g) p w g := ⟨_, rfl⟩
  obtain ⟨gl, hgl⟩ : ∃ gl, gl = jmx h w g s := ⟨_, rfl⟩
  obtain ⟨lt, hlt⟩ : ∃ lt, lt = jmx h w g p := ⟨_, rfl⟩
  have q := q hp hs hi
  rw [← hDF, ← hgl, ← hlt] at q
  refine jt_sI jv_ci ?_
  refine jb_forc 144 (fun (k : Nat) L' h' => ∃ (v_k : Int) (u : Nat → Nat → Int), L' = [some (.inr (.inr (some 90))), some (.inl p), some (.inl s), some (.inl i), some (.inl v_k), none, none, none, none, none] ∧ v_k = (k : Int) ∧ (h.1, u, h.2.2) = h' ∧ jfr [105, 106] h.2.1 u ∧ ∀ j, j < k → u 105 j = h.2.1 91 (10 + 144 * p.toNat + j) ∧ u 106 j = h.2.1 91 (10 + 144 * s.toNat + j)) ⟨_, h.2.1, rfl, rfl, rfl, jfr_rf _ _, fun j hj => absurd hj (by omega)⟩ ?_ ?_ ?_
  · rintro k h_k _ _ ⟨v_k, u, rfl, rfl, rfl, fr, hj⟩
    exact jd_eq (jd_lt (jv_li rfl) jv_ci) (by omega)
  · rintro k h_k _ _ ⟨v_k, u, rfl, rfl, rfl, fr, hj⟩
    have u91 : u 91 = h.2.1 91 := fr 91 (by simp)
    refine jt_wI (jr_g (jr_lr rfl) rfl (by exact jG_90 (j := 41) (r := 105) hG rfl)) rfl (jv_li rfl) (x := h.2.1 91 (10 + 144 * p.toNat + k)) (jv_fI (x := ((10 + 144 * p.toNat + k : Nat) : Int)) (jr_g (jr_lr rfl) rfl (by exact jG_90 (j := 2) (r := 91) hG rfl)) (jv_is (jv_w (jv_add (jv_w (jv_add jv_ci (jv_w (jv_mul jv_ci (jv_li rfl)) (by unfold ja_r; omega))) (by unfold ja_r; omega)) (jv_li rfl)) (by unfold ja_r; omega)) (by omega)) rfl (by omega) (by omega) (by rw [Int.toNat_natCast]; exact congrFun u91 _)) (by omega) (by omega) ?_
    dsimp only
    rw [Int.toNat_natCast]
    obtain ⟨u1, hu1⟩ : ∃ u1, ja_up u 105 k (h.2.1 91 (10 + 144 * p.toNat + k)) = u1 := ⟨_, rfl⟩
    rw [hu1]
    have v91 : u1 91 = h.2.1 91 := by rw [← hu1, ← u91]; funext j; exact ja_upO (by omega)
    refine jt_wI (jr_g (jr_lr rfl) rfl (by exact jG_90 (j := 42) (r := 106) hG rfl)) rfl (jv_li rfl) (x := h.2.1 91 (10 + 144 * s.toNat + k)) (jv_fI (x := ((10 + 144 * s.toNat + k : Nat) : Int)) (jr_g (jr_lr rfl) rfl (by exact jG_90 (j := 2) (r := 91) hG rfl)) (jv_is (jv_w (jv_add (jv_w (jv_add jv_ci (jv_w (jv_mul jv_ci (jv_li rfl)) (by unfold ja_r; omega))) (by unfold ja_r; omega)) (jv_li rfl)) (by unfold ja_r; omega)) (by omega)) rfl (by omega) (by omega) (by rw [Int.toNat_natCast]; exact congrFun v91 _)) (by omega) (by omega) ?_
    dsimp only
    rw [Int.toNat_natCast]
    refine jt_inc rfl (by unfold ja_r; omega) ⟨_, _, rfl, by omega, rfl, jfr_up (by rw [← hu1]; exact jfr_up fr (by simp)) (by simp), fun j h_j => ?_⟩
    by_cases z : j = k
    · subst z
      refine ⟨?_, ja_upE rfl rfl⟩
      rw [ja_upO (by omega), ← hu1]
      exact ja_upE rfl rfl
    · have := hj j (by omega)
      refine ⟨?_, ?_⟩
      · rw [ja_upO (by omega), ← hu1, ja_upO (by omega)]; exact this.1
      · rw [ja_upO (by omega), ← hu1, ja_upO (by omega)]; exact this.2
  rintro _ _ ⟨v_k, u0, rfl, rfl, rfl, fr0, hj0⟩
  refine jt_sI jv_ci ?_
  refine jt_sI jv_ci ?_
  refine jb_forc 4 (fun (m : Nat) L' h' => ∃ (v_a v_n : Int) (u v : Nat → Nat → Int) (o6 o7 o8 o9 : Option ja_W), L' = [some (.inr (.inr (some 90))), some (.inl p), some (.inl s), some (.inl i), some (.inl v_a), some (.inl v_n), o6, o7, o8, o9] ∧ v_a = ((T ^ m : Nat) : Int) ∧ v_n = (m : Int) ∧ (h.1, u, v) = h' ∧ jfr [100, 102, 103, 104, 105, 106, 107] h.2.1 u ∧ jfr [101] h.2.2 v ∧ (u 105 = u0 105 ∧ u 106 = u0 106) ∧ ∀ m', m' < m → cN DF T gl lt m' = 0) ⟨_, _, u0, h.2.2, none, none, none, none, rfl, by simp, rfl, rfl, jfr_sub fr0 (by simp), jfr_rf _ _, ⟨rfl, rfl⟩, fun m hm => absurd hm (by omega)⟩ ?_ ?_ ?_
  · rintro m h_m _ _ ⟨v_a, v_n, u, v, o6, o7, o8, o9, rfl, rfl, rfl, rfl, fr, vr, h56, hz⟩
    exact jd_eq (jd_lt (jv_li rfl) jv_ci) (by omega)
  · rintro m h_m _ _ ⟨v_a, v_n, u, v, o6, o7, o8, o9, rfl, rfl, rfl, rfl, fr, vr, h56, hz⟩
    have pb : T ^ m ≤ 216 := pw_b hT6 (by omega)
    obtain ⟨M, hM⟩ : ∃ M, T ^ m = M := ⟨_, rfl⟩
    obtain ⟨PP, hPP⟩ : ∃ PP, PP = fun x => okS DF T gl m x lt := ⟨_, rfl⟩
    have ecN : cN DF T gl lt m = cnt PP M := by rw [hPP, ← hM]; rfl
    have elN : lsN DF T gl lt m = lst PP M := by rw [hPP, ← hM]; rfl
    rw [hM]
    rw [hM] at pb
    refine jt_sI jv_ci ?_
    refine jt_sI (x := (M : Int) - 1) (jv_w (jv_sub (jv_li rfl) jv_ci) (by unfold ja_r; omega)) ?_
    refine jb_lpu (fun (x : Nat) L' h' => ∃ (v_m : Int) (mn : Nat) (u v : Nat → Nat → Int) (o8 o9 : Option ja_W), L' = [some (.inr (.inr (some 90))), some (.inl p), some (.inl s), some (.inl i), some (.inl (M : Int)), some (.inl (m : Int)), some (.inl v_m), some (.inl ((x : Int) - 1)), o8, o9] ∧ v_m = (mn : Int) ∧ (h.1, u, v) = h' ∧ jfr [100, 102, 103, 104, 105, 106, 107] h.2.1 u ∧ jfr [101] h.2.2 v ∧ (u 105 = u0 105 ∧ u 106 = u0 106) ∧ x ≤ M ∧ mn + cnt PP x = cnt PP M ∧ (mn > 0 → ∃ c0, x ≤ c0 ∧ c0 < M ∧ PP c0 = true ∧ (∀ c, x ≤ c → c < c0 → PP c = false) ∧ ∀ j, j < m → u 107 j = (((dgs T m c0).getD j 0 : Nat) : Int))) ⟨M, _, 0, u, v, o8, o9, rfl, rfl, rfl, fr, vr, h56, Nat.le_refl _, Nat.zero_add _, fun y => absurd y (by omega)⟩ ?_
    intro x L' h' zz
    clear fr vr h56
    obtain ⟨v_m, mn, u, v, o8, o9, z1, z2, z3, fr, vr, h56, hxM, hmn, hc0⟩ := zz
    subst z1
    subst z2
    subst z3
    have hmnb : mn ≤ M := by have := cnt_le (P := PP) M; omega
    have u91 : u 91 = h.2.1 91 := fr 91 (by simp)
    have uT : u 91 (3 : Int).toNat = (T : Int) := by rw [u91]; exact hT
    refine (jd_eq (φ' := 0 < x) (jd_ge (jv_li rfl) jv_ci) (by omega)) _ _ (fun c => ?_) (fun c => ?_)
    · obtain ⟨y, rfl⟩ : ∃ y, x = y + 1 := ⟨x - 1, by omega⟩
      have ey : ((y + 1 : Nat) : Int) - 1 = (y : Int) := by omega
      rw [ey]
      have T1 : m ≠ 0 → 0 < T := fun z => by
        rcases Nat.eq_zero_or_pos T with t | t
        · rw [t, Nat.zero_pow (by omega)] at hM; omega
        · exact t
      refine jb_if_p ?_
      refine jx_mI (jr_lr rfl) rfl (jA_i (jA_i (jA_i jA_0 (jv_li rfl)) (jv_li rfl)) (jv_li rfl)) (kX12_becomes (h := (h.1, u, v)) (nn := m) (code := y) (px := pxM h w g) (gl := gl) (lt := lt) (A := A) (K := K) (N := N) (C := C) (Dp := Dp) hG (jm_w hm (fr 90 (by simp))) hp uT hT6 (fun t ht => by show _ ∧ mTx _ _ _ _ _ (u 93); rw [fr 93 (by simp)]; exact hP t ht) (fun r h0 h4 => by rw [jmx_w u91]; exact hl r h0 h4) (pxM_w u91).symm (by rw [jmx_w u91, hlt]) (fun j hj => by show u 105 j = u 91 _; rw [h56.1, u91]; exact (hj0 j hj).1) (fun a b ha hb => ?_) (fun a b hab => by rw [hgl]; exact jmx_0 hab) (by omega) (by rw [hM]; omega) fun u2 v2 fr2 vr2 => ⟨_, rfl, fun _ => ?_⟩)
      · show u 106 (12 * b + a) = _
        rw [h56.2, (hj0 _ (by omega)).2, hgl]
        unfold jmx
        rw [if_pos (by omega)]
        unfold jm_lt
        rw [show (10 + 144 * s + 12 * (b : Int) + (a : Int)).toNat = 10 + 144 * s.toNat + (12 * b + a) by omega]
      · rw [← hDF]
        dsimp only at fr2 vr2
        have frn : jfr [100, 102, 103, 104, 105, 106, 107] h.2.1 u2 := jfr_tr fr (jfr_sub fr2 (by simp))
        have vrn : jfr [101] h.2.2 v2 := jfr_tr vr vr2
        have h56n : u2 105 = u0 105 ∧ u2 106 = u0 106 := ⟨(fr2 105 (by simp)).trans h56.1, (fr2 106 (by simp)).trans h56.2⟩
        have u107 : u2 107 = u 107 := fr2 107 (by simp)
        have epp : okS DF T gl m y lt = PP y := by rw [hPP]
        rw [epp]
        have ec : cnt PP (y + 1) = cnt PP y + (if PP y = true then 1 else 0) := rfl
        by_cases hh : PP y = true
        · rw [if_pos hh] at ec ⊢
          rw [if_neg (by decide)]
          refine jt_inc rfl (by unfold ja_r; omega) ?_
          refine jt_sI (jv_li rfl) ?_
          refine jt_sI (x := (m : Int) - 1) (jv_w (jv_sub (jv_li rfl) jv_ci) (by unfold ja_r; omega)) ?_
          refine jb_lpu (fun (k : Nat) L' h' => ∃ (v_l v_m2 : Int) (u3 : Nat → Nat → Int), L' = [some (.inr (.inr (some 90))), some (.inl p), some (.inl s), some (.inl i), some (.inl (M : Int)), some (.inl (m : Int)), some (.inl v_m2), some (.inl (y : Int)), some (.inl v_l), some (.inl ((k : Int) - 1))] ∧ v_l = ((y / T ^ (m - k) : Nat) : Int) ∧ v_m2 = (mn : Int) + 1 ∧ (h.1, u3, v2) = h' ∧ k ≤ m ∧ jfr [107] u2 u3 ∧ ∀ j, k ≤ j → j < m → u3 107 j = ((y / T ^ (m - 1 - j) % T : Nat) : Int)) ⟨m, _, _, u2, rfl, by rw [Nat.sub_self, Nat.pow_zero, Nat.div_one], rfl, rfl, Nat.le_refl _, jfr_rf _ _, fun j h1 h2 => absurd h2 (by omega)⟩ ?_
          intro k L' h' zz
          obtain ⟨v_l, v_m2, u3, z1, z2, z2b, z3, hkm, fr3, hd⟩ := zz
          subst z1
          subst z2b
          subst z3
          have u391 : u3 91 = h.2.1 91 := (fr3 91 (by simp)).trans (frn 91 (by simp))
          have uT3 : u3 91 (3 : Int).toNat = (T : Int) := by rw [u391]; exact hT
          refine (jd_eq (φ' := 0 < k) (jd_ge (jv_li rfl) jv_ci) (by omega)) _ _ (fun ck => ?_) (fun ck => ?_)
          · have T1 := T1 (by omega)
            obtain ⟨k, rfl⟩ : ∃ k', k = k' + 1 := ⟨k - 1, by omega⟩
            have ek : ((k + 1 : Nat) : Int) - 1 = (k : Int) := by omega
            have yb : y / T ^ (m - (k + 1)) ≤ y := Nat.div_le_self _ _
            have vl0 : 0 ≤ v_l := by rw [z2]; exact Int.natCast_nonneg _
            have vl1 : v_l ≤ (y : Int) := by rw [z2]; exact Int.ofNat_le.mpr yb
            rw [ek]
            refine jt_wI (jr_g (jr_lr rfl) rfl (by exact jG_90 (j := 43) (r := 107) hG rfl)) rfl (jv_li rfl) (x := ((y / T ^ (m - (k + 1)) % T : Nat) : Int)) (jv_is (jv_remP (jv_li rfl) (jv_fI (jr_g (jr_lr rfl) rfl (by exact jG_90 (j := 2) (r := 91) hG rfl)) jv_ci rfl (by decide) (by decide) uT3) (by omega) (by omega)) (by rw [z2, tmN])) (by omega) (by omega) ?_
            dsimp only
            rw [Int.toNat_natCast]
            have uT4 : ja_up u3 107 k ((y / T ^ (m - (k + 1)) % T : Nat) : Int) 91 (3 : Int).toNat = (T : Int) := by rw [ja_upO (by omega)]; exact uT3
            refine jt_sI (x := ((y / T ^ (m - k) : Nat) : Int)) (jv_is (jv_divP (jv_li rfl) (jv_fI (jr_g (jr_lr rfl) rfl (by exact jG_90 (j := 2) (r := 91) hG rfl)) jv_ci rfl (by decide) (by decide) uT4) (by omega) (by omega) (by unfold ja_r; omega)) (by rw [z2, tdN, Nat.div_div_eq_div_mul, ← Nat.pow_succ, show (m - (k + 1)).succ = m - k by omega])) ?_
            refine jt_inc rfl (by unfold ja_r; omega) ⟨k, by omega, _, _, _, rfl, rfl, rfl, rfl, by omega, jfr_up fr3 (by simp), fun j h1 h2 => ?_⟩
            by_cases zj : j = k
            · rw [zj, ja_upE rfl rfl, show m - (k + 1) = m - 1 - k by omega]
            · rw [ja_upO (by omega)]; exact hd j (by omega) h2
          · have hk0 : k = 0 := by omega
            subst hk0
            refine jt_inc rfl (by unfold ja_r; omega) ⟨y, by omega, _, mn + 1, u3, v2, _, _, rfl, by omega, rfl, jfr_tr frn (jfr_sub fr3 (by simp)), vrn, ⟨(fr3 105 (by simp)).trans h56n.1, (fr3 106 (by simp)).trans h56n.2⟩, by omega, by omega, fun _ => ⟨y, Nat.le_refl _, by omega, hh, fun c h1 h2 => absurd h2 (by omega), fun j hj => ?_⟩⟩
            rw [dgs_get m y j (by rw [hM]; omega) hj]
            exact hd j (by omega) hj
        · rw [if_neg hh] at ec ⊢
          rw [if_pos rfl]
          refine jt_inc rfl (by unfold ja_r; omega) ⟨y, by omega, _, mn, u2, v2, _, _, rfl, rfl, rfl, frn, vrn, h56n, by omega, by omega, fun y0 => ?_⟩
          obtain ⟨c0, a1, a2, a3, a4, a5⟩ := hc0 y0
          refine ⟨c0, by omega, a2, a3, fun c h1 h2 => ?_, fun j hj => by rw [u107]; exact a5 j hj⟩
          by_cases zc : c = y
          · rw [zc]
            cases e : PP y with
            | true => exact absurd e hh
            | false => rfl
          · exact a4 c (by omega) h2
    · have hx0 : x = 0 := by omega
      subst hx0
      have hmn : mn = cN DF T gl lt m := by rw [ecN, ← hmn]; rfl
      refine jb_if_d (φ := mn > 0) (jd_eq (jd_gt (jv_li rfl) jv_ci) (by omega)) (fun y => ?_) (fun y => ?_)
      · obtain ⟨c0, a1, a2, a3, a4, a5⟩ := hc0 y
        have q := q u v fr vr
        rw [stV_m (by omega) hz (by omega)] at q
        unfold stW at q
        rw [← hmn, elN, lst_u a2 a3 (fun a ha => a4 a (by omega) ha)] at q
        refine jt_rI (x := if i = -2 then (mn : Int) else if i = -1 then (m : Int) else if i < (m : Int) then u 107 i.toNat else -1) (jv_cv (jd_eqI (jv_li rfl) jv_ci) (fun _ => jv_li rfl) (fun y1 => jv_cv (jd_eqI (jv_li rfl) jv_ci) (fun _ => jv_li rfl) (fun y2 => jv_cv (jd_lt (jv_li rfl) (jv_li rfl)) (fun y3 => jv_aI (jr_g (jr_lr rfl) rfl (by exact jG_90 (j := 43) (r := 107) hG rfl)) (jv_li rfl) rfl (by omega) (by omega)) (fun _ => jv_ci)))) ?_
        by_cases y1 : i = -2
        · rw [if_pos y1] at q ⊢; exact q
        rw [if_neg y1] at q ⊢
        by_cases y2 : i = -1
        · rw [if_pos y2] at q ⊢; exact q
        rw [if_neg y2] at q ⊢
        by_cases y3 : i < (m : Int)
        · rw [if_pos y3, a5 _ (by omega)]
          rw [if_pos (by omega)] at q
          exact q
        · rw [if_neg y3]
          rw [if_neg (by omega)] at q
          exact q
      · have e1 : (M : Int) * (T : Int) = ((T ^ (m + 1) : Nat) : Int) := by rw [Nat.pow_succ, hM, Int.natCast_mul]
        have b1 : M * T ≤ 216 * 6 := Nat.mul_le_mul pb hT6
        have b2 : T ^ (m + 1) = M * T := by rw [Nat.pow_succ, hM]
        refine jt_sI (x := ((T ^ (m + 1) : Nat) : Int)) (jv_is (jv_w (jv_mul (jv_li rfl) (jv_fI (jr_g (jr_lr rfl) rfl (by exact jG_90 (j := 2) (r := 91) hG rfl)) jv_ci rfl (by decide) (by decide) uT)) (by rw [e1]; unfold ja_r; omega)) e1) ?_
        refine jt_inc rfl (by unfold ja_r; omega) ⟨_, _, u, v, _, _, _, _, rfl, rfl, by omega, rfl, fr, vr, h56, fun m' hm' => ?_⟩
        by_cases ym : m' = m
        · rw [ym]; omega
        · exact hz m' (by omega)
  · rintro _ _ ⟨v_a, v_n, u, v, o6, o7, o8, o9, rfl, rfl, rfl, rfl, fr, vr, h56, hz⟩
    have q := q u v fr vr
    rw [stV_n (fun m hm => hz m (by omega))] at q
    exact jt_rI jv_ci q
