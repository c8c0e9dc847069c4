theorem lt_all {w g : Nat} {a b : LT} (hw : 0 < w) (ha : ∀ x y : Int, ¬ ((0 ≤ x ∧ x < (w : Int)) ∧ 0 ≤ y ∧ y < (g : Int)) → a x y = 0) (hb : ∀ x y : Int, ¬ ((0 ≤ x ∧ x < (w : Int)) ∧ 0 ≤ y ∧ y < (g : Int)) → b x y = 0) : a = b ↔ ∀ c : Nat, c < w * g → a ((c % w : Nat) : Int) ((c / w : Nat) : Int) = b ((c % w : Nat) : Int) ((c / w : Nat) : Int) := by
  constructor
  · intro e c _
    rw [e]
  · intro e
    funext x y
    by_cases z : (0 ≤ x ∧ x < (w : Int)) ∧ 0 ≤ y ∧ y < (g : Int)
    · obtain ⟨xn, rfl⟩ : ∃ xn : Nat, x = (xn : Int) := ⟨x.toNat, by omega⟩
      obtain ⟨yn, rfl⟩ : ∃ yn : Nat, y = (yn : Int) := ⟨y.toNat, by omega⟩
      have h1 : xn < w := by omega
      have h2 : yn < g := by omega
      have h3 : w * yn + xn < w * g := by
        have : w * (yn + 1) ≤ w * g := Nat.mul_le_mul_left w h2
        rw [Nat.mul_add, Nat.mul_one] at this
        omega
      have := e (w * yn + xn) h3
      rw [Nat.mul_add_mod, Nat.mod_eq_of_lt h1, Nat.mul_add_div hw, Nat.div_eq_of_lt h1, Nat.add_zero] at this
      exact this
    · rw [ha x y z, hb x y z]
def pxM (h : ja_H) (w g : Int) : Int → LT := fun r : Int => if 0 ≤ r ∧ r ≤ 4 then jmx h w g r else fun _ _ => 0
theorem pow_lt1 {T m : Nat} (h : 0 < T) : 0 < T ^ m := Nat.pow_pos h
theorem tdN {a b : Nat} : ((a : Int) / (b : Int)) = ((a / b : Nat) : Int) := by rw [Int.natCast_ediv]
theorem tmN {a b : Nat} : ((a : Int) % (b : Int)) = ((a % b : Nat) : Int) := by rw [Int.natCast_emod]
set_option maxRecDepth 10000 in
theorem kX12_becomes {l : Launch} {d n T nn code w g : Nat} {p : Int} {A : Nat → Nat} {K N C : Nat → Nat → Int} {Dp : Nat → Nat → Nat} {px : Int → LT} {gl lt : LT} {h : ja_H} {Q : ja_Q} (hG : jG h.1) (hm : jm w g h) (hp : 0 ≤ p ∧ p ≤ 4) (hT : h.2.1 91 3 = (T : Int)) (hT6 : T ≤ 6) (hP : ∀ t, t < T → wfP (A t) (K t) (N t) (C t) (Dp t) ∧ mTx t (A t) (K t) (N t) (C t) (h.2.1 93)) (hl : ∀ r : Int, 0 ≤ r → r ≤ 4 → l99 (jmx h w g r)) (hpx : px = pxM h w g) (hlt : jmx h w g p = lt) (hkp : ∀ j, j < 144 → h.2.1 105 j = h.2.1 91 (10 + 144 * p.toNat + j)) (hgl : ∀ x y : Nat, x < w → y < g → h.2.1 106 (12 * y + x) = gl (x : Int) (y : Int)) (hgl0 : ∀ x y : Int, ¬ ((0 ≤ x ∧ x < (w : Int)) ∧ 0 ≤ y ∧ y < (g : Int)) → gl x y = 0) (hn : nn ≤ 3) (hcode : code < T ^ nn)
    (q : ∀ u v, jfr [100, 102, 103, 104] h.2.1 u → jfr [101] h.2.2 v → Q (some (.inl (if okS (DD A K N C px p w g) T gl nn code lt = true then 1 else 0))) (h.1, u, v)) : ja_C l (d + 6) mX12_becomes (js_sh n) [.inr (.inr (some 90)), .inl p, .inl (nn : Int), .inl (code : Int)] h Q := by
  obtain ⟨hw4, hw12, hg4, hg12⟩ := hm.2.2.2
  have hwg : ((w * g : Nat) : Int) = (w : Int) * (g : Int) := Int.natCast_mul w g
  have hwg2 : w * g ≤ 144 := by have := Nat.mul_le_mul (show w ≤ 12 by omega) (show g ≤ 12 by omega); omega
  have hpw : T ^ nn ≤ 216 := pw_b hT6 hn
  obtain ⟨DF, hDF⟩ : ∃ DF, DF = DD A K N C px p w g := ⟨_, rfl⟩
  rw [← hDF] at q
  have hT3 : h.2.1 91 (3 : Int).toNat = (T : Int) := hT
  have hm0 : h.2.1 90 0 = (w : Int) := hm.2.1
  have hm1 : h.2.1 90 1 = (g : Int) := hm.2.2.1
  have hT1 : nn ≠ 0 → 0 < T := fun z => by
    rcases Nat.eq_zero_or_pos T with y | y
    · rw [y, Nat.zero_pow (by omega)] at hcode; omega
    · exact y
  refine eX12_becomes _ _ _ _ fun _ _ _ ho => ?_
  unfold bX12_becomes
  refine jt_sI (jv_li rfl) ?_
  refine jt_sI jv_ci ?_
  refine jt_sI jv_ci ?_
  refine jb_forc (nn - 1) (fun (i : Nat) L' h' => ∃ (v_p v_k : Int), L' = [some (.inr (.inr (some 90))), some (.inl p), some (.inl (nn : Int)), some (.inl (code : Int)), some (.inl (code : Int)), some (.inl v_p), some (.inl v_k), none] ∧ v_p = ((T ^ i : Nat) : Int) ∧ v_k = (i : Int) + 1 ∧ h = h') ⟨_, _, rfl, by simp, by simp, rfl⟩ ?_ ?_ ?_
  · rintro i h_i _ _ ⟨v_p, v_k, rfl, rfl, rfl, rfl⟩
    exact jd_eq (jd_lt (jv_li rfl) (jv_li rfl)) (by omega)
  · rintro i h_i _ _ ⟨v_p, v_k, rfl, rfl, rfl, rfl⟩
    have e1 : ((T ^ i : Nat) : Int) * (T : Int) = ((T ^ (i + 1) : Nat) : Int) := by rw [Nat.pow_succ, Int.natCast_mul]
    have b1 : T ^ (i + 1) ≤ 216 := pw_b hT6 (by omega)
    refine jt_sI (x := ((T ^ (i + 1) : Nat) : Int)) (jv_is (jv_w (jv_mul (jv_li rfl) (jv_fI (jr_g (jr_lr rfl) rfl (by exact jG_90 (j := 2) (r := 91) hG rfl)) jv_ci rfl (by decide) (by decide) hT3)) (by rw [e1]; unfold ja_r; omega)) e1) ?_
    exact jt_inc rfl (by unfold ja_r; omega) ⟨_, _, rfl, rfl, by omega, rfl⟩
  rintro _ _ ⟨v_p, v_k, rfl, rfl, rfl, rfl⟩
  refine jt_sI jv_ci ?_
  refine jb_forc nn (fun (i : Nat) L' h' => ∃ (v_l v_p v_k : Int) (lf : Nat) (lt' : LT) (u v : Nat → Nat → Int), L' = [some (.inr (.inr (some 90))), some (.inl p), some (.inl (nn : Int)), some (.inl (code : Int)), some (.inl v_l), some (.inl v_p), some (.inl v_k), none] ∧ v_l = (lf : Int) ∧ (i < nn → v_p = ((T ^ (nn - 1 - i) : Nat) : Int)) ∧ v_k = (i : Int) ∧ (h.1, u, v) = h' ∧ fM p h.2.1 u ∧ jfr [101] h.2.2 v ∧ jmx (h.1, u, v) w g p = lt' ∧ l99 lt' ∧ lf < T ^ (nn - i) ∧ sq DF T (nn - i) lf lt' = sq DF T nn code lt) ⟨_, _, _, code, lt, h.2.1, h.2.2, rfl, rfl, fun _ => by rw [Nat.sub_zero], rfl, rfl, fM_rf, jfr_rf _ _, hlt, by rw [← hlt]; exact hl p hp.1 hp.2, hcode, rfl⟩ ?_ ?_ ?_
  · rintro i h_i _ _ ⟨v_l, v_p, v_k, lf, lt', u, v, rfl, rfl, hvp, rfl, rfl, fr, vr, e1, l9, hlf, hsq⟩
    exact jd_eq (jd_lt (jv_li rfl) (jv_li rfl)) (by omega)
  · rintro i h_i _ _ ⟨v_l, v_p, v_k, lf, lt', u, v, rfl, rfl, hvp, rfl, rfl, fr, vr, e1, l9, hlf, hsq⟩
    have hvp := hvp h_i
    have T1 : 0 < T := hT1 (by omega)
    obtain ⟨m, hmm⟩ : ∃ m, nn - 1 - i = m := ⟨_, rfl⟩
    have hmi : nn - i = m + 1 := by omega
    have hmi2 : nn - (i + 1) = m := by omega
    rw [hmm] at hvp
    rw [hmi] at hlf hsq
    have pm : 0 < T ^ m := pow_lt1 T1
    have pb : T ^ m ≤ 216 := pw_b hT6 (by omega)
    have pb1 : T ^ (m + 1) ≤ 216 := pw_b hT6 (by omega)
    have hdv : lf / T ^ m < T := by
      rw [Nat.div_lt_iff_lt_mul pm, ← Nat.pow_succ']
      exact hlf
    have hr : lf % T ^ m < T ^ m := Nat.mod_lt _ pm
    obtain ⟨hw, hX⟩ := hP _ hdv
    have u93 : u 93 = h.2.1 93 := fr.1 93 (by simp)
    have u90 : u 90 = h.2.1 90 := fr.1 90 (by simp)
    have hmu : jm w g (h.1, u, v) := jm_w hm u90
    have hx : ∀ r : Int, 0 ≤ r → r ≤ 4 → r ≠ p → jmx (h.1, u, v) w g r = jmx h w g r := fun r h0 h4 hr => jmx_pc fr.2 hp.1 h0 (by omega) (by omega) hr
    have hlu : ∀ r : Int, 0 ≤ r → r ≤ 4 → l99 (jmx (h.1, u, v) w g r) := fun r h0 h4 => by
      by_cases z : r = p
      · rw [z, e1]; exact l9
      · rw [hx r h0 h4 z]; exact hl r h0 h4
    have uT : u 91 (3 : Int).toNat = (T : Int) := by rw [← hT3]; exact fr.2 _ (by show ¬ (_ ≤ ((3 : Nat) : Int) ∧ _); omega)
    refine jx_mP (jr_lr rfl) rfl (jA_i (jA_i jA_0 (jv_is (x' := ((lf / T ^ m : Nat) : Int)) (jv_divP (jv_li rfl) (jv_li rfl) (by omega) (by omega) (by unfold ja_r; omega)) (by rw [hvp, tdN]))) (jv_li rfl)) (kX12_doText (h := (h.1, u, v)) (tx := lf / T ^ m) hG hmu hp (by omega) hw (by show mTx _ _ _ _ _ (u 93); rw [u93]; exact hX) hlu rfl fun s u2 v2 e2 fr2 vr2 e3 l92 s3 => ⟨_, rfl, fun _ => ?_⟩)
    dsimp only at fr2 vr2 e3 e2
    have es : s.1 = DF (lf / T ^ m) lt' := by
      rw [e2, e1, hDF]
      unfold DD
      rw [doT_c (px' := px) (fun r hr => ?_)]
      rw [hpx]
      unfold pxM
      (try dsimp only)
      by_cases z : 0 ≤ r ∧ r ≤ 4
      · rw [if_pos z, if_pos z, hx r z.1 z.2 hr]
      · rw [if_neg z, if_neg z]
    have frr : fM p h.2.1 u2 := fM_tr fr fr2
    have uT2 : u2 91 (3 : Int).toNat = (T : Int) := by rw [← hT3]; exact frr.2 _ (by show ¬ (_ ≤ ((3 : Nat) : Int) ∧ _); omega)
    obtain ⟨lf2, hlf2⟩ : ∃ lf2, lf % T ^ m = lf2 := ⟨_, rfl⟩
    refine jt_sI (x := (lf2 : Int)) (jv_is (jv_remP (jv_li rfl) (jv_li rfl) (by omega) (by omega)) (by rw [hvp, tmN, hlf2])) ?_
    obtain ⟨pI, hpI⟩ : ∃ pI : Int, ((T ^ m / T : Nat) : Int) = pI := ⟨_, rfl⟩
    refine jt_sI (x := pI) (jv_is (jv_divP (jv_li rfl) (jv_fI (jr_g (jr_lr rfl) rfl (by exact jG_90 (j := 2) (r := 91) hG rfl)) jv_ci rfl (by decide) (by decide) uT2) (by omega) (by omega) (by unfold ja_r; omega)) (by rw [hvp, tdN, hpI])) ?_
    have hdd : i + 1 < nn → T ^ m / T = T ^ (m - 1) := fun y => by
      have e : T ^ m = T ^ (m - 1) * T := by rw [← Nat.pow_succ]; congr 1; omega
      rw [e, Nat.mul_div_cancel _ T1]
    refine jb_if_d (φ := False) ?_ (fun y => y.elim) (fun _ => ?_)
    · refine jd_eq (φ := ((i + 1 : Nat) : Int) < (nn : Int) ∧ pI = 0) ?_ ?_
      · generalize hLL : ja_set _ 5 _ = LL
        have g2 : ja_get LL 2 = some (.inl (nn : Int)) := by rw [← hLL]; rfl
        have g5 : ja_get LL 5 = some (.inl pI) := by rw [← hLL]; rfl
        have g6 : ja_get LL 6 = some (.inl (i : Int)) := by rw [← hLL]; rfl
        refine jd_and ?_ (fun _ => jd_eqI (jv_li g5) jv_ci)
        refine jd_lt (x := ((i + 1 : Nat) : Int)) (y := (nn : Int)) ?_ (jv_li g2)
        exact jv_is (x := ja_w ((i : Int) + 1)) (jv_add (x := (i : Int)) (y := 1) (jv_li g6) jv_ci) (by rw [ja_w_id (by unfold ja_r; omega)]; omega)
      refine ⟨fun y => ?_, fun y => y.elim⟩
      have y1 : i + 1 < nn := by omega
      have y2 := y.2
      rw [← hpI, hdd y1] at y2
      have : 0 < T ^ (m - 1) := pow_lt1 T1
      omega
    · refine jt_inc rfl (by unfold ja_r; omega) ⟨_, _, _, lf2, s.1, u2, v2, rfl, rfl, fun y => ?_, by omega, rfl, frr, jfr_tr vr vr2, e3, l92, by rw [hmi2, ← hlf2]; exact hr, ?_⟩
      · rw [← hpI, hdd y, show nn - 1 - (i + 1) = m - 1 by omega]
      · rw [hmi2, es, ← hsq, ← hlf2]
        rfl
  rintro _ _ ⟨v_l, v_p, v_k, lf, lt', u, v, rfl, rfl, _, rfl, rfl, fr, vr, e1, l9, hlf, hsq⟩
  rw [Nat.sub_self] at hsq
  have hsq : lt' = sq DF T nn code lt := hsq
  have hok : okS DF T gl nn code lt = true ↔ lt' = gl := by rw [okS_iff, ← hsq]
  have u90 : u 90 = h.2.1 90 := fr.1 90 (by simp)
  have hmu : jm w g (h.1, u, v) := jm_w hm u90
  have v0 : u 90 0 = (w : Int) := hmu.2.1
  have v1 : u 90 1 = (g : Int) := hmu.2.2.1
  have u106 : u 106 = h.2.1 106 := fr.1 106 (by simp)
  have u105 : u 105 = h.2.1 105 := fr.1 105 (by simp)
  have hall := lt_all (w := w) (g := g) (a := lt') (b := gl) (by omega) (fun x y z => by rw [← e1]; exact jmx_0 z) hgl0
  refine jt_sI jv_ci ?_
  refine jt_sI jv_ci ?_
  refine jb_forc (w * g) (fun (i : Nat) L' h' => ∃ (v_s v_c : Int), L' = [some (.inr (.inr (some 90))), some (.inl p), some (.inl (nn : Int)), some (.inl (code : Int)), some (.inl (lf : Int)), some (.inl v_p), some (.inl v_s), some (.inl v_c)] ∧ v_s = pv (∀ c : Nat, c < i → lt' ((c % w : Nat) : Int) ((c / w : Nat) : Int) = gl ((c % w : Nat) : Int) ((c / w : Nat) : Int)) ∧ v_c = (i : Int) ∧ (h.1, u, v) = h') ⟨_, _, rfl, by rw [pv_t]; exact fun c hc => absurd hc (by omega), rfl, rfl⟩ ?_ ?_ ?_
  · rintro i h_i _ _ ⟨v_s, v_c, rfl, rfl, rfl, rfl⟩
    exact jd_eq (jd_lt (jv_li rfl) (jv_is (jv_w (jv_mul (jv_gF (jr_lr rfl) rfl v0) (jv_gF (jr_lr rfl) rfl v1)) (by rw [← hwg]; unfold ja_r; omega)) hwg.symm)) (by omega)
  · rintro i h_i _ _ ⟨v_s, v_c, rfl, rfl, rfl, rfl⟩
    have cb := cw_b (w := w) (g := g) (by omega) h_i
    obtain ⟨cx, hcx⟩ : ∃ cx : Nat, i % w = cx := ⟨_, rfl⟩
    obtain ⟨cy, hcy⟩ : ∃ cy : Nat, i / w = cy := ⟨_, rfl⟩
    rw [hcx, hcy] at cb
    have gg : u 106 (12 * (cy : Int) + (cx : Int)).toNat = gl (cx : Int) (cy : Int) := by
      rw [u106, ← hgl cx cy cb.1 cb.2]
      congr 1
    have ll : jm_lt (h.1, u, v) p (cx : Int) (cy : Int) = lt' (cx : Int) (cy : Int) := by
      rw [← e1]
      unfold jmx
      rw [if_pos (by omega)]
    have X1 : ∀ {L : ja_L} {x : Int}, x = (i : Int) → ja_get L 7 = some (.inl x) → ja_get L 0 = some (.inr (.inr (some 90))) → jv (jb_rem (jb_li 7) (jb_gI (js_sh n) 12 0 (jb_lr 0))) L (h.1, u, v) (cx : Int) := fun {L x} hx h7 h0 => by
      subst hx
      exact jv_is (jv_remP (jv_li h7) (jv_gF (jr_lr h0) rfl v0) (by omega) (by omega)) (by rw [tmN, hcx])
    have X2 : ∀ {L : ja_L} {x : Int}, x = (i : Int) → ja_get L 7 = some (.inl x) → ja_get L 0 = some (.inr (.inr (some 90))) → jv (jb_div (jb_li 7) (jb_gI (js_sh n) 12 0 (jb_lr 0))) L (h.1, u, v) (cy : Int) := fun {L x} hx h7 h0 => by
      subst hx
      exact jv_is (jv_divP (jv_li h7) (jv_gF (jr_lr h0) rfl v0) (by omega) (by omega) (by unfold ja_r; omega)) (by rw [tdN, hcy])
    refine jt_sI (x := pv (∀ c : Nat, c < i + 1 → lt' ((c % w : Nat) : Int) ((c / w : Nat) : Int) = gl ((c % w : Nat) : Int) ((c / w : Nat) : Int))) (fun K0 w0 => jb_cv_p ?_) ?_
    · refine (jd_and (jd_bt (jv_li rfl)) (fun _ => jd_eqI (jv_is (jy_mI (jr_lr rfl) rfl (jA_i (jA_i (jA_i jA_0 (jv_li rfl)) (X1 rfl rfl rfl)) (X2 rfl rfl rfl)) fun _ => kX12_lightAt hmu hp (by omega) (by omega)) ll) (jv_fI (jr_g (jr_lr rfl) rfl (by exact jG_90 (j := 42) (r := 106) hG rfl)) (jv_w (jv_add (jv_w (jv_mul jv_ci (X2 rfl rfl rfl)) (by unfold ja_r; omega)) (X1 rfl rfl rfl)) (by unfold ja_r; omega)) rfl (by omega) (by omega) gg))) _ _ (fun c => jv_ci _ ?_) (fun c => jv_ci _ ?_)
      · have c1 : ∀ c : Nat, c < i → lt' ((c % w : Nat) : Int) ((c / w : Nat) : Int) = gl ((c % w : Nat) : Int) ((c / w : Nat) : Int) := Classical.byContradiction fun y => c.1 (pv_f y)
        rw [pv_t] at w0
        · exact w0
        · intro a ha
          by_cases z : a = i
          · rw [z, hcx, hcy]; exact c.2
          · exact c1 a (by omega)
      · rw [pv_f] at w0
        · exact w0
        · intro y
          refine c ⟨?_, ?_⟩
          · rw [pv_t (fun a ha => y a (by omega))]; decide
          · have := y i (by omega)
            rw [hcx, hcy] at this
            exact this
    · exact jt_inc rfl (by unfold ja_r; omega) ⟨_, _, rfl, rfl, by omega, rfl⟩
  rintro _ _ ⟨v_s, v_c, rfl, rfl, rfl, rfl⟩
  refine jt_sI jv_ci ?_
  refine jb_forc 144 (fun (i : Nat) L' h' => ∃ (v_k : Int) (u2 : Nat → Nat → Int), L' = [some (.inr (.inr (some 90))), some (.inl p), some (.inl (nn : Int)), some (.inl (code : Int)), some (.inl (lf : Int)), some (.inl v_p), some (.inl (pv (∀ c : Nat, c < w * g → lt' ((c % w : Nat) : Int) ((c / w : Nat) : Int) = gl ((c % w : Nat) : Int) ((c / w : Nat) : Int)))), some (.inl v_k)] ∧ v_k = (i : Int) ∧ (h.1, u2, v) = h' ∧ jfr [91] u u2 ∧ pcF p h.2.1 u2 ∧ ∀ j, j < i → u2 91 (10 + 144 * p.toNat + j) = h.2.1 91 (10 + 144 * p.toNat + j)) ⟨_, u, rfl, rfl, rfl, jfr_rf _ _, fr.2, fun j hj => absurd hj (by omega)⟩ ?_ ?_ ?_
  · rintro i h_i _ _ ⟨v_k, u2, rfl, rfl, rfl, f2, pc, hj⟩
    exact jd_eq (jd_lt (jv_li rfl) jv_ci) (by omega)
  · rintro i h_i _ _ ⟨v_k, u2, rfl, rfl, rfl, f2, pc, hj⟩
    have k1 : u2 105 ((i : Int)).toNat = h.2.1 91 (10 + 144 * p.toNat + i) := by rw [f2 105 (by simp), u105, Int.toNat_natCast]; exact hkp i h_i
    refine jt_wI (z := ((10 + 144 * p.toNat + i : Nat) : Int)) (jr_g (jr_lr rfl) rfl (by exact jG_90 (j := 2) (r := 91) hG rfl)) rfl (jv_is (jv_w (jv_add (jv_w (jv_add jv_ci (jv_w (jv_mul jv_ci (jv_li rfl)) (by unfold ja_r; omega))) (by unfold ja_r; omega)) (jv_li rfl)) (by unfold ja_r; omega)) (by omega)) (jv_fI (jr_g (jr_lr rfl) rfl (by exact jG_90 (j := 41) (r := 105) hG rfl)) (jv_li rfl) rfl (by omega) (by omega) k1) (by omega) (by omega) ?_
    dsimp only
    rw [Int.toNat_natCast]
    refine jt_inc rfl (by unfold ja_r; omega) ⟨_, _, rfl, by omega, rfl, jfr_up f2 (by simp), fun j hj => ?_, fun j h_j => ?_⟩
    · rw [ja_upO (by omega)]; exact pc j hj
    · by_cases z : j = i
      · rw [z, ja_upE rfl rfl]
      · rw [ja_upO (by omega)]; exact hj j (by omega)
  rintro _ _ ⟨v_k, u2, rfl, rfl, rfl, f2, pc, hj⟩
  have e91 : u2 91 = h.2.1 91 := by
    funext j
    by_cases z : 10 + 144 * p ≤ (j : Int) ∧ (j : Int) < 154 + 144 * p
    · have := hj (j - (10 + 144 * p.toNat)) (by omega)
      rw [show 10 + 144 * p.toNat + (j - (10 + 144 * p.toNat)) = j by omega] at this
      exact this
    · exact pc j z
  have frf : jfr [100, 102, 103, 104] h.2.1 u2 := fun c hc => by
    by_cases z : c = 91
    · rw [z]; exact e91
    · rw [f2 c (by simp; exact z)]
      exact fr.1 c (by simp only [List.mem_cons, List.not_mem_nil, or_false] at hc ⊢; omega)
  have q := q u2 v frf vr
  refine jv_li rfl _ ⟨?_, ?_⟩
  · by_cases y : (∀ c : Nat, c < w * g → lt' ((c % w : Nat) : Int) ((c / w : Nat) : Int) = gl ((c % w : Nat) : Int) ((c / w : Nat) : Int))
    · exact Or.inr (pv_t y)
    · exact Or.inl (pv_f y)
  · by_cases y : (∀ c : Nat, c < w * g → lt' ((c % w : Nat) : Int) ((c / w : Nat) : Int) = gl ((c % w : Nat) : Int) ((c / w : Nat) : Int))
    · rw [pv_t y]
      rw [if_pos (hok.mpr (hall.mpr y))] at q
      exact q
    · rw [pv_f y]
      rw [if_neg (fun z => y (hall.mp (hok.mp z)))] at q
      exact q
