section JV7
variable {l : Launch} {d w g n : Nat} {h : ja_H}
set_option maxRecDepth 10000 in
theorem vv_text (hI : INV w g n h) : jPr l (d + 47) mX11_text mX12_text w g n [] h := by
  have hG := hI.1
  have hW := hI.2.1
  have bb := INV_b hI
  obtain ⟨_, _, ⟨l1, l2⟩, ⟨c1, c2⟩, ⟨m1, m2⟩, ⟨s1, s2⟩, ⟨n1, n2⟩, tx, tp, ft, bx, le⟩ := id hI
  obtain ⟨Ln, hL, t1, t2, t3, t4⟩ := tp
  obtain ⟨t, ht, ht', ht6⟩ := INV_n hI (j := 3) (by decide)
  have ht' : h.2.1 1 9 = (t : Int) := ht'
  have ht6 : t ≤ 6 := ht6
  unfold jPr
  refine kX11_text hG t1 hL rfl (by rw [t3]; exact t4) ht' ht6 (fun z => ⟨_, rfl, ?_⟩) (fun tl f R P hP hR fr fa fb => ⟨_, rfl, ?_⟩)
  · exact kX12_text (K := fun _ => 0) (N := fun _ => 0) hG t2 hL rfl t4 ht ht6 _ rfl (fun _ => ⟨rfl, hI⟩) (fun tl => absurd tl (by omega))
  · obtain ⟨fr, fr1, fr2⟩ := fr
    obtain ⟨fa1, fa2, fa3, fa4⟩ := fa
    obtain ⟨fb1, fb2, fb3, fb4, fb5⟩ := fb
    have P6 : 66 ≤ P ∧ P + 3 ≤ 89 := by omega
    have fo : ∀ c, c ≠ 1 → c ≠ 48 → ¬ (P ≤ c ∧ c ≤ P + 3) → f c = h.2.1 c := fun c h1 h2 h3 => fr c (by simp only [List.mem_cons, List.not_mem_nil, or_false]; omega)
    have hG1 : jG (ja_up h.1 48 6 (some P)) := jG_486 hG
    have f97 : f 97 = h.2.1 97 := fo 97 (by decide) (by decide) (by omega)
    have hR2 : R = txA (h.2.1 97) Ln (h.2.1 (P + 1)) (h.2.1 (P + 2)) := by rw [hR, t3]
    refine kX12_text (h := (ja_up h.1 48 6 (some P), f, h.2.2)) (T := h.2.1 97) (K := h.2.1 (P + 1)) (N := h.2.1 (P + 2)) hG1 (by show f 90 16 = _; rw [fo 90 (by decide) (by decide) (by omega)]; exact t2) hL f97 t4 (by show f 91 3 = _; rw [fo 91 (by decide) (by decide) (by omega)]; exact ht) ht6 R hR2 (fun z => absurd z (by omega)) (fun _ u gl tm _ ga gb => ⟨rfl, ?_⟩)
    obtain ⟨tm1, tm2, tm3, tm4⟩ := tm
    obtain ⟨ga1, ga2, ga3, ga4⟩ := ga
    dsimp only at tm1 tm2 tm3 tm4 ga1 ga2 ga3 ga4 gb ⊢
    have uo : ∀ c, c ≠ 90 → c ≠ 91 → c ≠ 93 → c ≠ 98 → c ≠ 99 → u c = f c := fun c h1 h2 h3 h4 h5 => tm1 c (by simp only [List.mem_cons, List.not_mem_nil, or_false]; omega)
    have o : ∀ c, c < 66 → c ≠ 1 → c ≠ 48 → u c = h.2.1 c := fun c h1 h2 h3 => (uo c (by omega) (by omega) (by omega) (by omega) (by omega)).trans (fo c h2 h3 (by omega))
    have o92 : u 92 = h.2.1 92 := (uo 92 (by decide) (by decide) (by decide) (by decide) (by decide)).trans (fo 92 (by decide) (by decide) (by omega))
    have o97 : u 97 = h.2.1 97 := (uo 97 (by decide) (by decide) (by decide) (by decide) (by decide)).trans f97
    have u1 : u 1 = f 1 := uo 1 (by decide) (by decide) (by decide) (by decide) (by decide)
    have u48 : u 48 = f 48 := uo 48 (by decide) (by decide) (by decide) (by decide) (by decide)
    have ko : ∀ j, j ≠ 3 → u 91 j = h.2.1 91 j := fun j hj => (tm3 j hj).trans (congrFun (fo 91 (by decide) (by decide) (by omega)) j)
    have o90 : ∀ j, j < 16 → u 90 j = h.2.1 90 j := fun j hj => (tm2 j (by omega)).trans (congrFun (fo 90 (by decide) (by decide) (by omega)) j)
    have k1 : ∀ j, j ≠ 9 → u 1 j = h.2.1 1 j := fun j hj => by rw [u1]; exact fr1 j hj
    have ge : u 91 3 = f 1 9 := by rw [ga4, fa4]
    have gle : (t : Int) ≤ u 91 3 ∧ u 91 3 ≤ 6 := by rw [ga4]; split <;> omega
    refine ⟨hG1, jW_fr hW (fun j hj => o90 j (by omega)) (fun j hj => k1 j (by omega)) (fun c hc => o c (by simp only [List.mem_cons, List.not_mem_nil, or_false] at hc; omega) (by simp only [List.mem_cons, List.not_mem_nil, or_false] at hc; omega) (by simp only [List.mem_cons, List.not_mem_nil, or_false] at hc; omega)), ⟨iL_d l1 bb.2.1 bb.2.2.2 (fun p hp => o _ (by omega) (by omega) (by omega)) (fun j j1 j2 => ko j (by omega)), iL_c l2 (fun p hp => o _ (by omega) (by omega) (by omega)) o92⟩, ⟨?_, iC_c c2 (fun j _ _ => congrFun (o 15 (by decide) (by decide) (by decide)) j) (fun j _ => congrFun o92 j)⟩, ⟨iM_c m1 (o _ (by decide) (by decide) (by decide)) (o _ (by decide) (by decide) (by decide)) (fun j hj => ko j (by omega)), iM_c m2 (o _ (by decide) (by decide) (by decide)) (o _ (by decide) (by decide) (by decide)) (fun j _ => congrFun o92 j)⟩, ⟨iSg_c s1 c1.2.2.1 c1.2.2.2.1 (ko 0 (by omega)) (ko 1 (by omega)) (fun j j1 j2 => ko j (by omega)) (fun q _ k _ => by show jbt (u 30 q) k = _; rw [o 30 (by decide) (by decide) (by decide)]), iSg_c s2 c2.2.2.1 c2.2.2.2.1 (congrFun o92 0) (congrFun o92 1) (fun j _ _ => congrFun o92 j) (fun q _ k _ => by show jbt (u 30 q) k = _; rw [o 30 (by decide) (by decide) (by decide)])⟩, ⟨iLn_c n1 c1.2.2.2.2.1 (ko 2 (by omega)) (fun j j1 j2 => ko j (by omega)) (fun k _ => ⟨congrFun (o 35 (by decide) (by decide) (by decide)) k, congrFun (o 36 (by decide) (by decide) (by decide)) k, congrFun (o 37 (by decide) (by decide) (by decide)) k, congrFun (o 38 (by decide) (by decide) (by decide)) k⟩), iLn_c n2 c2.2.2.2.2.1 (congrFun o92 2) (fun j _ _ => congrFun o92 j) (fun k _ => ⟨congrFun (o 35 (by decide) (by decide) (by decide)) k, congrFun (o 36 (by decide) (by decide) (by decide)) k, congrFun (o 37 (by decide) (by decide) (by decide)) k, congrFun (o 38 (by decide) (by decide) (by decide)) k⟩)⟩, ?_, ⟨0, by omega, ?_, ?_, ?_, fun j hj => absurd hj (by omega)⟩, Or.inr ⟨?_, ?_, ?_⟩, iBx_c bx (o90 8 (by decide)) (o90 9 (by decide)), ?_⟩
    · show iC 1 91 u
      obtain ⟨⟨q1, q2, q3, q4, q5⟩, r1, r2, r3, r4, r5⟩ := c1
      unfold iC
      rw [k1 5 (by omega), k1 6 (by omega), k1 7 (by omega), k1 8 (by omega), ko 0 (by omega), ko 1 (by omega), ko 2 (by omega), ko 4 (by omega), u1]
      exact ⟨⟨q1, q2, q3, q4, ge.symm⟩, r1, r2, r3, r4, by omega⟩
    · show iTx u
      intro t' ht2
      by_cases z : t' < t
      · obtain ⟨A, K, N, C, Dp, a1, a2, a3, a4⟩ := tx t' (by omega)
        refine ⟨A, K, N, C, Dp, a1, cPg_c a2 (fun c q1 q2 => (uo c (by omega) (by omega) (by omega) (by omega) (by omega)).trans (fo c (by omega) (by omega) (by omega))), mTx_c a3 a1.1 a4 (fun a ha k => ((a1.2 a ha).2.2.1 k).2.1) (fun i i1 i2 => ?_), a4⟩
        rw [tm4 i (by omega), fo 93 (by decide) (by decide) (by omega)]
      · have hR0 : R.1 = 0 := by
          by_cases y : R.1 = 0
          · exact y
          · rw [ga4, if_neg y] at ht2
            omega
        have tt : t' = t := by rw [ga4, if_pos hR0] at ht2; omega
        subst tt
        obtain ⟨gb1, gb2, gb3⟩ := gb hR0
        have up : ∀ c, P ≤ c → c ≤ P + 3 → u c = f c := fun c q1 q2 => uo c (by omega) (by omega) (by omega) (by omega) (by omega)
        obtain ⟨⟨Dp, w1⟩, w2⟩ := tx_wf (C := f (P + 3)) hL hR2 hR0 fb5
        have lb : R.2.2.2.2.2.length ≤ 300 := by
          have sb : tkS (h.2.1 97) Ln 0 ≤ Ln := (rnE_b (p := blk) (T := h.2.1 97) (Ln := Ln) 0).2.1 (by omega)
          have zb := acs_b (T := h.2.1 97) (Ln := Ln) (kf := 6 * Ln + 3) (2 * Ln + 2) 1 0 0 (tkS (h.2.1 97) Ln 0) 0 (h.2.1 (P + 1)) (h.2.1 (P + 2)) [] sb (by simp) (by omega)
          unfold txA at hR2
          rw [← hR2] at zb
          have z2 := zb.2.1
          have z3 := zb.2.2.1
          omega
        refine ⟨R.2.2.1, R.2.2.2.1, R.2.2.2.2.1, f (P + 3), Dp, w1, ?_, ?_, fun a ha k => ?_⟩
        · unfold cPg
          rw [← hP, up P (by omega) (by omega), up (P + 1) (by omega) (by omega), up (P + 2) (by omega) (by omega), up (P + 3) (by omega) (by omega)]
          exact ⟨fb1, fb3, fb4, rfl⟩
        · exact tx_m (f := u) gb1 gb2 gb3 fb5 w2
        · have := (w2 a ha k).2
          omega
    · show u 48 1 = _
      rw [u48, fa1]; rfl
    · show u 90 16 = _
      rw [ga1]; rfl
    · show u 49 = u 97
      rw [o 49 (by decide) (by decide) (by decide), o97, t3]
    · show u 48 7 = 1
      rw [u48]; exact fr2
    · show u 48 8 = u 90 17
      rw [u48, fa2, ga2]
    · show u 48 9 = u 90 18
      rw [u48, fa3, ga3]
    · show iLe u
      unfold iLe
      rw [o92, ko 0 (by omega), ko 1 (by omega), ko 2 (by omega)]
      exact ⟨le.1, le.2.1, le.2.2.1, by have := le.2.2.2; omega⟩
theorem dR_G {R : Nat → Nat → Option Nat} {P k : Nat} (hG : jG R) : jG (dR R P k) := jG_50 (jG_50 (jG_50 hG (by decide)) (by decide)) (by decide)
theorem vv_act {tt p : Int} (hI : INV w g n h) : jPr l (d + 47) mX11_act mX12_act w g n [.inl tt, .inl p] h := by
  have hG := hI.1
  have hW := hI.2.1
  have bb := INV_b hI
  obtain ⟨T, hT, hT', hT6⟩ := INV_n hI (j := 3) (by decide)
  have hT' : h.2.1 1 9 = (T : Int) := hT'
  have hT6 : T ≤ 6 := hT6
  have tx := hI.2.2.2.2.2.2.2.1
  have hl : ∀ r : Int, 0 ≤ r → r ≤ 4 → l99 (jpx h w g (5 + 2 * r.toNat)) := fun r h0 h4 => by rw [(INV_lt hI ⟨h0, h4⟩).1]; exact (INV_lt hI ⟨h0, h4⟩).2
  have hlm : ∀ r : Int, 0 ≤ r → r ≤ 4 → l99 (jmx h w g r) := fun r h0 h4 => (INV_lt hI ⟨h0, h4⟩).2
  obtain ⟨A, K, N, C, Dp, hp⟩ : ∃ (A : Nat) (K N C : Nat → Int) (Dp : Nat → Nat), 0 ≤ tt → tt < (T : Int) → wfP A K N C Dp ∧ cPg tt.toNat A K N C h.2.1 ∧ mTx tt.toNat A K N C (h.2.1 93) := by
    by_cases c : 0 ≤ tt ∧ tt < (T : Int)
    · obtain ⟨A, K, N, C, Dp, a1, a2, a3, a4⟩ := tx tt.toNat (by omega)
      exact ⟨A, K, N, C, Dp, fun _ _ => ⟨a1, a2, a3⟩⟩
    · exact ⟨0, fun _ => 0, fun _ => 0, fun _ => 0, fun _ => 0, fun x y => absurd ⟨x, y⟩ c⟩
  unfold jPr
  refine kX11_act hG hW hT' hT6 (fun x y => ⟨(hp x y).1, (hp x y).2.1⟩) hl (fun c => ⟨_, rfl, ?_⟩) (fun c1 c2 s u px e1 e2 fr e3 l9 s3 => ⟨_, rfl, ?_⟩)
  · exact kX12_act hG (jm_of hG hW) hT hT6 (fun x y => ⟨(hp x y).1, (hp x y).2.2⟩) hlm (fun _ => ⟨rfl, hI⟩) (fun c1 c2 => absurd ⟨c1, c2⟩ c)
  · have fo : ∀ c, (c ≠ 5 + 2 * p.toNat + 1 ∧ c ≠ 50 ∧ c ≠ 51 ∧ c ≠ 52 ∧ c ≠ 54) → u c = h.2.1 c := fun c hc => fr.1 c (by simp only [List.mem_cons, List.not_mem_nil, or_false]; omega)
    have u91 : u 91 = h.2.1 91 := fo 91 (by omega)
    have em : ∀ r : Int, jmx (dR h.1 (66 + 4 * tt.toNat) (5 + 2 * p.toNat), u, h.2.2) w g r = jmx h w g r := fun r => jmx_w (h := h) u91
    refine kX12_act (h := (dR h.1 (66 + 4 * tt.toNat) (5 + 2 * p.toNat), u, h.2.2)) (dR_G hG) ⟨(dR_G (P := 66 + 4 * tt.toNat) (k := 5 + 2 * p.toNat) hG).2, by show u 90 0 = _; rw [fo 90 (by omega)]; exact hW.2.1, by show u 90 1 = _; rw [fo 90 (by omega)]; exact hW.2.2.1, bb⟩ (by show u 91 3 = _; rw [u91]; exact hT) hT6 (fun x y => ⟨(hp x y).1, by show mTx _ _ _ _ _ (u 93); rw [fo 93 (by omega)]; exact (hp x y).2.2⟩) (fun r h0 h4 => by rw [em]; exact hlm r h0 h4) (fun c => absurd ⟨c1, c2⟩ c) (fun _ _ s' u2 v2 px' e1' e2' fr' vr e3' l9' s3' => ?_)
    have epx : px' = px := by
      rw [e1', e1]
      funext r
      by_cases z : 0 ≤ r ∧ r ≤ 4
      · rw [if_pos z, if_pos z, em, (INV_lt hI z).1]
      · rw [if_neg z, if_neg z]
    have es : s' = s := by rw [e2', e2, epx, em, (INV_lt hI c1).1]
    rw [es] at e3'
    refine ⟨by rw [es], ?_⟩
    dsimp only at fr' e3' ⊢
    have fo2 : ∀ c, c ∉ LIT → u2 c = h.2.1 c := fun c hc => by
      rw [fr'.1 c (fun z => hc ((show ∀ c ∈ [91, 100, 102, 103, 104], c ∈ LIT by decide) c z)), fr.1 c (fun z => hc ?_)]
      rcases List.mem_cons.mp z with z | z
      · rw [z, show 5 + 2 * p.toNat + 1 = 6 + 2 * p.toNat by omega]; exact pc5 c1
      · exact (show ∀ c ∈ [50, 51, 52, 54], c ∈ LIT by decide) c z
    have u290 : u2 90 = h.2.1 90 := (fr'.1 90 (by decide)).trans (fo 90 (by omega))
    have pcf : ∀ i : Nat, ¬ (10 + 144 * p ≤ (i : Int) ∧ (i : Int) < 154 + 144 * p) → u2 91 i = h.2.1 91 i := fun i hi => (fr'.2 i hi).trans (congrFun u91 i)
    refine INV_L hI (dR_G hG) fo2 (fun j _ => congrFun u290 j) (fun j _ _ => congrFun u290 j) (fun j hj => pcf j (by omega)) (iL_1 (p0 := p.toNat) hI.2.2.1.1 (fun q hq hn => ?_) (fun q hq hn j j1 j2 => pcf j (by omega)) bb.2.1 bb.2.2.2 (fun _ => ?_))
    · rw [fr'.1 _ (by simp only [List.mem_cons, List.not_mem_nil, or_false]; omega), fo _ (by omega)]
    · rw [show ((p.toNat : Nat) : Int) = p by omega]
      have ec : u2 (6 + 2 * p.toNat) = u (6 + 2 * p.toNat) := fr'.1 _ (by simp only [List.mem_cons, List.not_mem_nil, or_false]; omega)
      have e3 : jcx u (6 + 2 * p.toNat) w g = s.1 := by rw [← e3, show 6 + 2 * p.toNat = 5 + 2 * p.toNat + 1 by omega]; rfl
      have e3' : jqx u2 91 w g p = s.1 := e3'
      rw [jcx_c ec, e3, e3']
      exact ⟨rfl, l9⟩
theorem stV_3 {D : Nat → LT → LT} {T : Nat} {gl lt : LT} {i : Int} (hi : 3 ≤ i) : stV D T gl lt i = -1 := by
  have e : ∀ m : Nat, m ≤ 3 → stW D T gl lt m i = -1 := fun m hm => by
    unfold stW
    rw [if_neg (by omega), if_neg (by omega), if_neg (by omega)]
  unfold stV
  rw [e 0 (by omega), e 1 (by omega), e 2 (by omega), e 3 (by omega)]
  split
  · rfl
  · split
    · rfl
    · split
      · rfl
      · split <;> rfl
theorem vv_story {p s i : Int} (hI : INV w g n h) : jPr l (d + 47) mX11_story mX12_story w g n [.inl p, .inl s, .inl i] h := by
  have hG := hI.1
  have hW := hI.2.1
  have bb := INV_b hI
  obtain ⟨T, hT, hT', hT6⟩ := INV_n hI (j := 3) (by decide)
  have hT' : h.2.1 1 9 = (T : Int) := hT'
  have hT6 : T ≤ 6 := hT6
  have tx := hI.2.2.2.2.2.2.2.1
  have hl : ∀ r : Int, 0 ≤ r → r ≤ 4 → l99 (jpx h w g (5 + 2 * r.toNat)) := fun r h0 h4 => by rw [(INV_lt hI ⟨h0, h4⟩).1]; exact (INV_lt hI ⟨h0, h4⟩).2
  have hlm : ∀ r : Int, 0 ≤ r → r ≤ 4 → l99 (jmx h w g r) := fun r h0 h4 => (INV_lt hI ⟨h0, h4⟩).2
  obtain ⟨F, hF⟩ := Classical.axiomOfChoice (r := fun (t : Nat) (q : Nat × (Nat → Int) × (Nat → Int) × (Nat → Int) × (Nat → Nat)) => t < T → wfP q.1 q.2.1 q.2.2.1 q.2.2.2.1 q.2.2.2.2 ∧ cPg t q.1 q.2.1 q.2.2.1 q.2.2.2.1 h.2.1 ∧ mTx t q.1 q.2.1 q.2.2.1 q.2.2.2.1 (h.2.1 93)) (fun t => by
    by_cases c : t < T
    · obtain ⟨A, K, N, C, Dp, a1, a2, a3, a4⟩ := tx t (by omega)
      exact ⟨(A, K, N, C, Dp), fun _ => ⟨a1, a2, a3⟩⟩
    · exact ⟨(0, fun _ => 0, fun _ => 0, fun _ => 0, fun _ => 0), fun x => absurd x c⟩)
  unfold jPr
  refine kX11_story (A := fun t => (F t).1) (K := fun t => (F t).2.1) (N := fun t => (F t).2.2.1) (C := fun t => (F t).2.2.2.1) (Dp := fun t => (F t).2.2.2.2) hG hW hT' hT6 (fun t ht => ⟨(hF t ht).1, (hF t ht).2.1⟩) hl (fun c => ⟨_, rfl, ?_⟩) (fun c1 c2 c3 R u hGR fr ek => ⟨_, rfl, ?_⟩)
  · exact kX12_story (A := fun t => (F t).1) (K := fun t => (F t).2.1) (N := fun t => (F t).2.2.1) (C := fun t => (F t).2.2.2.1) (Dp := fun t => (F t).2.2.2.2) hG (jm_of hG hW) hT hT6 (fun t ht => ⟨(hF t ht).1, (hF t ht).2.2⟩) hlm (fun _ => ⟨rfl, hI⟩) (fun c1 c2 c3 => absurd ⟨c1, c2, c3.1⟩ c)
  · have fo : ∀ c, (c ≠ 5 + 2 * p.toNat + 1 ∧ c < 50) ∨ 64 < c ∨ c = 53 ∨ c = 59 ∨ c = 61 ∨ c = 63 → u c = h.2.1 c := fun c hc => fr c (by simp only [List.mem_cons, List.not_mem_nil, or_false]; omega)
    have u91 : u 91 = h.2.1 91 := fo 91 (by omega)
    have em : ∀ r : Int, jmx (R, u, h.2.2) w g r = jmx h w g r := fun r => jmx_w (h := h) u91
    have fo2 : ∀ c, c ∉ LIT → u c = h.2.1 c := fun c hc => fr c (fun z => hc (by
      rcases List.mem_cons.mp z with z | z
      · rw [z, show 5 + 2 * p.toNat + 1 = 6 + 2 * p.toNat by omega]; exact pc5 c1
      · exact (show ∀ c ∈ [50, 51, 52, 54, 55, 57, 58, 60, 62, 64], c ∈ LIT by decide) c z))
    have hI1 : INV w g n (R, u, h.2.2) := by
      refine INV_L hI hGR fo2 (fun j _ => congrFun (fo 90 (by omega)) j) (fun j _ _ => congrFun (fo 90 (by omega)) j) (fun j hj => congrFun u91 j) (iL_1 (p0 := p.toNat) hI.2.2.1.1 (fun q hq hn => fo _ (by omega)) (fun q hq hn j j1 j2 => congrFun u91 j) bb.2.1 bb.2.2.2 (fun _ => ?_))
      rw [show ((p.toNat : Nat) : Int) = p by omega]
      have e1 : jcx u (6 + 2 * p.toNat) w g = jpx h w g (5 + 2 * p.toNat) := by rw [← ek, show 6 + 2 * p.toNat = 5 + 2 * p.toNat + 1 by omega]; rfl
      rw [e1, jqx_c u91, (INV_lt hI c1).1]
      exact ⟨rfl, (INV_lt hI c1).2⟩
    have epx : pxM (R, u, h.2.2) w g = pxC h w g := by
      funext r
      unfold pxM pxC
      by_cases z : 0 ≤ r ∧ r ≤ 4
      · rw [if_pos z, if_pos z, em, (INV_lt hI z).1]
      · rw [if_neg z, if_neg z]
    refine kX12_story (h := (R, u, h.2.2)) (A := fun t => (F t).1) (K := fun t => (F t).2.1) (N := fun t => (F t).2.2.1) (C := fun t => (F t).2.2.2.1) (Dp := fun t => (F t).2.2.2.2) hGR (jm_of hGR hI1.2.1) (by show u 91 3 = _; rw [u91]; exact hT) hT6 (fun t ht => ⟨(hF t ht).1, by show mTx _ _ _ _ _ (u 93); rw [fo 93 (by omega)]; exact (hF t ht).2.2⟩) (fun r h0 h4 => by rw [em]; exact hlm r h0 h4) (fun c => ⟨?_, hI1⟩) (fun _ _ c4 u2 v2 fr2 vr2 => ⟨?_, ?_⟩)
    · have hi3 : 3 ≤ i := by
        rcases Classical.em (i ≤ 2) with y | y
        · exact absurd ⟨c1, c2, c3, y⟩ c
        · omega
      rw [stV_3 hi3]
    · rw [epx, em, em, (INV_lt hI c1).1, (INV_lt hI c2).1]
    · exact INV_c (h := (R, u, h.2.2)) hI1 fr2 (by decide)
end JV7
