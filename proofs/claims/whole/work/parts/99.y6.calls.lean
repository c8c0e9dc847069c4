section JV5
variable {l : Launch} {d w g n : Nat} {h : ja_H}
theorem vv_shine {pt : Int} (hI : INV w g n h) : jPr l (d + 47) mX11_shine mX12_shine w g n [.inl pt] h := by
  have hG := hI.1
  have hW := hI.2.1
  have bb := INV_b hI
  obtain ⟨t, ht, ht', ht2⟩ := INV_n hI (j := 1) (by decide)
  have ht' : h.2.1 1 7 = (t : Int) := ht'
  have ht2 : t ≤ 8 := ht2
  obtain ⟨_, _, ⟨l1, l2⟩, ⟨c1, c2⟩, ⟨m1, m2⟩, ⟨s1, s2⟩, ⟨n1, n2⟩, tx, tp, ft, bx, le⟩ := id hI
  unfold jPr
  refine kX11_shine hG ht' ht2 (fun c f fr fb => ⟨_, rfl, ?_⟩) (fun c => ⟨_, rfl, ?_⟩)
  · have f91 : f 91 = h.2.1 91 := fr 91 (by decide)
    have e91 : ja_up f 1 7 ((t : Int) + 1) 91 = h.2.1 91 := by rw [← f91]; funext j; exact ja_upO (by omega)
    have hm : jm w g (h.1, ja_up f 1 7 ((t : Int) + 1), h.2.2) := jm_w (jm_of hG hW) (by rw [← fr 90 (by decide)]; funext j; exact ja_upO (by omega))
    have e1 : (h.1, ja_up f 1 7 ((t : Int) + 1), h.2.2).2.1 91 1 = (t : Int) := by show ja_up f 1 7 ((t : Int) + 1) 91 1 = _; rw [e91]; exact ht
    refine kX12_shine hm (by rw [e1]; omega) (fun _ => ⟨by rw [e1], ?_⟩) (fun c2 => absurd (by rw [e1]; exact ⟨c.1, by have := c.2; omega⟩) c2)
    rw [e1, show (820 + (t : Int)).toNat = 820 + t by omega]
    dsimp only
    obtain ⟨u, hu⟩ : ∃ u, ja_up (ja_up (ja_up f 1 7 ((t : Int) + 1)) 91 (820 + t) pt) 91 1 ((t : Int) + 1) = u := ⟨_, rfl⟩
    rw [hu]
    have k1 : u 91 1 = (t : Int) + 1 := by rw [← hu, ja_upE rfl rfl]
    have k2 : u 91 (820 + t) = pt := by rw [← hu, ja_upO (by omega), ja_upE rfl rfl]
    have ko : ∀ j, j ≠ 1 → j ≠ 820 + t → u 91 j = h.2.1 91 j := fun j j1 j2 => by rw [← hu, ja_upO (by omega), ja_upO (by omega), e91]
    have o : ∀ c, c ≠ 1 → c ≠ 30 → c ≠ 91 → u c = h.2.1 c := fun c h1 h3 h9 => by
      rw [← hu, ← fr c (by simp; exact h3)]
      funext j
      rw [ja_upO (by omega), ja_upO (by omega), ja_upO (by omega)]
    have u1 : ∀ j, j ≠ 7 → u 1 j = h.2.1 1 j := fun j hj => by rw [← hu, ja_upO (by omega), ja_upO (by omega), ja_upO (by omega), fr 1 (by decide)]
    have u7 : u 1 7 = (t : Int) + 1 := by rw [← hu, ja_upO (by omega), ja_upO (by omega), ja_upE rfl rfl]
    have u30 : ∀ q : Nat, q < 726 → u 30 q = jmk (h.2.1 30 q) (12 + t) (snE pt (q : Int)) := fun q hq => by rw [← hu, ja_upO (by omega), ja_upO (by omega), ja_upO (by omega)]; exact fb q hq
    have tl : t < 8 := c.2
    have hle := le.1
    have le1 := le.2.1
    have b1 := c1.2.2.1
    refine INV_G hI hG (fun k hk => o k (by rintro rfl; exact hk (by decide)) (by rintro rfl; exact hk (by decide)) (by rintro rfl; exact hk (by decide))) (fun j hj => u1 j (by omega)) (fun j _ => congrFun (o 90 (by decide) (by decide) (by decide)) j) (fun j _ _ => congrFun (o 90 (by decide) (by decide) (by decide)) j) (iL_d l1 bb.2.1 bb.2.2.2 (fun p hp => o _ (by omega) (by omega) (by omega)) (fun j j1 j2 => ko j (by omega) (by omega))) ?_ (iM_c m1 (o _ (by decide) (by decide) (by decide)) (o _ (by decide) (by decide) (by decide)) (fun j hj => ko j (by omega) (by omega))) ⟨⟨fun k hk => ?_, fun k hk => ?_⟩, ?_⟩ ⟨iLn_c n1 c1.2.2.2.2.1 (ko 2 (by omega) (by omega)) (fun j j1 j2 => ko j (by omega) (by omega)) (fun k _ => ⟨congrFun (o 35 (by decide) (by decide) (by decide)) k, congrFun (o 36 (by decide) (by decide) (by decide)) k, congrFun (o 37 (by decide) (by decide) (by decide)) k, congrFun (o 38 (by decide) (by decide) (by decide)) k⟩), iLn_c n2 c2.2.2.2.2.1 (congrFun (o 92 (by decide) (by decide) (by decide)) 2) (fun j _ _ => congrFun (o 92 (by decide) (by decide) (by decide)) j) (fun k _ => ⟨congrFun (o 35 (by decide) (by decide) (by decide)) k, congrFun (o 36 (by decide) (by decide) (by decide)) k, congrFun (o 37 (by decide) (by decide) (by decide)) k, congrFun (o 38 (by decide) (by decide) (by decide)) k⟩)⟩ (ko 3 (by omega) (by omega)) ?_
    · obtain ⟨⟨q1, q2, q3, q4, q5⟩, r1, r2, r3, r4⟩ := c1
      unfold iC
      rw [u1 5 (by omega), u1 6 (by omega), u7, u1 8 (by omega), u1 9 (by omega), k1, ko 0 (by omega) (by omega), ko 2 (by omega) (by omega), ko 3 (by omega) (by omega), ko 4 (by omega) (by omega)]
      exact ⟨⟨q1, q2, rfl, q4, q5⟩, r1, r2, by omega, r4⟩
    · rw [ko 0 (by omega) (by omega)] at hk
      obtain ⟨h1, h2⟩ := s1.1 k hk
      have ee : ∀ j, 740 + 6 * k ≤ j → j < 746 + 6 * k → u 91 j = h.2.1 91 j := fun j j1 j2 => ko j (by omega) (by omega)
      refine ⟨shOk_c h1 ee, fun q hq => ?_⟩
      rw [u30 q hq, jmk_o (by omega) (by omega) (by omega), sS_c ee]
      exact h2 q hq
    · rw [k1] at hk
      by_cases z : k = t
      · subst z
        refine ⟨by rw [k2]; exact c.1, fun q hq => ?_⟩
        rw [u30 q hq, jmk_i (by omega)]
        unfold sN
        rw [k2]
        rfl
      · obtain ⟨h1, h2⟩ := s1.2 k (by omega)
        rw [ko (820 + k) (by omega) (by omega)]
        refine ⟨h1, fun q hq => ?_⟩
        rw [u30 q hq, jmk_o (by omega) (by omega) (by omega), sN_c (ko _ (by omega) (by omega))]
        exact h2 q hq
    · have o92 : u 92 = h.2.1 92 := o 92 (by decide) (by decide) (by decide)
      refine iSg_c s2 c2.2.2.1 c2.2.2.2.1 (congrFun o92 0) (congrFun o92 1) (fun j _ _ => congrFun o92 j) (fun q hq k hk => ?_)
      have := c2.2.2.1
      have := c2.2.2.2.1
      rw [u30 q hq, jmk_o (by omega) (by omega) (by omega)]
    · have o92 : u 92 = h.2.1 92 := o 92 (by decide) (by decide) (by decide)
      unfold iLe
      rw [o92, k1, ko 0 (by omega) (by omega), ko 2 (by omega) (by omega), ko 3 (by omega) (by omega)]
      exact ⟨le.1, by omega, le.2.2⟩
  · refine kX12_shine (jm_of hG hW) (by rw [ht]; omega) (fun c2 => absurd (by rw [ht] at c2; exact ⟨c2.1, by have := c2.2; omega⟩) c) (fun _ => ⟨rfl, hI⟩)
theorem vv_line {ax ay bx' bY : Int} (hI : INV w g n h) : jPr l (d + 47) mX11_line mX12_line w g n [.inl ax, .inl ay, .inl bx', .inl bY] h := by
  have hG := hI.1
  have hW := hI.2.1
  have bb := INV_b hI
  obtain ⟨m, hm, hm', hm2⟩ := INV_n hI (j := 2) (by decide)
  have hm' : h.2.1 1 8 = (m : Int) := hm'
  have hm2 : m ≤ 10 := hm2
  obtain ⟨_, _, ⟨l1, l2⟩, ⟨c1, c2⟩, ⟨m1, m2⟩, ⟨s1, s2⟩, ⟨n1, n2⟩, tx, tp, ft, bx, le⟩ := id hI
  unfold jPr
  refine kX11_line hG hm' hm2 (fun c => ⟨_, rfl, ?_⟩) (fun c => ⟨_, rfl, ?_⟩)
  · obtain ⟨f, hf⟩ : ∃ f, ja_up (ja_up (ja_up (ja_up (ja_up h.2.1 35 m ax) 36 m ay) 37 m (bx' - ax)) 38 m (bY - ay)) 1 8 ((m : Int) + 1) = f := ⟨_, rfl⟩
    rw [hf]
    have fo : ∀ c, c ≠ 1 → c ≠ 35 → c ≠ 36 → c ≠ 37 → c ≠ 38 → f c = h.2.1 c := fun c h1 h2 h3 h4 h5 => by
      rw [← hf]
      funext j
      rw [ja_upO (by omega), ja_upO (by omega), ja_upO (by omega), ja_upO (by omega), ja_upO (by omega)]
    have f91 : f 91 = h.2.1 91 := fo 91 (by decide) (by decide) (by decide) (by decide) (by decide)
    refine kX12_line (h := (h.1, f, h.2.2)) hG f91 hm hm2 (fun _ u fr2 hsh => ⟨rfl, ?_⟩) (fun c2 => absurd c c2)
    dsimp only at fr2 ⊢
    obtain ⟨k0, k1, k2, k3, k4, ko⟩ := hsh
    have o : ∀ c, c ≠ 1 → c ≠ 35 → c ≠ 36 → c ≠ 37 → c ≠ 38 → c ≠ 91 → u c = h.2.1 c := fun c h1 h2 h3 h4 h5 h9 => by rw [fr2 c (by simp; exact h9)]; exact fo c h1 h2 h3 h4 h5
    have u1 : ∀ j, j ≠ 8 → u 1 j = h.2.1 1 j := fun j hj => by rw [fr2 1 (by decide), ← hf, ja_upO (by omega), ja_upO (by omega), ja_upO (by omega), ja_upO (by omega), ja_upO (by omega)]
    have u8 : u 1 8 = (m : Int) + 1 := by rw [fr2 1 (by decide), ← hf, ja_upE rfl rfl]
    have x1 : u 35 m = ax := by rw [fr2 35 (by decide), ← hf, ja_upO (by omega), ja_upO (by omega), ja_upO (by omega), ja_upO (by omega), ja_upE rfl rfl]
    have x2 : u 36 m = ay := by rw [fr2 36 (by decide), ← hf, ja_upO (by omega), ja_upO (by omega), ja_upO (by omega), ja_upE rfl rfl]
    have x3 : u 37 m = bx' - ax := by rw [fr2 37 (by decide), ← hf, ja_upO (by omega), ja_upO (by omega), ja_upE rfl rfl]
    have x4 : u 38 m = bY - ay := by rw [fr2 38 (by decide), ← hf, ja_upO (by omega), ja_upE rfl rfl]
    have xo : ∀ k, k ≠ m → u 35 k = h.2.1 35 k ∧ u 36 k = h.2.1 36 k ∧ u 37 k = h.2.1 37 k ∧ u 38 k = h.2.1 38 k := fun k hk => by
      rw [fr2 35 (by decide), fr2 36 (by decide), fr2 37 (by decide), fr2 38 (by decide), ← hf]
      refine ⟨?_, ?_, ?_, ?_⟩ <;> rw [ja_upO (by omega), ja_upO (by omega), ja_upO (by omega), ja_upO (by omega), ja_upO (by omega)]
    have ml : m < 10 := c.2
    have hle := le.2.2.1
    have o30 : u 30 = h.2.1 30 := o 30 (by decide) (by decide) (by decide) (by decide) (by decide) (by decide)
    have o92 : u 92 = h.2.1 92 := o 92 (by decide) (by decide) (by decide) (by decide) (by decide) (by decide)
    have o90 : u 90 = h.2.1 90 := o 90 (by decide) (by decide) (by decide) (by decide) (by decide) (by decide)
    refine INV_G hI hG (fun k hk => o k (by rintro rfl; exact hk (by decide)) (by rintro rfl; exact hk (by decide)) (by rintro rfl; exact hk (by decide)) (by rintro rfl; exact hk (by decide)) (by rintro rfl; exact hk (by decide)) (by rintro rfl; exact hk (by decide))) (fun j hj => u1 j (by omega)) (fun j _ => congrFun o90 j) (fun j _ _ => congrFun o90 j) (iL_d l1 bb.2.1 bb.2.2.2 (fun p hp => o _ (by omega) (by omega) (by omega) (by omega) (by omega) (by omega)) (fun j j1 j2 => ko j (by omega) (by omega))) ?_ (iM_c m1 (o _ (by decide) (by decide) (by decide) (by decide) (by decide) (by decide)) (o _ (by decide) (by decide) (by decide) (by decide) (by decide) (by decide)) (fun j hj => ko j (by omega) (by omega))) ⟨iSg_c s1 c1.2.2.1 c1.2.2.2.1 (ko 0 (by omega) (by omega)) (ko 1 (by omega) (by omega)) (fun j j1 j2 => ko j (by omega) (by omega)) (fun q _ k _ => by rw [o30]), iSg_c s2 c2.2.2.1 c2.2.2.2.1 (congrFun o92 0) (congrFun o92 1) (fun j _ _ => congrFun o92 j) (fun q _ k _ => by rw [o30])⟩ ⟨fun k hk => ?_, iLn_c n2 c2.2.2.2.2.1 (congrFun o92 2) (fun j _ _ => congrFun o92 j) (fun k hk => xo k (by omega))⟩ (ko 3 (by omega) (by omega)) ?_
    · obtain ⟨⟨q1, q2, q3, q4, q5⟩, r1, r2, r3, r4, r5⟩ := c1
      unfold iC
      rw [u1 5 (by omega), u1 6 (by omega), u1 7 (by omega), u8, u1 9 (by omega), k0, ko 0 (by omega) (by omega), ko 1 (by omega) (by omega), ko 3 (by omega) (by omega), ko 4 (by omega) (by omega)]
      exact ⟨⟨q1, q2, q3, rfl, q5⟩, r1, r2, r3, by omega, r5⟩
    · rw [k0] at hk
      by_cases z : k = m
      · subst z
        unfold aX aY aU aV
        rw [k1, k2, k3, k4, x1, x2, x3, x4]
        refine ⟨⟨rfl, rfl, rfl, rfl⟩, ?_⟩
        obtain ⟨y1, y2, y3, y4, _⟩ := c.1
        exact ⟨y1, y2, by omega, by omega⟩
      · obtain ⟨y1, y2, y3, y4⟩ := xo k z
        have := n1 k (by omega)
        unfold aX aY aU aV at *
        rw [y1, y2, y3, y4, ko (830 + 4 * k) (by omega) (by omega), ko (831 + 4 * k) (by omega) (by omega), ko (832 + 4 * k) (by omega) (by omega), ko (833 + 4 * k) (by omega) (by omega)]
        exact this
    · unfold iLe
      rw [o92, k0, ko 0 (by omega) (by omega), ko 1 (by omega) (by omega), ko 3 (by omega) (by omega)]
      exact ⟨le.1, le.2.1, by omega, le.2.2.2⟩
  · exact kX12_line hG rfl hm hm2 (fun c2 => absurd c2 c) (fun _ => ⟨rfl, hI⟩)
abbrev TPE : List Nat := [48, 49, 97] ++ SCR
theorem INV_T {R : Nat → Nat → Option Nat} {u v : Nat → Nat → Int} (hI : INV w g n h) (hG : jG R) (fr : jfr TPE h.2.1 u) (h48 : ∀ j, j ≠ 1 → u 48 j = h.2.1 48 j) (h0 : ∀ j, j ≠ 16 → u 90 j = h.2.1 90 j) (htp : iTp u) : INV w g n (R, u, v) := by
  obtain ⟨_, hW, ⟨l1, l2⟩, ⟨c1, c2⟩, ⟨m1, m2⟩, ⟨s1, s2⟩, ⟨n1, n2⟩, tx, tp, ft, bx, le⟩ := hI
  have o : ∀ c, c ∉ TPE → u c = h.2.1 c := fr
  have o1 : u 91 = h.2.1 91 := o 91 (by decide)
  have o2 : u 92 = h.2.1 92 := o 92 (by decide)
  have o30 : u 30 = h.2.1 30 := o 30 (by decide)
  refine ⟨hG, jW_fr hW (fun j hj => h0 j (by omega)) (fun j _ => congrFun (o 1 (by decide)) j) (fun c hc => o c (by revert c; decide)), ⟨iL_c l1 (fun p hp => o _ (by revert p; decide)) o1, iL_c l2 (fun p hp => o _ (by revert p; decide)) o2⟩, ⟨iC_c c1 (fun j _ _ => congrFun (o 1 (by decide)) j) (fun j _ => congrFun o1 j), iC_c c2 (fun j _ _ => congrFun (o 15 (by decide)) j) (fun j _ => congrFun o2 j)⟩, ⟨iM_c m1 (o _ (by decide)) (o _ (by decide)) (fun j _ => congrFun o1 j), iM_c m2 (o _ (by decide)) (o _ (by decide)) (fun j _ => congrFun o2 j)⟩, ⟨iSg_c s1 c1.2.2.1 c1.2.2.2.1 (congrFun o1 0) (congrFun o1 1) (fun j _ _ => congrFun o1 j) (fun q _ k _ => by show jbt (u 30 q) k = _; rw [o30]), iSg_c s2 c2.2.2.1 c2.2.2.2.1 (congrFun o2 0) (congrFun o2 1) (fun j _ _ => congrFun o2 j) (fun q _ k _ => by show jbt (u 30 q) k = _; rw [o30])⟩, ⟨iLn_c n1 c1.2.2.2.2.1 (congrFun o1 2) (fun j _ _ => congrFun o1 j) (fun k _ => ⟨congrFun (o 35 (by decide)) k, congrFun (o 36 (by decide)) k, congrFun (o 37 (by decide)) k, congrFun (o 38 (by decide)) k⟩), iLn_c n2 c2.2.2.2.2.1 (congrFun o2 2) (fun j _ _ => congrFun o2 j) (fun k _ => ⟨congrFun (o 35 (by decide)) k, congrFun (o 36 (by decide)) k, congrFun (o 37 (by decide)) k, congrFun (o 38 (by decide)) k⟩)⟩, iTx_c tx c1.2.2.2.2.2.2 (by show u 91 3 ≤ _; rw [o1]; exact Int.le_refl _) (fun c q1 q2 => o c (by simp only [List.mem_cons, List.mem_append, List.not_mem_nil, or_false]; omega)) (o 93 (by decide)), htp, iFt_c ft (h48 7 (by decide)) (h48 8 (by decide)) (h48 9 (by decide)) (h0 17 (by decide)) (h0 18 (by decide)), iBx_c bx (h0 8 (by decide)) (h0 9 (by decide)), iLe_c le (fun j _ => congrFun o1 j) (fun j _ => congrFun o2 j)⟩
theorem vv_end {v : Int} (hI : INV w g n h) : jPr l (d + 47) mX11_end mX12_end w g n [.inl v] h := by
  have hG := hI.1
  have hW := hI.2.1
  obtain ⟨L, hL, t1, t2, t3, t4⟩ := hI.2.2.2.2.2.2.2.2.1
  unfold jPr
  refine kX11_end (jT_of hG) (fun c => ⟨_, rfl, ?_⟩) (fun c => ⟨_, rfl, ?_⟩)
  · have hm : jm w g (h.1, ja_up h.2.1 48 1 v, h.2.2) := jm_w (jm_of hG hW) (by funext j; exact ja_upO (by omega))
    have e : (h.1, ja_up h.2.1 48 1 v, h.2.2).2.1 90 16 = (L : Int) := by show ja_up h.2.1 48 1 v 90 16 = _; rw [ja_upO (by omega)]; exact t2
    rw [t1] at c
    refine kX12_end hm (fun _ => ⟨rfl, ?_⟩) (fun c2 => absurd (by rw [e]; exact c) c2)
    dsimp only
    refine INV_T hI hG (jfr_up (jfr_up (jfr_rf _ _) (by decide)) (by decide)) (fun j hj => ?_) (fun j hj => ?_) ⟨v.toNat, by omega, ?_, ?_, ?_, fun j hj => ?_⟩
    · rw [ja_upO (by omega), ja_upO (by omega)]
    · rw [ja_upO (by omega), ja_upO (by omega)]
    · rw [ja_upO (by omega), ja_upE rfl rfl]; omega
    · rw [ja_upE rfl rfl]; omega
    · funext j; rw [ja_upO (by omega), ja_upO (by omega), ja_upO (by omega), ja_upO (by omega), t3]
    · rw [ja_upO (by omega), ja_upO (by omega)]; exact t4 j (by omega)
  · rw [t1] at c
    exact kX12_end (jm_of hG hW) (fun c2 => absurd (by rw [t2] at c2; exact c2) c) (fun _ => ⟨rfl, hI⟩)
theorem vv_feed {a b c0 d0 e : Int} (hI : INV w g n h) : jPr l (d + 47) mX11_feed mX12_feed w g n [.inl a, .inl b, .inl c0, .inl d0, .inl e] h := by
  have hG := hI.1
  have hW := hI.2.1
  obtain ⟨L, hL, t1, t2, t3, t4⟩ := hI.2.2.2.2.2.2.2.2.1
  unfold jPr
  refine kX11_feedX hG t1 hL (fun c f hf => ⟨_, rfl, ?_⟩) (fun c => ⟨_, rfl, ?_⟩)
  · obtain ⟨f1, f2, f3, f4, f5, f6⟩ := hf
    have e90 : f 90 16 = (L : Int) := by rw [f5 90 (by decide)]; exact t2
    refine kX12_feedX (h := (h.1, f, h.2.2)) hG e90 hL (fun _ u hu => ⟨rfl, ?_⟩) (fun c2 => absurd c c2)
    obtain ⟨g1, g2, g3, g4, g5, g6⟩ := hu
    dsimp only at g1 g2 g3 g4 g5 g6 ⊢
    have f97 : f 97 = h.2.1 97 := f5 97 (by decide)
    refine INV_T hI hG (fun k hk => ?_) (fun j hj => ?_) (fun j hj => ?_) ⟨L + 20, c, ?_, ?_, ?_, fun j hj => ?_⟩
    · rw [g5 k (fun z => hk ((show ∀ c ∈ [90, 97], c ∈ TPE by decide) k z)), f5 k (fun z => hk ((show ∀ c ∈ [48, 49], c ∈ TPE by decide) k z))]
    · rw [g5 48 (by decide)]; exact f2 j hj
    · rw [g2 j hj, f5 90 (by decide)]
    · rw [g5 48 (by decide), f1]; omega
    · rw [g1]; omega
    · funext j
      rw [g5 49 (by decide)]
      rcases (show j < L ∨ (L ≤ j ∧ j < L + 20) ∨ L + 20 ≤ j by omega) with z | z | z
      · rw [f4 j z, g4 j z, f97, t3]
      · obtain ⟨m, rfl⟩ : ∃ m, j = L + m := ⟨j - L, by omega⟩
        rw [f3 m (by omega), g3 m (by omega)]
      · rw [f6 j z, g6 j z, f97, t3]
    · by_cases z : j < L
      · rw [g4 j z, f97]; exact t4 j z
      · obtain ⟨m, rfl⟩ : ∃ m, j = L + m := ⟨j - L, by omega⟩
        rw [g3 m (by omega)]
        exact byt_b _ _
  · exact kX12_feedX hG t2 hL (fun c2 => absurd c2 c) (fun _ => ⟨rfl, hI⟩)
end JV5
