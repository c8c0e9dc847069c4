section JV4
variable {l : Launch} {d w g n : Nat} {h : ja_H}
theorem iL_d {f u : Nat → Nat → Int} {s a : Nat} (h : iL w g s a f) (hw : (w : Int) ≤ 12) (hg : (g : Int) ≤ 12) (e1 : ∀ p, p < 5 → u (s + 5 + 2 * p) = f (s + 5 + 2 * p)) (ea : ∀ j, 10 ≤ j → j < 730 → u a j = f a j) : iL w g s a u := fun p hp => by
  have e : jqx u a w g (p : Int) = jqx f a w g (p : Int) := by
    funext x y
    unfold jqx
    by_cases c : (0 ≤ x ∧ x < (w : Int)) ∧ 0 ≤ y ∧ y < (g : Int)
    · rw [if_pos c, if_pos c, ea _ (by omega) (by omega)]
    · rw [if_neg c, if_neg c]
  rw [jcx_c (e1 p hp), e]
  exact h p hp
theorem pc5 {p : Int} (hp : 0 ≤ p ∧ p ≤ 4) : 6 + 2 * p.toNat ∈ LIT := by
  have : p.toNat = 0 ∨ p.toNat = 1 ∨ p.toNat = 2 ∨ p.toNat = 3 ∨ p.toNat = 4 := by omega
  rcases this with z | z | z | z | z <;> rw [z] <;> decide
theorem vv_copy {s t : Int} (hI : INV w g n h) : jPr l (d + 47) mX11_copy mX12_copy w g n [.inl s, .inl t] h := by
  have hG := hI.1
  have hW := hI.2.1
  have bb := INV_b hI
  unfold jPr
  refine kX11_copy (jT_of hG) (jS1_of hG hW) (fun c => ⟨_, rfl, ?_⟩) (fun c => ⟨_, rfl, ?_⟩)
  · obtain ⟨hs, ht⟩ := id c
    have pt : jp w g n (5 + 2 * t.toNat) h := jp_k hG hW ht rfl
    have lc : jpx (h.1, ja_cp h.2.1 (6 + 2 * s.toNat) 0 (6 + 2 * t.toNat) 0 n, h.2.2) w g (5 + 2 * t.toNat) = jpx h w g (5 + 2 * s.toNat) := by
      rw [show 6 + 2 * s.toNat = 5 + 2 * s.toNat + 1 by omega, show 6 + 2 * t.toNat = 5 + 2 * t.toNat + 1 by omega]
      exact jpx_cp pt
    obtain ⟨f, hf⟩ : ∃ f, ja_cp h.2.1 (6 + 2 * s.toNat) 0 (6 + 2 * t.toNat) 0 n = f := ⟨_, rfl⟩
    rw [hf] at lc ⊢
    have o : ∀ c, c ≠ 6 + 2 * t.toNat → f c = h.2.1 c := fun c hc => by rw [← hf]; exact ja_cpF hc
    have hm : jm w g (h.1, f, h.2.2) := jm_w (jm_of hG hW) (o 90 (by omega))
    refine kX12_copy hm (fun _ => ⟨rfl, ?_⟩) (fun c2 => absurd c c2)
    dsimp only
    have o2 : ∀ c, c ≠ 91 → jm_cpr f 91 91 (10 + 144 * t).toNat (10 + 144 * s).toNat 144 c = f c := fun c hc => by funext j; unfold jm_cpr; rw [if_neg (by omega)]
    have o3 : ∀ j : Nat, ¬ (10 + 144 * t ≤ (j : Int) ∧ (j : Int) < 154 + 144 * t) → jm_cpr f 91 91 (10 + 144 * t).toNat (10 + 144 * s).toNat 144 91 j = h.2.1 91 j := fun j hj => by unfold jm_cpr; rw [if_neg (by omega), o 91 (by omega)]
    refine INV_L hI hG (fun k hk => ?_) (fun j hj => ?_) (fun j j1 j2 => ?_) (fun j hj => o3 j (by omega)) (iL_1 (p0 := t.toNat) hI.2.2.1.1 (fun q hq hn => ?_) (fun q hq hn j j1 j2 => o3 j (by omega)) bb.2.1 bb.2.2.2 (fun _ => ?_))
    · rw [o2 k (by rintro rfl; exact hk (by decide)), o k (by rintro rfl; exact hk (pc5 ht))]
    · rw [o2 90 (by decide), o 90 (by omega)]
    · rw [o2 90 (by decide), o 90 (by omega)]
    · rw [o2 _ (by omega), o _ (by omega)]
    · have htn : ((t.toNat : Nat) : Int) = t := by omega
      rw [htn]
      obtain ⟨es, l9⟩ := INV_lt hI hs
      have e : jqx (jm_cpr f 91 91 (10 + 144 * t).toNat (10 + 144 * s).toNat 144) 91 w g t = jmx h w g s := by
        funext x y
        unfold jqx jmx jm_lt
        by_cases z : (0 ≤ x ∧ x < (w : Int)) ∧ 0 ≤ y ∧ y < (g : Int)
        · rw [if_pos z, if_pos z]
          unfold jm_cpr
          rw [if_pos (by omega), o 91 (by omega), show (10 + 144 * s).toNat + ((10 + 144 * t + 12 * y + x).toNat - (10 + 144 * t).toNat) = (10 + 144 * s + 12 * y + x).toNat by omega]
        · rw [if_neg z, if_neg z]
      rw [e, jcx_c (o2 _ (by omega)), ← es, ← lc]
      refine ⟨?_, by rw [lc, es]; exact l9⟩
      rw [show 6 + 2 * t.toNat = 5 + 2 * t.toNat + 1 by omega]
      rfl
  · exact kX12_copy (jm_of hG hW) (fun c2 => absurd c2 c) (fun _ => ⟨rfl, hI⟩)
theorem vv_maker {m v : Int} (hI : INV w g n h) : jPr l (d + 47) mX11_maker mX12_maker w g n [.inl m, .inl v] h := by
  have hG := hI.1
  have hW := hI.2.1
  have bb := INV_b hI
  have c1 := hI.2.2.2.1.1
  have mm := hI.2.2.2.2.1.1
  unfold jPr
  refine kX11_maker (jT_of hG) (jS1_of hG hW) (fun c => ⟨_, rfl, ?_⟩) (fun c => ⟨_, rfl, ?_⟩)
  · have hm : jm w g (h.1, ja_up h.2.1 3 m.toNat v, h.2.2) := jm_w (jm_of hG hW) (by funext j; exact ja_upO (by omega))
    refine kX12_maker hm (fun _ => ⟨rfl, ?_⟩) (fun c2 => absurd c c2)
    dsimp only
    have o : ∀ c, c ≠ 3 → c ≠ 91 → ja_up (ja_up h.2.1 3 m.toNat v) 91 (880 + m).toNat v c = h.2.1 c := fun c h3 h9 => by funext j; rw [ja_upO (by omega), ja_upO (by omega)]
    have o9 : ∀ j, j ≠ (880 + m).toNat → ja_up (ja_up h.2.1 3 m.toNat v) 91 (880 + m).toNat v 91 j = h.2.1 91 j := fun j hj => by rw [ja_upO (by omega), ja_upO (by omega)]
    refine INV_N hI hG (jfr_up (jfr_up (jfr_rf _ _) (by decide)) (by decide)) (o 30 (by decide) (by decide)) (o 35 (by decide) (by decide)) (o 36 (by decide) (by decide)) (o 37 (by decide) (by decide)) (o 38 (by decide) (by decide)) (fun j _ => congrFun (o 1 (by decide) (by decide)) j) (fun j _ => congrFun (o 90 (by decide) (by decide)) j) (fun j _ _ => congrFun (o 90 (by decide) (by decide)) j) (fun j hj => o9 j (by omega)) (fun j j1 j2 => o9 j (by omega)) (iL_d hI.2.2.1.1 bb.2.1 bb.2.2.2 (fun p hp => o _ (by omega) (by omega)) (fun j j1 j2 => o9 j (by omega))) ?_ ⟨fun k hk => ?_, fun k hk => ?_⟩
    · rw [o 1 (by decide) (by decide), o9 4 (by omega)]; exact ⟨c1.1.1, c1.2.1⟩
    · by_cases z : k = m.toNat
      · rw [ja_upO (by omega), ja_upE (by omega) (by omega), ja_upE (by omega) (by omega)]
        omega
      · rw [ja_upO (by omega), ja_upO (by omega), ja_upO (by omega), ja_upO (by omega)]
        exact mm.1 k hk
    · rw [o _ (by omega) (by omega), o9 _ (by omega)]
      exact mm.2 k hk
  · exact kX12_maker (jm_of hG hW) (fun c2 => absurd c2 c) (fun _ => ⟨rfl, hI⟩)
theorem vv_habit {m b v : Int} (hI : INV w g n h) : jPr l (d + 47) mX11_habit mX12_habit w g n [.inl m, .inl b, .inl v] h := by
  have hG := hI.1
  have hW := hI.2.1
  have bb := INV_b hI
  have c1 := hI.2.2.2.1.1
  have mm := hI.2.2.2.2.1.1
  unfold jPr
  refine kX11_habit (jT_of hG) (jS1_of hG hW) (fun c => ⟨_, rfl, ?_⟩) (fun c => ⟨_, rfl, ?_⟩)
  · have hm : jm w g (h.1, ja_up h.2.1 4 (m * 6 + b).toNat v, h.2.2) := jm_w (jm_of hG hW) (by funext j; exact ja_upO (by omega))
    refine kX12_habit hm (fun _ => ⟨rfl, ?_⟩) (fun c2 => absurd c c2)
    dsimp only
    have o : ∀ c, c ≠ 4 → c ≠ 91 → ja_up (ja_up h.2.1 4 (m * 6 + b).toNat v) 91 (890 + 6 * m + b).toNat v c = h.2.1 c := fun c h3 h9 => by funext j; rw [ja_upO (by omega), ja_upO (by omega)]
    have o9 : ∀ j, j ≠ (890 + 6 * m + b).toNat → ja_up (ja_up h.2.1 4 (m * 6 + b).toNat v) 91 (890 + 6 * m + b).toNat v 91 j = h.2.1 91 j := fun j hj => by rw [ja_upO (by omega), ja_upO (by omega)]
    refine INV_N hI hG (jfr_up (jfr_up (jfr_rf _ _) (by decide)) (by decide)) (o 30 (by decide) (by decide)) (o 35 (by decide) (by decide)) (o 36 (by decide) (by decide)) (o 37 (by decide) (by decide)) (o 38 (by decide) (by decide)) (fun j _ => congrFun (o 1 (by decide) (by decide)) j) (fun j _ => congrFun (o 90 (by decide) (by decide)) j) (fun j _ _ => congrFun (o 90 (by decide) (by decide)) j) (fun j hj => o9 j (by omega)) (fun j j1 j2 => o9 j (by omega)) (iL_d hI.2.2.1.1 bb.2.1 bb.2.2.2 (fun p hp => o _ (by omega) (by omega)) (fun j j1 j2 => o9 j (by omega))) ?_ ⟨fun k hk => ?_, fun k hk => ?_⟩
    · rw [o 1 (by decide) (by decide), o9 4 (by omega)]; exact ⟨c1.1.1, c1.2.1⟩
    · rw [o _ (by omega) (by omega), o9 _ (by omega)]
      exact mm.1 k hk
    · by_cases z : k = (m * 6 + b).toNat
      · rw [ja_upO (by omega), ja_upE (by omega) (by omega), ja_upE (by omega) (by omega)]
        omega
      · rw [ja_upO (by omega), ja_upO (by omega), ja_upO (by omega), ja_upO (by omega)]
        exact mm.2 k hk
  · exact kX12_habit (jm_of hG hW) (fun c2 => absurd c2 c) (fun _ => ⟨rfl, hI⟩)
theorem vv_wane {v : Int} (hI : INV w g n h) : jPr l (d + 47) mX11_wane mX12_wane w g n [.inl v] h := by
  have hG := hI.1
  have hW := hI.2.1
  have bb := INV_b hI
  have mm := hI.2.2.2.2.1.1
  unfold jPr
  refine kX11_wane (jT_of hG) (fun c => ⟨_, rfl, ?_⟩) (fun c => ⟨_, rfl, ?_⟩)
  · have hm : jm w g (h.1, ja_up h.2.1 1 5 v, h.2.2) := jm_w (jm_of hG hW) (by funext j; exact ja_upO (by omega))
    refine kX12_wane hm (fun _ => ⟨rfl, ?_⟩) (fun c2 => absurd c c2)
    dsimp only
    have o : ∀ c, c ≠ 1 → c ≠ 91 → ja_up (ja_up h.2.1 1 5 v) 91 4 v c = h.2.1 c := fun c h3 h9 => by funext j; rw [ja_upO (by omega), ja_upO (by omega)]
    have o9 : ∀ j, j ≠ 4 → ja_up (ja_up h.2.1 1 5 v) 91 4 v 91 j = h.2.1 91 j := fun j hj => by rw [ja_upO (by omega), ja_upO (by omega)]
    have o1 : ∀ j, j ≠ 5 → ja_up (ja_up h.2.1 1 5 v) 91 4 v 1 j = h.2.1 1 j := fun j hj => by rw [ja_upO (by omega), ja_upO (by omega)]
    refine INV_N hI hG (jfr_up (jfr_up (jfr_rf _ _) (by decide)) (by decide)) (o 30 (by decide) (by decide)) (o 35 (by decide) (by decide)) (o 36 (by decide) (by decide)) (o 37 (by decide) (by decide)) (o 38 (by decide) (by decide)) o1 (fun j _ => congrFun (o 90 (by decide) (by decide)) j) (fun j _ _ => congrFun (o 90 (by decide) (by decide)) j) (fun j hj => o9 j (by omega)) (fun j j1 j2 => o9 j (by omega)) (iL_d hI.2.2.1.1 bb.2.1 bb.2.2.2 (fun p hp => o _ (by omega) (by omega)) (fun j j1 j2 => o9 j (by omega))) ?_ ⟨fun k hk => ?_, fun k hk => ?_⟩
    · rw [ja_upO (by omega), ja_upE rfl rfl, ja_upE rfl rfl]; exact ⟨rfl, c⟩
    · rw [o _ (by omega) (by omega), o9 _ (by omega)]
      exact mm.1 k hk
    · rw [o _ (by omega) (by omega), o9 _ (by omega)]
      exact mm.2 k hk
  · exact kX12_wane (jm_of hG hW) (fun c2 => absurd c2 c) (fun _ => ⟨rfl, hI⟩)
theorem jmk_o {x e : Int} {b k : Nat} (hb : b < 31) (hk : k < 32) (hn : k ≠ b) : jbt (jmk x b e) k = jbt x k := by rw [jmk_b hb hk, if_neg hn]
theorem jmk_i {x e : Int} {b : Nat} (hb : b < 31) : jbt (jmk x b e) b = decide (e ≠ 0) := by rw [jmk_b hb (by omega), if_pos rfl]
theorem vv_shadow {a1 a2 a3 a4 a5 a6 : Int} (hI : INV w g n h) : jPr l (d + 47) mX11_shadow mX12_shadow w g n [.inl a1, .inl a2, .inl a3, .inl a4, .inl a5, .inl a6] h := by
  have hG := hI.1
  have hW := hI.2.1
  have bb := INV_b hI
  obtain ⟨s, hs, hs', hs2⟩ := INV_n hI (j := 0) (by decide)
  have hs' : h.2.1 1 6 = (s : Int) := hs'
  have hs2 : s ≤ 12 := hs2
  obtain ⟨_, _, ⟨l1, l2⟩, ⟨c1, c2⟩, ⟨m1, m2⟩, ⟨s1, s2⟩, ⟨n1, n2⟩, tx, tp, ft, bx, le⟩ := id hI
  unfold jPr
  refine kX11_shadow hG hs' hs2 (fun c f fr fb => ⟨_, rfl, ?_⟩) (fun c => ⟨_, rfl, ?_⟩)
  · have f91 : f 91 = h.2.1 91 := fr 91 (by decide)
    have e91 : ja_up f 1 6 ((s : Int) + 1) 91 = h.2.1 91 := by rw [← f91]; funext j; exact ja_upO (by omega)
    refine kX12_shadow (h := (h.1, ja_up f 1 6 ((s : Int) + 1), h.2.2)) hG e91 hs hs2 (fun _ u fr2 hsh => ⟨rfl, ?_⟩) (fun c2 => absurd c c2)
    dsimp only at fr2 ⊢
    obtain ⟨k0, k1, k2, k3, k4, k5, k6, ko⟩ := hsh
    have o : ∀ c, c ≠ 1 → c ≠ 30 → c ≠ 91 → u c = h.2.1 c := fun c h1 h3 h9 => by
      rw [fr2 c (by simp; exact h9), ← fr c (by simp; exact h3)]
      funext j
      exact ja_upO (by omega)
    have u1 : ∀ j, j ≠ 6 → u 1 j = h.2.1 1 j := fun j hj => by rw [fr2 1 (by decide), ja_upO (by omega), fr 1 (by decide)]
    have u6 : u 1 6 = (s : Int) + 1 := by rw [fr2 1 (by decide), ja_upE rfl rfl]
    have u30 : ∀ q : Nat, q < 726 → u 30 q = jmk (h.2.1 30 q) s (shE a1 a2 a3 a4 a5 a6 (q : Int)) := fun q hq => by rw [fr2 30 (by decide), ja_upO (by omega)]; exact fb q hq
    have sl : s < 12 := c.2
    have hle := le.1
    have le1 := le.2.1
    refine INV_G hI hG (fun k hk => o k (by rintro rfl; exact hk (by decide)) (by rintro rfl; exact hk (by decide)) (by rintro rfl; exact hk (by decide))) (fun j hj => u1 j (by omega)) (fun j _ => congrFun (o 90 (by decide) (by decide) (by decide)) j) (fun j _ _ => congrFun (o 90 (by decide) (by decide) (by decide)) j) (iL_d l1 bb.2.1 bb.2.2.2 (fun p hp => o _ (by omega) (by omega) (by omega)) (fun j j1 j2 => ko j (by omega) (by omega))) ?_ (iM_c m1 (o _ (by decide) (by decide) (by decide)) (o _ (by decide) (by decide) (by decide)) (fun j hj => ko j (by omega) (by omega))) ⟨⟨fun k hk => ?_, fun k hk => ?_⟩, ?_⟩ ⟨iLn_c n1 c1.2.2.2.2.1 (ko 2 (by omega) (by omega)) (fun j j1 j2 => ko j (by omega) (by omega)) (fun k _ => ⟨congrFun (o 35 (by decide) (by decide) (by decide)) k, congrFun (o 36 (by decide) (by decide) (by decide)) k, congrFun (o 37 (by decide) (by decide) (by decide)) k, congrFun (o 38 (by decide) (by decide) (by decide)) k⟩), iLn_c n2 c2.2.2.2.2.1 (congrFun (o 92 (by decide) (by decide) (by decide)) 2) (fun j _ _ => congrFun (o 92 (by decide) (by decide) (by decide)) j) (fun k _ => ⟨congrFun (o 35 (by decide) (by decide) (by decide)) k, congrFun (o 36 (by decide) (by decide) (by decide)) k, congrFun (o 37 (by decide) (by decide) (by decide)) k, congrFun (o 38 (by decide) (by decide) (by decide)) k⟩)⟩ (ko 3 (by omega) (by omega)) ?_
    · obtain ⟨⟨q1, q2, q3, q4, q5⟩, r1, r2, r3⟩ := c1
      unfold iC
      rw [u1 5 (by omega), u6, u1 7 (by omega), u1 8 (by omega), u1 9 (by omega), k0, ko 1 (by omega) (by omega), ko 2 (by omega) (by omega), ko 3 (by omega) (by omega), ko 4 (by omega) (by omega)]
      exact ⟨⟨q1, rfl, q3, q4, q5⟩, r1, by omega, r3⟩
    · rw [k0] at hk
      by_cases z : k = s
      · subst z
        refine ⟨?_, fun q hq => ?_⟩
        · unfold shOk
          rw [k1, k2, k3, k4, k5, k6]
          exact c.1
        · rw [u30 q hq, jmk_i (by omega)]
          unfold sS
          rw [k1, k2, k3, k4, k5, k6]
          rfl
      · have ee : ∀ j, 740 + 6 * k ≤ j → j < 746 + 6 * k → u 91 j = h.2.1 91 j := fun j j1 j2 => ko j (by omega) (by omega)
        obtain ⟨h1, h2⟩ := s1.1 k (by omega)
        refine ⟨shOk_c h1 ee, fun q hq => ?_⟩
        rw [u30 q hq, jmk_o (by omega) (by omega) z, sS_c ee]
        exact h2 q hq
    · rw [ko 1 (by omega) (by omega)] at hk
      obtain ⟨h1, h2⟩ := s1.2 k hk
      have := c1.2.2.2.1
      rw [ko (820 + k) (by omega) (by omega)]
      refine ⟨h1, fun q hq => ?_⟩
      rw [u30 q hq, jmk_o (by omega) (by omega) (by omega), sN_c (ko _ (by omega) (by omega))]
      exact h2 q hq
    · have o92 : u 92 = h.2.1 92 := o 92 (by decide) (by decide) (by decide)
      refine iSg_c s2 c2.2.2.1 c2.2.2.2.1 (congrFun o92 0) (congrFun o92 1) (fun j _ _ => congrFun o92 j) (fun q hq k hk => ?_)
      have := c2.2.2.1
      have := c2.2.2.2.1
      rw [u30 q hq, jmk_o (by omega) (by omega) (by omega)]
    · have o92 : u 92 = h.2.1 92 := o 92 (by decide) (by decide) (by decide)
      unfold iLe
      rw [o92, k0, ko 1 (by omega) (by omega), ko 2 (by omega) (by omega), ko 3 (by omega) (by omega)]
      exact ⟨by omega, le.2⟩
  · exact kX12_shadow hG rfl hs hs2 (fun c2 => absurd c2 c) (fun _ => ⟨rfl, hI⟩)
end JV4
