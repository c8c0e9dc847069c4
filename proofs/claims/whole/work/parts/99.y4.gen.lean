/-! calls that change something -/
abbrev NOW : List Nat := [91, 1, 3, 4, 6, 8, 10, 12, 14, 30, 35, 36, 37, 38] ++ SCR
section JV2
variable {l : Launch} {d w g n : Nat} {h : ja_H} {R : Nat → Nat → Option Nat} {u v : Nat → Nat → Int}
theorem INV_G (hI : INV w g n h) (hG : jG R) (fr : jfr NOW h.2.1 u) (h1 : ∀ j, j < 2 → u 1 j = h.2.1 1 j) (h0 : ∀ j, j < 10 → u 90 j = h.2.1 90 j) (h6 : ∀ j, 16 ≤ j → j < 19 → u 90 j = h.2.1 90 j) (hl : iL w g 1 91 u) (hc : iC 1 91 u) (hm : iM 1 91 u) (hs : iSg 91 u ∧ iSg 92 u) (hn : iLn 91 u ∧ iLn 92 u) (h3 : u 91 3 = h.2.1 91 3) (le : iLe u) : INV w g n (R, u, v) := by
  obtain ⟨_, hW, ⟨l1, l2⟩, ⟨c1, c2⟩, ⟨m1, m2⟩, _, _, tx, tp, ft, bx, _⟩ := hI
  have o : ∀ c, c ∉ NOW → u c = h.2.1 c := fr
  have o2 : u 92 = h.2.1 92 := o 92 (by decide)
  have o48 : u 48 = h.2.1 48 := o 48 (by decide)
  exact ⟨hG, jW_fr hW (fun j hj => h0 j (by omega)) h1 (fun c hc => o c (by revert c; decide)), ⟨hl, iL_c l2 (fun p hp => o _ (by revert p; decide)) o2⟩, ⟨hc, iC_c c2 (fun j _ _ => congrFun (o 15 (by decide)) j) (fun j _ => congrFun o2 j)⟩, ⟨hm, iM_c m2 (o _ (by decide)) (o _ (by decide)) (fun j _ => congrFun o2 j)⟩, hs, hn, iTx_c tx c1.2.2.2.2.2.2 (by show u 91 3 ≤ _; rw [h3]; exact Int.le_refl _) (fun c q1 q2 => o c (by simp only [List.mem_cons, List.mem_append, List.not_mem_nil, or_false]; omega)) (o 93 (by decide)), iTp_c tp (congrFun o48 1) (h6 16 (by omega) (by omega)) (o 49 (by decide)) (o 97 (by decide)), iFt_c ft (congrFun o48 7) (congrFun o48 8) (congrFun o48 9) (h6 17 (by omega) (by omega)) (h6 18 (by omega) (by omega)), iBx_c bx (h0 8 (by omega)) (h0 9 (by omega)), le⟩
/-- light, makers: signs, lines and counts stay -/
theorem INV_N (hI : INV w g n h) (hG : jG R) (fr : jfr NOW h.2.1 u) (e30 : u 30 = h.2.1 30) (e35 : u 35 = h.2.1 35) (e36 : u 36 = h.2.1 36) (e37 : u 37 = h.2.1 37) (e38 : u 38 = h.2.1 38) (h1 : ∀ j, j ≠ 5 → u 1 j = h.2.1 1 j) (h0 : ∀ j, j < 10 → u 90 j = h.2.1 90 j) (h6 : ∀ j, 16 ≤ j → j < 19 → u 90 j = h.2.1 90 j) (h4 : ∀ j, j < 4 → u 91 j = h.2.1 91 j) (ha : ∀ j, 740 ≤ j → j < 870 → u 91 j = h.2.1 91 j) (hl : iL w g 1 91 u) (h5 : u 1 5 = u 91 4 ∧ 0 ≤ u 91 4 ∧ u 91 4 ≤ 100) (hm : iM 1 91 u) : INV w g n (R, u, v) := by
  obtain ⟨_, hW, _, ⟨c1, c2⟩, _, ⟨s1, s2⟩, ⟨n1, n2⟩, _, _, _, _, le⟩ := id hI
  have o : ∀ c, c ∉ NOW → u c = h.2.1 c := fr
  have o2 : u 92 = h.2.1 92 := o 92 (by decide)
  refine INV_G hI hG fr (fun j hj => h1 j (by omega)) h0 h6 hl ?_ hm ⟨iSg_c s1 c1.2.2.1 c1.2.2.2.1 (h4 0 (by omega)) (h4 1 (by omega)) (fun j j1 j2 => ha j j1 (by omega)) (fun q _ k _ => by rw [e30]), iSg_c s2 c2.2.2.1 c2.2.2.2.1 (congrFun o2 0) (congrFun o2 1) (fun j _ _ => congrFun o2 j) (fun q _ k _ => by rw [e30])⟩ ⟨iLn_c n1 c1.2.2.2.2.1 (h4 2 (by omega)) (fun j j1 j2 => ha j (by omega) j2) (fun k _ => ⟨congrFun e35 k, congrFun e36 k, congrFun e37 k, congrFun e38 k⟩), iLn_c n2 c2.2.2.2.2.1 (congrFun o2 2) (fun j _ _ => congrFun o2 j) (fun k _ => ⟨congrFun e35 k, congrFun e36 k, congrFun e37 k, congrFun e38 k⟩)⟩ (h4 3 (by omega)) (iLe_c le h4 (fun j _ => congrFun o2 j))
  obtain ⟨⟨a1, a2, a3, a4, a5⟩, b1, b2⟩ := c1
  refine ⟨⟨h5.1, ?_, ?_, ?_, ?_⟩, h5.2, ?_⟩
  · rw [h1 6 (by omega), h4 0 (by omega)]; exact a2
  · rw [h1 7 (by omega), h4 1 (by omega)]; exact a3
  · rw [h1 8 (by omega), h4 2 (by omega)]; exact a4
  · rw [h1 9 (by omega), h4 3 (by omega)]; exact a5
  · rw [h4 0 (by omega), h4 1 (by omega), h4 2 (by omega), h4 3 (by omega)]; exact b2
abbrev LIT : List Nat := [91, 6, 8, 10, 12, 14] ++ SCR
/-- light alone -/
theorem INV_L (hI : INV w g n h) (hG : jG R) (fr : jfr LIT h.2.1 u) (h0 : ∀ j, j < 10 → u 90 j = h.2.1 90 j) (h6 : ∀ j, 16 ≤ j → j < 19 → u 90 j = h.2.1 90 j) (ha : ∀ j, j < 10 ∨ 730 ≤ j → u 91 j = h.2.1 91 j) (hl : iL w g 1 91 u) : INV w g n (R, u, v) := by
  have o : ∀ c, c ∉ LIT → u c = h.2.1 c := fr
  have c1 := hI.2.2.2.1.1
  refine INV_N hI hG (jfr_sub fr (by decide)) (o 30 (by decide)) (o 35 (by decide)) (o 36 (by decide)) (o 37 (by decide)) (o 38 (by decide)) (fun j _ => congrFun (o 1 (by decide)) j) h0 h6 (fun j hj => ha j (by omega)) (fun j j1 j2 => ha j (by omega)) hl ?_ (iM_c hI.2.2.2.2.1.1 (o _ (by decide)) (o _ (by decide)) (fun j hj => ha j (by omega)))
  rw [o 1 (by decide), ha 4 (by omega)]
  exact ⟨c1.1.1, c1.2.1⟩
/-- of the pictures of now one alone has changed -/
theorem iL_1 {f : Nat → Nat → Int} {p0 : Nat} (hl : iL w g 1 91 f) (e1 : ∀ p, p < 5 → p ≠ p0 → u (6 + 2 * p) = f (6 + 2 * p)) (e2 : ∀ p, p < 5 → p ≠ p0 → ∀ j, 10 + 144 * p ≤ j → j < 154 + 144 * p → u 91 j = f 91 j) (hw : (w : Int) ≤ 12) (hg : (g : Int) ≤ 12) (he : p0 < 5 → jcx u (6 + 2 * p0) w g = jqx u 91 w g (p0 : Int) ∧ l99 (jqx u 91 w g (p0 : Int))) : iL w g 1 91 u := fun p hp => by
  rw [show 1 + 5 + 2 * p = 6 + 2 * p by omega]
  by_cases z : p = p0
  · rw [z]; exact he (by omega)
  · have := hl p hp
    rw [show 1 + 5 + 2 * p = 6 + 2 * p by omega] at this
    have e : jqx u 91 w g (p : Int) = jqx f 91 w g (p : Int) := by
      funext x y
      unfold jqx
      by_cases c : (0 ≤ x ∧ x < (w : Int)) ∧ 0 ≤ y ∧ y < (g : Int)
      · rw [if_pos c, if_pos c, e2 p hp z _ (by omega) (by omega)]
      · rw [if_neg c, if_neg c]
    rw [jcx_c (e1 p hp z), e]
    exact this
end JV2
section JV3
variable {l : Launch} {d w g n : Nat} {h : ja_H}
theorem yw_i {w x y x' y' : Int} (hw : 0 < w) (hx : 0 ≤ x ∧ x < w) (hx' : 0 ≤ x' ∧ x' < w) (e : y * w + x = y' * w + x') : x = x' ∧ y = y' := by
  have h1 : (y * w + x) % w = x := by rw [Int.add_comm, Int.add_mul_emod_self_right]; exact Int.emod_eq_of_lt hx.1 hx.2
  have h2 : (y' * w + x') % w = x' := by rw [Int.add_comm, Int.add_mul_emod_self_right]; exact Int.emod_eq_of_lt hx'.1 hx'.2
  have hxx : x = x' := by rw [← h1, ← h2, e]
  subst hxx
  refine ⟨rfl, ?_⟩
  have : y * w = y' * w := by omega
  exact Int.eq_of_mul_eq_mul_right (by omega) this
theorem vv_light {p x y v : Int} (hI : INV w g n h) : jPr l (d + 47) mX11_light mX12_light w g n [.inl p, .inl x, .inl y, .inl v] h := by
  have hG := hI.1
  have hW := hI.2.1
  have bb := INV_b hI
  unfold jPr
  refine kX11_light (jT_of hG) (jS1_of hG hW) (fun c => ⟨_, rfl, ?_⟩) (fun c => ⟨_, rfl, ?_⟩)
  · have hm : jm w g (h.1, ja_up h.2.1 (6 + 2 * p.toNat) (y * w + x).toNat v, h.2.2) := jm_w (jm_of hG hW) (by funext j; exact ja_upO (by omega))
    refine kX12_light hm (fun _ => ⟨rfl, ?_⟩) (fun c2 => absurd c c2)
    dsimp only
    have ix := jp_ix (w := w) (g := g) ⟨bb.1, bb.2.1⟩ bb.2.2 c.2.1 c.2.2.1
    refine INV_L hI hG (jfr_up (jfr_up (jfr_rf _ _) ?_) (by decide)) (fun j hj => ?_) (fun j j1 j2 => ?_) (fun j hj => ?_) (iL_1 (p0 := p.toNat) hI.2.2.1.1 (fun q hq hn => ?_) (fun q hq hn j j1 j2 => ?_) bb.2.1 bb.2.2.2 (fun _ => ?_))
    · have : p.toNat = 0 ∨ p.toNat = 1 ∨ p.toNat = 2 ∨ p.toNat = 3 ∨ p.toNat = 4 := by omega
      rcases this with z | z | z | z | z <;> rw [z] <;> decide
    · rw [ja_upO (by omega), ja_upO (by omega)]
    · rw [ja_upO (by omega), ja_upO (by omega)]
    · rw [ja_upO (by omega), ja_upO (by omega)]
    · funext j; rw [ja_upO (by omega), ja_upO (by omega)]
    · rw [ja_upO (by omega), ja_upO (by omega)]
    · have o := hI.2.2.1.1 p.toNat (by omega)
      rw [show 1 + 5 + 2 * p.toNat = 6 + 2 * p.toNat by omega] at o
      have hpn : ((p.toNat : Nat) : Int) = p := by omega
      rw [hpn] at o ⊢
      have key : ∀ a b : Int, jqx (ja_up (ja_up h.2.1 (6 + 2 * p.toNat) (y * w + x).toNat v) 91 (10 + 144 * p + 12 * y + x).toNat v) 91 w g p a b = if a = x ∧ b = y then v else jqx h.2.1 91 w g p a b := fun a b => by
        unfold jqx
        by_cases z : (0 ≤ a ∧ a < (w : Int)) ∧ 0 ≤ b ∧ b < (g : Int)
        · rw [if_pos z, if_pos z]
          by_cases zz : a = x ∧ b = y
          · rw [if_pos zz, zz.1, zz.2, ja_upE rfl rfl]
          · rw [if_neg zz, ja_upO (by omega), ja_upO (by omega)]
        · rw [if_neg z, if_neg z, if_neg (by omega)]
      refine ⟨?_, fun a b => ?_⟩
      · funext a b
        rw [key, ← congrFun (congrFun o.1 a) b]
        unfold jcx
        by_cases z : (0 ≤ a ∧ a < (w : Int)) ∧ 0 ≤ b ∧ b < (g : Int)
        · rw [if_pos z, if_pos z, ja_upO (by omega)]
          have ix2 := jp_ix (w := w) (g := g) ⟨bb.1, bb.2.1⟩ bb.2.2 z.1 z.2
          by_cases zz : a = x ∧ b = y
          · rw [if_pos zz, zz.1, zz.2, ja_upE rfl rfl]
          · rw [if_neg zz, ja_upO]
            refine Or.inr fun e => zz ?_
            exact yw_i (w := (w : Int)) (by omega) z.1 c.2.1 (by omega)
        · rw [if_neg z, if_neg z, if_neg (by omega)]
      · rw [key]
        split
        · exact c.2.2.2
        · exact o.2 a b
  · exact kX12_light (jm_of hG hW) (fun c2 => absurd c2 c) (fun _ => ⟨rfl, hI⟩)
theorem rwD_m {v : Int} (hv : 0 ≤ v) : ∀ i, 0 ≤ rwD v i
  | 0 => hv
  | i + 1 => by have := rwD_m hv i; rw [rwD]; omega
theorem vv_row {p x y v : Int} (hI : INV w g n h) : jPr l (d + 47) mX11_row mX12_row w g n [.inl p, .inl x, .inl y, .inr (.inl v)] h := by
  have hG := hI.1
  have hW := hI.2.1
  have bb := INV_b hI
  unfold jPr
  refine kX11_row hG hW (fun c f fr f1 f2 => ⟨_, rfl, ?_⟩) (fun c => ⟨_, rfl, ?_⟩)
  · obtain ⟨c1, ⟨c2, c3⟩, c4⟩ := id c
    have p6 : 6 + 2 * p.toNat < 15 := by omega
    have hW2 : jW w g n f := jW_fr hW (fun j _ => congrFun (fr 90 (by simp; omega)) j) (fun j _ => congrFun (fr 1 (by simp; omega)) j) (fun k hk => fr k (by simp only [List.mem_cons, List.not_mem_nil, or_false] at hk ⊢; omega))
    refine kX12_row (h := (h.1, f, h.2.2)) hG hW2 (fun _ f' fr' g1 g2 => ⟨rfl, ?_⟩) (fun c2 => absurd c c2)
    dsimp only at fr' g1 g2 ⊢
    have f91 : f 91 = h.2.1 91 := fr 91 (by simp; omega)
    have f6 : f' (6 + 2 * p.toNat) = f (6 + 2 * p.toNat) := fr' _ (by simp; omega)
    have nn : ∀ i : Nat, i < rwN x w → x + i < (w : Int) := fun i hi => by unfold rwN at hi; omega
    have g3 : ∀ j : Nat, ¬ (10 + 144 * p + 12 * y + x ≤ (j : Int) ∧ (j : Int) < 10 + 144 * p + 12 * y + w) → f' 91 j = h.2.1 91 j := fun j hj => by
      rw [← f91]
      refine g2 j fun i hi => ?_
      have := nn i hi
      omega
    refine INV_L hI hG (fun k hk => ?_) (fun j hj => ?_) (fun j j1 j2 => ?_) (fun j hj => g3 j (by omega)) (iL_1 (p0 := p.toNat) hI.2.2.1.1 (fun q hq hn => ?_) (fun q hq hn j j1 j2 => g3 j (by omega)) bb.2.1 bb.2.2.2 (fun _ => ?_))
    · rw [fr' k (by intro z; apply hk; simp at z; rw [z]; decide), fr k ?_]
      intro z
      apply hk
      rw [List.mem_singleton] at z
      rw [z]
      have : p.toNat = 0 ∨ p.toNat = 1 ∨ p.toNat = 2 ∨ p.toNat = 3 ∨ p.toNat = 4 := by omega
      rcases this with z | z | z | z | z <;> rw [z] <;> decide
    · rw [fr' 90 (by decide), fr 90 (by simp; omega)]
    · rw [fr' 90 (by decide), fr 90 (by simp; omega)]
    · rw [fr' _ (by simp; omega), fr _ (by simp; omega)]
    · have o := hI.2.2.1.1 p.toNat (by omega)
      rw [show 1 + 5 + 2 * p.toNat = 6 + 2 * p.toNat by omega] at o
      have hpn : ((p.toNat : Nat) : Int) = p := by omega
      rw [hpn] at o ⊢
      have key : ∀ a b : Int, jqx f' 91 w g p a b = if b = y ∧ x ≤ a ∧ a < x + (rwN x w : Nat) then rwD v (a - x).toNat % 100 else jqx h.2.1 91 w g p a b := fun a b => by
        unfold jqx
        by_cases z : (0 ≤ a ∧ a < (w : Int)) ∧ 0 ≤ b ∧ b < (g : Int)
        · rw [if_pos z, if_pos z]
          by_cases zz : b = y ∧ x ≤ a ∧ a < x + (rwN x w : Nat)
          · rw [if_pos zz, ← g1 (a - x).toNat (by omega)]
            congr 1
            omega
          · rw [if_neg zz, ← f91]
            refine g2 _ fun i hi => ?_
            have := nn i hi
            omega
        · rw [if_neg z, if_neg z, if_neg]
          intro zz
          have := nn (a - x).toNat (by omega)
          omega
      refine ⟨?_, fun a b => ?_⟩
      · funext a b
        rw [key, ← congrFun (congrFun o.1 a) b]
        unfold jcx
        by_cases z : (0 ≤ a ∧ a < (w : Int)) ∧ 0 ≤ b ∧ b < (g : Int)
        · rw [if_pos z, if_pos z, f6]
          have ix2 := jp_ix (w := w) (g := g) ⟨bb.1, bb.2.1⟩ bb.2.2 z.1 z.2
          by_cases zz : b = y ∧ x ≤ a ∧ a < x + (rwN x w : Nat)
          · rw [if_pos zz, ← f1 (a - x).toNat (by omega), zz.1]
            congr 2
            omega
          · rw [if_neg zz]
            refine f2 _ fun i hi e => zz ?_
            have := nn i hi
            have ix3 := jp_ix (w := w) (g := g) ⟨bb.1, bb.2.1⟩ bb.2.2 (x := x + i) (y := y) (by omega) c3
            have := yw_i (w := (w : Int)) (x := a) (y := b) (x' := x + i) (y' := y) (by omega) z.1 (by omega) (by omega)
            omega
        · rw [if_neg z, if_neg z, if_neg]
          intro zz
          have := nn (a - x).toNat (by omega)
          omega
      · rw [key]
        split
        · omega
        · exact o.2 a b
  · exact kX12_row hG hW (fun c2 => absurd c2 c) (fun _ => ⟨rfl, hI⟩)
end JV3
