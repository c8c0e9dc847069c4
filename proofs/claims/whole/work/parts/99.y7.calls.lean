section JV6
variable {l : Launch} {d w g n : Nat} {h : ja_H}
theorem iL_x {f u : Nat → Nat → Int} {s a s' a' : Nat} (h : iL w g s a f) (hn : (n : Int) = (w : Int) * (g : Int)) (hb : (4 ≤ (w : Int) ∧ (w : Int) ≤ 12) ∧ 4 ≤ (g : Int) ∧ (g : Int) ≤ 12) (e1 : ∀ p, p < 5 → ∀ j, j < n → u (s' + 5 + 2 * p) j = f (s + 5 + 2 * p) j) (ea : ∀ j, j < 920 → u a' j = f a j) : iL w g s' a' u := fun p hp => by
  have eq : jqx u a' w g (p : Int) = jqx f a w g (p : Int) := by
    funext x y
    unfold jqx
    by_cases c : (0 ≤ x ∧ x < (w : Int)) ∧ 0 ≤ y ∧ y < (g : Int)
    · rw [if_pos c, if_pos c, ea _ (by omega)]
    · rw [if_neg c, if_neg c]
  have ec : jcx u (s' + 5 + 2 * p) w g = jcx f (s + 5 + 2 * p) w g := by
    funext x y
    unfold jcx
    by_cases c : (0 ≤ x ∧ x < (w : Int)) ∧ 0 ≤ y ∧ y < (g : Int)
    · have ix := jp_ix (w := w) (g := g) hb.1 hb.2 c.1 c.2
      rw [if_pos c, if_pos c, e1 p hp _ (by omega)]
    · rw [if_neg c, if_neg c]
  rw [ec, eq]
  exact h p hp
theorem iC_x {f u : Nat → Nat → Int} {s a s' a' : Nat} (h : iC s a f) (e1 : ∀ j, 5 ≤ j → j ≤ 9 → u s' j = f s j) (ea : ∀ j, j < 920 → u a' j = f a j) : iC s' a' u := by
  unfold iC
  rw [e1 5 (by omega) (by omega), e1 6 (by omega) (by omega), e1 7 (by omega) (by omega), e1 8 (by omega) (by omega), e1 9 (by omega) (by omega), ea 0 (by omega), ea 1 (by omega), ea 2 (by omega), ea 3 (by omega), ea 4 (by omega)]
  exact h
theorem iM_x {f u : Nat → Nat → Int} {s a s' a' : Nat} (h : iM s a f) (e2 : ∀ j, j < 4 → u (s' + 2) j = f (s + 2) j) (e3 : ∀ j, j < 24 → u (s' + 3) j = f (s + 3) j) (ea : ∀ j, j < 920 → u a' j = f a j) : iM s' a' u := by
  refine ⟨fun m hm => ?_, fun k hk => ?_⟩
  · rw [e2 m hm, ea _ (by omega)]; exact h.1 m hm
  · rw [e3 k hk, ea _ (by omega)]; exact h.2 k hk
theorem iSg_x {f u : Nat → Nat → Int} {a a' : Nat} (h : iSg a f) (hc : f a 0 ≤ 12) (hd : f a 1 ≤ 8) (ea : ∀ j, j < 920 → u a' j = f a j) (eb : u 30 = f 30) : iSg a' u := by
  refine ⟨fun k hk => ?_, fun k hk => ?_⟩
  · rw [ea 0 (by omega)] at hk
    obtain ⟨h1, h2⟩ := h.1 k hk
    have ee : ∀ j, 740 + 6 * k ≤ j → j < 746 + 6 * k → u a' j = f a j := fun j j1 j2 => ea j (by omega)
    refine ⟨shOk_c h1 ee, fun q hq => ?_⟩
    rw [eb, sS_c ee]
    exact h2 q hq
  · rw [ea 1 (by omega)] at hk
    obtain ⟨h1, h2⟩ := h.2 k hk
    rw [ea (820 + k) (by omega)]
    refine ⟨h1, fun q hq => ?_⟩
    rw [eb, sN_c (ea _ (by omega))]
    exact h2 q hq
theorem iLn_x {f u : Nat → Nat → Int} {a a' : Nat} (h : iLn a f) (hc : f a 2 ≤ 10) (ea : ∀ j, j < 920 → u a' j = f a j) (e5 : u 35 = f 35) (e6 : u 36 = f 36) (e7 : u 37 = f 37) (e8 : u 38 = f 38) : iLn a' u := fun k hk => by
  rw [ea 2 (by omega)] at hk
  unfold aX aY aU aV
  rw [e5, e6, e7, e8, ea (830 + 4 * k) (by omega), ea (831 + 4 * k) (by omega), ea (832 + 4 * k) (by omega), ea (833 + 4 * k) (by omega)]
  exact h k hk
theorem vv_image (hI : INV w g n h) : jPr l (d + 47) mX11_image mX12_image w g n [] h := by
  have hG := hI.1
  have hW := hI.2.1
  have bb := INV_b hI
  obtain ⟨_, _, ⟨l1, l2⟩, ⟨c1, c2⟩, ⟨m1, m2⟩, ⟨s1, s2⟩, ⟨n1, n2⟩, tx, tp, ft, bx, le⟩ := id hI
  unfold jPr
  refine kX11_image hG hW fun f hf => ⟨_, rfl, ?_⟩
  obtain ⟨b1, b2, b3, b4, b5, b6⟩ := hf
  have o : ∀ c, (c < 15 ∨ c = 16 ∨ c = 19 ∨ c = 21 ∨ c = 23 ∨ c = 25 ∨ c = 27 ∨ 28 < c) → f c = h.2.1 c := fun c hc => b6 c (by simp only [List.mem_cons, List.not_mem_nil, or_false]; omega)
  refine kX12_image (jm_w (jm_of hG hW) (o 90 (by omega))) ⟨?_, ?_⟩
  · show some (Sum.inl (f 91 3)) = _
    rw [o 91 (by omega), c1.1.2.2.2.2]
  dsimp only
  have u2 : ∀ c, c ≠ 92 → jm_cpr f 92 91 0 0 920 c = f c := fun c hc => by funext j; unfold jm_cpr; rw [if_neg (by omega)]
  have u9 : ∀ j, j < 920 → jm_cpr f 92 91 0 0 920 92 j = h.2.1 91 j := fun j hj => by unfold jm_cpr; rw [if_pos (by omega), o 91 (by omega), show 0 + (j - 0) = j by omega]
  obtain ⟨u, hu⟩ : ∃ u, jm_cpr f 92 91 0 0 920 = u := ⟨_, rfl⟩
  rw [hu] at u2 u9 ⊢
  have o2 : ∀ c, (c < 15 ∨ c = 16 ∨ c = 19 ∨ c = 21 ∨ c = 23 ∨ c = 25 ∨ c = 27 ∨ 28 < c) → c ≠ 92 → u c = h.2.1 c := fun c hc h9 => (u2 c h9).trans (o c hc)
  have o1 : u 91 = h.2.1 91 := o2 91 (by omega) (by omega)
  have o48 : u 48 = h.2.1 48 := o2 48 (by omega) (by omega)
  have o90 : u 90 = h.2.1 90 := o2 90 (by omega) (by omega)
  refine ⟨hG, jW_fr hW (fun j hj => congrFun o90 j) (fun j _ => congrFun (o2 1 (by omega) (by omega)) j) (fun c hc => o2 c (by simp only [List.mem_cons, List.not_mem_nil, or_false] at hc; omega) (by simp only [List.mem_cons, List.not_mem_nil, or_false] at hc; omega)), ⟨iL_c l1 (fun p hp => o2 _ (by omega) (by omega)) o1, iL_x (n := n) l1 hW.1.1 ⟨⟨bb.1, bb.2.1⟩, bb.2.2⟩ (fun p hp j hj => by show u (15 + 5 + 2 * p) j = _; rw [u2 _ (by omega)]; exact b1 p hp j hj) u9⟩, ⟨iC_c c1 (fun j _ _ => congrFun (o2 1 (by omega) (by omega)) j) (fun j _ => congrFun o1 j), iC_x c1 (fun j j1 j2 => by show u 15 j = _; rw [u2 15 (by omega)]; exact b4 j j1 j2) u9⟩, ⟨iM_c m1 (o2 _ (by omega) (by omega)) (o2 _ (by omega) (by omega)) (fun j _ => congrFun o1 j), iM_x m1 (fun j hj => by show u (15 + 2) j = _; rw [u2 _ (by omega)]; exact b2 j hj) (fun j hj => by show u (15 + 3) j = _; rw [u2 _ (by omega)]; exact b3 j hj) u9⟩, ⟨iSg_x s1 c1.2.2.1.2 c1.2.2.2.1.2 (fun j _ => congrFun o1 j) (o2 30 (by omega) (by omega)), iSg_x s1 c1.2.2.1.2 c1.2.2.2.1.2 u9 (o2 30 (by omega) (by omega))⟩, ⟨iLn_x n1 c1.2.2.2.2.1.2 (fun j _ => congrFun o1 j) (o2 35 (by omega) (by omega)) (o2 36 (by omega) (by omega)) (o2 37 (by omega) (by omega)) (o2 38 (by omega) (by omega)), iLn_x n1 c1.2.2.2.2.1.2 u9 (o2 35 (by omega) (by omega)) (o2 36 (by omega) (by omega)) (o2 37 (by omega) (by omega)) (o2 38 (by omega) (by omega))⟩, iTx_c tx c1.2.2.2.2.2.2 (by show u 91 3 ≤ _; rw [o1]; exact Int.le_refl _) (fun c q1 q2 => o2 c (by omega) (by omega)) (o2 93 (by omega) (by omega)), iTp_c tp (congrFun o48 1) (congrFun o90 16) (o2 49 (by omega) (by omega)) (o2 97 (by omega) (by omega)), iFt_c ft (congrFun o48 7) (congrFun o48 8) (congrFun o48 9) (congrFun o90 17) (congrFun o90 18), iBx_c bx (congrFun o90 8) (congrFun o90 9), ?_⟩
  show iLe u
  unfold iLe
  rw [u9 0 (by omega), u9 1 (by omega), u9 2 (by omega), u9 3 (by omega), o1]
  exact ⟨Int.le_refl _, Int.le_refl _, Int.le_refl _, Int.le_refl _⟩
theorem vv_back (hI : INV w g n h) : jPr l (d + 47) mX11_back mX12_back w g n [] h := by
  have hG := hI.1
  have hW := hI.2.1
  have bb := INV_b hI
  obtain ⟨_, _, ⟨l1, l2⟩, ⟨c1, c2⟩, ⟨m1, m2⟩, ⟨s1, s2⟩, ⟨n1, n2⟩, tx, tp, ft, bx, le⟩ := id hI
  unfold jPr
  refine kX11_back hG hW fun f hf => ⟨_, rfl, ?_⟩
  obtain ⟨b1, b2, b3, b4, b5, b6⟩ := hf
  have o : ∀ c, (c = 0 ∨ c = 2 ∨ c = 5 ∨ c = 7 ∨ c = 9 ∨ c = 11 ∨ c = 13 ∨ 14 < c) → f c = h.2.1 c := fun c hc => b6 c (by simp only [List.mem_cons, List.not_mem_nil, or_false]; omega)
  refine kX12_back (jm_w (jm_of hG hW) (o 90 (by omega))) ⟨?_, ?_⟩
  · show some (Sum.inl (f 92 3)) = _
    rw [o 92 (by omega), c2.1.2.2.2.2]
  dsimp only
  have u2 : ∀ c, c ≠ 91 → jm_cpr f 91 92 0 0 920 c = f c := fun c hc => by funext j; unfold jm_cpr; rw [if_neg (by omega)]
  have u9 : ∀ j, j < 920 → jm_cpr f 91 92 0 0 920 91 j = h.2.1 92 j := fun j hj => by unfold jm_cpr; rw [if_pos (by omega), o 92 (by omega), show 0 + (j - 0) = j by omega]
  obtain ⟨u, hu⟩ : ∃ u, jm_cpr f 91 92 0 0 920 = u := ⟨_, rfl⟩
  rw [hu] at u2 u9 ⊢
  have o2 : ∀ c, (c = 0 ∨ c = 2 ∨ c = 5 ∨ c = 7 ∨ c = 9 ∨ c = 11 ∨ c = 13 ∨ 14 < c) → c ≠ 91 → u c = h.2.1 c := fun c hc h9 => (u2 c h9).trans (o c hc)
  have o1 : u 92 = h.2.1 92 := o2 92 (by omega) (by omega)
  have o48 : u 48 = h.2.1 48 := o2 48 (by omega) (by omega)
  have o90 : u 90 = h.2.1 90 := o2 90 (by omega) (by omega)
  refine ⟨hG, jW_fr hW (fun j hj => congrFun o90 j) (fun j hj => by show u 1 j = _; rw [u2 1 (by omega)]; exact b5 j (by omega)) (fun c hc => o2 c (by simp only [List.mem_cons, List.not_mem_nil, or_false] at hc; omega) (by simp only [List.mem_cons, List.not_mem_nil, or_false] at hc; omega)), ⟨iL_x (n := n) l2 hW.1.1 ⟨⟨bb.1, bb.2.1⟩, bb.2.2⟩ (fun p hp j hj => by show u (1 + 5 + 2 * p) j = _; rw [u2 _ (by omega)]; exact b1 p hp j hj) u9, iL_c l2 (fun p hp => o2 _ (by omega) (by omega)) o1⟩, ⟨iC_x c2 (fun j j1 j2 => by show u 1 j = _; rw [u2 1 (by omega)]; exact b4 j j1 j2) u9, iC_c c2 (fun j _ _ => congrFun (o2 15 (by omega) (by omega)) j) (fun j _ => congrFun o1 j)⟩, ⟨iM_x m2 (fun j hj => by show u (1 + 2) j = _; rw [u2 _ (by omega)]; exact b2 j hj) (fun j hj => by show u (1 + 3) j = _; rw [u2 _ (by omega)]; exact b3 j hj) u9, iM_c m2 (o2 _ (by omega) (by omega)) (o2 _ (by omega) (by omega)) (fun j _ => congrFun o1 j)⟩, ⟨iSg_x s2 c2.2.2.1.2 c2.2.2.2.1.2 u9 (o2 30 (by omega) (by omega)), iSg_x s2 c2.2.2.1.2 c2.2.2.2.1.2 (fun j _ => congrFun o1 j) (o2 30 (by omega) (by omega))⟩, ⟨iLn_x n2 c2.2.2.2.2.1.2 u9 (o2 35 (by omega) (by omega)) (o2 36 (by omega) (by omega)) (o2 37 (by omega) (by omega)) (o2 38 (by omega) (by omega)), iLn_x n2 c2.2.2.2.2.1.2 (fun j _ => congrFun o1 j) (o2 35 (by omega) (by omega)) (o2 36 (by omega) (by omega)) (o2 37 (by omega) (by omega)) (o2 38 (by omega) (by omega))⟩, iTx_c tx c1.2.2.2.2.2.2 (by show u 91 3 ≤ _; rw [u9 3 (by omega)]; exact le.2.2.2) (fun c q1 q2 => o2 c (by omega) (by omega)) (o2 93 (by omega) (by omega)), iTp_c tp (congrFun o48 1) (congrFun o90 16) (o2 49 (by omega) (by omega)) (o2 97 (by omega) (by omega)), iFt_c ft (congrFun o48 7) (congrFun o48 8) (congrFun o48 9) (congrFun o90 17) (congrFun o90 18), iBx_c bx (congrFun o90 8) (congrFun o90 9), ?_⟩
  show iLe u
  unfold iLe
  rw [u9 0 (by omega), u9 1 (by omega), u9 2 (by omega), u9 3 (by omega), o1]
  exact ⟨Int.le_refl _, Int.le_refl _, Int.le_refl _, Int.le_refl _⟩
theorem jG_486 {R : Nat → Nat → Option Nat} {v : Option Nat} (hG : jG R) : jG (ja_up R 48 6 v) := by
  refine ⟨fun k i r e => ?_, ?_⟩
  · have : ¬ (k = 48 ∧ i = 6) := by
      rintro ⟨rfl, rfl⟩
      exact absurd (show (none : Option Nat) = some r from e) (by simp)
    unfold ja_up
    rw [if_neg this]
    exact hG.1 k i r e
  · funext i
    unfold ja_up
    rw [if_neg (by omega), hG.2]
theorem mTx_c {tx A : Nat} {K N C X Y : Nat → Int} (h : mTx tx A K N C X) (hA : A ≤ 16) (hb : ∀ a, a < A → K a = 2 → N (7 * a + 5) ≤ 300) (hn : ∀ a, a < A → K a = 2 → 0 ≤ N (7 * a + 4)) (e : ∀ i, 1000 * tx ≤ i → i < 1000 * tx + 1000 → Y i = X i) : mTx tx A K N C Y := by
  obtain ⟨h1, h2, h3⟩ := h
  refine ⟨by rw [e _ (by omega) (by omega)]; exact h1, fun a ha => ⟨?_, fun j hj ho => ?_⟩, fun a ha k i i1 i2 => ?_⟩
  · rw [e _ (by omega) (by omega)]; exact (h2 a ha).1
  · have := msl_b (k := K a) (j := j) (by have := nsl_b (k := K a); omega)
    rw [e _ (by omega) (by omega)]
    exact (h2 a ha).2 j hj ho
  · have := hb a ha k
    rw [e _ (by omega) (by omega), e _ (by omega) (by omega)]
    exact h3 a ha k i i1 i2
end JV6
