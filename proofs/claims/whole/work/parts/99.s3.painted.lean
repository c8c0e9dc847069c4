set_option maxRecDepth 10000 in
theorem kX12_painted {l : Launch} {d n Ln t0 s a D : Nat} {T X : Nat → Int} {w : List Int} {h : ja_H} {Q : ja_Q} (hA : raA T Ln t0 s a 0 w D X h) (hD : D ≤ 8) (hws : w.length ≤ s) (r1 : nmR) (er1 : r1 = nms T Ln (t0 + 1 + 12 * a) [(0 + 1, 0, 99), (0 + 1 + 1, 0, 99), (0 + 1 + 1 + 1, 1, 99), (0 + 1 + 1 + 1 + 1, 1, 99)] s X) (hr1 : s ≤ r1.2.1)
    (q1 : ∀ v s' f g, v ≠ 0 → ((r1.1 ≠ 0 ∧ v = r1.1 ∧ s' = r1.2.1) ∨ (r1.1 = 0 ∧ v = (pr T Ln 2 D r1.2.1).1 ∧ s' = (pr T Ln 2 D r1.2.1).2.1)) → raF t0 h.2.1 f → jnl h.2.2 g → f 90 20 = ((s' : Nat) : Int) → Q (some (.inl v)) (h.1, f, g))
    (q0 : r1.1 = 0 → (pr T Ln 2 D r1.2.1).1 = 0 → ∀ f g, raF t0 h.2.1 f → jnl h.2.2 g → raB T Ln t0 (pr T Ln 2 D r1.2.1).2.1 (w ++ (pr T Ln 2 D r1.2.1).2.2) D (h.1, f, g) → f 93 (t0 + 1 + 12 * a + 8) = (w.length : Int) → f 93 (t0 + 1 + 12 * a + 9) = ((w ++ (pr T Ln 2 D r1.2.1).2.2).length : Int) → (∀ i, i < t0 + 200 → i ≠ t0 + 1 + 12 * a + 8 → i ≠ t0 + 1 + 12 * a + 9 → f 93 i = r1.2.2 i) → Q (some (.inl 0)) (h.1, f, g)) : ja_C l (d + 7) mX12_painted (js_sh n) [.inr (.inr (some 90))] h Q := by
  have hG := hA.1.1
  have ht0 := hA.1.2.2.2.2.1.2
  have ha := hA.2.1
  refine eX12_painted _ fun ho => ?_
  unfold bX12_painted
  refine jx_mI (jr_lr rfl) rfl jA_0 (kX12_field hA (by omega) fun r f1 g1 e1 fr1 gr1 w1 => ⟨_, rfl, fun _ => ?_⟩)
  rw [← er1] at e1
  have e1 := e1.symm
  subst e1
  by_cases y1 : r1.1 = 0
  · refine jb_if_d (jd_ne (jv_li rfl) jv_ci) (fun z => absurd y1 z) (fun _ => ?_)
    obtain ⟨hB, _, h32, h33, hX⟩ := w1.2 y1
    have hB0 := hB
    obtain ⟨_, ⟨hL, hL3, hT, hb⟩, hs1, hk, _, ⟨h26, h30⟩, hc⟩ := hB
    dsimp only at h32 h33 hX h26 h30
    refine jt_wI (jr_g (jr_lr rfl) rfl (by exact jG_90 hG rfl)) rfl (jv_w (jv_add (jv_gF (jr_lr rfl) rfl h32) jv_ci) (by unfold ja_r; omega)) (jv_gF (jr_lr rfl) rfl h26) (by omega) (by omega) ?_
    dsimp only
    rw [show (((t0 + 1 + 12 * a : Nat) : Int) + 8).toNat = t0 + 1 + 12 * a + 8 by omega]
    obtain ⟨f2, hf2⟩ : ∃ f2, ja_up f1 93 (t0 + 1 + 12 * a + 8) (w.length : Int) = f2 := ⟨_, rfl⟩
    have o : ∀ c' j, (c' ≠ 93 ∨ j ≠ t0 + 1 + 12 * a + 8) → f2 c' j = f1 c' j := fun c' j z => by rw [← hf2, ja_upO z]
    have e8 : f2 93 (t0 + 1 + 12 * a + 8) = (w.length : Int) := by rw [← hf2, ja_upE rfl rfl]
    have fr2 : raF t0 f1 f2 := ⟨by rw [← hf2]; exact jfr_up (jfr_rf _ _) (by simp), fun j hj => o _ _ (by omega), fun i hi => o _ _ (by omega)⟩
    have hB2 : raB T Ln t0 r1.2.1 w D (h.1, f2, g1) := raB_o hB0 (fun j hj => o _ _ (by omega)) (by funext j; exact o _ _ (by omega)) (fun i hi => o _ _ (by omega))
    rw [hf2]
    refine jx_mI (jr_lr rfl) rfl jA_0 (kX12_summed (h := (h.1, f2, g1)) hB2 hD (by omega) (fun r3 f3 g3 e3 fr3 gr3 w3 => ⟨_, rfl, fun _ => ?_⟩))
    rw [prB_0] at e3
    subst e3
    obtain ⟨O', hB3, hO⟩ := w3
    dsimp only at hB3 hO fr3 gr3 ⊢
    simp only [List.append_nil] at hB3 ⊢
    have g26 : f3 90 26 = ((w ++ (pr T Ln 2 D r1.2.1).2.2).length : Int) := hB3.2.2.2.2.2.1.1
    have g32 : f3 90 32 = ((t0 + 1 + 12 * a : Nat) : Int) := (fr3.2.1 32 (by omega)).trans ((o _ _ (by omega)).trans h32)
    have g20 : f3 90 20 = ((pr T Ln 2 D r1.2.1).2.1 : Int) := hB3.2.2.2.1.2.1
    refine jt_wI (jr_g (jr_lr rfl) rfl (by exact jG_90 hG rfl)) rfl (jv_w (jv_add (jv_gF (jr_lr rfl) rfl g32) jv_ci) (by unfold ja_r; omega)) (jv_gF (jr_lr rfl) rfl g26) (by omega) (by omega) ?_
    dsimp only
    rw [show (((t0 + 1 + 12 * a : Nat) : Int) + 9).toNat = t0 + 1 + 12 * a + 9 by omega]
    obtain ⟨f4, hf4⟩ : ∃ f4, ja_up f3 93 (t0 + 1 + 12 * a + 9) ((w ++ (pr T Ln 2 D r1.2.1).2.2).length : Int) = f4 := ⟨_, rfl⟩
    have o4 : ∀ c' j, (c' ≠ 93 ∨ j ≠ t0 + 1 + 12 * a + 9) → f4 c' j = f3 c' j := fun c' j z => by rw [← hf4, ja_upO z]
    have e9 : f4 93 (t0 + 1 + 12 * a + 9) = ((w ++ (pr T Ln 2 D r1.2.1).2.2).length : Int) := by rw [← hf4, ja_upE rfl rfl]
    have fr4 : raF t0 f3 f4 := ⟨by rw [← hf4]; exact jfr_up (jfr_rf _ _) (by simp), fun j hj => o4 _ _ (by omega), fun i hi => o4 _ _ (by omega)⟩
    have hB4 : raB T Ln t0 (pr T Ln 2 D r1.2.1).2.1 (w ++ (pr T Ln 2 D r1.2.1).2.2) O' (h.1, f4, g3) := raB_o hB3 (fun j hj => o4 _ _ (by omega)) (by funext j; exact o4 _ _ (by omega)) (fun i hi => o4 _ _ (by omega))
    have frA := raF_tr fr1 (raF_tr fr2 (raF_tr (raF_sm fr3) fr4))
    have grA := jnl_tr gr1 gr3
    rw [hf4]
    refine jt_rI (jv_li rfl) ?_
    by_cases y2 : (pr T Ln 2 D r1.2.1).1 = 0
    · rw [hO y2] at hB4
      rw [y2]
      refine q0 y1 y2 f4 g3 frA grA hB4 ?_ e9 (fun i h1 h2 h3 => ?_)
      · rw [o4 _ _ (by omega), fr3.2.2 _ (by omega)]; exact e8
      · rw [o4 _ _ (by omega), fr3.2.2 _ (by omega), o _ _ (by omega), hX]
    · exact q1 _ _ f4 g3 y2 (Or.inr ⟨y1, rfl, rfl⟩) frA grA ((o4 _ _ (by omega)).trans g20)
  · refine jb_if_d (jd_ne (jv_li rfl) jv_ci) (fun _ => ?_) (fun z => absurd y1 z)
    exact jt_rI (jv_li rfl) (q1 _ _ f1 g1 y1 (Or.inl ⟨y1, rfl, rfl⟩) fr1 gr1 w1.1.2.2.2.1.2.1)
/-! the same numbers read into the class's slots and the reference's -/
theorem nms_two {T : Nat → Int} {Ln b b' : Nat} : ∀ (L : List (Nat × Nat × Int × Int)) (s : Nat) (N X : Nat → Int), (L.map (fun x => x.1)).Nodup → (L.map (fun x => x.2.1)).Nodup →
    (nms T Ln b (L.map fun x => (x.1, x.2.2)) s N).1 = (nms T Ln b' (L.map fun x => (x.2.1, x.2.2)) s X).1 ∧ (nms T Ln b (L.map fun x => (x.1, x.2.2)) s N).2.1 = (nms T Ln b' (L.map fun x => (x.2.1, x.2.2)) s X).2.1 ∧
    (∀ j, (∀ x ∈ L, j ≠ b + x.1) → (nms T Ln b (L.map fun x => (x.1, x.2.2)) s N).2.2 j = N j) ∧ (∀ j, (∀ x ∈ L, j ≠ b' + x.2.1) → (nms T Ln b' (L.map fun x => (x.2.1, x.2.2)) s X).2.2 j = X j) ∧
    ((nms T Ln b (L.map fun x => (x.1, x.2.2)) s N).1 = 0 → ∀ x ∈ L, (nms T Ln b (L.map fun x => (x.1, x.2.2)) s N).2.2 (b + x.1) = (nms T Ln b' (L.map fun x => (x.2.1, x.2.2)) s X).2.2 (b' + x.2.1))
  | [], s, N, X, _, _ => ⟨rfl, rfl, fun _ _ => rfl, fun _ _ => rfl, fun _ x hx => by simp at hx⟩
  | x :: L, s, N, X, h1, h2 => by
    simp only [List.map_cons, List.nodup_cons, List.mem_map, not_exists, not_and] at h1 h2
    have ih := nms_two (T := T) (Ln := Ln) (b := b) (b' := b') L (nxS T Ln s) (upF N (b + x.1) (tkV T s (tkE T Ln s - s))) (upF X (b' + x.2.1) (tkV T s (tkE T Ln s - s))) h1.2 h2.2
    simp only [List.map_cons, nms]
    by_cases c1 : tkK T Ln s = 2
    · simp only [if_pos c1]
      by_cases c2 : x.2.2.1 ≤ tkV T s (tkE T Ln s - s) ∧ tkV T s (tkE T Ln s - s) ≤ x.2.2.2
      · simp only [if_pos c2]
        obtain ⟨i1, i2, i3, i4, i5⟩ := ih
        refine ⟨i1, i2, fun j hj => ?_, fun j hj => ?_, fun e y hy => ?_⟩
        · rw [i3 j (fun y hy => hj y (List.mem_cons_of_mem _ hy))]
          unfold upF
          rw [if_neg (hj x (by simp))]
        · rw [i4 j (fun y hy => hj y (List.mem_cons_of_mem _ hy))]
          unfold upF
          rw [if_neg (hj x (by simp))]
        · rcases List.mem_cons.mp hy with rfl | hy
          · rw [i3 _ (fun z hz e => h1.1 z hz (by omega)), i4 _ (fun z hz e => h2.1 z hz (by omega))]
            unfold upF
            rw [if_pos rfl, if_pos rfl]
          · exact i5 e y hy
      · simp only [if_neg c2]
        exact ⟨trivial, trivial, fun _ _ => trivial, fun _ _ => trivial, fun y => absurd y (by decide)⟩
    · simp only [if_neg c1]
      exact ⟨trivial, trivial, fun _ _ => trivial, fun _ _ => trivial, fun y => absurd y (by decide)⟩
/-! the class's program and the reference's text -/
def nsl (k : Int) : Nat := if k = 1 then 7 else if k = 2 then 6 else if k = 3 then 3 else if k = 4 then 4 else 2
def msl (k : Int) (j : Nat) : Nat := if k = 2 ∧ j = 4 then 8 else if k = 2 ∧ j = 5 then 9 else if k = 5 ∧ j = 1 then 10 else j + 1
def txR (X : Nat → Int) (t0 A : Nat) (K N : Nat → Int) (op : List Nat) : Prop := ∀ a, a < A → X (t0 + 1 + 12 * a) = K a - 1 ∧ ∀ j, j < nsl (K a) → (K a = 5 → j = 1 → a ∉ op) → X (t0 + 1 + 12 * a + msl (K a) j) = N (7 * a + j)
theorem nsl_b {k : Int} : nsl k ≤ 7 := by unfold nsl; repeat' split
                                          all_goals omega
theorem msl_b {k : Int} {j : Nat} (h : j < 7) : msl k j ≤ 10 ∧ 1 ≤ msl k j := by unfold msl; repeat' split
                                                                                 all_goals omega
theorem txR_add {X X' K N N' : Nat → Int} {t0 A : Nat} {k : Int} {op op' : List Nat} (h : txR X t0 A K N op) (hX : ∀ i, t0 + 1 ≤ i → i < t0 + 1 + 12 * A → X' i = X i) (hN : ∀ j, j < 7 * A → N' j = N j) (ho : ∀ a ∈ op, a ∈ op') (hk : X' (t0 + 1 + 12 * A) = k - 1) (hs : ∀ j, j < nsl k → (k = 5 → j = 1 → A ∉ op') → X' (t0 + 1 + 12 * A + msl k j) = N' (7 * A + j)) : txR X' t0 (A + 1) (upF K A k) N' op' := by
  intro a ha
  by_cases z : a = A
  · subst z
    have e : upF K a k a = k := by unfold upF; exact if_pos rfl
    rw [e]
    exact ⟨hk, hs⟩
  · have e : upF K A k a = K a := by unfold upF; exact if_neg z
    rw [e]
    obtain ⟨h1, h2⟩ := h a (by omega)
    refine ⟨by rw [hX _ (by omega) (by omega)]; exact h1, fun j hj hj2 => ?_⟩
    have := nsl_b (k := K a)
    have := msl_b (k := K a) (j := j) (by omega)
    rw [hX _ (by omega) (by omega), hN _ (by omega)]
    exact h2 j hj (fun y1 y2 y3 => hj2 y1 y2 (ho a y3))
