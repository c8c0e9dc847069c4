/-! a program that is read is well formed -/
theorem nms_v {T : Nat → Int} {Ln b : Nat} : ∀ (L : List (Nat × Int × Int)) (s : Nat) (N : Nat → Int), (L.map (fun x => x.1)).Nodup → (∀ j, (∀ x ∈ L, j ≠ b + x.1) → (nms T Ln b L s N).2.2 j = N j) ∧ ((nms T Ln b L s N).1 = 0 → ∀ x ∈ L, x.2.1 ≤ (nms T Ln b L s N).2.2 (b + x.1) ∧ (nms T Ln b L s N).2.2 (b + x.1) ≤ x.2.2)
  | [], s, N, _ => ⟨fun _ _ => rfl, fun _ x hx => by simp at hx⟩
  | x :: L, s, N, h1 => by
    simp only [List.map_cons, List.nodup_cons, List.mem_map, not_exists, not_and] at h1
    have ih := nms_v (T := T) (Ln := Ln) (b := b) L (nxS T Ln s) (upF N (b + x.1) (tkV T s (tkE T Ln s - s))) h1.2
    simp only [nms]
    by_cases c1 : tkK T Ln s = 2
    · simp only [if_pos c1]
      by_cases c2 : x.2.1 ≤ tkV T s (tkE T Ln s - s) ∧ tkV T s (tkE T Ln s - s) ≤ x.2.2
      · simp only [if_pos c2]
        refine ⟨fun j hj => ?_, fun e y hy => ?_⟩
        · rw [ih.1 j (fun y hy => hj y (List.mem_cons_of_mem _ hy))]
          unfold upF
          rw [if_neg (hj x (by simp))]
        · rcases List.mem_cons.mp hy with rfl | hy
          · rw [ih.1 _ (fun z hz e => h1.1 z hz (by omega))]
            unfold upF
            rw [if_pos rfl]
            exact c2
          · exact ih.2 e y hy
      · simp only [if_neg c2]
        exact ⟨fun _ _ => trivial, fun y => absurd y (by decide)⟩
    · simp only [if_neg c1]
      exact ⟨fun _ _ => trivial, fun y => absurd y (by decide)⟩
theorem nmP_i {T : Nat → Int} {Ln : Nat} {v : Int} {r : nmR} (h : (nmP T Ln v r).1 = 0) : r.1 = 0 ∧ (nmP T Ln v r).2.2 = r.2.2 := by
  unfold nmP at h ⊢
  by_cases z : r.1 = 0
  · rw [if_pos z] at h ⊢
    exact ⟨z, by split <;> rfl⟩
  · rw [if_neg z] at h; exact absurd h z
theorem dpt_c {C C' : Nat → Int} {f : Nat} : ∀ i, (∀ j, j < i → C' (f + j) = C (f + j)) → dpt C' f i = dpt C f i
  | 0, _ => rfl
  | i + 1, h => by simp only [dpt]; rw [h i (by omega), dpt_c i (fun j hj => h j (by omega))]
theorem wfC_c {C C' : Nat → Int} {f t : Nat} (h : ∀ i, i < t → C' i = C i) (w : wfC C f t) : wfC C' f t := by
  obtain ⟨w1, w2, w3, w4⟩ := w
  refine ⟨w1, w2, fun i hi => ?_, ?_⟩
  · rw [h _ hi, dpt_c i (fun j hj => h _ (by omega))]; exact w3 i hi
  · rw [dpt_c (t - f) (fun j hj => h _ (by omega))]; exact w4
def wA (A : Nat) (K N : Nat → Int) (cl : List Int) (Dp : Nat → Nat) (a : Nat) : Prop := wfA A K N (fun i => cl.getD i 0) Dp a ∧ (K a = 2 → N (7 * a + 5) ≤ (cl.length : Int))
theorem wA_m {A A' a : Nat} {K K' N N' : Nat → Int} {cl x : List Int} {Dp Dp' : Nat → Nat} (h : wA A K N cl Dp a) (ha : a < A) (hA : A ≤ A') (hK : ∀ c, c < A → K' c = K c) (hN : ∀ j, j < 7 * A → N' j = N j) (hD : ∀ c, a ≤ c → c < A → Dp' c = Dp c) : wA A' K' N' (cl ++ x) Dp' a := by
  obtain ⟨⟨h0, h1, h2, h3, h4, h5⟩, h6⟩ := h
  have n : ∀ j, j < 7 → N' (7 * a + j) = N (7 * a + j) := fun j hj => hN _ (by omega)
  unfold wA wfA
  rw [hK a ha, n 0 (by omega), n 1 (by omega), n 2 (by omega), n 3 (by omega), n 4 (by omega), n 5 (by omega), n 6 (by omega), hD a (Nat.le_refl _) ha]
  refine ⟨⟨h0, h1, fun k => ?_, h3, h4, fun k => ?_⟩, fun k => by have := h6 k; rw [List.length_append]; omega⟩
  · obtain ⟨g1, g2, g3, g4⟩ := h2 k
    have g6 := h6 k
    refine ⟨g1, g2, g3, wfC_c (fun i hi => ?_) g4⟩
    show (cl ++ x).getD i 0 = cl.getD i 0
    rw [List.getD_eq_getElem?_getD, List.getD_eq_getElem?_getD, List.getElem?_append_left (by omega)]
  · obtain ⟨g1, g2, g3, g4⟩ := h5 k
    refine ⟨g1, ⟨g2.1, by have := g2.2; omega⟩, g3, fun c c1 c2 => ?_⟩
    have hcA : c < A := by have := g2.2; omega
    obtain ⟨g5, g6⟩ := g4 c c1 c2
    rw [hD c (by omega) hcA, hK c hcA, hN (7 * c + 1) (by omega)]
    exact ⟨g5, g6⟩
/-- numbers that agree from act a on -/
theorem wA_n {A a : Nat} {K N N' : Nat → Int} {cl : List Int} {Dp : Nat → Nat} (h : wA A K N cl Dp a) (_ : a < A) (hN : ∀ j, 7 * a ≤ j → N' j = N j) : wA A K N' cl Dp a := by
  obtain ⟨⟨h0, h1, h2, h3, h4, h5⟩, h6⟩ := h
  have n : ∀ j, N' (7 * a + j) = N (7 * a + j) := fun j => hN _ (by omega)
  unfold wA wfA
  rw [n 0, n 1, n 2, n 3, n 4, n 5, n 6]
  refine ⟨⟨h0, h1, h2, h3, h4, fun k => ?_⟩, h6⟩
  obtain ⟨g1, g2, g3, g4⟩ := h5 k
  refine ⟨g1, g2, g3, fun c c1 c2 => ?_⟩
  obtain ⟨g5, g6⟩ := g4 c c1 c2
  rw [hN (7 * c + 1) (by omega)]
  exact ⟨g5, g6⟩
def aW (A o : Nat) (K N : Nat → Int) (cl : List Int) (r : acR) : Prop := (∀ j, j < 7 * A → r.2.2.2.2.1 j = N j) ∧ (∀ a, a < A → r.2.2.2.1 a = K a) ∧ (∃ x, r.2.2.2.2.2 = cl ++ x) ∧ A ≤ r.2.2.1 ∧ ∃ Dp : Nat → Nat, ∀ a, A ≤ a → a < r.2.2.1 → o ≤ Dp a ∧ wA r.2.2.1 r.2.2.2.1 r.2.2.2.2.1 r.2.2.2.2.2 Dp a
theorem aW_lf {A o : Nat} {K N : Nat → Int} {cl : List Int} {kd : Int} {r : nmR} (hN : ∀ j, j < 7 * A → r.2.2 j = N j) (hk : kd ≠ 2) (hw : wfA (A + 1) (upF K A kd) r.2.2 (fun i => cl.getD i 0) (fun _ => o) A) : aW A o K N cl (lfR (A + 1) (upF K A kd) cl r) := by
  refine ⟨hN, fun a ha => by show upF K A kd a = K a; unfold upF; rw [if_neg (by omega)], ⟨[], by show cl = cl ++ []; rw [List.append_nil]⟩, Nat.le_succ _, fun _ => o, fun a h1 h2 => ?_⟩
  have : a = A := by have h2 : a < A + 1 := h2; omega
  subst this
  refine ⟨Nat.le_refl _, hw, fun y => ?_⟩
  have y : upF K a kd a = 2 := y
  unfold upF at y
  rw [if_pos rfl] at y
  exact absurd y hk
theorem wfA_k {A A' : Nat} {K N C : Nat → Int} {Dp : Nat → Nat} {kd : Int} (h0 : 1 ≤ kd ∧ kd ≤ 5) (h1 : kd = 1 → bt (N (7 * A + 0)) 0 4 ∧ bt (N (7 * A + 1)) 0 99 ∧ bt (N (7 * A + 2)) 0 99 ∧ bt (N (7 * A + 3)) 1 99 ∧ bt (N (7 * A + 4)) 1 99 ∧ bt (N (7 * A + 5)) 0 99 ∧ bt (N (7 * A + 6)) 0 99) (h2 : kd ≠ 2) (h3 : kd = 3 → bt (N (7 * A + 0)) 2 50 ∧ bt (N (7 * A + 1)) 0 99 ∧ bt (N (7 * A + 2)) 0 99) (h4 : kd = 4 → bt (N (7 * A + 0)) 0 99 ∧ bt (N (7 * A + 1)) 0 99 ∧ bt (N (7 * A + 2)) 1 99 ∧ bt (N (7 * A + 3)) 1 99) (h5 : kd ≠ 5) : wfA A' (upF K A kd) N C Dp A := by
  have e : upF K A kd A = kd := by unfold upF; exact if_pos rfl
  unfold wfA
  rw [e]
  exact ⟨h0, h1, fun y => absurd y h2, h3, h4, fun y => absurd y h5⟩
theorem acs_w {T : Nat → Int} {Ln kf : Nat} (hL : Ln ≤ 300) : ∀ k m o e s A K N cl, m ≤ 1 → s ≤ Ln → cl.length ≤ s → A ≤ 16 → o ≤ 8 → (acs T Ln kf k m o e s A K N cl).1 = 0 → aW A o K N cl (acs T Ln kf k m o e s A K N cl)
  | 0, m, o, e, s, A, K, N, cl, _, _, _, _, _, h => absurd (show (1 : Int) = 0 from h) (by decide)
  | k + 1, m, o, e, s, A, K, N, cl, hm, hs, hc, hA, ho, h => by
    have nb := nxS_b (T := T) hs
    by_cases m0 : m = 0
    · subst m0
      by_cases c1 : akC T Ln s = -1
      · rw [acs_n c1] at h; exact absurd (show (1 : Int) = 0 from h) (by decide)
      have sl := nb.2.2 (tkK_0 (by rw [akC_k c1]; decide))
      by_cases c2 : A = 16
      · rw [acs_16 c1 c2] at h; exact absurd (show (4 : Int) = 0 from h) (by decide)
      rcases akC_b (T := T) (Ln := Ln) (s := s) with c3 | c3
      · exact absurd c3 c1
      have : akC T Ln s = 1 ∨ akC T Ln s = 2 ∨ akC T Ln s = 3 ∨ akC T Ln s = 4 ∨ akC T Ln s = 5 := by omega
      rcases this with z | z | z | z | z
      · rw [acs_1 z c2, paR_C] at h ⊢
        obtain ⟨h1, h2⟩ := nmP_i h
        have v1 := nms_v (T := T) (Ln := Ln) (b := 7 * A) [(0, 0, 4), (1, 0, 99), (1 + 1, 0, 99), (1 + 2, 1, 99), (1 + 3, 1, 99)] (nxS T Ln s) N (by decide)
        unfold paC at h1 h2
        dsimp only at h1 h2
        unfold paC
        dsimp only
        generalize nms T Ln (7 * A) [(0, 0, 4), (1, 0, 99), (1 + 1, 0, 99), (1 + 2, 1, 99), (1 + 3, 1, 99)] (nxS T Ln s) N = r1 at v1 h1 h2 ⊢
        by_cases d1 : r1.1 = 0
        · rw [if_pos d1] at h1 h2 ⊢
          by_cases d2 : tkW T Ln r1.2.1 5 = true
          · rw [if_pos d2] at h1 h2 ⊢
            have v2 := nms_v (T := T) (Ln := Ln) (b := 7 * A) [(5, 0, 99), (6, 0, 99)] (nxS T Ln r1.2.1) r1.2.2 (by decide)
            generalize nms T Ln (7 * A) [(5, 0, 99), (6, 0, 99)] (nxS T Ln r1.2.1) r1.2.2 = r2 at v2 h1 h2 ⊢
            have f2 : ∀ j, j < 7 * A + 5 → r2.2.2 j = r1.2.2 j := fun j hj => v2.1 j (fun x hx => by simp only [List.mem_cons, List.not_mem_nil, or_false] at hx; rcases hx with rfl | rfl <;> dsimp only <;> omega)
            have f1 : ∀ j, j < 7 * A → r1.2.2 j = N j := fun j hj => v1.1 j (fun x hx => by simp only [List.mem_cons, List.not_mem_nil, or_false] at hx; rcases hx with rfl | rfl | rfl | rfl | rfl <;> dsimp only <;> omega)
            have g1 := v1.2 d1
            have g2 := v2.2 h1
            refine aW_lf (fun j hj => by rw [h2, f2 j (by omega), f1 j hj]) (by decide) ?_
            rw [h2]
            refine wfA_k (by decide) (fun _ => ?_) (by decide) (fun y => absurd y (by decide)) (fun y => absurd y (by decide)) (by decide)
            rw [f2 (7 * A + 0) (by omega), f2 (7 * A + 1) (by omega), f2 (7 * A + 2) (by omega), f2 (7 * A + 3) (by omega), f2 (7 * A + 4) (by omega)]
            exact ⟨g1 (0, 0, 4) (by simp), g1 (1, 0, 99) (by simp), g1 (1 + 1, 0, 99) (by simp), g1 (1 + 2, 1, 99) (by simp), g1 (1 + 3, 1, 99) (by simp), g2 (5, 0, 99) (by simp), g2 (6, 0, 99) (by simp)⟩
          · rw [if_neg d2] at h1; exact absurd (show (1 : Int) = 0 from h1) (by decide)
        · rw [if_neg d1] at h1; exact absurd h1 d1
      · rw [acs_2 z c2] at h ⊢
        have v1 := nms_v (T := T) (Ln := Ln) (b := 7 * A) [(0, 0, 99), (0 + 1, 0, 99), (0 + 2, 1, 99), (0 + 3, 1, 99)] (nxS T Ln s) N (by decide)
        have b1 := nms_b (T := T) (b := 7 * A) [(0, 0, 99), (0 + 1, 0, 99), (0 + 2, 1, 99), (0 + 3, 1, 99)] (nxS T Ln s) N nb.2.1
        unfold ptR at h ⊢
        dsimp only at h ⊢
        generalize nms T Ln (7 * A) [(0, 0, 99), (0 + 1, 0, 99), (0 + 2, 1, 99), (0 + 3, 1, 99)] (nxS T Ln s) N = r1 at v1 b1 h ⊢
        by_cases d1 : r1.1 = 0
        · rw [if_pos d1] at h ⊢
          have pb := prs_b (T := T) (Ln := Ln) kf 2 o r1.2.1 b1.2
          by_cases d2 : (prs T Ln kf 2 o r1.2.1).1 = 0
          · rw [if_pos d2] at h ⊢
            by_cases d3 : tkK T Ln (prs T Ln kf 2 o r1.2.1).2.1 = 59
            · rw [if_pos d3]
              have f1 : ∀ j, j < 7 * A → r1.2.2 j = N j := fun j hj => v1.1 j (fun x hx => by simp only [List.mem_cons, List.not_mem_nil, or_false] at hx; rcases hx with rfl | rfl | rfl | rfl <;> dsimp only <;> omega)
              have g1 := v1.2 d1
              have wf := prs_wf (T := T) (Ln := Ln) (k := kf) (o := o) (s := r1.2.1) (f := cl.length) (C := fun i => (cl ++ (prs T Ln kf 2 o r1.2.1).2.2).getD i 0) ho d2 (fun i hi => by
                show (cl ++ (prs T Ln kf 2 o r1.2.1).2.2).getD (cl.length + i) 0 = _
                rw [List.getD_eq_getElem?_getD, List.getD_eq_getElem?_getD, List.getElem?_append_right (by omega), show cl.length + i - cl.length = i by omega]) (by omega)
              have n4 : upF (upF r1.2.2 (7 * A + 4) (cl.length : Int)) (7 * A + 5) ((cl ++ (prs T Ln kf 2 o r1.2.1).2.2).length : Int) (7 * A + 4) = (cl.length : Int) := by unfold upF; rw [if_neg (by omega), if_pos rfl]
              have n5 : upF (upF r1.2.2 (7 * A + 4) (cl.length : Int)) (7 * A + 5) ((cl ++ (prs T Ln kf 2 o r1.2.1).2.2).length : Int) (7 * A + 5) = ((cl ++ (prs T Ln kf 2 o r1.2.1).2.2).length : Int) := by unfold upF; rw [if_pos rfl]
              have nO : ∀ j, j < 7 * A + 4 → upF (upF r1.2.2 (7 * A + 4) (cl.length : Int)) (7 * A + 5) ((cl ++ (prs T Ln kf 2 o r1.2.1).2.2).length : Int) j = r1.2.2 j := fun j hj => by unfold upF; rw [if_neg (by omega), if_neg (by omega)]
              refine ⟨fun j hj => by show upF _ _ _ j = N j; rw [nO j (by omega)]; exact f1 j hj, fun a ha => by show upF K A 2 a = K a; unfold upF; rw [if_neg (by omega)], ⟨_, rfl⟩, Nat.le_succ _, fun _ => o, fun a h1 h2 => ?_⟩
              have : a = A := by have h2 : a < A + 1 := h2; omega
              subst this
              have ek : upF K a 2 a = 2 := by unfold upF; exact if_pos rfl
              refine ⟨Nat.le_refl _, ?_, fun _ => ?_⟩
              · unfold wfA
                dsimp only
                rw [ek, n4, n5, nO (7 * a + 0) (by omega), nO (7 * a + 1) (by omega), nO (7 * a + 2) (by omega), nO (7 * a + 3) (by omega)]
                refine ⟨by omega, fun y => absurd y (by decide), fun _ => ⟨⟨g1 (0, 0, 99) (by simp), g1 (0 + 1, 0, 99) (by simp), g1 (0 + 2, 1, 99) (by simp), g1 (0 + 3, 1, 99) (by simp)⟩, by omega, by omega, ?_⟩, fun y => absurd y (by decide), fun y => absurd y (by decide), fun y => absurd y (by decide)⟩
                rw [List.length_append]
                exact wf
              · dsimp only
                rw [n5]
                exact Int.le_refl _
            · rw [if_neg d3] at h; exact absurd (show (1 : Int) = 0 from h) (by decide)
          · rw [if_neg d2] at h; exact absurd h d2
        · rw [if_neg d1] at h; exact absurd h d1
      · rw [acs_3 z c2] at h ⊢
        obtain ⟨h1, h2⟩ := nmP_i h
        have v1 := nms_v (T := T) (Ln := Ln) (b := 7 * A) [(0, 2, 50), (1, 0, 99), (2, 0, 99)] (nxS T Ln s) N (by decide)
        generalize nms T Ln (7 * A) [(0, 2, 50), (1, 0, 99), (2, 0, 99)] (nxS T Ln s) N = r1 at v1 h1 h2 ⊢
        have f1 : ∀ j, j < 7 * A → r1.2.2 j = N j := fun j hj => v1.1 j (fun x hx => by simp only [List.mem_cons, List.not_mem_nil, or_false] at hx; rcases hx with rfl | rfl | rfl <;> dsimp only <;> omega)
        have g1 := v1.2 h1
        refine aW_lf (fun j hj => by rw [h2, f1 j hj]) (by decide) ?_
        rw [h2]
        exact wfA_k (by decide) (fun y => absurd y (by decide)) (by decide) (fun _ => ⟨g1 (0, 2, 50) (by simp), g1 (1, 0, 99) (by simp), g1 (2, 0, 99) (by simp)⟩) (fun y => absurd y (by decide)) (by decide)
      · rw [acs_4 z c2] at h ⊢
        obtain ⟨h1, h2⟩ := nmP_i h
        have v1 := nms_v (T := T) (Ln := Ln) (b := 7 * A) [(0, 0, 99), (0 + 1, 0, 99), (0 + 2, 1, 99), (0 + 3, 1, 99)] (nxS T Ln s) N (by decide)
        generalize nms T Ln (7 * A) [(0, 0, 99), (0 + 1, 0, 99), (0 + 2, 1, 99), (0 + 3, 1, 99)] (nxS T Ln s) N = r1 at v1 h1 h2 ⊢
        have f1 : ∀ j, j < 7 * A → r1.2.2 j = N j := fun j hj => v1.1 j (fun x hx => by simp only [List.mem_cons, List.not_mem_nil, or_false] at hx; rcases hx with rfl | rfl | rfl | rfl <;> dsimp only <;> omega)
        have g1 := v1.2 h1
        refine aW_lf (fun j hj => by rw [h2, f1 j hj]) (by decide) ?_
        rw [h2]
        exact wfA_k (by decide) (fun y => absurd y (by decide)) (by decide) (fun y => absurd y (by decide)) (fun _ => ⟨g1 (0, 0, 99) (by simp), g1 (0 + 1, 0, 99) (by simp), g1 (0 + 2, 1, 99) (by simp), g1 (0 + 3, 1, 99) (by simp)⟩) (by decide)
      · rw [acs_5 z c2] at h ⊢
        have v1 := nms_v (T := T) (Ln := Ln) (b := 7 * A) [(0, 1, 9)] (nxS T Ln s) N (by decide)
        have b1 := nms_b (T := T) (b := 7 * A) [(0, 1, 9)] (nxS T Ln s) N nb.2.1
        unfold rpR at h ⊢
        dsimp only at h ⊢
        generalize nms T Ln (7 * A) [(0, 1, 9)] (nxS T Ln s) N = r1 at v1 b1 h ⊢
        have n1 := nxS_b (T := T) b1.2
        by_cases d1 : r1.1 = 0
        · rw [if_pos d1] at h ⊢
          by_cases d2 : tkK T Ln r1.2.1 = 123
          · rw [if_pos d2] at h ⊢
            by_cases d3 : 8 ≤ o
            · rw [if_pos d3] at h; exact absurd (show (3 : Int) = 0 from h) (by decide)
            · rw [if_neg d3] at h ⊢
              have ih := acs_w (T := T) (Ln := Ln) (kf := kf) hL k 1 (o + 1) 125 (nxS T Ln r1.2.1) (A + 1) (upF K A 5) r1.2.2 cl (by omega) n1.2.1 (by omega) (by omega) (by omega)
              have zb := acs_b (T := T) (Ln := Ln) (kf := kf) k 1 (o + 1) 125 (nxS T Ln r1.2.1) (A + 1) (upF K A 5) r1.2.2 cl n1.2.1 (by omega) (by omega)
              generalize acs T Ln kf k 1 (o + 1) 125 (nxS T Ln r1.2.1) (A + 1) (upF K A 5) r1.2.2 cl = y at ih zb h ⊢
              by_cases d4 : y.1 = 0
              · rw [if_pos d4] at h ⊢
                by_cases d5 : tkK T Ln y.2.1 = 125
                · rw [if_pos d5]
                  obtain ⟨i1, i2, ⟨xx, i3⟩, i4, Dp, i5⟩ := ih d4
                  have f1 : ∀ j, j < 7 * A → r1.2.2 j = N j := fun j hj => v1.1 j (fun x hx => by simp only [List.mem_cons, List.not_mem_nil, or_false] at hx; subst hx; dsimp only; omega)
                  have g1 := v1.2 d1 (0, 1, 9) (by simp)
                  have uO : ∀ j, j ≠ 7 * A + 1 → upF y.2.2.2.2.1 (7 * A + 1) (y.2.2.1 : Int) j = y.2.2.2.2.1 j := fun j hj => by unfold upF; rw [if_neg hj]
                  have uE : upF y.2.2.2.2.1 (7 * A + 1) (y.2.2.1 : Int) (7 * A + 1) = (y.2.2.1 : Int) := by unfold upF; rw [if_pos rfl]
                  have eK : y.2.2.2.1 A = 5 := by rw [i2 A (by omega)]; unfold upF; exact if_pos rfl
                  have eN0 : upF y.2.2.2.2.1 (7 * A + 1) (y.2.2.1 : Int) (7 * A + 0) = r1.2.2 (7 * A + 0) := by rw [uO _ (by omega), i1 _ (by omega)]
                  refine ⟨fun j hj => by show upF _ _ _ j = N j; rw [uO j (by omega), i1 j (by omega)]; exact f1 j hj, fun a ha => by show y.2.2.2.1 a = K a; rw [i2 a (by omega)]; unfold upF; rw [if_neg (by omega)], ⟨xx, i3⟩, by show A ≤ y.2.2.1; omega, fun a => if a = A then o else Dp a, fun a h1 h2 => ?_⟩
                  have h2 : a < y.2.2.1 := h2
                  by_cases za : a = A
                  · subst za
                    refine ⟨by simp, ?_, fun y2 => absurd (eK.symm.trans y2) (by decide)⟩
                    show wfA y.2.2.1 y.2.2.2.1 (upF y.2.2.2.2.1 (7 * a + 1) (y.2.2.1 : Int)) (fun i => y.2.2.2.2.2.getD i 0) _ a
                    unfold wfA
                    rw [eK, uE, eN0]
                    refine ⟨by omega, fun y2 => absurd y2 (by decide), fun y2 => absurd y2 (by decide), fun y2 => absurd y2 (by decide), fun y2 => absurd y2 (by decide), fun _ => ⟨g1, by omega, by simp; omega, fun c c1 c2 => ?_⟩⟩
                    have w := i5 c (by omega) (by omega)
                    refine ⟨by simp only [if_neg (show ¬ c = a by omega)]; simp; exact w.1, fun k5 => ?_⟩
                    rw [uO _ (by omega)]
                    exact (w.2.1.2.2.2.2.2 k5).2.1.2
                  · have w := i5 a (by omega) h2
                    refine ⟨by simp only [if_neg za]; omega, ?_⟩
                    have := wA_m (A' := y.2.2.1) (K' := y.2.2.2.1) (N' := y.2.2.2.2.1) (x := []) (Dp' := fun a => if a = A then o else Dp a) w.2 h2 (Nat.le_refl _) (fun _ _ => rfl) (fun _ _ => rfl) (fun c c1 _ => if_neg (by omega))
                    show wA y.2.2.1 y.2.2.2.1 (upF y.2.2.2.2.1 (7 * A + 1) (y.2.2.1 : Int)) y.2.2.2.2.2 _ a
                    rw [List.append_nil] at this
                    exact wA_n this (by omega) (fun j hj => uO j (by omega))
                · rw [if_neg d5] at h; exact absurd (show (1 : Int) = 0 from h) (by decide)
              · rw [if_neg d4] at h; exact absurd h d4
          · rw [if_neg d2] at h; exact absurd (show (1 : Int) = 0 from h) (by decide)
        · rw [if_neg d1] at h; exact absurd h d1
    · have m1 : m = 1 := by omega
      subst m1
      rw [acs, if_neg (by decide)] at h ⊢
      by_cases c1 : tkK T Ln s = e
      · rw [if_pos c1]
        exact ⟨fun _ _ => rfl, fun _ _ => rfl, ⟨[], by rw [List.append_nil]⟩, Nat.le_refl _, fun _ => o, fun a h1 h2 => by have h2 : a < A := h2; omega⟩
      · rw [if_neg c1] at h ⊢
        have ih := acs_w (T := T) (Ln := Ln) (kf := kf) hL k 0 o 0 s A K N cl (by omega) hs hc hA ho
        have zb := acs_b (T := T) (Ln := Ln) (kf := kf) k 0 o 0 s A K N cl hs hc hA
        dsimp only at h ⊢
        generalize acs T Ln kf k 0 o 0 s A K N cl = y at ih zb h ⊢
        by_cases d : y.1 = 0
        · rw [if_pos d] at h ⊢
          obtain ⟨i1, i2, ⟨xx, i3⟩, i4, Dp, i5⟩ := ih d
          obtain ⟨j1, j2, ⟨yy, j3⟩, j4, Dq, j5⟩ := acs_w (T := T) (Ln := Ln) (kf := kf) hL k 1 o e y.2.1 y.2.2.1 y.2.2.2.1 y.2.2.2.2.1 y.2.2.2.2.2 (by omega) zb.2.1 zb.2.2.1 zb.2.2.2.2.1 ho h
          generalize acs T Ln kf k 1 o e y.2.1 y.2.2.1 y.2.2.2.1 y.2.2.2.2.1 y.2.2.2.2.2 = v at j1 j2 j3 j4 j5 ⊢
          refine ⟨fun j hj => (j1 j (by omega)).trans (i1 j hj), fun a ha => (j2 a (by omega)).trans (i2 a ha), ⟨xx ++ yy, by rw [j3, i3, List.append_assoc]⟩, by omega, fun a => if a < y.2.2.1 then Dp a else Dq a, fun a h1 h2 => ?_⟩
          by_cases za : a < y.2.2.1
          · have w := i5 a h1 za
            refine ⟨by simp only [if_pos za]; exact w.1, ?_⟩
            rw [j3]
            exact wA_m w.2 za j4 j2 j1 (fun c _ c2 => if_pos c2)
          · have w := j5 a (by omega) h2
            refine ⟨by simp only [if_neg za]; exact w.1, ?_⟩
            have := wA_m (x := []) (Dp' := fun a => if a < y.2.2.1 then Dp a else Dq a) w.2 h2 (Nat.le_refl _) (fun _ _ => rfl) (fun _ _ => rfl) (fun c c1 _ => if_neg (by omega))
            rw [List.append_nil] at this
            exact this
        · rw [if_neg d] at h; exact absurd h d
