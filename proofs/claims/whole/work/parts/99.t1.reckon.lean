/-! sums of a paint: what both reckon -/
def clp (v : Int) : Int := max (-1000000) (min 1000000 v)
def rk0 (c a b : Int) : Int := if c = 1006 then a + b else if c = 1007 then a - b else if c = 1008 then a * b else if b = 0 then 0 else a.tdiv b
def rkn (c a b : Int) : Int := clp (rk0 c a b)
theorem clp_b {v : Int} : -1000000 ≤ clp v ∧ clp v ≤ 1000000 := by unfold clp; omega
theorem rk0_b {c a b : Int} (ha : -1000000 ≤ a ∧ a ≤ 1000000) (hb : -1000000 ≤ b ∧ b ≤ 1000000) : (-2000000 ≤ a + b ∧ a + b ≤ 2000000) ∧ (-2000000 ≤ a - b ∧ a - b ≤ 2000000) ∧ (-1000000000000 ≤ a * b ∧ a * b ≤ 1000000000000) ∧ (-1000000 ≤ a.tdiv b ∧ a.tdiv b ≤ 1000000) ∧ (-1000000000000 ≤ rk0 c a b ∧ rk0 c a b ≤ 1000000000000) := by
  have m := jmb (a := a) (b := b) (A := 1000000) (B := 1000000) ha hb
  have t : (a.tdiv b).natAbs ≤ a.natAbs := by rw [Int.natAbs_tdiv]; exact Nat.div_le_self _ _
  have t2 : -1000000 ≤ a.tdiv b ∧ a.tdiv b ≤ 1000000 := by omega
  refine ⟨by omega, by omega, by omega, t2, ?_⟩
  unfold rk0
  repeat' split
  all_goals omega
theorem kJ9_minL {l : Launch} {d : Nat} {sh : ja_S} {x y : Int} {h : ja_H} {Q : ja_Q} (q : Q (some (.inr (.inl (min x y)))) h) : ja_C l (d + 1) mJ9_min_f86c9 sh [.inr (.inl x), .inr (.inl y)] h Q :=
  eJ9_min_f86c9 _ _ fun _ _ _ => jt_rL (jv_is (jv_cv (φ := x ≤ y) (jd_leL (jv_ll rfl) (jv_ll rfl)) (fun _ => jv_ll rfl) (fun _ => jv_ll rfl)) (by rw [Int.min_def])) q
theorem kJ9_maxL {l : Launch} {d : Nat} {sh : ja_S} {x y : Int} {h : ja_H} {Q : ja_Q} (q : Q (some (.inr (.inl (max x y)))) h) : ja_C l (d + 1) mJ9_max_f86c9 sh [.inr (.inl x), .inr (.inl y)] h Q :=
  eJ9_max_f86c9 _ _ fun _ _ _ => jt_rL (jv_is (jv_cv (φ := y ≤ x) (jd_geL (jv_ll rfl) (jv_ll rfl)) (fun _ => jv_ll rfl) (fun _ => jv_ll rfl)) (by rw [Int.max_def]; split <;> split <;> omega)) q
theorem jb_ifJ {c : ja_EC} {s1 s2 : ja_T} {L : ja_L} {h : ja_H} {φ : Prop} {N B C : ja_P} {R : ja_Q} (p : jd c L h φ) (t : φ → s1 N B C R L h) (f : ¬ φ → s2 N B C R L h) : jb_if c s1 s2 N B C R L h := jb_if_d p t f
theorem kX1_reckon {l : Launch} {d : Nat} {sh : ja_S} {c a b : Int} {h : ja_H} {Q : ja_Q} (ha : -1000000 ≤ a ∧ a ≤ 1000000) (hb : -1000000 ≤ b ∧ b ≤ 1000000) (q : Q (some (.inl (rkn c a b))) h) : ja_C l (d + 2) mX1_reckon sh [.inl c, .inl a, .inl b] h Q := by
  obtain ⟨b1, b2, b3, b4, b5⟩ := rk0_b (c := c) ha hb
  refine eX1_reckon _ _ _ fun _ _ _ _ => ?_
  unfold bX1_reckon
  refine jt_sL jv_ci ?_
  have fin : ∀ v : Int, v = rk0 c a b → (jb_rI (jb_l2i (jb_xL (jb_ca l (d + 1) sh mJ9_max_f86c9 (jb_al (jb_al jb_a0 (jb_ci (-1000000))) (jb_xL (jb_ca l (d + 1) sh mJ9_min_f86c9 (jb_al (jb_al jb_a0 (jb_ci 1000000)) (jb_ll 3))))))))) (fun _ _ => False) (fun _ _ => False) (fun _ _ => False) Q [some (.inl c), some (.inl a), some (.inl b), some (.inr (.inl v)), none] h := by
    intro v hv
    subst hv
    exact jt_rI (jv_w (jv_l2i (jy_sL (jA_l (jA_l jA_0 jv_ci) (jy_sL (jA_l (jA_l jA_0 jv_ci) (jv_ll rfl)) fun _ => kJ9_minL)) fun _ => kJ9_maxL)) (by unfold ja_r; omega)) q
  refine jb_if_d (jd_eqI (jv_li rfl) jv_ci) (fun c1 => ?_) (fun c1 => ?_)
  · refine jt_sL (jv_w (jv_add (jv_li rfl) (jv_li rfl)) (by unfold ja_r; omega)) ?_
    exact fin _ (by unfold rk0; rw [if_pos c1])
  · refine jb_if_d (jd_eqI (jv_li rfl) jv_ci) (fun c2 => ?_) (fun c2 => ?_)
    · refine jt_sL (jv_w (jv_sub (jv_li rfl) (jv_li rfl)) (by unfold ja_r; omega)) ?_
      exact fin _ (by unfold rk0; rw [if_neg c1, if_pos c2])
    · refine jb_if_d (jd_eqI (jv_li rfl) jv_ci) (fun c3 => ?_) (fun c3 => ?_)
      · refine jt_sL (jv_wl (jv_mulL (jv_li rfl) (jv_li rfl)) (by unfold ja_rl; omega)) ?_
        exact fin _ (by unfold rk0; rw [if_neg c1, if_neg c2, if_pos c3])
      · refine jb_if_d (jd_ne (jv_li rfl) jv_ci) (fun c4 => ?_) (fun c4 => ?_)
        · refine jt_sL (jv_w (jv_div (jv_li rfl) (jv_li rfl) c4) (by unfold ja_r; omega)) ?_
          exact fin _ (by unfold rk0; rw [if_neg c1, if_neg c2, if_neg c3, if_neg c4])
        · exact fin 0 (by unfold rk0; rw [if_neg c1, if_neg c2, if_neg c3, if_pos (Classical.not_not.mp c4)])
theorem kX12_clip {l : Launch} {d : Nat} {sh : ja_S} {v : Int} {h : ja_H} {Q : ja_Q} (q : Q (some (.inr (.inl (clp v)))) h) : ja_C l (d + 1) mX12_clip sh [.inr (.inl v)] h Q := by
  refine eX12_clip _ fun _ _ => ?_
  unfold bX12_clip
  exact jt_rL (jv_is (jv_cv (jd_gtL (jv_ll rfl) jv_ci) (fun _ => jv_ci) (fun _ => jv_cv (jd_ltL (jv_ll rfl) jv_ci) (fun _ => jv_ci) (fun _ => jv_ll rfl))) (by unfold clp; split <;> (try split) <;> omega)) q
theorem kX12_worked {l : Launch} {d : Nat} {sh : ja_S} {c a b o : Int} {h : ja_H} {Q : ja_Q} (hc : 1006 ≤ c ∧ c ≤ 1009) (ho : o = c - 1003) (ha : -1000000 ≤ a ∧ a ≤ 1000000) (hb : -1000000 ≤ b ∧ b ≤ 1000000) (q : Q (some (.inr (.inl (rkn c a b)))) h) : ja_C l (d + 2) mX12_worked sh [.inl o, .inr (.inl a), .inr (.inl b)] h Q := by
  obtain ⟨b1, b2, b3, b4, b5⟩ := rk0_b (c := c) ha hb
  unfold rkn rk0 at q
  refine eX12_worked _ _ _ fun _ _ _ _ => ?_
  unfold bX12_worked
  refine jt_sw (jv_li rfl) ?_
  simp only [jb_cs]
  by_cases z3 : o = 3
  · rw [if_pos z3]
    rw [if_pos (show c = 1006 by omega)] at q
    exact jt_rL (jy_sL (jA_l jA_0 (jv_wl (jv_addL (jv_ll rfl) (jv_ll rfl)) (by unfold ja_rl; omega))) fun _ => kX12_clip) q
  rw [if_neg z3]
  rw [if_neg (show ¬ c = 1006 by omega)] at q
  by_cases z4 : o = 4
  · rw [if_pos z4]
    rw [if_pos (show c = 1007 by omega)] at q
    exact jt_rL (jy_sL (jA_l jA_0 (jv_wl (jv_subL (jv_ll rfl) (jv_ll rfl)) (by unfold ja_rl; omega))) fun _ => kX12_clip) q
  rw [if_neg z4]
  rw [if_neg (show ¬ c = 1007 by omega)] at q
  by_cases z5 : o = 5
  · rw [if_pos z5]
    rw [if_pos (show c = 1008 by omega)] at q
    exact jt_rL (jy_sL (jA_l jA_0 (jv_wl (jv_mulL (jv_ll rfl) (jv_ll rfl)) (by unfold ja_rl; omega))) fun _ => kX12_clip) q
  rw [if_neg z5]
  rw [if_neg (show ¬ c = 1008 by omega)] at q
  by_cases zb : b = 0
  · rw [if_pos zb, show clp 0 = 0 from rfl] at q
    exact jt_rL (jv_is (jv_cv (y := 0) (jd_eqL (jv_ll rfl) jv_ci) (fun _ => jv_ci) (fun y => absurd zb y)) (if_pos zb)) q
  · rw [if_neg zb] at q
    exact jt_rL (jv_is (jv_cv (y := clp (a.tdiv b)) (x := 0) (jd_eqL (jv_ll rfl) jv_ci) (fun y => absurd y zb) (fun _ => jy_sL (jA_l jA_0 (jv_wl (jv_divL (jv_ll rfl) (jv_ll rfl) zb) (by unfold ja_rl; omega))) fun _ => kX12_clip)) (if_neg zb)) q
/-- a sum's stack (its top first), its code being C from f on, and the names nm -/
def sv1 (nm : Nat → Int) (c : Int) (st : List Int) : List Int :=
  if c < 1000 then c :: st
  else if c < 1006 then nm (c - 1000).toNat :: st
  else if c = 1010 then (match st with
    | [] => []
    | a :: r => (-a) :: r)
  else (match st with
    | b :: a :: r => rkn c a b :: r
    | st => st)
def svN (nm C : Nat → Int) (f : Nat) : Nat → List Int
  | 0 => []
  | i + 1 => sv1 nm (C (f + i)) (svN nm C f i)
def dpt (C : Nat → Int) (f : Nat) : Nat → Nat
  | 0 => 0
  | i + 1 => if C (f + i) < 1006 then dpt C f i + 1 else if C (f + i) = 1010 then dpt C f i else dpt C f i - 1
def wfC (C : Nat → Int) (f t : Nat) : Prop := f ≤ t ∧ t ≤ 300 ∧ (∀ i, f + i < t → (0 ≤ C (f + i) ∧ C (f + i) ≤ 1010) ∧ (C (f + i) < 1006 → dpt C f i < 64) ∧ (C (f + i) = 1010 → 1 ≤ dpt C f i) ∧ (1006 ≤ C (f + i) → C (f + i) ≠ 1010 → 2 ≤ dpt C f i)) ∧ dpt C f (t - f) = 1
theorem svN_l {nm C : Nat → Int} {f t : Nat} (h : wfC C f t) : ∀ i, f + i ≤ t → (svN nm C f i).length = dpt C f i
  | 0, _ => rfl
  | i + 1, hi => by
    have ih := svN_l (nm := nm) h i (by omega)
    obtain ⟨w1, w2, w3, w4⟩ := h.2.2.1 i (by omega)
    simp only [svN, dpt]
    unfold sv1
    by_cases c1 : C (f + i) < 1000
    · rw [if_pos c1, if_pos (by omega)]; simp only [List.length_cons]; omega
    rw [if_neg c1]
    by_cases c2 : C (f + i) < 1006
    · rw [if_pos c2, if_pos c2]; simp only [List.length_cons]; omega
    rw [if_neg c2, if_neg c2]
    by_cases c3 : C (f + i) = 1010
    · rw [if_pos c3, if_pos c3]
      cases e : svN nm C f i with
      | nil => rw [e] at ih; exact ih
      | cons a r => rw [e] at ih; simp only [List.length_cons] at ih ⊢; exact ih
    · rw [if_neg c3, if_neg c3]
      have := w4 (by omega) c3
      cases e : svN nm C f i with
      | nil => rw [e] at ih; simp only [List.length_nil] at ih; omega
      | cons b r =>
        cases r with
        | nil => rw [e] at ih; simp only [List.length_cons, List.length_nil] at ih; omega
        | cons a r => rw [e] at ih; simp only [List.length_cons] at ih ⊢; omega
theorem svN_b {nm C : Nat → Int} {f t : Nat} (h : wfC C f t) (hn : ∀ j, j < 6 → -1000000 ≤ nm j ∧ nm j ≤ 1000000) : ∀ i, f + i ≤ t → ∀ x ∈ svN nm C f i, -1000000 ≤ x ∧ x ≤ 1000000
  | 0, _ => by simp [svN]
  | i + 1, hi => by
    have ih := svN_b h hn i (by omega)
    obtain ⟨w1, w2, w3, w4⟩ := h.2.2.1 i (by omega)
    simp only [svN]
    unfold sv1
    by_cases c1 : C (f + i) < 1000
    · rw [if_pos c1]
      intro x hx
      rcases List.mem_cons.mp hx with rfl | hx
      · omega
      · exact ih x hx
    rw [if_neg c1]
    by_cases c2 : C (f + i) < 1006
    · rw [if_pos c2]
      intro x hx
      rcases List.mem_cons.mp hx with rfl | hx
      · exact hn _ (by omega)
      · exact ih x hx
    rw [if_neg c2]
    by_cases c3 : C (f + i) = 1010
    · rw [if_pos c3]
      cases e : svN nm C f i with
      | nil => intro x hx; simp at hx
      | cons a r =>
        rw [e] at ih
        intro x hx
        rcases List.mem_cons.mp hx with rfl | hx
        · have := ih a (by simp); omega
        · exact ih x (List.mem_cons_of_mem _ hx)
    · rw [if_neg c3]
      cases e : svN nm C f i with
      | nil => intro x hx; simp at hx
      | cons b r =>
        rw [e] at ih
        cases r with
        | nil => exact ih
        | cons a r =>
          intro x hx
          rcases List.mem_cons.mp hx with rfl | hx
          · exact clp_b
          · exact ih x (List.mem_cons_of_mem _ (List.mem_cons_of_mem _ hx))
def skR (k : Nat) (f : Nat → Nat → Int) : List Int → Prop
  | [] => True
  | x :: p => f k p.length = x ∧ skR k f p
theorem skR_o {k : Nat} {f g : Nat → Nat → Int} : ∀ {p : List Int}, (∀ j, j < p.length → g k j = f k j) → skR k f p → skR k g p
  | [], _, _ => trivial
  | x :: p, h, ⟨a, b⟩ => ⟨(h _ (by simp)).trans a, skR_o (fun j hj => h j (by simp only [List.length_cons]; omega)) b⟩
