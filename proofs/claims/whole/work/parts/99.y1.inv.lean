/-! class and reference side by side -/
def jcx (f : Nat → Nat → Int) (c : Nat) (w g : Int) (x y : Int) : Int := if (0 ≤ x ∧ x < w) ∧ 0 ≤ y ∧ y < g then f c (y * w + x).toNat else 0
def jqx (f : Nat → Nat → Int) (a : Nat) (w g p : Int) (x y : Int) : Int := if (0 ≤ x ∧ x < w) ∧ 0 ≤ y ∧ y < g then f a (10 + 144 * p + 12 * y + x).toNat else 0
theorem jcx_c {f u : Nat → Nat → Int} {c : Nat} {w g : Int} (e : u c = f c) : jcx u c w g = jcx f c w g := by
  funext x y
  unfold jcx
  rw [e]
theorem jqx_c {f u : Nat → Nat → Int} {a : Nat} {w g p : Int} (e : u a = f a) : jqx u a w g p = jqx f a w g p := by
  funext x y
  unfold jqx
  rw [e]
def iL (w g : Int) (s a : Nat) (f : Nat → Nat → Int) : Prop := ∀ p : Nat, p < 5 → jcx f (s + 5 + 2 * p) w g = jqx f a w g (p : Int) ∧ l99 (jqx f a w g (p : Int))
def iC (s a : Nat) (f : Nat → Nat → Int) : Prop := (f s 5 = f a 4 ∧ f s 6 = f a 0 ∧ f s 7 = f a 1 ∧ f s 8 = f a 2 ∧ f s 9 = f a 3) ∧ (0 ≤ f a 4 ∧ f a 4 ≤ 100) ∧ (0 ≤ f a 0 ∧ f a 0 ≤ 12) ∧ (0 ≤ f a 1 ∧ f a 1 ≤ 8) ∧ (0 ≤ f a 2 ∧ f a 2 ≤ 10) ∧ 0 ≤ f a 3 ∧ f a 3 ≤ 6
def iM (s a : Nat) (f : Nat → Nat → Int) : Prop := (∀ m, m < 4 → f (s + 2) m = f a (880 + m) ∧ 0 ≤ f a (880 + m) ∧ f a (880 + m) ≤ 9) ∧ ∀ k, k < 24 → f (s + 3) k = f a (890 + k) ∧ 1 ≤ f a (890 + k) ∧ f a (890 + k) ≤ 99
def iSg (a : Nat) (f : Nat → Nat → Int) : Prop := (∀ k : Nat, (k : Int) < f a 0 → shOk (f a) k ∧ ∀ q : Nat, q < 726 → jbt (f 30 q) k = decide (sS (f a) k (q : Int) ≠ 0)) ∧ ∀ k : Nat, (k : Int) < f a 1 → (0 ≤ f a (820 + k) ∧ f a (820 + k) ≤ 7) ∧ ∀ q : Nat, q < 726 → jbt (f 30 q) (12 + k) = decide (sN (f a) k (q : Int) ≠ 0)
def iLn (a : Nat) (f : Nat → Nat → Int) : Prop := ∀ k : Nat, (k : Int) < f a 2 → (f 35 k = aX (f a) k ∧ f 36 k = aY (f a) k ∧ f 37 k = aU (f a) k ∧ f 38 k = aV (f a) k) ∧ lnB (aX (f a) k) (aY (f a) k) (aU (f a) k) (aV (f a) k)
def iTx (f : Nat → Nat → Int) : Prop := ∀ t : Nat, (t : Int) < f 91 3 → ∃ (A : Nat) (K N C : Nat → Int) (Dp : Nat → Nat), wfP A K N C Dp ∧ cPg t A K N C f ∧ mTx t A K N C (f 93) ∧ ∀ a, a < A → K a = 2 → N (7 * a + 5) ≤ 300
def iTp (f : Nat → Nat → Int) : Prop := ∃ L : Nat, L ≤ 300 ∧ f 48 1 = (L : Int) ∧ f 90 16 = (L : Int) ∧ f 49 = f 97 ∧ ∀ j, j < L → 0 ≤ f 97 j ∧ f 97 j ≤ 255
def iFt (f : Nat → Nat → Int) : Prop := (f 48 7 = 0 ∧ f 90 17 = -1 ∧ f 90 18 = -1) ∨ (f 48 7 = 1 ∧ f 48 8 = f 90 17 ∧ f 48 9 = f 90 18)
def iBx (f : Nat → Nat → Int) : Prop := (0 ≤ f 90 8 ∧ f 90 8 ≤ 8) ∧ 0 ≤ f 90 9 ∧ f 90 9 ≤ 8
def iLe (f : Nat → Nat → Int) : Prop := f 92 0 ≤ f 91 0 ∧ f 92 1 ≤ f 91 1 ∧ f 92 2 ≤ f 91 2 ∧ f 92 3 ≤ f 91 3
def INV (w g n : Nat) (h : ja_H) : Prop := jG h.1 ∧ jW w g n h.2.1 ∧ (iL w g 1 91 h.2.1 ∧ iL w g 15 92 h.2.1) ∧ (iC 1 91 h.2.1 ∧ iC 15 92 h.2.1) ∧ (iM 1 91 h.2.1 ∧ iM 15 92 h.2.1) ∧ (iSg 91 h.2.1 ∧ iSg 92 h.2.1) ∧ (iLn 91 h.2.1 ∧ iLn 92 h.2.1) ∧ iTx h.2.1 ∧ iTp h.2.1 ∧ iFt h.2.1 ∧ iBx h.2.1 ∧ iLe h.2.1
section JIN
variable {f u : Nat → Nat → Int} {w g : Int} {s a : Nat}
theorem iL_c (h : iL w g s a f) (e1 : ∀ p, p < 5 → u (s + 5 + 2 * p) = f (s + 5 + 2 * p)) (ea : u a = f a) : iL w g s a u := fun p hp => by
  rw [jcx_c (e1 p hp), jqx_c ea]
  exact h p hp
theorem iC_c (h : iC s a f) (e1 : ∀ j, 5 ≤ j → j ≤ 9 → u s j = f s j) (ea : ∀ j, j < 5 → u a j = f a j) : iC s a u := by
  unfold iC
  rw [e1 5 (by omega) (by omega), e1 6 (by omega) (by omega), e1 7 (by omega) (by omega), e1 8 (by omega) (by omega), e1 9 (by omega) (by omega), ea 0 (by omega), ea 1 (by omega), ea 2 (by omega), ea 3 (by omega), ea 4 (by omega)]
  exact h
theorem iM_c (h : iM s a f) (e2 : u (s + 2) = f (s + 2)) (e3 : u (s + 3) = f (s + 3)) (ea : ∀ j, 880 ≤ j → u a j = f a j) : iM s a u := by
  refine ⟨fun m hm => ?_, fun k hk => ?_⟩
  · rw [e2, ea _ (by omega)]; exact h.1 m hm
  · rw [e3, ea _ (by omega)]; exact h.2 k hk
theorem shOk_c {x y : Nat → Int} {k : Nat} (h : shOk x k) (e : ∀ j, 740 + 6 * k ≤ j → j < 746 + 6 * k → y j = x j) : shOk y k := by
  unfold shOk
  rw [e (740 + 6 * k) (by omega) (by omega), e (741 + 6 * k) (by omega) (by omega), e (742 + 6 * k) (by omega) (by omega), e (743 + 6 * k) (by omega) (by omega), e (744 + 6 * k) (by omega) (by omega), e (745 + 6 * k) (by omega) (by omega)]
  exact h
theorem sS_c {x y : Nat → Int} {k : Nat} {q : Int} (e : ∀ j, 740 + 6 * k ≤ j → j < 746 + 6 * k → y j = x j) : sS y k q = sS x k q := by
  unfold sS
  rw [e (740 + 6 * k) (by omega) (by omega), e (741 + 6 * k) (by omega) (by omega), e (742 + 6 * k) (by omega) (by omega), e (743 + 6 * k) (by omega) (by omega), e (744 + 6 * k) (by omega) (by omega), e (745 + 6 * k) (by omega) (by omega)]
theorem sN_c {x y : Nat → Int} {k : Nat} {q : Int} (e : y (820 + k) = x (820 + k)) : sN y k q = sN x k q := by
  unfold sN
  rw [e]
/-- signs stay where the reference's data and the bits told stay -/
theorem iSg_c (h : iSg a f) (hc : 0 ≤ f a 0 ∧ f a 0 ≤ 12) (hd : 0 ≤ f a 1 ∧ f a 1 ≤ 8) (e0 : u a 0 = f a 0) (e1 : u a 1 = f a 1) (ea : ∀ j, 740 ≤ j → j < 828 → u a j = f a j) (eb : ∀ q, q < 726 → ∀ k : Nat, ((k : Int) < f a 0 ∨ (12 ≤ k ∧ (k : Int) < 12 + f a 1)) → jbt (u 30 q) k = jbt (f 30 q) k) : iSg a u := by
  refine ⟨fun k hk => ?_, fun k hk => ?_⟩
  · rw [e0] at hk
    obtain ⟨h1, h2⟩ := h.1 k hk
    have ee : ∀ j, 740 + 6 * k ≤ j → j < 746 + 6 * k → u a j = f a j := fun j j1 j2 => ea j (by omega) (by omega)
    refine ⟨shOk_c h1 ee, fun q hq => ?_⟩
    rw [eb q hq k (Or.inl hk), sS_c ee]
    exact h2 q hq
  · rw [e1] at hk
    obtain ⟨h1, h2⟩ := h.2 k hk
    rw [ea (820 + k) (by omega) (by omega)]
    refine ⟨h1, fun q hq => ?_⟩
    rw [eb q hq (12 + k) (Or.inr (by omega)), sN_c (ea _ (by omega) (by omega))]
    exact h2 q hq
theorem iLn_c (h : iLn a f) (hc : 0 ≤ f a 2 ∧ f a 2 ≤ 10) (e0 : u a 2 = f a 2) (ea : ∀ j, 830 ≤ j → j < 870 → u a j = f a j) (e : ∀ k : Nat, (k : Int) < f a 2 → u 35 k = f 35 k ∧ u 36 k = f 36 k ∧ u 37 k = f 37 k ∧ u 38 k = f 38 k) : iLn a u := fun k hk => by
  rw [e0] at hk
  obtain ⟨e1, e2, e3, e4⟩ := e k hk
  unfold aX aY aU aV
  rw [e1, e2, e3, e4, ea (830 + 4 * k) (by omega) (by omega), ea (831 + 4 * k) (by omega) (by omega), ea (832 + 4 * k) (by omega) (by omega), ea (833 + 4 * k) (by omega) (by omega)]
  exact h k hk
theorem cPg_c {t A : Nat} {K N C : Nat → Int} (h : cPg t A K N C f) (e : ∀ c, 66 + 4 * t ≤ c → c < 70 + 4 * t → u c = f c) : cPg t A K N C u := by
  obtain ⟨a1, a2, a3, a4⟩ := h
  exact ⟨(congrFun (e _ (by omega) (by omega)) 3).trans a1, (e _ (by omega) (by omega)).trans a2, (e _ (by omega) (by omega)).trans a3, (e _ (by omega) (by omega)).trans a4⟩
theorem iTx_c (h : iTx f) (h6 : f 91 3 ≤ 6) (e3 : u 91 3 ≤ f 91 3) (e : ∀ c, 66 ≤ c → c ≤ 89 → u c = f c) (e93 : u 93 = f 93) : iTx u := fun t ht => by
  obtain ⟨A, K, N, C, Dp, a1, a2, a3, a4⟩ := h t (by omega)
  refine ⟨A, K, N, C, Dp, a1, cPg_c a2 (fun c c1 c2 => e c (by omega) (by omega)), ?_, a4⟩
  rw [e93]
  exact a3
theorem iTp_c (h : iTp f) (e1 : u 48 1 = f 48 1) (e2 : u 90 16 = f 90 16) (e3 : u 49 = f 49) (e4 : u 97 = f 97) : iTp u := by
  unfold iTp
  rw [e1, e2, e3, e4]
  exact h
theorem iFt_c (h : iFt f) (e7 : u 48 7 = f 48 7) (e8 : u 48 8 = f 48 8) (e9 : u 48 9 = f 48 9) (e17 : u 90 17 = f 90 17) (e18 : u 90 18 = f 90 18) : iFt u := by
  unfold iFt
  rw [e7, e8, e9, e17, e18]
  exact h
theorem iBx_c (h : iBx f) (e7 : u 90 8 = f 90 8) (e8 : u 90 9 = f 90 9) : iBx u := by
  unfold iBx
  rw [e7, e8]
  exact h
theorem iLe_c (h : iLe f) (e1 : ∀ j, j < 4 → u 91 j = f 91 j) (e2 : ∀ j, j < 4 → u 92 j = f 92 j) : iLe u := by
  unfold iLe
  rw [e1 0 (by omega), e1 1 (by omega), e1 2 (by omega), e1 3 (by omega), e2 0 (by omega), e2 1 (by omega), e2 2 (by omega), e2 3 (by omega)]
  exact h
end JIN
abbrev SCR : List Nat := [90, 29, 31, 32, 33, 34, 39, 40, 41, 42, 43, 44, 45, 46, 47, 50, 51, 52, 54, 55, 57, 58, 60, 62, 64, 94, 95, 96, 98, 99, 100, 101, 102, 103, 104, 105, 106, 107]
/-- what is only worked with changes: all holds on -/
theorem INV_s {w g n : Nat} {h : ja_H} {R : Nat → Nat → Option Nat} {u v : Nat → Nat → Int} (hI : INV w g n h) (hG : jG R) (fr : jfr SCR h.2.1 u) (h0 : ∀ j, j < 10 → u 90 j = h.2.1 90 j) (h6 : ∀ j, 16 ≤ j → j < 19 → u 90 j = h.2.1 90 j) : INV w g n (R, u, v) := by
  obtain ⟨_, hW, ⟨l1, l2⟩, ⟨c1, c2⟩, ⟨m1, m2⟩, ⟨s1, s2⟩, ⟨n1, n2⟩, tx, tp, ft, bx, le⟩ := hI
  have o : ∀ c, c ∉ SCR → u c = h.2.1 c := fr
  have o1 : u 91 = h.2.1 91 := o 91 (by decide)
  have o2 : u 92 = h.2.1 92 := o 92 (by decide)
  have o48 : u 48 = h.2.1 48 := o 48 (by decide)
  have o30 : u 30 = h.2.1 30 := o 30 (by decide)
  refine ⟨hG, jW_fr hW (fun j hj => h0 j (by omega)) (fun j _ => congrFun (o 1 (by decide)) j) (fun c hc => o c (by revert c; decide)), ⟨iL_c l1 (fun p hp => o _ (by revert p; decide)) o1, iL_c l2 (fun p hp => o _ (by revert p; decide)) o2⟩, ⟨iC_c c1 (fun j _ _ => congrFun (o 1 (by decide)) j) (fun j _ => congrFun o1 j), iC_c c2 (fun j _ _ => congrFun (o 15 (by decide)) j) (fun j _ => congrFun o2 j)⟩, ⟨iM_c m1 (o _ (by decide)) (o _ (by decide)) (fun j _ => congrFun o1 j), iM_c m2 (o _ (by decide)) (o _ (by decide)) (fun j _ => congrFun o2 j)⟩, ⟨iSg_c s1 c1.2.2.1 c1.2.2.2.1 (congrFun o1 0) (congrFun o1 1) (fun j _ _ => congrFun o1 j) (fun q _ k _ => by show jbt (u 30 q) k = _; rw [o30]), iSg_c s2 c2.2.2.1 c2.2.2.2.1 (congrFun o2 0) (congrFun o2 1) (fun j _ _ => congrFun o2 j) (fun q _ k _ => by show jbt (u 30 q) k = _; rw [o30])⟩, ⟨iLn_c n1 c1.2.2.2.2.1 (congrFun o1 2) (fun j _ _ => congrFun o1 j) (fun k _ => ⟨congrFun (o 35 (by decide)) k, congrFun (o 36 (by decide)) k, congrFun (o 37 (by decide)) k, congrFun (o 38 (by decide)) k⟩), iLn_c n2 c2.2.2.2.2.1 (congrFun o2 2) (fun j _ _ => congrFun o2 j) (fun k _ => ⟨congrFun (o 35 (by decide)) k, congrFun (o 36 (by decide)) k, congrFun (o 37 (by decide)) k, congrFun (o 38 (by decide)) k⟩)⟩, iTx_c tx c1.2.2.2.2.2.2 (by show u 91 3 ≤ _; rw [o1]; exact Int.le_refl _) (fun c q1 q2 => o c (by simp only [List.mem_cons, List.not_mem_nil, or_false]; omega)) (o 93 (by decide)), iTp_c tp (congrFun o48 1) (h6 16 (by omega) (by omega)) (o 49 (by decide)) (o 97 (by decide)), iFt_c ft (congrFun o48 7) (congrFun o48 8) (congrFun o48 9) (h6 17 (by omega) (by omega)) (h6 18 (by omega) (by omega)), iBx_c bx (h0 8 (by omega)) (h0 9 (by omega)), iLe_c le (fun j _ => congrFun o1 j) (fun j _ => congrFun o2 j)⟩
/-- the class's call, then the reference's: the same answer, and all holds on -/
def jPr (l : Launch) (d : Nat) (M1 M2 : ja_M) (w g n : Nat) (as : List ja_W) (h : ja_H) : Prop := ja_C l d M1 (js_sh n) (.inr (.inr (some 0)) :: as) h (fun r h1 => ∃ z, r = some (.inl z) ∧ ja_C l d M2 (js_sh n) (.inr (.inr (some 90)) :: as) h1 (fun r2 h2 => r2 = some (.inl z) ∧ INV w g n h2))
section JI2
variable {w g n : Nat} {h : ja_H}
theorem INV_lt (hI : INV w g n h) {p : Int} (hp : 0 ≤ p ∧ p ≤ 4) : jpx h w g (5 + 2 * p.toNat) = jmx h w g p ∧ l99 (jmx h w g p) := by
  have := hI.2.2.1.1 p.toNat (by omega)
  rw [show ((p.toNat : Nat) : Int) = p by omega] at this
  refine ⟨?_, this.2⟩
  rw [show jmx h w g p = jqx h.2.1 91 w g p from rfl, ← this.1, show 1 + 5 + 2 * p.toNat = 5 + 2 * p.toNat + 1 by omega]
  rfl
theorem INV_pt (hI : INV w g n h) {p x y : Int} (hp : 0 ≤ p ∧ p ≤ 4) (hx : 0 ≤ x ∧ x < w) (hy : 0 ≤ y ∧ y < g) : jp_lt h w (5 + 2 * p.toNat) x y = jm_lt h p x y ∧ 0 ≤ jm_lt h p x y ∧ jm_lt h p x y ≤ 99 := by
  obtain ⟨e, l9⟩ := INV_lt hI hp
  have e := congrFun (congrFun e x) y
  have l9 := l9 x y
  unfold jpx jmx at e
  unfold jmx at l9
  rw [if_pos ⟨hx, hy⟩] at e l9
  rw [if_pos ⟨hx, hy⟩] at e
  exact ⟨e, l9⟩
theorem INV_b (hI : INV w g n h) : 4 ≤ (w : Int) ∧ (w : Int) ≤ 12 ∧ 4 ≤ (g : Int) ∧ (g : Int) ≤ 12 := hI.2.1.1.2
theorem INV_rg (hI : INV w g n h) {p : Int} (hp : 0 ≤ p ∧ p ≤ 4) : rg_ok (jp_lt h w (5 + 2 * p.toNat)) w g ∧ rg_ok (jm_lt h p) w g := by
  refine ⟨fun x y x0 x1 y0 y1 => ?_, fun x y x0 x1 y0 y1 => ?_⟩
  · have := INV_pt hI hp ⟨x0, x1⟩ ⟨y0, y1⟩
    rw [this.1]
    exact this.2
  · exact (INV_pt hI hp ⟨x0, x1⟩ ⟨y0, y1⟩).2
theorem INV_n (hI : INV w g n h) {j : Nat} (hj : j < 4) : ∃ k : Nat, h.2.1 91 j = (k : Int) ∧ h.2.1 1 (if j = 0 then 6 else if j = 1 then 7 else if j = 2 then 8 else 9) = (k : Int) ∧ k ≤ (if j = 0 then 12 else if j = 1 then 8 else if j = 2 then 10 else 6) := by
  obtain ⟨⟨a1, a2, a3, a4, a5⟩, b0, b1, b2, b3, b4⟩ := hI.2.2.2.1.1
  have : j = 0 ∨ j = 1 ∨ j = 2 ∨ j = 3 := by omega
  rcases this with rfl | rfl | rfl | rfl
  · exact ⟨(h.2.1 91 0).toNat, by omega, by show h.2.1 1 6 = _; omega, by show _ ≤ 12; omega⟩
  · exact ⟨(h.2.1 91 1).toNat, by omega, by show h.2.1 1 7 = _; omega, by show _ ≤ 8; omega⟩
  · exact ⟨(h.2.1 91 2).toNat, by omega, by show h.2.1 1 8 = _; omega, by show _ ≤ 10; omega⟩
  · exact ⟨(h.2.1 91 3).toNat, by omega, by show h.2.1 1 9 = _; omega, by show _ ≤ 6; omega⟩
end JI2
