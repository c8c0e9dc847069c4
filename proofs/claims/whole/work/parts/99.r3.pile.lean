/-! the reference while it reads a sum: token s, pile p (its top first), code w, opens O, whole b -/
def eo (c : Int) : Int := if c < 1000 then 0 else if c < 1006 then 1 else if c = 1010 then 2 else c - 1003
def ev (c : Int) : Int := if c < 1000 then c else if c < 1006 then c - 1000 else 0
def plR (f : Nat → Nat → Int) : List Int → Prop
  | [] => True
  | x :: p => f 98 p.length = x ∧ plR f p
def cdR (t0 : Nat) (w : List Int) (f : Nat → Nat → Int) : Prop := ∀ j, j < w.length → f 93 (t0 + 200 + 2 * j) = eo (w.getD j 0) ∧ f 93 (t0 + 200 + 2 * j + 1) = ev (w.getD j 0)
def smF (t0 c0 : Nat) (I f : Nat → Nat → Int) : Prop := jfr [90, 93, 98] I f ∧ (∀ j, j < 19 ∨ (22 < j ∧ j ≠ 26 ∧ j ≠ 29 ∧ j ≠ 30 ∧ j ≠ 31) → f 90 j = I 90 j) ∧ ∀ i, i < t0 + 200 + 2 * c0 ∨ t0 + 1000 ≤ i → f 93 i = I 93 i
def smS (T : Nat → Int) (Ln t0 s : Nat) (p w : List Int) (O : Nat) (b : Int) (h : ja_H) : Prop := jG h.1 ∧ (h.2.1 90 16 = (Ln : Int) ∧ Ln ≤ 300 ∧ h.2.1 97 = T ∧ ∀ j, j < Ln → 0 ≤ T j ∧ T j ≤ 255) ∧ s ≤ Ln ∧ tkP T Ln s h.2.1 h.2.2 ∧ (h.2.1 90 24 = (t0 : Int) ∧ t0 ≤ 5000) ∧ (h.2.1 90 26 = (w.length : Int) ∧ h.2.1 90 29 = (p.length : Int) ∧ h.2.1 90 30 = (O : Int) ∧ h.2.1 90 31 = b) ∧ plR h.2.1 p ∧ cdR t0 w h.2.1
theorem smF_rf {t0 c0 : Nat} {I : Nat → Nat → Int} : smF t0 c0 I I := ⟨jfr_rf _ _, fun _ _ => rfl, fun _ _ => rfl⟩
theorem smF_tr {t0 c0 c1 : Nat} {I f g : Nat → Nat → Int} (a : smF t0 c0 I f) (b : smF t0 c1 f g) (h : c0 ≤ c1) : smF t0 c0 I g := ⟨jfr_tr a.1 b.1, fun j hj => (b.2.1 j hj).trans (a.2.1 j hj), fun i hi => (b.2.2 i (by omega)).trans (a.2.2 i hi)⟩
theorem jnl_tr {I f g : Nat → Nat → Int} (a : jnl I f) (b : jnl f g) : jnl I g := fun k j h => (b k j h).trans (a k j h)
theorem plR_o {f g : Nat → Nat → Int} : ∀ {p : List Int}, (∀ j, j < p.length → g 98 j = f 98 j) → plR f p → plR g p
  | [], _, _ => trivial
  | x :: p, h, ⟨a, b⟩ => ⟨(h _ (by simp)).trans a, plR_o (fun j hj => h j (by simp only [List.length_cons]; omega)) b⟩
theorem plR_m {f : Nat → Nat → Int} {x : Int} : ∀ {p : List Int}, plR f p → (x ∈ p ↔ ∃ j, j < p.length ∧ f 98 j = x)
  | [], _ => by simp
  | y :: p, ⟨a, b⟩ => by
    rw [List.mem_cons, plR_m (x := x) b]
    constructor
    · rintro (rfl | ⟨j, h1, h2⟩)
      · exact ⟨p.length, by simp, a⟩
      · exact ⟨j, by simp only [List.length_cons]; omega, h2⟩
    · rintro ⟨j, h1, h2⟩
      simp only [List.length_cons] at h1
      by_cases z : j = p.length
      · subst z; exact Or.inl (h2.symm.trans a)
      · exact Or.inr ⟨j, by omega, h2⟩
/-- writes of one slot of the reference that no other thing speaks of -/
theorem tkP_o {T : Nat → Int} {Ln s : Nat} {f f' g : Nat → Nat → Int} (h : tkP T Ln s f g) (e : ∀ j, 19 ≤ j → j ≤ 22 → f' 90 j = f 90 j) : tkP T Ln s f' g := by
  obtain ⟨a, b, c, d, k⟩ := h
  exact ⟨(e 19 (by omega) (by omega)).trans a, (e 20 (by omega) (by omega)).trans b, (e 21 (by omega) (by omega)).trans c, fun y => (e 22 (by omega) (by omega)).trans (d y), k⟩
theorem sm_O {T : Nat → Int} {Ln t0 s O O' : Nat} {p w : List Int} {b v : Int} {h : ja_H} (hS : smS T Ln t0 s p w O b h) (hv : v = (O' : Int)) : smF t0 w.length h.2.1 (ja_up h.2.1 90 30 v) ∧ smS T Ln t0 s p w O' b (h.1, ja_up h.2.1 90 30 v, h.2.2) := by
  obtain ⟨hG, ⟨a1, a2, a3, a4⟩, hs, hk, ⟨b1, b2⟩, ⟨c1, c2, c3, c4⟩, hp, hc⟩ := hS
  obtain ⟨g, hg⟩ : ∃ g, ja_up h.2.1 90 30 v = g := ⟨_, rfl⟩
  have o : ∀ c j, (c ≠ 90 ∨ j ≠ 30) → g c j = h.2.1 c j := fun c j y => by rw [← hg, ja_upO y]
  have e : g 90 30 = (O' : Int) := by rw [← hg, ja_upE rfl rfl]; exact hv
  rw [hg]
  refine ⟨⟨by rw [← hg]; exact jfr_up (jfr_rf _ _) (by simp), fun j hj => o _ _ (by omega), fun i _ => o _ _ (by omega)⟩, hG, ⟨(o _ _ (by omega)).trans a1, a2, by rw [← a3]; funext j; exact o _ _ (by omega), a4⟩, hs, tkP_o hk (fun j _ _ => o _ _ (by omega)), ⟨(o _ _ (by omega)).trans b1, b2⟩, ⟨(o _ _ (by omega)).trans c1, (o _ _ (by omega)).trans c2, e, (o _ _ (by omega)).trans c4⟩, plR_o (fun j _ => o _ _ (by omega)) hp, fun j hj => ⟨(o _ _ (by omega)).trans (hc j hj).1, (o _ _ (by omega)).trans (hc j hj).2⟩⟩
theorem sm_b {T : Nat → Int} {Ln t0 s O : Nat} {p w : List Int} {b v : Int} {h : ja_H} (hS : smS T Ln t0 s p w O b h) : smF t0 w.length h.2.1 (ja_up h.2.1 90 31 v) ∧ smS T Ln t0 s p w O v (h.1, ja_up h.2.1 90 31 v, h.2.2) := by
  obtain ⟨hG, ⟨a1, a2, a3, a4⟩, hs, hk, ⟨b1, b2⟩, ⟨c1, c2, c3, c4⟩, hp, hc⟩ := hS
  obtain ⟨g, hg⟩ : ∃ g, ja_up h.2.1 90 31 v = g := ⟨_, rfl⟩
  have o : ∀ c j, (c ≠ 90 ∨ j ≠ 31) → g c j = h.2.1 c j := fun c j y => by rw [← hg, ja_upO y]
  have e : g 90 31 = v := by rw [← hg, ja_upE rfl rfl]
  rw [hg]
  refine ⟨⟨by rw [← hg]; exact jfr_up (jfr_rf _ _) (by simp), fun j hj => o _ _ (by omega), fun i _ => o _ _ (by omega)⟩, hG, ⟨(o _ _ (by omega)).trans a1, a2, by rw [← a3]; funext j; exact o _ _ (by omega), a4⟩, hs, tkP_o hk (fun j _ _ => o _ _ (by omega)), ⟨(o _ _ (by omega)).trans b1, b2⟩, ⟨(o _ _ (by omega)).trans c1, (o _ _ (by omega)).trans c2, (o _ _ (by omega)).trans c3, e⟩, plR_o (fun j _ => o _ _ (by omega)) hp, fun j hj => ⟨(o _ _ (by omega)).trans (hc j hj).1, (o _ _ (by omega)).trans (hc j hj).2⟩⟩
/-- the pile's length: a shorter pile -/
theorem sm_pop {T : Nat → Int} {Ln t0 s O : Nat} {x : Int} {p w : List Int} {b v : Int} {h : ja_H} (hS : smS T Ln t0 s (x :: p) w O b h) (hv : v = (p.length : Int)) : smF t0 w.length h.2.1 (ja_up h.2.1 90 29 v) ∧ smS T Ln t0 s p w O b (h.1, ja_up h.2.1 90 29 v, h.2.2) := by
  obtain ⟨hG, ⟨a1, a2, a3, a4⟩, hs, hk, ⟨b1, b2⟩, ⟨c1, c2, c3, c4⟩, hp, hc⟩ := hS
  obtain ⟨g, hg⟩ : ∃ g, ja_up h.2.1 90 29 v = g := ⟨_, rfl⟩
  have o : ∀ c j, (c ≠ 90 ∨ j ≠ 29) → g c j = h.2.1 c j := fun c j y => by rw [← hg, ja_upO y]
  have e : g 90 29 = (p.length : Int) := by rw [← hg, ja_upE rfl rfl]; exact hv
  rw [hg]
  refine ⟨⟨by rw [← hg]; exact jfr_up (jfr_rf _ _) (by simp), fun j hj => o _ _ (by omega), fun i _ => o _ _ (by omega)⟩, hG, ⟨(o _ _ (by omega)).trans a1, a2, by rw [← a3]; funext j; exact o _ _ (by omega), a4⟩, hs, tkP_o hk (fun j _ _ => o _ _ (by omega)), ⟨(o _ _ (by omega)).trans b1, b2⟩, ⟨(o _ _ (by omega)).trans c1, e, (o _ _ (by omega)).trans c3, (o _ _ (by omega)).trans c4⟩, plR_o (fun j _ => o _ _ (by omega)) hp.2, fun j hj => ⟨(o _ _ (by omega)).trans (hc j hj).1, (o _ _ (by omega)).trans (hc j hj).2⟩⟩
/-- no pile -/
theorem sm_nil {T : Nat → Int} {Ln t0 s O : Nat} {p w : List Int} {b : Int} {h : ja_H} (hS : smS T Ln t0 s p w O b h) : smF t0 w.length h.2.1 (ja_up h.2.1 90 29 0) ∧ smS T Ln t0 s [] w O b (h.1, ja_up h.2.1 90 29 0, h.2.2) := by
  obtain ⟨hG, ⟨a1, a2, a3, a4⟩, hs, hk, ⟨b1, b2⟩, ⟨c1, c2, c3, c4⟩, hp, hc⟩ := hS
  obtain ⟨g, hg⟩ : ∃ g, ja_up h.2.1 90 29 0 = g := ⟨_, rfl⟩
  have o : ∀ c j, (c ≠ 90 ∨ j ≠ 29) → g c j = h.2.1 c j := fun c j y => by rw [← hg, ja_upO y]
  have e : g 90 29 = 0 := by rw [← hg, ja_upE rfl rfl]
  rw [hg]
  refine ⟨⟨by rw [← hg]; exact jfr_up (jfr_rf _ _) (by simp), fun j hj => o _ _ (by omega), fun i _ => o _ _ (by omega)⟩, hG, ⟨(o _ _ (by omega)).trans a1, a2, by rw [← a3]; funext j; exact o _ _ (by omega), a4⟩, hs, tkP_o hk (fun j _ _ => o _ _ (by omega)), ⟨(o _ _ (by omega)).trans b1, b2⟩, ⟨(o _ _ (by omega)).trans c1, e, (o _ _ (by omega)).trans c3, (o _ _ (by omega)).trans c4⟩, trivial, fun j hj => ⟨(o _ _ (by omega)).trans (hc j hj).1, (o _ _ (by omega)).trans (hc j hj).2⟩⟩
theorem sm_push {T : Nat → Int} {Ln t0 s O : Nat} {x v : Int} {p w : List Int} {b : Int} {h : ja_H} (hS : smS T Ln t0 s p w O b h) (hv : v = (p.length : Int) + 1) : smF t0 w.length h.2.1 (ja_up (ja_up h.2.1 98 p.length x) 90 29 v) ∧ smS T Ln t0 s (x :: p) w O b (h.1, ja_up (ja_up h.2.1 98 p.length x) 90 29 v, h.2.2) := by
  obtain ⟨hG, ⟨a1, a2, a3, a4⟩, hs, hk, ⟨b1, b2⟩, ⟨c1, c2, c3, c4⟩, hp, hc⟩ := hS
  obtain ⟨g, hg⟩ : ∃ g, ja_up (ja_up h.2.1 98 p.length x) 90 29 v = g := ⟨_, rfl⟩
  have o : ∀ c j, (c ≠ 90 ∨ j ≠ 29) → (c ≠ 98 ∨ j ≠ p.length) → g c j = h.2.1 c j := fun c j y z => by rw [← hg, ja_upO y, ja_upO z]
  have e : g 90 29 = ((x :: p).length : Int) := by rw [← hg, ja_upE rfl rfl]; simp only [List.length_cons]; omega
  have e2 : g 98 p.length = x := by rw [← hg, ja_upO (by omega), ja_upE rfl rfl]
  rw [hg]
  refine ⟨⟨by rw [← hg]; exact jfr_up (jfr_up (jfr_rf _ _) (by simp)) (by simp), fun j hj => o _ _ (by omega) (by omega), fun i _ => o _ _ (by omega) (by omega)⟩, hG, ⟨(o _ _ (by omega) (by omega)).trans a1, a2, by rw [← a3]; funext j; exact o _ _ (by omega) (by omega), a4⟩, hs, tkP_o hk (fun j _ _ => o _ _ (by omega) (by omega)), ⟨(o _ _ (by omega) (by omega)).trans b1, b2⟩, ⟨(o _ _ (by omega) (by omega)).trans c1, e, (o _ _ (by omega) (by omega)).trans c3, (o _ _ (by omega) (by omega)).trans c4⟩, ⟨e2, plR_o (fun j _ => o _ _ (by omega) (by omega)) hp⟩, fun j hj => ⟨(o _ _ (by omega) (by omega)).trans (hc j hj).1, (o _ _ (by omega) (by omega)).trans (hc j hj).2⟩⟩
theorem sm_emit {T : Nat → Int} {Ln t0 s O c i1 i2 : Nat} {x u v z : Int} {p w : List Int} {b : Int} {h : ja_H} (hS : smS T Ln t0 s p w O b h) (hc0 : c = w.length) (hu : u = eo x) (hv : v = ev x) (hi1 : i1 = t0 + 200 + 2 * c) (hi2 : i2 = t0 + 200 + 2 * c + 1) (hc4 : c < 400) (hz : z = (c : Int) + 1) : smF t0 w.length h.2.1 (ja_up (ja_up (ja_up h.2.1 93 i1 u) 93 i2 v) 90 26 z) ∧ smS T Ln t0 s p (w ++ [x]) O b (h.1, ja_up (ja_up (ja_up h.2.1 93 i1 u) 93 i2 v) 90 26 z, h.2.2) := by
  subst hc0 hu hv hi1 hi2 hz
  obtain ⟨hG, ⟨a1, a2, a3, a4⟩, hs, hk, ⟨b1, b2⟩, ⟨c1, c2, c3, c4⟩, hp, hc⟩ := hS
  obtain ⟨g, hg⟩ : ∃ g, ja_up (ja_up (ja_up h.2.1 93 (t0 + 200 + 2 * w.length) (eo x)) 93 (t0 + 200 + 2 * w.length + 1) (ev x)) 90 26 ((w.length : Int) + 1) = g := ⟨_, rfl⟩
  have o : ∀ c j, (c ≠ 90 ∨ j ≠ 26) → (c ≠ 93 ∨ (j ≠ t0 + 200 + 2 * w.length ∧ j ≠ t0 + 200 + 2 * w.length + 1)) → g c j = h.2.1 c j := fun c j y z => by rw [← hg, ja_upO y, ja_upO (by omega), ja_upO (by omega)]
  have e : g 90 26 = ((w ++ [x]).length : Int) := by rw [← hg, ja_upE rfl rfl]; simp
  have e2 : g 93 (t0 + 200 + 2 * w.length) = eo x := by rw [← hg, ja_upO (by omega), ja_upO (by omega), ja_upE rfl rfl]
  have e3 : g 93 (t0 + 200 + 2 * w.length + 1) = ev x := by rw [← hg, ja_upO (by omega), ja_upE rfl rfl]
  rw [hg]
  refine ⟨⟨by rw [← hg]; exact jfr_up (jfr_up (jfr_up (jfr_rf _ _) (by simp)) (by simp)) (by simp), fun j hj => o _ _ (by omega) (by omega), fun i _ => o _ _ (by omega) (by omega)⟩, hG, ⟨(o _ _ (by omega) (by omega)).trans a1, a2, by rw [← a3]; funext j; exact o _ _ (by omega) (by omega), a4⟩, hs, tkP_o hk (fun j _ _ => o _ _ (by omega) (by omega)), ⟨(o _ _ (by omega) (by omega)).trans b1, b2⟩, ⟨e, (o _ _ (by omega) (by omega)).trans c2, (o _ _ (by omega) (by omega)).trans c3, (o _ _ (by omega) (by omega)).trans c4⟩, plR_o (fun j _ => o _ _ (by omega) (by omega)) hp, fun j hj => ?_⟩
  rw [List.length_append] at hj
  simp only [List.length_cons, List.length_nil] at hj
  by_cases z : j < w.length
  · have e : (w ++ [x]).getD j 0 = w.getD j 0 := by rw [List.getD_eq_getElem?_getD, List.getD_eq_getElem?_getD, List.getElem?_append_left z]
    rw [e]
    exact ⟨(o _ _ (by omega) (by omega)).trans (hc j z).1, (o _ _ (by omega) (by omega)).trans (hc j z).2⟩
  · have e : j = w.length := by omega
    subst e
    rw [show (w ++ [x]).getD w.length 0 = x by simp]
    exact ⟨e2, e3⟩
theorem sm_next {T : Nat → Int} {Ln t0 s O : Nat} {p w : List Int} {b : Int} {h : ja_H} {f g : Nat → Nat → Int} (hS : smS T Ln t0 s p w O b h) (fr : jnf h.2.1 f) (ft : tkP T Ln (nxS T Ln s) f g) : smF t0 w.length h.2.1 f ∧ smS T Ln t0 (nxS T Ln s) p w O b (h.1, f, g) := by
  obtain ⟨hG, ⟨a1, a2, a3, a4⟩, hs, hk, ⟨b1, b2⟩, ⟨c1, c2, c3, c4⟩, hp, hc⟩ := hS
  have o : ∀ c j, (c ≠ 90 ∨ j < 19 ∨ 22 < j) → f c j = h.2.1 c j := fun c j y => by
    by_cases z : c = 90
    · subst z; exact fr.2 j (by omega)
    · rw [fr.1 c (by simpa using z)]
  refine ⟨⟨jfr_sub fr.1 (by simp), fun j hj => o _ _ (by omega), fun i _ => o _ _ (by omega)⟩, hG, ⟨(o _ _ (by omega)).trans a1, a2, by rw [← a3]; funext j; exact o _ _ (by omega), a4⟩, (nxS_b hs).2.1, ft, ⟨(o _ _ (by omega)).trans b1, b2⟩, ⟨(o _ _ (by omega)).trans c1, (o _ _ (by omega)).trans c2, (o _ _ (by omega)).trans c3, (o _ _ (by omega)).trans c4⟩, plR_o (fun j _ => o _ _ (by omega)) hp, fun j hj => ⟨(o _ _ (by omega)).trans (hc j hj).1, (o _ _ (by omega)).trans (hc j hj).2⟩⟩
theorem tkM_s {k v : Int} (hv : v ≠ 1 ∧ v ≠ 2) : tkM k = v ↔ k = v := by unfold tkM; split <;> (try split) <;> omega
theorem tkM_1 {k : Int} : tkM k = 1 ↔ k = 2 := by unfold tkM; split <;> (try split) <;> omega
set_option maxRecDepth 10000 in
theorem kX12_emit {l : Launch} {d : Nat} {h : ja_H} {Q : ja_Q} {T : Nat → Int} {n Ln t0 s O : Nat} {p w : List Int} {b : Int} (hS : smS T Ln t0 s p w O b h) {x u v : Int} (hw : w.length < 400) (hu : u = eo x) (hv : v = ev x) (q : ∀ f, smF t0 w.length h.2.1 f → smS T Ln t0 s p (w ++ [x]) O b (h.1, f, h.2.2) → Q none (h.1, f, h.2.2)) : ja_C l (d + 1) mX12_emit (js_sh n) [.inr (.inr (some (90))), .inl (u), .inl (v)] h Q := by
  obtain ⟨hG, ⟨hL, hL3, hT, hb⟩, hs, hk, ⟨h24, ht0⟩, ⟨h26, h29, h30, h31⟩, hp, hc⟩ := id hS
  refine eX12_emit _ _ _ fun r_o r_v ho => ?_
  unfold bX12_emit
  unfold ja_r at r_o r_v
  refine jt_wI (jr_g (jr_lr rfl) (by first | rfl | assumption) (by first | rfl | assumption | exact jG_at hG rfl | exact jG_90 hG rfl)) (by first | rfl | assumption) (jv_w (jv_add (jv_w (jv_add (jv_gF (jr_lr rfl) (by first | rfl | assumption) (by first | assumption | rfl)) jv_ci) (by first | (unfold ja_r; omega) | (unfold ja_rl; omega) | omega | assumption)) (jv_w (jv_mul jv_ci (jv_gF (jr_lr rfl) (by first | rfl | assumption) (by first | assumption | rfl))) (by first | (unfold ja_r; omega) | (unfold ja_rl; omega) | omega | assumption))) (by first | (unfold ja_r; omega) | (unfold ja_rl; omega) | omega | assumption)) (jv_li rfl) (by first | (unfold ja_r; omega) | (unfold ja_rl; omega) | omega | assumption) (by first | (unfold ja_r; omega) | (unfold ja_rl; omega) | omega | assumption) ?_
  try dsimp only
  have f24 : ja_up h.2.1 93 ((t0 : Int) + 200 + 2 * (w.length : Int)).toNat u 90 24 = (t0 : Int) := by rw [ja_upO (by omega)]; exact h24
  have f26 : ja_up h.2.1 93 ((t0 : Int) + 200 + 2 * (w.length : Int)).toNat u 90 26 = (w.length : Int) := by rw [ja_upO (by omega)]; exact h26
  refine jt_wI (jr_g (jr_lr rfl) (by first | rfl | assumption) (by first | rfl | assumption | exact jG_at hG rfl | exact jG_90 hG rfl)) (by first | rfl | assumption) (jv_w (jv_add (jv_w (jv_add (jv_w (jv_add (jv_gF (jr_lr rfl) (by first | rfl | assumption) (by first | assumption | rfl)) jv_ci) (by first | (unfold ja_r; omega) | (unfold ja_rl; omega) | omega | assumption)) (jv_w (jv_mul jv_ci (jv_gF (jr_lr rfl) (by first | rfl | assumption) (by first | assumption | rfl))) (by first | (unfold ja_r; omega) | (unfold ja_rl; omega) | omega | assumption))) (by first | (unfold ja_r; omega) | (unfold ja_rl; omega) | omega | assumption)) jv_ci) (by first | (unfold ja_r; omega) | (unfold ja_rl; omega) | omega | assumption)) (jv_li rfl) (by first | (unfold ja_r; omega) | (unfold ja_rl; omega) | omega | assumption) (by first | (unfold ja_r; omega) | (unfold ja_rl; omega) | omega | assumption) ?_
  try dsimp only
  refine jt_uG (w := (w.length : Int) + 1) (jr_lr rfl) (by first | rfl | assumption) jv_ci (by (try dsimp only); rw [ja_upO (by omega), f26, ja_w_id (by unfold ja_r; omega)]) ?_
  try dsimp only
  obtain ⟨e1, e2⟩ := sm_emit (x := x) (u := u) (v := v) (z := (w.length : Int) + 1) (i1 := ((t0 : Int) + 200 + 2 * (w.length : Int)).toNat) (i2 := ((t0 : Int) + 200 + 2 * (w.length : Int) + 1).toNat) hS rfl hu hv (by omega) (by omega) hw rfl
  exact q _ e1 e2
set_option maxRecDepth 10000 in
theorem kX12_push {l : Launch} {d : Nat} {h : ja_H} {Q : ja_Q} {T : Nat → Int} {n Ln t0 s O : Nat} {p w : List Int} {b : Int} (hS : smS T Ln t0 s p w O b h) {x : Int} (hw : p.length < 160) (q : ∀ f, smF t0 w.length h.2.1 f → smS T Ln t0 s (x :: p) w O b (h.1, f, h.2.2) → Q none (h.1, f, h.2.2)) : ja_C l (d + 1) mX12_push (js_sh n) [.inr (.inr (some (90))), .inl (x)] h Q := by
  obtain ⟨hG, ⟨hL, hL3, hT, hb⟩, hs, hk, ⟨h24, ht0⟩, ⟨h26, h29, h30, h31⟩, hp, hc⟩ := id hS
  refine eX12_push _ _ fun r_o ho => ?_
  unfold bX12_push
  unfold ja_r at r_o
  refine jt_wI (jr_g (jr_lr rfl) (by first | rfl | assumption) (by first | rfl | assumption | exact jG_at hG rfl | exact jG_90 hG rfl)) (by first | rfl | assumption) (jv_gF (jr_lr rfl) (by first | rfl | assumption) (by first | assumption | rfl)) (jv_li rfl) (by first | (unfold ja_r; omega) | (unfold ja_rl; omega) | omega | assumption) (by first | (unfold ja_r; omega) | (unfold ja_rl; omega) | omega | assumption) ?_
  try dsimp only
  rw [show ((p.length : Nat) : Int).toNat = p.length by omega]
  have f29 : ja_up h.2.1 98 p.length x 90 29 = (p.length : Int) := by rw [ja_upO (by omega)]; exact h29
  refine jt_uG (w := (p.length : Int) + 1) (jr_lr rfl) (by first | rfl | assumption) jv_ci (by (try dsimp only); rw [f29, ja_w_id (by unfold ja_r; omega)]) ?_
  try dsimp only
  obtain ⟨e1, e2⟩ := sm_push (x := x) hS rfl
  exact q _ e1 e2
