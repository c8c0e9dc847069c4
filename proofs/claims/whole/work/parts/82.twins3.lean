def tcC (p v : Int) (k : Int) (t : Int) : Prop := (0 ≤ p ∧ p ≤ 4) ∧ ((2 ≤ k ∧ k ≤ 6) ∧ 0 ≤ t ∧ t ≤ 9) ∧ 0 ≤ v ∧ v ≤ 4
/-- what twice answers: by count and first pair -/
def tcO (T : Nat → Nat → Prop) (mx all : Nat) (v z : Int) : Prop := (v = 0 → z = ((tcq T all all : Nat) : Int)) ∧ (v ≠ 0 → (tcq T all all = 0 → z = -1) ∧ (tcq T all all ≠ 0 → ∃ a b, tF T all a b ∧ z = (if v = 1 then ((a % mx : Nat) : Int) else if v = 2 then ((a / mx : Nat) : Int) else if v = 3 then ((b % mx : Nat) : Int) else ((b / mx : Nat) : Int))))
theorem tcO_u {T : Nat → Nat → Prop} {mx all : Nat} {v z z' : Int} (h : tcO T mx all v z) (h' : tcO T mx all v z') : z = z' := by
  obtain ⟨a, b⟩ := h
  obtain ⟨a', b'⟩ := h'
  by_cases e : v = 0
  · rw [a e, a' e]
  · by_cases n : tcq T all all = 0
    · rw [(b e).1 n, (b' e).1 n]
    · obtain ⟨c, d, f, g⟩ := (b e).2 n
      obtain ⟨c', d', f', g'⟩ := (b' e).2 n
      obtain ⟨rfl, rfl⟩ := tF_u f f'
      rw [g, g']
theorem tcO_of {T : Nat → Nat → Prop} {mx all : Nat} {v c : Int} {f : Nat → Nat → Int} {cell : Nat} (hv : 1 ≤ v ∧ v ≤ 4) (h : tP T all all (all + 1) c (tcF mx f cell)) : tcO T mx all v (if 0 < c then f cell (v - 1).toNat else -1) := by
  obtain ⟨h1, h2, h3⟩ := h
  rw [tcr_0 _ (by omega), Nat.add_zero] at h1
  refine ⟨fun z => by omega, fun _ => ⟨fun z => by rw [if_neg (by omega)], fun z => ?_⟩⟩
  obtain ⟨a, b, w1, w2, w3, w4, w5⟩ := h3 (by omega)
  refine ⟨a, b, w1, ?_⟩
  rw [if_pos (by omega)]
  rcases (show v = 1 ∨ v = 2 ∨ v = 3 ∨ v = 4 by omega) with z | z | z | z <;> subst z
  · exact w2
  · exact w3
  · exact w4
  · exact w5
set_option maxRecDepth 10000 in
theorem kX11_twice {l : Launch} {d : Nat} {h : ja_H} {Q : ja_Q} {n : Nat} {p k t v w g : Int} {lt : Int → Int → Int} (hG : jG h.1) (hW : jW w g n h.2.1) (hlt : 0 ≤ p ∧ p ≤ 4 → jpx h w g (5 + 2 * p.toNat) = lt) (hb : ∀ x y, 0 ≤ lt x y ∧ lt x y ≤ 99) (q1 : tcC p v k t → ∀ f z, jfr [44, 45, 46] h.2.1 f → tcO (TWq lt k.toNat (w - k + 1).toNat t) (w - k + 1).toNat ((w - k + 1).toNat * (g - k + 1).toNat) v z → Q (some (.inl z)) (h.1, f, h.2.2)) (q2 : ¬ tcC p v k t → Q (some (.inl (-1))) h) : ja_C l (d + 6) mX11_twice (js_sh n) [.inr (.inr (some (0))), .inl (p), .inl (k), .inl (t), .inl (v)] h Q := by
  have hs := jS1_of hG hW
  have wr := jW_r hW
  refine eX11_twice _ _ _ _ _ fun r_picture r_k r_t r_what ho => ?_
  unfold bX11_twice
  unfold ja_r at r_picture r_k r_t r_what
  refine jt_sR (jr_m1 (jr_g (jr_lr rfl) rfl (jG_at hG rfl)) rfl (jv_li rfl) fun _ => kX8_picture hs) ?_
  by_cases c : 0 ≤ p ∧ p ≤ 4
  case neg =>
    rw [jS_pn.mpr c]
    exact jb_if_p (jr_lr rfl _ (by rw [if_pos rfl]; exact jt_rI jv_ci (q2 fun w => c w.1)))
  have hp := jS_now hs c
  rw [jS_e c]
  have hlt := hlt c
  have hn : 5 + 2 * p.toNat ∉ [44, 45, 46] ∧ 5 + 2 * p.toNat + 1 ∉ [44, 45, 46] := by constructor <;> (simp <;> omega)
  refine jb_if_d (φ := ¬ tcC p v k t) (jd_eq (jd_or (jd_or (jd_isn (jr_lr rfl)) fun _ => jd_not (jd_b (jy_sI (jA_i (jA_i jA_0 (jv_li rfl)) (jv_li rfl)) fun _ => kX11_isPiece))) fun _ => jd_not (jd_b (jy_sI (jA_i (jA_i (jA_i jA_0 (jv_li rfl)) jv_ci) jv_ci) fun _ => kX11_within))) (by unfold tcC; simp; omega)) (fun z => ?_) (fun z => ?_)
  · exact jt_rI jv_ci (q2 z)
  have z := Classical.not_not.mp z
  obtain ⟨z1, ⟨z2, z3⟩, z4⟩ := id z
  have q1 := q1 z
  obtain ⟨k0, rfl⟩ : ∃ k0 : Nat, k = (k0 : Int) := ⟨k.toNat, by omega⟩
  obtain ⟨mx, hmx⟩ : ∃ mx : Nat, mx = (w - (k0 : Int) + 1).toNat := ⟨_, rfl⟩
  obtain ⟨my, hmy⟩ : ∃ my : Nat, my = (g - (k0 : Int) + 1).toNat := ⟨_, rfl⟩
  obtain ⟨all, hall⟩ : ∃ all : Nat, mx * my = all := ⟨_, rfl⟩
  obtain ⟨T, hT⟩ : ∃ T : Nat → Nat → Prop, TWq lt k0 mx t = T := ⟨_, rfl⟩
  rw [Int.toNat_natCast, ← hmx, ← hmy, hall, hT] at q1
  refine jx_m (jr_g (jr_lr rfl) (by first | rfl | assumption) (by first | rfl | assumption | exact jG_at hG rfl | exact jG_90 hG rfl)) (by first | rfl | assumption) (jA_i (jA_i (jA_r jA_0 (jr_lr rfl)) (jv_li rfl)) (jv_li rfl)) (kX10_search (lt := lt) hG hp hn hlt hb (by omega) hmx hmy hT hall fun f fr ft => ⟨rfl, ?_⟩)
  have e1 := ft.1.1
  rw [tcr_0 _ (by omega), Nat.add_zero] at e1
  by_cases v0 : v = 0
  · refine jt_rI (x := f 44 3) (jv_is (jv_cv (φ := v = 0) (y := 0) (jd_eqI (jv_li rfl) jv_ci) (fun _ => (jv_gF (jr_g (jr_lr rfl) rfl (jG_at hG rfl)) rfl rfl)) (fun y => absurd v0 y)) (if_pos v0)) ?_
    exact q1 f _ fr ⟨fun _ => e1, fun y => absurd v0 y⟩
  · refine jt_rI (jv_is (jv_cv (φ := v = 0) (x := 0) (jd_eqI (jv_li rfl) jv_ci) (fun y => absurd y v0) (fun _ => (jy_mI (jr_g (jr_lr rfl) rfl (jG_at hG rfl)) rfl (jA_i jA_0 (jv_li rfl)) fun _ => kX10_ofFirstPair (h := (h.1, f, h.2.2)) hG (by omega)))) (if_neg v0)) ?_
    exact q1 f _ fr (tcO_of (by omega) ft.1)
