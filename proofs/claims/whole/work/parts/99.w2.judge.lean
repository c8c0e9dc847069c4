/-- the picture that is worked on doesn't count among the others -/
theorem a1_px {px px' : Int → LT} {p w g : Int} {K N C : Nat → Int} (h : ∀ r, r ≠ p → px r = px' r) : a1 px p K N C w g = a1 px' p K N C w g := by
  funext a rd lt
  unfold a1
  by_cases y : N (7 * a + 0) = p
  · simp only [if_pos y]
  · simp only [if_neg y, h _ y]
theorem doT_c {px px' : Int → LT} {p w g : Int} {A : Nat} {K N C : Nat → Int} {lt : LT} (h : ∀ r, r ≠ p → px r = px' r) : doT px p A K N C w g lt = doT px' p A K N C w g lt := by
  unfold doT
  rw [a1_px h]
set_option maxRecDepth 10000 in
theorem kX9_textOf {l : Launch} {d : Nat} {h : ja_H} {Q : ja_Q} {n : Nat} {i L : Int} (hG : jG h.1) (hL : h.2.1 55 8 = L) (hL3 : -1 ≤ L ∧ L ≤ 3) (q : Q (some (.inl (if 0 ≤ i ∧ i < L then h.2.1 58 i.toNat else -1))) h) : ja_C l (d + 2) mX9_textOf (js_sh n) [.inr (.inr (some (55))), .inl (i)] h Q := by
  refine eX9_textOf _ _ fun r_i ho => ?_
  unfold bX9_textOf
  unfold ja_r at r_i
  refine jt_rI (jv_cv (φ := 0 ≤ i ∧ i < L) (jd_eq (jd_b (jy_sI (jA_i (jA_i (jA_i jA_0 (jv_li rfl)) jv_ci) (jv_w (jv_sub (jy_sI (jA_i (jA_i jA_0 (jv_gF (jr_lr rfl) rfl hL)) jv_ci) fun _ => kJ9_min) jv_ci) (by unfold ja_r; omega))) fun _ => kX11_within)) (by omega)) (fun y => jv_aI (jr_g (jr_lr rfl) rfl (jG_at hG rfl)) (jv_li rfl) rfl (by omega) (by omega)) (fun _ => jv_ci)) ?_
  exact q
/-- what judging leaves: the told ones if they are the first, the count -/
def jdU (f : Nat → Nat → Int) (c : Nat) : Nat → Nat → Int := ja_up (if c = 0 then ja_cp f 57 0 58 0 3 else f) 55 9 ((c : Int) + 1)
set_option maxRecDepth 10000 in
theorem kX9_judge {l : Launch} {d n k ko c : Nat} {w g : Int} {h : ja_H} {Q : ja_Q} (hG : jG h.1) (h3 : h.1 55 3 = some k) (h4 : h.1 55 4 = some ko) (hp : jp w g n k h) (hq : jp w g n ko h) (hc : h.2.1 55 9 = (c : Int)) (hcm : c < 1000) (q1 : jpx h w g k = jpx h w g ko → Q none (h.1, jdU h.2.1 c, h.2.2)) (q0 : jpx h w g k ≠ jpx h w g ko → Q none h) : ja_C l (d + 2) mX9_judge (js_sh n) [.inr (.inr (some 55))] h Q := by
  refine eX9_judge _ fun ho => ?_
  unfold bX9_judge
  refine jb_if_p ?_
  refine jx_mI (jr_g (jr_lr rfl) rfl h3) hp.1 (jA_r jA_0 (jr_g (jr_lr rfl) rfl h4)) (kX3_isAs hp hq (fun e => ⟨_, rfl, fun _ => ?_⟩) (fun e => ⟨_, rfl, fun _ => ?_⟩))
  · rw [if_neg (by decide)]
    have q1 := q1 e
    unfold jdU at q1
    refine jb_if_d (jd_eq (φ' := c = 0) (jd_eqI (jv_gF (jr_lr rfl) rfl hc) jv_ci) (by omega)) (fun z => ?_) (fun z => ?_)
    · rw [if_pos z] at q1
      refine jt_cp (jr_g (jr_lr rfl) rfl (jG_at hG rfl)) jv_ci (jr_g (jr_lr rfl) rfl (jG_at hG rfl)) jv_ci jv_ci rfl rfl (by decide) (by decide) (by decide) (by decide) (by decide) ?_
      refine jt_uG (w := (c : Int) + 1) (jr_lr rfl) rfl jv_ci (by dsimp only; rw [show ja_cp h.2.1 57 (0 : Int).toNat 58 (0 : Int).toNat (3 : Int).toNat 55 9 = h.2.1 55 9 from ja_cpO (by decide), hc, ja_w_id (by unfold ja_r; omega)]) ?_
      exact q1
    · rw [if_neg z] at q1
      refine jt_uG (w := (c : Int) + 1) (jr_lr rfl) rfl jv_ci (by (try dsimp only); rw [hc, ja_w_id (by unfold ja_r; omega)]) ?_
      exact q1
  · rw [if_pos rfl]
    exact q0 e
