/-! the class: within, pictures -/
theorem kX11_within {l : Launch} {d : Nat} {sh : ja_S} {v lo hi : Int} {h : ja_H} {Q : ja_Q} (q : Q (some (.inl (if lo ≤ v ∧ v ≤ hi then 1 else 0))) h) : ja_C l (d + 1) mX11_within sh [.inl v, .inl lo, .inl hi] h Q :=
  eX11_within _ _ _ fun _ _ _ _ => jt_rZ (jv_cb (jd_and (jd_ge (jv_li rfl) (jv_li rfl)) (fun _ => (jd_le (jv_li rfl) (jv_li rfl))))) q
theorem kX11_isMaker {l : Launch} {d : Nat} {sh : ja_S} {v : Int} {h : ja_H} {Q : ja_Q} (q : Q (some (.inl (if 0 ≤ v ∧ v ≤ 3 then 1 else 0))) h) : ja_C l (d + 2) mX11_isMaker sh [.inl v] h Q :=
  eX11_isMaker _ fun _ _ => jt_rZ (jv_c3 (jv_li rfl) jv_ci jv_ci fun _ => kX11_within) q
theorem kX11_isPiece {l : Launch} {d : Nat} {sh : ja_S} {k t : Int} {h : ja_H} {Q : ja_Q} (q : Q (some (.inl (if (2 ≤ k ∧ k ≤ 6) ∧ 0 ≤ t ∧ t ≤ 9 then 1 else 0))) h) : ja_C l (d + 2) mX11_isPiece sh [.inl k, .inl t] h Q :=
  eX11_isPiece _ _ fun _ _ _ => jt_rZ (jv_cb (jd_and (jd_b (jv_c3 (jv_li rfl) jv_ci jv_ci fun _ => kX11_within)) (fun _ => (jd_b (jv_c3 (jv_li rfl) jv_ci jv_ci fun _ => kX11_within))))) q
theorem kX11_isPoint {l : Launch} {d : Nat} {sh : ja_S} {x y : Int} {h : ja_H} {Q : ja_Q} (q : Q (some (.inl (if (-99 ≤ x ∧ x ≤ 99) ∧ -99 ≤ y ∧ y ≤ 99 then 1 else 0))) h) : ja_C l (d + 2) mX11_isPoint sh [.inl x, .inl y] h Q :=
  eX11_isPoint _ _ fun _ _ _ => jt_rZ (jv_cb (jd_and (jd_b (jv_c3 (jv_li rfl) jv_ci jv_ci fun _ => kX11_within)) (fun _ => (jd_b (jv_c3 (jv_li rfl) jv_ci jv_ci fun _ => kX11_within))))) q
/-- a picture of the class: its own cell k, its light in the cell behind it -/
def jp (w g : Int) (n k : Nat) (h : ja_H) : Prop := (js_sh n)[k]? = some (0, 3) ∧ (js_sh n)[k + 1]? = some (1, n) ∧ h.1 k 2 = some (k + 1) ∧ h.2.1 k 0 = w ∧ h.2.1 k 1 = g ∧ (n : Int) = w * g ∧ 4 ≤ w ∧ w ≤ 12 ∧ 4 ≤ g ∧ g ≤ 12
theorem jp_ix {w g x y : Int} (hw : 4 ≤ w ∧ w ≤ 12) (hg : 4 ≤ g ∧ g ≤ 12) (hx : 0 ≤ x ∧ x < w) (hy : 0 ≤ y ∧ y < g) : 0 ≤ y * w ∧ y * w + x < w * g ∧ w * g ≤ 144 := by
  have h1 : 0 ≤ y * w := Int.mul_nonneg hy.1 (by omega)
  have h2 : y * w + w = (y + 1) * w := by rw [Int.add_mul, Int.one_mul]
  have h3 : (y + 1) * w ≤ g * w := Int.mul_le_mul_of_nonneg_right (by omega) (by omega)
  have h4 : g * w = w * g := Int.mul_comm g w
  have h5 : w * g ≤ 12 * g := Int.mul_le_mul_of_nonneg_right hw.2 (by omega)
  omega
/-- its light -/
def jp_lt (h : ja_H) (w : Int) (k : Nat) (x y : Int) : Int := h.2.1 (k + 1) (y * w + x).toNat
theorem kX3_has {l : Launch} {d n k : Nat} {x y w g : Int} {h : ja_H} {Q : ja_Q} (hp : jp w g n k h) (q : Q (some (.inl (if (0 ≤ x ∧ x < w) ∧ 0 ≤ y ∧ y < g then 1 else 0))) h) : ja_C l (d + 1) mX3_has (js_sh n) [.inr (.inr (some k)), .inl x, .inl y] h Q := by
  obtain ⟨p1, p2, p3, p4, p5, p6, p7⟩ := hp
  exact eX3_has _ _ _ fun _ _ _ => jt_rZ (jv_cb (jd_eq (jd_and (jd_and (jd_and (jd_ge (jv_li rfl) jv_ci) (fun _ => (jd_lt (jv_li rfl) (jv_gF (jr_lr rfl) (by first | rfl | assumption) (by first | rfl | assumption))))) (fun _ => (jd_ge (jv_li rfl) jv_ci))) (fun _ => (jd_lt (jv_li rfl) (jv_gF (jr_lr rfl) (by first | rfl | assumption) (by first | rfl | assumption))))) (by omega))) q
theorem kX3_hasField {l : Launch} {d n k : Nat} {x y u v w g : Int} {h : ja_H} {Q : ja_Q} (hp : jp w g n k h) (q : Q (some (.inl (if ((0 ≤ x ∧ x < w) ∧ 0 ≤ y ∧ y < g) ∧ (1 ≤ u ∧ u ≤ w - x) ∧ 1 ≤ v ∧ v ≤ g - y then 1 else 0))) h) : ja_C l (d + 2) mX3_hasField (js_sh n) [.inr (.inr (some k)), .inl x, .inl y, .inl u, .inl v] h Q := by
  obtain ⟨p1, p2, p3, p4, p5, p6, p7⟩ := id hp
  exact eX3_hasField _ _ _ _ _ fun _ _ _ _ _ => jt_rZ (jv_cb (jd_eq (jd_and (jd_and (jd_b (jv_m2 (jr_lr rfl) (by first | rfl | assumption) (jv_li rfl) (jv_li rfl) fun _ => kX3_has hp)) (fun _ => (jd_b (jv_c3 (jv_li rfl) jv_ci (jv_w (jv_sub (jv_gF (jr_lr rfl) (by first | rfl | assumption) (by first | rfl | assumption)) (jv_li rfl)) (by first | omega | (unfold ja_r; omega) | (unfold ja_rl; omega) | assumption)) fun _ => kX11_within)))) (fun _ => (jd_b (jv_c3 (jv_li rfl) jv_ci (jv_w (jv_sub (jv_gF (jr_lr rfl) (by first | rfl | assumption) (by first | rfl | assumption)) (jv_li rfl)) (by first | omega | (unfold ja_r; omega) | (unfold ja_rl; omega) | assumption)) fun _ => kX11_within)))) (by omega))) q
theorem kX3_get {l : Launch} {d n k : Nat} {x y w g : Int} {h : ja_H} {Q : ja_Q} (hp : jp w g n k h) (q : Q (some (.inl (if (0 ≤ x ∧ x < w) ∧ 0 ≤ y ∧ y < g then jp_lt h w k x y else 0))) h) : ja_C l (d + 1) mX3_get (js_sh n) [.inr (.inr (some k)), .inl x, .inl y] h Q := by
  obtain ⟨p1, p2, p3, p4, p5, p6, p7, p8, p9, p10⟩ := id hp
  refine eX3_get _ _ _ fun _ _ _ => ?_
  unfold bX3_get
  refine jt_sI (x := if (0 ≤ x ∧ x < w) ∧ 0 ≤ y ∧ y < g then 1 else 0) (jv_cb (jd_eq (jd_and (jd_and (jd_and (jd_ge (jv_li rfl) jv_ci) (fun _ => (jd_lt (jv_li rfl) (jv_gF (jr_lr rfl) (by first | rfl | assumption) (by first | rfl | assumption))))) (fun _ => (jd_ge (jv_li rfl) jv_ci))) (fun _ => (jd_lt (jv_li rfl) (jv_gF (jr_lr rfl) (by first | rfl | assumption) (by first | rfl | assumption))))) (by omega))) ?_
  by_cases c : (0 ≤ x ∧ x < w) ∧ 0 ≤ y ∧ y < g
  · rw [if_pos c] at q ⊢
    have hx := jp_ix ⟨p7, p8⟩ ⟨p9, p10⟩ c.1 c.2
    exact jt_rI (jv_is (jv_cv (φ := True) (jd_eq (jd_bt (jv_li rfl)) (by simp)) (fun _ => (jv_aI (jr_g (jr_lr rfl) (by first | rfl | assumption) (by first | rfl | assumption)) (jv_w (jv_add (jv_w (jv_mul (jv_li rfl) (jv_gF (jr_lr rfl) (by first | rfl | assumption) (by first | rfl | assumption))) (by first | omega | (unfold ja_r; omega) | (unfold ja_rl; omega) | assumption)) (jv_li rfl)) (by first | omega | (unfold ja_r; omega) | (unfold ja_rl; omega) | assumption)) (by first | rfl | assumption) (by first | omega | (unfold ja_r; omega) | (unfold ja_rl; omega) | assumption) (by first | omega | (unfold ja_r; omega) | (unfold ja_rl; omega) | assumption))) (fun z => (z trivial).elim) (y := 0)) (if_pos trivial)) q
  · rw [if_neg c] at q ⊢
    exact jt_rI (jv_is (jv_cv (φ := False) (jd_eq (jd_bt (jv_li rfl)) (by simp)) (fun z => z.elim) (fun _ => jv_ci) (x := 0)) (if_neg id)) q
theorem kX3_put {l : Launch} {d n k : Nat} {x y v w g : Int} {h : ja_H} {Q : ja_Q} (hp : jp w g n k h) (q1 : (0 ≤ x ∧ x < w) ∧ 0 ≤ y ∧ y < g → Q none (h.1, ja_up h.2.1 (k + 1) (y * w + x).toNat v, h.2.2)) (q2 : ¬ ((0 ≤ x ∧ x < w) ∧ 0 ≤ y ∧ y < g) → Q none h) : ja_C l (d + 1) mX3_put (js_sh n) [.inr (.inr (some k)), .inl x, .inl y, .inl v] h Q := by
  obtain ⟨p1, p2, p3, p4, p5, p6, p7, p8, p9, p10⟩ := id hp
  refine eX3_put _ _ _ _ fun _ _ _ _ => ?_
  unfold bX3_put
  refine jt_sI (x := if (0 ≤ x ∧ x < w) ∧ 0 ≤ y ∧ y < g then 1 else 0) (jv_cb (jd_eq (jd_and (jd_and (jd_and (jd_ge (jv_li rfl) jv_ci) (fun _ => (jd_lt (jv_li rfl) (jv_gF (jr_lr rfl) (by first | rfl | assumption) (by first | rfl | assumption))))) (fun _ => (jd_ge (jv_li rfl) jv_ci))) (fun _ => (jd_lt (jv_li rfl) (jv_gF (jr_lr rfl) (by first | rfl | assumption) (by first | rfl | assumption))))) (by omega))) ?_
  refine jb_if_d (φ := (0 ≤ x ∧ x < w) ∧ 0 ≤ y ∧ y < g) (jd_b (jv_li rfl)) (fun c => ?_) (fun c => q2 c)
  have hx := jp_ix ⟨p7, p8⟩ ⟨p9, p10⟩ c.1 c.2
  exact jt_wI (jr_g (jr_lr rfl) (by first | rfl | assumption) (by first | rfl | assumption)) p2 (jv_w (jv_add (jv_w (jv_mul (jv_li rfl) (jv_gF (jr_lr rfl) (by first | rfl | assumption) (by first | rfl | assumption))) (by first | omega | (unfold ja_r; omega) | (unfold ja_rl; omega) | assumption)) (jv_li rfl)) (by first | omega | (unfold ja_r; omega) | (unfold ja_rl; omega) | assumption)) (jv_li rfl) (by omega) (by omega) (q1 c)
theorem jt_cp {sh : ja_S} {r1 r2 : ja_ER} {e1 e2 e3 : ja_EI} {L : ja_L} {h : ja_H} {N B C : ja_P} {R : ja_Q} {ks kd n0 n1 : Nat} {a b m : Int} (p1 : jr r1 L h (some ks)) (p2 : jv e1 L h a) (p3 : jr r2 L h (some kd)) (p4 : jv e2 L h b) (p5 : jv e3 L h m) (g1 : sh[ks]? = some (1, n0)) (g2 : sh[kd]? = some (1, n1)) (h1 : 0 ≤ a) (h2 : 0 ≤ b) (h3 : 0 ≤ m) (h4 : a + m ≤ (n0 : Nat)) (h5 : b + m ≤ (n1 : Nat)) (w : N L (h.1, ja_cp h.2.1 ks a.toNat kd b.toNat m.toNat, h.2.2)) : jb_cp sh r1 e1 r2 e2 e3 N B C R L h := p1 _ (p2 _ (p3 _ (p4 _ (p5 _ ⟨ks, kd, n0, n1, rfl, rfl, g1, g2, h1, h2, h3, h4, h5, w⟩))))
theorem kJ9_min {l : Launch} {d : Nat} {sh : ja_S} {x y : Int} {h : ja_H} {Q : ja_Q} (q : Q (some (.inl (min x y))) h) : ja_C l (d + 1) mJ9_min_7cf53 sh [.inl x, .inl y] h Q :=
  eJ9_min_7cf53 _ _ fun _ _ _ => jt_rI (jv_is (jv_cv (φ := x ≤ y) (jd_le (jv_li rfl) (jv_li rfl)) (fun _ => jv_li rfl) (fun _ => jv_li rfl)) (by rw [Int.min_def])) q
theorem kJ9_max {l : Launch} {d : Nat} {sh : ja_S} {x y : Int} {h : ja_H} {Q : ja_Q} (q : Q (some (.inl (max x y))) h) : ja_C l (d + 1) mJ9_max_7cf53 sh [.inl x, .inl y] h Q :=
  eJ9_max_7cf53 _ _ fun _ _ _ => jt_rI (jv_is (jv_cv (φ := y ≤ x) (jd_ge (jv_li rfl) (jv_li rfl)) (fun _ => jv_li rfl) (fun _ => jv_li rfl)) (by rw [Int.max_def]; split <;> split <;> omega)) q
theorem kJ9_abs {l : Launch} {d : Nat} {sh : ja_S} {v : Int} {h : ja_H} {Q : ja_Q} (hv : v ≠ -2147483648) (q : Q (some (.inl v.natAbs)) h) : ja_C l (d + 1) mJ9_abs_0f7a4 sh [.inl v] h Q := by
  refine eJ9_abs_0f7a4 _ fun r _ => jt_rI (x := v.natAbs) ?_ q
  unfold ja_r at r
  refine jv_is (jv_cv (φ := v < 0) (x := -v) (y := v) (jd_lt (jv_li rfl) jv_ci) (fun _ => jv_w (jv_neg (jv_li rfl)) (by unfold ja_r; omega)) (fun _ => jv_li rfl)) ?_
  split <;> omega
theorem kX3_become {l : Launch} {d n k ko : Nat} {w g : Int} {h : ja_H} {Q : ja_Q} (hp : jp w g n k h) (ho : jp w g n ko h) (q : Q none (h.1, ja_cp h.2.1 (ko + 1) 0 (k + 1) 0 n, h.2.2)) : ja_C l (d + 2) mX3_become (js_sh n) [.inr (.inr (some k)), .inr (.inr (some ko))] h Q := by
  obtain ⟨p1, p2, p3, p4, p5, p6, p7, p8, p9, p10⟩ := id hp
  obtain ⟨o1, o2, o3, o4, o5, o6, o7, o8, o9, o10⟩ := id ho
  have hn := (jp_ix ⟨p7, p8⟩ ⟨p9, p10⟩ (x := 0) (y := 0) (by omega) (by omega)).2.2
  refine eX3_become _ _ fun _ => ?_
  unfold bX3_become
  refine jb_if_d (φ := False) (jd_eq (jd_isn (jr_lr rfl)) (by simp)) (fun c => c.elim) (fun _ => ?_)
  refine jt_sI (x := (n : Int)) (jv_is (jv_c2 (jv_len (jr_g (jr_lr rfl) p1 p3) p2 (by omega)) (jv_len (jr_g (jr_lr rfl) o1 o3) o2 (by omega)) fun _ => kJ9_min) (by omega)) ?_
  refine jt_cp (jr_g (jr_lr rfl) o1 o3) jv_ci (jr_g (jr_lr rfl) p1 p3) jv_ci (jv_li rfl) o2 p2 (by decide) (by decide) (by omega) (by omega) (by omega) ?_
  exact q
theorem kX3_getI {l : Launch} {d n k : Nat} {x y w g : Int} {h : ja_H} {Q : ja_Q} (hp : jp w g n k h) (hx : 0 ≤ x ∧ x < w) (hy : 0 ≤ y ∧ y < g) (q : Q (some (.inl (jp_lt h w k x y))) h) : ja_C l (d + 1) mX3_get (js_sh n) [.inr (.inr (some k)), .inl x, .inl y] h Q := kX3_get hp (by rw [if_pos ⟨hx, hy⟩]; exact q)
