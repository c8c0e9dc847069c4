/-! sums over a field -/
def r1 (F : Int → Int → Int) (x j : Int) : Nat → Int
  | 0 => 0
  | k + 1 => r1 F x j k + F (x + k) j
def r2 (F : Int → Int → Int) (x y : Int) (u : Nat) : Nat → Int
  | 0 => 0
  | m + 1 => r2 F x y u m + r1 F x (y + m) u
theorem r1_s {F : Int → Int → Int} {x j : Int} {k : Nat} : r1 F x j (k + 1) = r1 F x j k + F (x + (k : Nat)) j := rfl
theorem r2_s {F : Int → Int → Int} {x y : Int} {u m : Nat} : r2 F x y u (m + 1) = r2 F x y u m + r1 F x (y + (m : Nat)) u := rfl
theorem r1_b {F : Int → Int → Int} {B : Int} (h : ∀ i j, 0 ≤ F i j ∧ F i j ≤ B) (x j : Int) : ∀ k : Nat, 0 ≤ r1 F x j k ∧ r1 F x j k ≤ B * k
  | 0 => by simp [r1]
  | k + 1 => by
    have ih := r1_b h x j k
    have hf := h (x + k) j
    have e : B * ((k + 1 : Nat) : Int) = B * k + B := by rw [show ((k + 1 : Nat) : Int) = (k : Int) + 1 by omega, Int.mul_add, Int.mul_one]
    simp only [r1]; omega
theorem r2_b {F : Int → Int → Int} {B : Int} (hB : 0 ≤ B ∧ B ≤ 99) (h : ∀ i j, 0 ≤ F i j ∧ F i j ≤ B) (x y : Int) {u : Nat} (hu : u ≤ 12) : ∀ m : Nat, 0 ≤ r2 F x y u m ∧ r2 F x y u m ≤ B * 12 * m
  | 0 => by simp [r2]
  | m + 1 => by
    have ih := r2_b hB h x y hu m
    have hr := r1_b h x (y + m) u
    have e1 : B * (u : Int) ≤ B * 12 := Int.mul_le_mul_of_nonneg_left (by omega) hB.1
    have e : B * 12 * ((m + 1 : Nat) : Int) = B * 12 * m + B * 12 := by rw [show ((m + 1 : Nat) : Int) = (m : Int) + 1 by omega, Int.mul_add, Int.mul_one]
    simp only [r2]; omega
theorem r1_0 {F : Int → Int → Int} {x j : Int} : ∀ k : Nat, (∀ i : Nat, i < k → F (x + i) j = 0) → r1 F x j k = 0
  | 0, _ => rfl
  | k + 1, h => by simp only [r1, r1_0 k (fun i hi => h i (by omega)), h k (by omega)]; omega
/-- squares: the step at i, j, whether it counts at offset o -/
def sqI (x y : Int) (e : Int) (o i j : Int) : Prop := if e ≠ 0 then y < j ∧ j % 4 = o else x < i ∧ i % 4 = o
def sqD (lt : Int → Int → Int) (e i j : Int) : Int := ((lt i j - (if e ≠ 0 then lt i (j - 1) else lt (i - 1) j)).natAbs : Int)
theorem sqI_d (x y e o i j : Int) : sqI x y e o i j ∨ ¬ sqI x y e o i j := Classical.em _
noncomputable def sqS (lt : Int → Int → Int) (x y e o : Int) : Int → Int → Int := fun i j => @ite _ (sqI x y e o i j) (Classical.propDecidable _) (sqD lt e i j) 0
noncomputable def sqN (x y e o : Int) : Int → Int → Int := fun i j => @ite _ (sqI x y e o i j) (Classical.propDecidable _) 1 0
theorem sqS_t {lt : Int → Int → Int} {x y e o i j : Int} (h : sqI x y e o i j) : sqS lt x y e o i j = sqD lt e i j := if_pos h
theorem sqS_f {lt : Int → Int → Int} {x y e o i j : Int} (h : ¬ sqI x y e o i j) : sqS lt x y e o i j = 0 := if_neg h
theorem sqN_t {x y e o i j : Int} (h : sqI x y e o i j) : sqN x y e o i j = 1 := if_pos h
theorem sqN_f {x y e o i j : Int} (h : ¬ sqI x y e o i j) : sqN x y e o i j = 0 := if_neg h
theorem sqD_b {lt : Int → Int → Int} (h : ∀ x y, 0 ≤ lt x y ∧ lt x y ≤ 99) (e i j : Int) : 0 ≤ sqD lt e i j ∧ sqD lt e i j ≤ 99 := by
  unfold sqD
  have a := h i j
  have b := h i (j - 1)
  have c := h (i - 1) j
  split <;> omega
theorem sqS_b {lt : Int → Int → Int} (h : ∀ x y, 0 ≤ lt x y ∧ lt x y ≤ 99) (x y e o : Int) : ∀ i j, 0 ≤ sqS lt x y e o i j ∧ sqS lt x y e o i j ≤ 99 := by
  intro i j
  have b := sqD_b h e i j
  rcases sqI_d x y e o i j with z | z
  · rw [sqS_t z]; exact b
  · rw [sqS_f z]; omega
theorem sqN_b (x y e o : Int) : ∀ i j, 0 ≤ sqN x y e o i j ∧ sqN x y e o i j ≤ 1 := by
  intro i j
  rcases sqI_d x y e o i j with z | z
  · rw [sqN_t z]; omega
  · rw [sqN_f z]; omega
/-- the best of the offsets -/
def sqB (S N : Nat → Int) : Nat → Int
  | 0 => -1
  | i + 1 => if 0 < N i ∧ (sqB S N i = -1 ∨ S (sqB S N i).toNat * N i < S i * N (sqB S N i).toNat) then (i : Int) else sqB S N i
theorem sqB_b (S N : Nat → Int) : ∀ i : Nat, -1 ≤ sqB S N i ∧ sqB S N i < i
  | 0 => by simp [sqB]
  | i + 1 => by have := sqB_b S N i; simp only [sqB]; split <;> omega
theorem jpx_fr {h : ja_H} {f : Nat → Nat → Int} {w g : Int} {k : Nat} (e : f (k + 1) = h.2.1 (k + 1)) : jpx (h.1, f, h.2.2) w g k = jpx h w g k := by
  funext x y
  unfold jpx jp_lt
  show (if _ then f (k + 1) _ else 0) = _
  rw [e]
noncomputable def sqF (lt : Int → Int → Int) (x y u v e : Int) : Int := sqB (fun o => r2 (sqS lt x y e (o : Nat)) x y u.toNat v.toNat) (fun o => r2 (sqN x y e (o : Nat)) x y u.toNat v.toNat) 4
set_option maxRecDepth 10000 in
theorem kX0_addPair {l : Launch} {d : Nat} {h : ja_H} {Q : ja_Q} {n : Nat} {p s a b : Int} (hG : jG h.1) (hp : 0 ≤ p ∧ p ≤ 100) (hs : 0 ≤ s ∧ s ≤ 99) (ha : h.2.1 42 (p % 4).toNat = a) (hb : h.2.1 43 (p % 4).toNat = b) (ba : 0 ≤ a ∧ a ≤ 100000) (bb : 0 ≤ b ∧ b ≤ 100000) (q : Q none (h.1, ja_up (ja_up h.2.1 42 (p % 4).toNat (a + s)) 43 (p % 4).toNat (b + 1), h.2.2)) : ja_C l (d + 2) mX0_addPair (js_sh n) [.inr (.inr (some (40))), .inl (p), .inl (s)] h Q := by
  refine eX0_addPair _ _ _ fun r_place r_step ho => ?_
  unfold bX0_addPair
  unfold ja_r at r_place r_step
  refine jt_sI (x := p % 4) (jv_is (jy_sI (jA_i (jA_i jA_0 (jv_li rfl)) jv_ci) fun _ => kJ9_floorMod (by first | (unfold ja_r; omega) | (unfold ja_rl; omega) | omega | assumption)) (by rfl)) ?_
  refine jt_uB (w := a + s) (jr_g (jr_lr rfl) (by first | rfl | assumption) (by first | rfl | assumption | exact jG_at hG rfl | exact jG_90 hG rfl)) (by first | rfl | assumption) (jv_li rfl) (by first | (unfold ja_r; omega) | (unfold ja_rl; omega) | omega | assumption) (by first | (unfold ja_r; omega) | (unfold ja_rl; omega) | omega | assumption) (jv_li rfl) (by (try dsimp only); rw [ha, ja_w_id (by unfold ja_r; omega)]) ?_
  try dsimp only
  refine jt_uB (w := b + 1) (jr_g (jr_lr rfl) (by first | rfl | assumption) (by first | rfl | assumption | exact jG_at hG rfl | exact jG_90 hG rfl)) (by first | rfl | assumption) (jv_li rfl) (by first | (unfold ja_r; omega) | (unfold ja_rl; omega) | omega | assumption) (by first | (unfold ja_r; omega) | (unfold ja_rl; omega) | omega | assumption) jv_ci (by (try dsimp only); rw [ja_upO (by omega), hb, ja_w_id (by unfold ja_r; omega)]) ?_
  try dsimp only
  exact q
set_option maxRecDepth 10000 in
theorem kX0_steepest {l : Launch} {d : Nat} {h : ja_H} {Q : ja_Q} {n : Nat} {S N : Nat → Int} (hG : jG h.1) (hS : ∀ o, o < 4 → h.2.1 42 o = S o) (hN : ∀ o, o < 4 → h.2.1 43 o = N o) (bS : ∀ o, o < 4 → 0 ≤ S o ∧ S o ≤ 14256) (bN : ∀ o, o < 4 → 0 ≤ N o ∧ N o ≤ 144) (q : Q (some (.inl (sqB S N 4))) h) : ja_C l (d + 1) mX0_steepest (js_sh n) [.inr (.inr (some (40)))] h Q := by
  refine eX0_steepest _ fun ho => ?_
  unfold bX0_steepest
  refine jt_sI jv_ci ?_
  refine jt_sI jv_ci ?_
  refine jb_forc (4) (fun (i : Nat) L' h' => ∃ (v_best : Int) (v_i : Int), L' = [some (.inr (.inr (some (40)))), some (.inl (v_best)), some (.inl (v_i))] ∧ v_best = sqB S N i ∧ v_i = (i : Int) ∧ h = h') ⟨_, _, rfl, (by first | rfl | omega | (simp; done) | (simp; omega)), (by first | rfl | omega | (simp; done) | (simp; omega)), rfl⟩ ?_ ?_ ?_
  · rintro i h_i _ _ ⟨v_best0, v_i0, rfl, rfl, rfl, rfl⟩
    exact jd_eq (jd_lt (jv_li rfl) jv_ci) (by omega)
  · rintro i h_i _ _ ⟨v_best0, v_i0, rfl, rfl, rfl, rfl⟩
    have e1 : h.2.1 42 ((i : Nat) : Int).toNat = S i := hS i h_i
    have e2 : h.2.1 43 ((i : Nat) : Int).toNat = N i := hN i h_i
    have bb := sqB_b S N i
    have b1 := bS i h_i
    have b2 := bN i h_i
    refine jb_if_d (φ := 0 < N i ∧ (sqB S N i = -1 ∨ S (sqB S N i).toNat * N i < S i * N (sqB S N i).toNat)) (jd_eq (jd_and (jd_gt (jv_fI (jr_g (jr_lr rfl) rfl (jG_at hG rfl)) (jv_li rfl) rfl (by omega) (by omega) e2) jv_ci) (fun _ => (jd_or (jd_eqI (jv_li rfl) jv_ci) (fun z => (jd_gt (jv_w (jv_mul (jv_fI (jr_g (jr_lr rfl) rfl (jG_at hG rfl)) (jv_li rfl) rfl (by omega) (by omega) e1) (jv_fI (jr_g (jr_lr rfl) rfl (jG_at hG rfl)) (jv_li rfl) rfl (by omega) (by omega) (hN (sqB S N i).toNat (by omega)))) (by have m := jmb (a := S i) (b := N (sqB S N i).toNat) (A := 14256) (B := 144) (by omega) (by have := bN (sqB S N i).toNat (by omega); omega); unfold ja_r; omega)) (jv_w (jv_mul (jv_fI (jr_g (jr_lr rfl) rfl (jG_at hG rfl)) (jv_li rfl) rfl (by omega) (by omega) (hS (sqB S N i).toNat (by omega))) (jv_fI (jr_g (jr_lr rfl) rfl (jG_at hG rfl)) (jv_li rfl) rfl (by omega) (by omega) e2)) (by have m := jmb (a := S (sqB S N i).toNat) (b := N i) (A := 14256) (B := 144) (by have := bS (sqB S N i).toNat (by omega); omega) (by omega); unfold ja_r; omega))))))) (by exact Iff.rfl)) (fun c1 => ?_) (fun c1 => ?_)
    · refine jt_sI (jv_li rfl) ?_
      exact jt_inc rfl (by first | (unfold ja_r; omega) | (unfold ja_rl; omega) | omega | assumption) ⟨_, _, rfl, (by simp only [sqB]; first | rw [if_pos c1] | rw [if_neg c1]), (by first | rfl | omega | (simp; done) | (simp; omega)), rfl⟩
    · exact jt_inc rfl (by first | (unfold ja_r; omega) | (unfold ja_rl; omega) | omega | assumption) ⟨_, _, rfl, (by simp only [sqB]; first | rw [if_pos c1] | rw [if_neg c1]), (by first | rfl | omega | (simp; done) | (simp; omega)), rfl⟩
  · rintro _ _ ⟨v_best0, v_i0, rfl, rfl, rfl, rfl⟩
    refine jt_rI (jv_li rfl) ?_
    exact q
set_option maxRecDepth 10000 in
theorem kX0_steepestOffset1 {l : Launch} {d : Nat} {h : ja_H} {Q : ja_Q} {n k0 : Nat} {x y u v w g : Int} {lt : Int → Int → Int} (hG : jG h.1) (hp : jp w g n k0 h) (hk : k0 ≠ 42 ∧ k0 ≠ 43 ∧ k0 + 1 ≠ 42 ∧ k0 + 1 ≠ 43) (hlt : jpx h w g k0 = lt) (hb : ∀ x y, 0 ≤ lt x y ∧ lt x y ≤ 99) (hx : 0 ≤ x ∧ x + u ≤ 12) (hy : 0 ≤ y ∧ y + v ≤ 12) (hu : 4 ≤ u) (hv : 4 ≤ v) (q : ∀ f, jfr [42, 43] h.2.1 f → Q (some (.inl (sqF lt x y u v 1))) (h.1, f, h.2.2)) : ja_C l (d + 3) mX0_steepestOffset (js_sh n) [.inr (.inr (some (40))), .inr (.inr (some k0)), .inl (x), .inl (y), .inl (u), .inl (v), .inl (1)] h Q := by
  refine eX0_steepestOffset _ _ _ _ _ _ _ fun r_x r_y r_w r_h r_inY ho => ?_
  unfold bX0_steepestOffset
  unfold ja_r at r_x r_y r_w r_h r_inY
  refine jt_sI jv_ci ?_
  refine jb_forc (4) (fun (i : Nat) L' h' => ∃ (v_i : Int) (o2_8 : Option ja_W) (o2_9 : Option ja_W) (f : Nat → Nat → Int), L' = [some (.inr (.inr (some (40)))), some (.inr (.inr (some k0))), some (.inl (x)), some (.inl (y)), some (.inl (u)), some (.inl (v)), some (.inl (1)), some (.inl (v_i)), o2_8, o2_9] ∧ v_i = (i : Int) ∧ (h.1, f, h.2.2) = h' ∧ (jfr [42, 43] h.2.1 f) ∧ (∀ o, o < i → f 42 o = 0 ∧ f 43 o = 0)) ⟨_, _, _, _, rfl, (by first | rfl | omega | (simp; done) | (simp; omega)), rfl, (by exact jfr_rf _ _), (by intro o ho; omega)⟩ ?_ ?_ ?_
  · rintro i h_i _ _ ⟨v_i0, o2_8, o2_9, f, rfl, rfl, rfl, fr, f1⟩
    exact jd_eq (jd_lt (jv_li rfl) jv_ci) (by omega)
  · rintro i h_i _ _ ⟨v_i0, o2_8, o2_9, f, rfl, rfl, rfl, fr, f1⟩
    refine jt_wI (jr_g (jr_lr rfl) (by first | rfl | assumption) (by first | rfl | assumption | exact jG_at hG rfl | exact jG_90 hG rfl)) (by first | rfl | assumption) (jv_li rfl) jv_ci (by first | (unfold ja_r; omega) | (unfold ja_rl; omega) | omega | assumption) (by first | (unfold ja_r; omega) | (unfold ja_rl; omega) | omega | assumption) ?_
    try dsimp only
    refine jt_wI (jr_g (jr_lr rfl) (by first | rfl | assumption) (by first | rfl | assumption | exact jG_at hG rfl | exact jG_90 hG rfl)) (by first | rfl | assumption) (jv_li rfl) jv_ci (by first | (unfold ja_r; omega) | (unfold ja_rl; omega) | omega | assumption) (by first | (unfold ja_r; omega) | (unfold ja_rl; omega) | omega | assumption) ?_
    try dsimp only
    exact jt_inc rfl (by first | (unfold ja_r; omega) | (unfold ja_rl; omega) | omega | assumption) ⟨_, _, _, _, rfl, (by first | rfl | omega | (simp; done) | (simp; omega)), rfl, (by exact jfr_up (jfr_up fr (by decide)) (by decide)), (by intro o ho; by_cases z : o = i; subst z; exact ⟨by rw [ja_upO (by omega), ja_upE rfl (by omega)], by rw [ja_upE rfl (by omega)]⟩; rw [ja_upO (by omega), ja_upO (by omega), ja_upO (by omega), ja_upO (by omega)]; exact f1 o (by omega))⟩
  · rintro _ _ ⟨v_i0, o2_8, o2_9, f, rfl, rfl, rfl, fr, f1⟩
    refine jt_sI (x := y + ((0 + 1 : Nat) : Int)) (jv_is (jv_cv (jd_bt (jv_li rfl)) (fun _ => (jv_w (jv_add (jv_li rfl) jv_ci) (by first | (unfold ja_r; omega) | (unfold ja_rl; omega) | omega | assumption))) (fun _ => (jv_li rfl))) (by simp)) ?_
    refine jb_forc (v.toNat - 1) (fun (m : Nat) L' h' => ∃ (v_cy : Int) (o6_8 : Option ja_W) (o6_9 : Option ja_W) (f : Nat → Nat → Int), L' = [some (.inr (.inr (some (40)))), some (.inr (.inr (some k0))), some (.inl (x)), some (.inl (y)), some (.inl (u)), some (.inl (v)), some (.inl (1)), some (.inl (v_cy)), o6_8, o6_9] ∧ v_cy = y + ((m + 1 : Nat) : Int) ∧ (h.1, f, h.2.2) = h' ∧ (jfr [42, 43] h.2.1 f) ∧ (∀ o, o < 4 → f 42 o = r2 (sqS lt x y 1 (o : Nat)) x y u.toNat (m + 1) ∧ f 43 o = r2 (sqN x y 1 (o : Nat)) x y u.toNat (m + 1))) ⟨_, _, _, _, rfl, (by first | rfl | omega | (simp; done) | (simp; omega)), rfl, (by exact fr), (by 
          intro o ho
          rw [(f1 o ho).1, (f1 o ho).2]
          simp only [r2]
          exact ⟨by rw [r1_0 _ (fun i hi => sqS_f (by unfold sqI; simp))]; rfl, by rw [r1_0 _ (fun i hi => sqN_f (by unfold sqI; simp))]; rfl⟩)⟩ ?_ ?_ ?_
    · rintro m h_m _ _ ⟨v_cy0, o6_8, o6_9, f, rfl, rfl, rfl, fr, f1⟩
      exact jd_eq (jd_lt (jv_li rfl) (jv_w (jv_add (jv_li rfl) (jv_li rfl)) (by first | (unfold ja_r; omega) | (unfold ja_rl; omega) | omega | assumption))) (by omega)
    · rintro m h_m _ _ ⟨v_cy0, o6_8, o6_9, f, rfl, rfl, rfl, fr, f1⟩
      refine jt_sI (x := x + ((0 : Nat) : Int)) (jv_is (jv_cv (jd_bt (jv_li rfl)) (fun _ => (jv_li rfl)) (fun _ => (jv_w (jv_add (jv_li rfl) jv_ci) (by first | (unfold ja_r; omega) | (unfold ja_rl; omega) | omega | assumption)))) (by simp)) ?_
      refine jb_forc (u.toNat) (fun (k : Nat) L' h' => ∃ (v_cx : Int) (o8_9 : Option ja_W) (g0 : Nat → Nat → Int), L' = [some (.inr (.inr (some (40)))), some (.inr (.inr (some k0))), some (.inl (x)), some (.inl (y)), some (.inl (u)), some (.inl (v)), some (.inl (1)), some (.inl (y + ((m + 1 : Nat) : Int))), some (.inl (v_cx)), o8_9] ∧ v_cx = x + ((k : Nat) : Int) ∧ (h.1, g0, h.2.2) = h' ∧ (jfr [42, 43] h.2.1 g0) ∧ (∀ o, o < 4 → g0 42 o = r2 (sqS lt x y 1 (o : Nat)) x y u.toNat (m + 1) + r1 (sqS lt x y 1 (o : Nat)) x (y + ((m + 1 : Nat) : Int)) (k) ∧ g0 43 o = r2 (sqN x y 1 (o : Nat)) x y u.toNat (m + 1) + r1 (sqN x y 1 (o : Nat)) x (y + ((m + 1 : Nat) : Int)) (k))) ⟨_, _, _, rfl, (by first | rfl | omega | (simp; done) | (simp; omega)), rfl, (by exact fr), (by 
            intro o ho
            rw [(f1 o ho).1, (f1 o ho).2]
            simp [r1])⟩ ?_ ?_ ?_
      · rintro k h_k _ _ ⟨v_cx0, o8_9, g0, rfl, rfl, rfl, gr, g1⟩
        exact jd_eq (jd_lt (jv_li rfl) (jv_w (jv_add (jv_li rfl) (jv_li rfl)) (by first | (unfold ja_r; omega) | (unfold ja_rl; omega) | omega | assumption))) (by omega)
      · rintro k h_k _ _ ⟨v_cx0, o8_9, g0, rfl, rfl, rfl, gr, g1⟩
        have hpf : jp w g n k0 (h.1, g0, h.2.2) := jp_up hp (gr _ (by simp <;> omega))
        have hltf : jpx (h.1, g0, h.2.2) w g k0 = lt := by rw [jpx_fr (gr _ (by simp <;> omega))]; exact hlt
        have lb := sqD_b hb 1 (x + ((k : Nat) : Int)) (y + ((m + 1 : Nat) : Int))
        have po : 0 ≤ (y + ((m + 1 : Nat) : Int)) % 4 ∧ (y + ((m + 1 : Nat) : Int)) % 4 < 4 := by omega
        obtain ⟨ga, gb⟩ := g1 ((y + ((m + 1 : Nat) : Int)) % 4).toNat (by omega)
        have bs1 := r2_b (by decide) (sqS_b hb x y 1 (((y + ((m + 1 : Nat) : Int)) % 4).toNat : Nat)) x y (u := u.toNat) (by omega) (m + 1)
        have bs2 := r1_b (sqS_b hb x y 1 (((y + ((m + 1 : Nat) : Int)) % 4).toNat : Nat)) x (y + ((m + 1 : Nat) : Int)) (k)
        have bn1 := r2_b (by decide) (sqN_b x y 1 (((y + ((m + 1 : Nat) : Int)) % 4).toNat : Nat)) x y (u := u.toNat) (by omega) (m + 1)
        have bn2 := r1_b (sqN_b x y 1 (((y + ((m + 1 : Nat) : Int)) % 4).toNat : Nat)) x (y + ((m + 1 : Nat) : Int)) (k)
        refine jt_sI (x := lt (x + ((k : Nat) : Int)) ((y + ((m + 1 : Nat) : Int)) - 1)) (jv_is (jv_cv (jd_bt (jv_li rfl)) (fun _ => (jy_mI (jr_lr rfl) hp.1 (jA_i (jA_i jA_0 (jv_li rfl)) (jv_w (jv_sub (jv_li rfl) jv_ci) (by first | (unfold ja_r; omega) | (unfold ja_rl; omega) | omega | assumption))) fun _ => kX3_getX hpf)) (fun _ => (jy_mI (jr_lr rfl) hp.1 (jA_i (jA_i jA_0 (jv_w (jv_sub (jv_li rfl) jv_ci) (by first | (unfold ja_r; omega) | (unfold ja_rl; omega) | omega | assumption))) (jv_li rfl)) fun _ => kX3_getX hpf))) (by rw [hltf]; simp)) ?_
        have l1 := hb (x + ((k : Nat) : Int)) (y + ((m + 1 : Nat) : Int))
        have l2 := hb (x + ((k : Nat) : Int)) ((y + ((m + 1 : Nat) : Int)) - 1)
        refine jx_m (jr_lr rfl) rfl (jA_i (jA_i jA_0 (jv_is (x' := (y + ((m + 1 : Nat) : Int))) (jv_cv (jd_bt (jv_li rfl)) (fun _ => (jv_li rfl)) (fun _ => (jv_li rfl))) (by simp))) (jv_is (x' := sqD lt 1 (x + ((k : Nat) : Int)) (y + ((m + 1 : Nat) : Int))) (jy_sI (jA_i jA_0 (jv_w (jv_sub (jv_is (x' := lt (x + ((k : Nat) : Int)) (y + ((m + 1 : Nat) : Int))) (jy_mI (jr_lr rfl) hp.1 (jA_i (jA_i jA_0 (jv_li rfl)) (jv_li rfl)) fun _ => kX3_getX hpf) (by rw [hltf])) (jv_li rfl)) (by first | (unfold ja_r; omega) | (unfold ja_rl; omega) | omega | assumption))) fun _ => kJ9_abs (by first | (unfold ja_r; omega) | (unfold ja_rl; omega) | omega | assumption)) (by unfold sqD; simp))) (kX0_addPair (h := (h.1, g0, h.2.2)) hG (by omega) lb ga gb (by omega) (by omega) ⟨rfl, ?_⟩)
        try dsimp only
        exact jt_inc rfl (by first | (unfold ja_r; omega) | (unfold ja_rl; omega) | omega | assumption) ⟨_, _, _, rfl, (by first | rfl | omega | (simp; done) | (simp; omega)), rfl, (by exact jfr_up (jfr_up gr (by decide)) (by decide)), (by 
              intro o ho
              rw [show k + 1 = (k) + 1 by omega, r1_s (F := sqS lt x y 1 (o : Nat)) (k := k), r1_s (F := sqN x y 1 (o : Nat)) (k := k)]
              by_cases z : o = ((y + ((m + 1 : Nat) : Int)) % 4).toNat
              · have zi : sqI x y 1 (o : Nat) (x + ((k : Nat) : Int)) (y + ((m + 1 : Nat) : Int)) := by unfold sqI; simp; omega
                rw [sqS_t zi, sqN_t zi]
                subst z
                exact ⟨by rw [ja_upO (by omega), ja_upE rfl rfl]; omega, by rw [ja_upE rfl rfl]; omega⟩
              · have zi : ¬ sqI x y 1 (o : Nat) (x + ((k : Nat) : Int)) (y + ((m + 1 : Nat) : Int)) := by unfold sqI; simp; omega
                rw [sqS_f zi, sqN_f zi, ja_upO (by omega), ja_upO (by omega), ja_upO (by omega), ja_upO (by omega)]
                have := g1 o ho
                omega)⟩
      · rintro _ _ ⟨v_cx0, o8_9, g0, rfl, rfl, rfl, gr, g1⟩
        exact jt_inc rfl (by first | (unfold ja_r; omega) | (unfold ja_rl; omega) | omega | assumption) ⟨_, _, _, _, rfl, (by first | rfl | omega | (simp; done) | (simp; omega)), rfl, (by exact gr), (by 
              intro o ho
              have hh := g1 o ho
              skip
              rw [hh.1, hh.2, show m + 1 + 1 = (m + 1) + 1 by omega]
              exact ⟨r2_s.symm, r2_s.symm⟩)⟩
    · rintro _ _ ⟨v_cy0, o6_8, o6_9, f, rfl, rfl, rfl, fr, f1⟩
      rw [show v.toNat - 1 + 1 = v.toNat by omega] at f1
      refine jt_rI (jy_mI (jr_lr rfl) rfl jA_0 fun _ => kX0_steepest (h := (h.1, f, h.2.2)) hG (fun o ho => (f1 o ho).1) (fun o ho => (f1 o ho).2) (fun o ho => by have := r2_b (by decide) (sqS_b hb x y 1 (o : Nat)) x y (u := u.toNat) (by omega) v.toNat; omega) (fun o ho => by have := r2_b (by decide) (sqN_b x y 1 (o : Nat)) x y (u := u.toNat) (by omega) v.toNat; omega)) ?_
      exact q f fr
set_option maxRecDepth 10000 in
theorem kX0_steepestOffset0 {l : Launch} {d : Nat} {h : ja_H} {Q : ja_Q} {n k0 : Nat} {x y u v w g : Int} {lt : Int → Int → Int} (hG : jG h.1) (hp : jp w g n k0 h) (hk : k0 ≠ 42 ∧ k0 ≠ 43 ∧ k0 + 1 ≠ 42 ∧ k0 + 1 ≠ 43) (hlt : jpx h w g k0 = lt) (hb : ∀ x y, 0 ≤ lt x y ∧ lt x y ≤ 99) (hx : 0 ≤ x ∧ x + u ≤ 12) (hy : 0 ≤ y ∧ y + v ≤ 12) (hu : 4 ≤ u) (hv : 4 ≤ v) (q : ∀ f, jfr [42, 43] h.2.1 f → Q (some (.inl (sqF lt x y u v 0))) (h.1, f, h.2.2)) : ja_C l (d + 3) mX0_steepestOffset (js_sh n) [.inr (.inr (some (40))), .inr (.inr (some k0)), .inl (x), .inl (y), .inl (u), .inl (v), .inl (0)] h Q := by
  refine eX0_steepestOffset _ _ _ _ _ _ _ fun r_x r_y r_w r_h r_inY ho => ?_
  unfold bX0_steepestOffset
  unfold ja_r at r_x r_y r_w r_h r_inY
  refine jt_sI jv_ci ?_
  refine jb_forc (4) (fun (i : Nat) L' h' => ∃ (v_i : Int) (o2_8 : Option ja_W) (o2_9 : Option ja_W) (f : Nat → Nat → Int), L' = [some (.inr (.inr (some (40)))), some (.inr (.inr (some k0))), some (.inl (x)), some (.inl (y)), some (.inl (u)), some (.inl (v)), some (.inl (0)), some (.inl (v_i)), o2_8, o2_9] ∧ v_i = (i : Int) ∧ (h.1, f, h.2.2) = h' ∧ (jfr [42, 43] h.2.1 f) ∧ (∀ o, o < i → f 42 o = 0 ∧ f 43 o = 0)) ⟨_, _, _, _, rfl, (by first | rfl | omega | (simp; done) | (simp; omega)), rfl, (by exact jfr_rf _ _), (by intro o ho; omega)⟩ ?_ ?_ ?_
  · rintro i h_i _ _ ⟨v_i0, o2_8, o2_9, f, rfl, rfl, rfl, fr, f1⟩
    exact jd_eq (jd_lt (jv_li rfl) jv_ci) (by omega)
  · rintro i h_i _ _ ⟨v_i0, o2_8, o2_9, f, rfl, rfl, rfl, fr, f1⟩
    refine jt_wI (jr_g (jr_lr rfl) (by first | rfl | assumption) (by first | rfl | assumption | exact jG_at hG rfl | exact jG_90 hG rfl)) (by first | rfl | assumption) (jv_li rfl) jv_ci (by first | (unfold ja_r; omega) | (unfold ja_rl; omega) | omega | assumption) (by first | (unfold ja_r; omega) | (unfold ja_rl; omega) | omega | assumption) ?_
    try dsimp only
    refine jt_wI (jr_g (jr_lr rfl) (by first | rfl | assumption) (by first | rfl | assumption | exact jG_at hG rfl | exact jG_90 hG rfl)) (by first | rfl | assumption) (jv_li rfl) jv_ci (by first | (unfold ja_r; omega) | (unfold ja_rl; omega) | omega | assumption) (by first | (unfold ja_r; omega) | (unfold ja_rl; omega) | omega | assumption) ?_
    try dsimp only
    exact jt_inc rfl (by first | (unfold ja_r; omega) | (unfold ja_rl; omega) | omega | assumption) ⟨_, _, _, _, rfl, (by first | rfl | omega | (simp; done) | (simp; omega)), rfl, (by exact jfr_up (jfr_up fr (by decide)) (by decide)), (by intro o ho; by_cases z : o = i; subst z; exact ⟨by rw [ja_upO (by omega), ja_upE rfl (by omega)], by rw [ja_upE rfl (by omega)]⟩; rw [ja_upO (by omega), ja_upO (by omega), ja_upO (by omega), ja_upO (by omega)]; exact f1 o (by omega))⟩
  · rintro _ _ ⟨v_i0, o2_8, o2_9, f, rfl, rfl, rfl, fr, f1⟩
    refine jt_sI (x := y + ((0 : Nat) : Int)) (jv_is (jv_cv (jd_bt (jv_li rfl)) (fun _ => (jv_w (jv_add (jv_li rfl) jv_ci) (by first | (unfold ja_r; omega) | (unfold ja_rl; omega) | omega | assumption))) (fun _ => (jv_li rfl))) (by simp)) ?_
    refine jb_forc (v.toNat) (fun (m : Nat) L' h' => ∃ (v_cy : Int) (o6_8 : Option ja_W) (o6_9 : Option ja_W) (f : Nat → Nat → Int), L' = [some (.inr (.inr (some (40)))), some (.inr (.inr (some k0))), some (.inl (x)), some (.inl (y)), some (.inl (u)), some (.inl (v)), some (.inl (0)), some (.inl (v_cy)), o6_8, o6_9] ∧ v_cy = y + ((m : Nat) : Int) ∧ (h.1, f, h.2.2) = h' ∧ (jfr [42, 43] h.2.1 f) ∧ (∀ o, o < 4 → f 42 o = r2 (sqS lt x y 0 (o : Nat)) x y u.toNat (m) ∧ f 43 o = r2 (sqN x y 0 (o : Nat)) x y u.toNat (m))) ⟨_, _, _, _, rfl, (by first | rfl | omega | (simp; done) | (simp; omega)), rfl, (by exact fr), (by 
          intro o ho
          rw [(f1 o ho).1, (f1 o ho).2]
          exact ⟨rfl, rfl⟩)⟩ ?_ ?_ ?_
    · rintro m h_m _ _ ⟨v_cy0, o6_8, o6_9, f, rfl, rfl, rfl, fr, f1⟩
      exact jd_eq (jd_lt (jv_li rfl) (jv_w (jv_add (jv_li rfl) (jv_li rfl)) (by first | (unfold ja_r; omega) | (unfold ja_rl; omega) | omega | assumption))) (by omega)
    · rintro m h_m _ _ ⟨v_cy0, o6_8, o6_9, f, rfl, rfl, rfl, fr, f1⟩
      refine jt_sI (x := x + ((0 + 1 : Nat) : Int)) (jv_is (jv_cv (jd_bt (jv_li rfl)) (fun _ => (jv_li rfl)) (fun _ => (jv_w (jv_add (jv_li rfl) jv_ci) (by first | (unfold ja_r; omega) | (unfold ja_rl; omega) | omega | assumption)))) (by simp)) ?_
      refine jb_forc (u.toNat - 1) (fun (k : Nat) L' h' => ∃ (v_cx : Int) (o8_9 : Option ja_W) (g0 : Nat → Nat → Int), L' = [some (.inr (.inr (some (40)))), some (.inr (.inr (some k0))), some (.inl (x)), some (.inl (y)), some (.inl (u)), some (.inl (v)), some (.inl (0)), some (.inl (y + ((m : Nat) : Int))), some (.inl (v_cx)), o8_9] ∧ v_cx = x + ((k + 1 : Nat) : Int) ∧ (h.1, g0, h.2.2) = h' ∧ (jfr [42, 43] h.2.1 g0) ∧ (∀ o, o < 4 → g0 42 o = r2 (sqS lt x y 0 (o : Nat)) x y u.toNat (m) + r1 (sqS lt x y 0 (o : Nat)) x (y + ((m : Nat) : Int)) (k + 1) ∧ g0 43 o = r2 (sqN x y 0 (o : Nat)) x y u.toNat (m) + r1 (sqN x y 0 (o : Nat)) x (y + ((m : Nat) : Int)) (k + 1))) ⟨_, _, _, rfl, (by first | rfl | omega | (simp; done) | (simp; omega)), rfl, (by exact fr), (by 
            intro o ho
            rw [(f1 o ho).1, (f1 o ho).2]
            simp only [r1]
            rw [sqS_f (by unfold sqI; simp), sqN_f (by unfold sqI; simp)]
            omega)⟩ ?_ ?_ ?_
      · rintro k h_k _ _ ⟨v_cx0, o8_9, g0, rfl, rfl, rfl, gr, g1⟩
        exact jd_eq (jd_lt (jv_li rfl) (jv_w (jv_add (jv_li rfl) (jv_li rfl)) (by first | (unfold ja_r; omega) | (unfold ja_rl; omega) | omega | assumption))) (by omega)
      · rintro k h_k _ _ ⟨v_cx0, o8_9, g0, rfl, rfl, rfl, gr, g1⟩
        have hpf : jp w g n k0 (h.1, g0, h.2.2) := jp_up hp (gr _ (by simp <;> omega))
        have hltf : jpx (h.1, g0, h.2.2) w g k0 = lt := by rw [jpx_fr (gr _ (by simp <;> omega))]; exact hlt
        have lb := sqD_b hb 0 (x + ((k + 1 : Nat) : Int)) (y + ((m : Nat) : Int))
        have po : 0 ≤ (x + ((k + 1 : Nat) : Int)) % 4 ∧ (x + ((k + 1 : Nat) : Int)) % 4 < 4 := by omega
        obtain ⟨ga, gb⟩ := g1 ((x + ((k + 1 : Nat) : Int)) % 4).toNat (by omega)
        have bs1 := r2_b (by decide) (sqS_b hb x y 0 (((x + ((k + 1 : Nat) : Int)) % 4).toNat : Nat)) x y (u := u.toNat) (by omega) (m)
        have bs2 := r1_b (sqS_b hb x y 0 (((x + ((k + 1 : Nat) : Int)) % 4).toNat : Nat)) x (y + ((m : Nat) : Int)) (k + 1)
        have bn1 := r2_b (by decide) (sqN_b x y 0 (((x + ((k + 1 : Nat) : Int)) % 4).toNat : Nat)) x y (u := u.toNat) (by omega) (m)
        have bn2 := r1_b (sqN_b x y 0 (((x + ((k + 1 : Nat) : Int)) % 4).toNat : Nat)) x (y + ((m : Nat) : Int)) (k + 1)
        refine jt_sI (x := lt ((x + ((k + 1 : Nat) : Int)) - 1) (y + ((m : Nat) : Int))) (jv_is (jv_cv (jd_bt (jv_li rfl)) (fun _ => (jy_mI (jr_lr rfl) hp.1 (jA_i (jA_i jA_0 (jv_li rfl)) (jv_w (jv_sub (jv_li rfl) jv_ci) (by first | (unfold ja_r; omega) | (unfold ja_rl; omega) | omega | assumption))) fun _ => kX3_getX hpf)) (fun _ => (jy_mI (jr_lr rfl) hp.1 (jA_i (jA_i jA_0 (jv_w (jv_sub (jv_li rfl) jv_ci) (by first | (unfold ja_r; omega) | (unfold ja_rl; omega) | omega | assumption))) (jv_li rfl)) fun _ => kX3_getX hpf))) (by rw [hltf]; simp)) ?_
        have l1 := hb (x + ((k + 1 : Nat) : Int)) (y + ((m : Nat) : Int))
        have l2 := hb ((x + ((k + 1 : Nat) : Int)) - 1) (y + ((m : Nat) : Int))
        refine jx_m (jr_lr rfl) rfl (jA_i (jA_i jA_0 (jv_is (x' := (x + ((k + 1 : Nat) : Int))) (jv_cv (jd_bt (jv_li rfl)) (fun _ => (jv_li rfl)) (fun _ => (jv_li rfl))) (by simp))) (jv_is (x' := sqD lt 0 (x + ((k + 1 : Nat) : Int)) (y + ((m : Nat) : Int))) (jy_sI (jA_i jA_0 (jv_w (jv_sub (jv_is (x' := lt (x + ((k + 1 : Nat) : Int)) (y + ((m : Nat) : Int))) (jy_mI (jr_lr rfl) hp.1 (jA_i (jA_i jA_0 (jv_li rfl)) (jv_li rfl)) fun _ => kX3_getX hpf) (by rw [hltf])) (jv_li rfl)) (by first | (unfold ja_r; omega) | (unfold ja_rl; omega) | omega | assumption))) fun _ => kJ9_abs (by first | (unfold ja_r; omega) | (unfold ja_rl; omega) | omega | assumption)) (by unfold sqD; simp))) (kX0_addPair (h := (h.1, g0, h.2.2)) hG (by omega) lb ga gb (by omega) (by omega) ⟨rfl, ?_⟩)
        try dsimp only
        exact jt_inc rfl (by first | (unfold ja_r; omega) | (unfold ja_rl; omega) | omega | assumption) ⟨_, _, _, rfl, (by first | rfl | omega | (simp; done) | (simp; omega)), rfl, (by exact jfr_up (jfr_up gr (by decide)) (by decide)), (by 
              intro o ho
              rw [show k + 1 + 1 = (k + 1) + 1 by omega, r1_s (F := sqS lt x y 0 (o : Nat)) (k := k + 1), r1_s (F := sqN x y 0 (o : Nat)) (k := k + 1)]
              by_cases z : o = ((x + ((k + 1 : Nat) : Int)) % 4).toNat
              · have zi : sqI x y 0 (o : Nat) (x + ((k + 1 : Nat) : Int)) (y + ((m : Nat) : Int)) := by unfold sqI; simp; omega
                rw [sqS_t zi, sqN_t zi]
                subst z
                exact ⟨by rw [ja_upO (by omega), ja_upE rfl rfl]; omega, by rw [ja_upE rfl rfl]; omega⟩
              · have zi : ¬ sqI x y 0 (o : Nat) (x + ((k + 1 : Nat) : Int)) (y + ((m : Nat) : Int)) := by unfold sqI; simp; omega
                rw [sqS_f zi, sqN_f zi, ja_upO (by omega), ja_upO (by omega), ja_upO (by omega), ja_upO (by omega)]
                have := g1 o ho
                omega)⟩
      · rintro _ _ ⟨v_cx0, o8_9, g0, rfl, rfl, rfl, gr, g1⟩
        exact jt_inc rfl (by first | (unfold ja_r; omega) | (unfold ja_rl; omega) | omega | assumption) ⟨_, _, _, _, rfl, (by first | rfl | omega | (simp; done) | (simp; omega)), rfl, (by exact gr), (by 
              intro o ho
              have hh := g1 o ho
              rw [show u.toNat - 1 + 1 = u.toNat by omega] at hh
              rw [hh.1, hh.2, show m + 1 = (m) + 1 by omega]
              exact ⟨r2_s.symm, r2_s.symm⟩)⟩
    · rintro _ _ ⟨v_cy0, o6_8, o6_9, f, rfl, rfl, rfl, fr, f1⟩
      skip
      refine jt_rI (jy_mI (jr_lr rfl) rfl jA_0 fun _ => kX0_steepest (h := (h.1, f, h.2.2)) hG (fun o ho => (f1 o ho).1) (fun o ho => (f1 o ho).2) (fun o ho => by have := r2_b (by decide) (sqS_b hb x y 0 (o : Nat)) x y (u := u.toNat) (by omega) v.toNat; omega) (fun o ho => by have := r2_b (by decide) (sqN_b x y 0 (o : Nat)) x y (u := u.toNat) (by omega) v.toNat; omega)) ?_
      exact q f fr
