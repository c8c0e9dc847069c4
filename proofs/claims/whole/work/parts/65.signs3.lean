/-! the reference's lamps -/
theorem jG_90 {R : Nat → Nat → Option Nat} (hG : jG R) {j r : Nat} (e : jm_ref j = some r) : R 90 j = some r := by rw [hG.2]; exact e
theorem jv_fI {L : ja_L} {h : ja_H} {r : ja_ER} {e : ja_EI} {x y : Int} {sh : ja_S} {k n : Nat} (p : jr r L h (some k)) (q : jv e L h x) (hk : sh[k]? = some (1, n)) (h0 : 0 ≤ x) (h1 : x < (n : Nat)) (e' : h.2.1 k x.toNat = y) : jv (jb_aI sh r e) L h y := jv_is (jv_aI p q hk h0 h1) e'
theorem jv_fZ {L : ja_L} {h : ja_H} {r : ja_ER} {e : ja_EI} {x y : Int} {sh : ja_S} {k n : Nat} (p : jr r L h (some k)) (q : jv e L h x) (hk : sh[k]? = some (2, n)) (h0 : 0 ≤ x) (h1 : x < (n : Nat)) (e' : h.2.1 k x.toNat = y) : jv (jb_aZ sh r e) L h y := jv_is (jv_aZ p q hk h0 h1) e'
set_option maxRecDepth 10000 in
theorem kX12_lampX {l : Launch} {d : Nat} {h : ja_H} {Q : ja_Q} {sh : ja_S} {v : Int} (hv : 0 ≤ v ∧ v < 726) (q : Q (some (.inl (lx v))) h) : ja_C l (d + 1) mX12_lampX sh [.inl (v)] h Q := by
  refine eX12_lampX _ fun r_q ho => ?_
  unfold bX12_lampX
  unfold ja_r at r_q
  refine jt_rI (x := lx v) (jv_is (jv_w (jv_sub (jv_remP (jv_li rfl) jv_ci (by first | (unfold ja_r; omega) | (unfold ja_rl; omega) | omega | assumption) (by first | (unfold ja_r; omega) | (unfold ja_rl; omega) | omega | assumption)) jv_ci) (by first | (unfold ja_r; omega) | (unfold ja_rl; omega) | omega | assumption)) (by rfl)) ?_
  exact q
set_option maxRecDepth 10000 in
theorem kX12_lampY {l : Launch} {d : Nat} {h : ja_H} {Q : ja_Q} {sh : ja_S} {v : Int} (hv : 0 ≤ v ∧ v < 726) (q : Q (some (.inl (ly v))) h) : ja_C l (d + 1) mX12_lampY sh [.inl (v)] h Q := by
  refine eX12_lampY _ fun r_q ho => ?_
  unfold bX12_lampY
  unfold ja_r at r_q
  refine jt_rI (x := ly v) (jv_is (jv_w (jv_sub (jv_remP (jv_divP (jv_li rfl) jv_ci (by first | (unfold ja_r; omega) | (unfold ja_rl; omega) | omega | assumption) (by first | (unfold ja_r; omega) | (unfold ja_rl; omega) | omega | assumption) (by first | (unfold ja_r; omega) | (unfold ja_rl; omega) | omega | assumption)) jv_ci (by first | (unfold ja_r; omega) | (unfold ja_rl; omega) | omega | assumption) (by first | (unfold ja_r; omega) | (unfold ja_rl; omega) | omega | assumption)) jv_ci) (by first | (unfold ja_r; omega) | (unfold ja_rl; omega) | omega | assumption)) (by rfl)) ?_
  exact q
set_option maxRecDepth 10000 in
theorem kX12_lampH {l : Launch} {d : Nat} {h : ja_H} {Q : ja_Q} {sh : ja_S} {v : Int} (hv : 0 ≤ v ∧ v < 726) (q : Q (some (.inl (lh v))) h) : ja_C l (d + 1) mX12_lampH sh [.inl (v)] h Q := by
  refine eX12_lampH _ fun r_q ho => ?_
  unfold bX12_lampH
  unfold ja_r at r_q
  refine jt_rI (x := lh v) (jv_is (jv_w (jv_add (jv_divP (jv_li rfl) jv_ci (by first | (unfold ja_r; omega) | (unfold ja_rl; omega) | omega | assumption) (by first | (unfold ja_r; omega) | (unfold ja_rl; omega) | omega | assumption) (by first | (unfold ja_r; omega) | (unfold ja_rl; omega) | omega | assumption)) jv_ci) (by first | (unfold ja_r; omega) | (unfold ja_rl; omega) | omega | assumption)) (by rfl)) ?_
  exact q
set_option maxRecDepth 10000 in
theorem kX12_told {l : Launch} {d : Nat} {h : ja_H} {Q : ja_Q} {sh : ja_S} {v : Int} (hv : 0 ≤ v ∧ v < 726) (q : Q (some (.inl (ltold v))) h) : ja_C l (d + 2) mX12_told sh [.inl (v)] h Q := by
  have b := l_b hv
  refine eX12_told _ fun r_q ho => ?_
  unfold bX12_told
  unfold ja_r at r_q
  refine jt_rI (x := ltold v) (jv_is (jv_w (jv_add (jv_w (jv_add (jv_w (jv_add (jv_w (jv_mul jv_ci (jy_sI (jA_i jA_0 (jv_li rfl)) fun _ => kX12_lampH (by first | (unfold ja_r; omega) | (unfold ja_rl; omega) | omega | assumption))) (by first | (unfold ja_r; omega) | (unfold ja_rl; omega) | omega | assumption)) (jv_w (jv_mul jv_ci (jv_w (jv_add (jy_sI (jA_i jA_0 (jv_li rfl)) fun _ => kX12_lampY (by first | (unfold ja_r; omega) | (unfold ja_rl; omega) | omega | assumption)) jv_ci) (by first | (unfold ja_r; omega) | (unfold ja_rl; omega) | omega | assumption))) (by first | (unfold ja_r; omega) | (unfold ja_rl; omega) | omega | assumption))) (by first | (unfold ja_r; omega) | (unfold ja_rl; omega) | omega | assumption)) (jy_sI (jA_i jA_0 (jv_li rfl)) fun _ => kX12_lampX (by first | (unfold ja_r; omega) | (unfold ja_rl; omega) | omega | assumption))) (by first | (unfold ja_r; omega) | (unfold ja_rl; omega) | omega | assumption)) jv_ci) (by first | (unfold ja_r; omega) | (unfold ja_rl; omega) | omega | assumption)) (by rfl)) ?_
  exact q
set_option maxRecDepth 10000 in
theorem kX12_countBits {l : Launch} {d : Nat} {h : ja_H} {Q : ja_Q} {sh : ja_S} {v : Int} (q : Q (some (.inl (pcn v 20))) h) : ja_C l (d + 1) mX12_countBits sh [.inl (v)] h Q := by
  refine eX12_countBits _ fun r_set ho => ?_
  unfold bX12_countBits
  unfold ja_r at r_set
  refine jt_sI jv_ci ?_
  refine jt_sI jv_ci ?_
  refine jb_forc (20) (fun (i : Nat) L' h' => ∃ (v_n : Int) (v_k : Int), L' = [some (.inl (v)), some (.inl (v_n)), some (.inl (v_k))] ∧ v_n = ((pcn v i : Nat) : Int) ∧ v_k = (i : Int) ∧ h = h') ⟨_, _, rfl, (by first | rfl | omega | (simp; done) | (simp; omega)), (by first | rfl | omega | (simp; done) | (simp; omega)), rfl⟩ ?_ ?_ ?_
  · rintro i h_i _ _ ⟨v_n0, v_k0, rfl, rfl, rfl, rfl⟩
    exact jd_eq (jd_lt (jv_li rfl) jv_ci) (by omega)
  · rintro i h_i _ _ ⟨v_n0, v_k0, rfl, rfl, rfl, rfl⟩
    have pb := pcn_le v i
    refine jt_sI (x := ((pcn v (i + 1) : Nat) : Int)) (jv_is (jv_add (jv_li rfl) (jv_and (jv_shr (jv_li rfl) (jv_li rfl)) jv_ci)) (by rw [ja_bit (by omega)]; simp only [pcn]; split <;> rw [ja_w_id (by unfold ja_r; omega)] <;> omega)) ?_
    exact jt_inc rfl (by first | (unfold ja_r; omega) | (unfold ja_rl; omega) | omega | assumption) ⟨_, _, rfl, (by first | rfl | omega | (simp; done) | (simp; omega)), (by first | rfl | omega | (simp; done) | (simp; omega)), rfl⟩
  · rintro _ _ ⟨v_n0, v_k0, rfl, rfl, rfl, rfl⟩
    refine jt_rI (jv_li rfl) ?_
    exact q
def shP (hgh ex ey side dx dy ht f : Int) : Prop := ((100 * ht * ex + dx * hgh * f).natAbs : Int) ≤ 100 * ht * side ∧ ((100 * ht * ey + dy * hgh * f).natAbs : Int) ≤ 100 * ht * side
def shD (hgh ex ey low most side dx dy ht : Int) : Int := if max (nL (100 * ht * ex) (dx * hgh) (100 * ht * side) low) (nL (100 * ht * ey) (dy * hgh) (100 * ht * side) low) ≤ min (nG (100 * ht * ex) (dx * hgh) (100 * ht * side) most) (nG (100 * ht * ey) (dy * hgh) (100 * ht * side) most) then 1 else 0
theorem shD_1 {hgh ex ey low most side dx dy ht f : Int} (h1 : low ≤ f) (h2 : f ≤ most) (h3 : most ≤ 300) (hP : shP hgh ex ey side dx dy ht f) : shD hgh ex ey low most side dx dy ht = 1 := by
  have a := (n_iff h1 h2 (by omega)).mp hP.1
  have b := (n_iff h1 h2 (by omega)).mp hP.2
  unfold shD
  rw [if_pos (by omega)]
theorem nL_ge {tip pull slack low : Int} (h : low ≤ 300) : low ≤ nL tip pull slack low := by
  unfold nL; repeat' split <;> omega
theorem nG_le {tip pull slack high : Int} : nG tip pull slack high ≤ high := by
  unfold nG; split <;> omega
theorem shD_0 {hgh ex ey low most side dx dy ht : Int} (h2 : low ≤ 300) (h3 : most ≤ 300) (hP : ∀ f, low ≤ f → f ≤ most → ¬ shP hgh ex ey side dx dy ht f) : shD hgh ex ey low most side dx dy ht = 0 := by
  unfold shD
  rw [if_neg]
  intro z
  have g1 := nL_ge (tip := 100 * ht * ex) (pull := dx * hgh) (slack := 100 * ht * side) h2
  have g2 := nG_le (tip := 100 * ht * ex) (pull := dx * hgh) (slack := 100 * ht * side) (high := most)
  have g3 := nG_le (tip := 100 * ht * ey) (pull := dy * hgh) (slack := 100 * ht * side) (high := most)
  generalize hu : nL (100 * ht * ex) (dx * hgh) (100 * ht * side) low = u at *
  generalize hv : nL (100 * ht * ey) (dy * hgh) (100 * ht * side) low = v at *
  refine hP (max u v) (by omega) (by omega) ⟨?_, ?_⟩
  · exact (n_iff (low := low) (high := most) (by omega) (by omega) (by omega)).mpr ⟨by omega, by omega⟩
  · exact (n_iff (low := low) (high := most) (by omega) (by omega) (by omega)).mpr ⟨by omega, by omega⟩
def shOk (a : Nat → Int) (k : Nat) : Prop := (1 ≤ a (740 + 6 * k) ∧ a (740 + 6 * k) ≤ 99) ∧ (-99 ≤ a (741 + 6 * k) ∧ a (741 + 6 * k) ≤ 99) ∧ (-99 ≤ a (742 + 6 * k) ∧ a (742 + 6 * k) ≤ 99) ∧ (1 ≤ a (743 + 6 * k) ∧ a (743 + 6 * k) ≤ 300) ∧ (a (743 + 6 * k) ≤ a (744 + 6 * k) ∧ a (744 + 6 * k) ≤ 300) ∧ 0 ≤ a (745 + 6 * k) ∧ a (745 + 6 * k) ≤ 20
set_option maxRecDepth 10000 in
theorem kX12_shadowLets {l : Launch} {d : Nat} {h : ja_H} {Q : ja_Q} {n k : Nat} {a : Nat → Int} {dx dy ht : Int} (hG : jG h.1) (ha : h.2.1 91 = a) (hk : k < 12) (hok : shOk a k) (b1 : -5 ≤ dx ∧ dx ≤ 5) (b2 : -5 ≤ dy ∧ dy ≤ 5) (b3 : 1 ≤ ht ∧ ht ≤ 6) (q : Q (some (.inl (shD (a (740 + 6 * k)) (a (741 + 6 * k)) (a (742 + 6 * k)) (a (743 + 6 * k)) (a (744 + 6 * k)) (a (745 + 6 * k)) dx dy ht))) h) : ja_C l (d + 2) mX12_shadowLets (js_sh n) [.inr (.inr (some (90))), .inl ((k : Int)), .inl (dx), .inl (dy), .inl (ht)] h Q := by
  have e0 : h.2.1 91 (740 + 6 * (k : Int)).toNat = a (740 + 6 * k) := by rw [ha]; congr 1
  have e1 : h.2.1 91 (740 + 6 * (k : Int) + 1).toNat = a (741 + 6 * k) := by rw [ha]; congr 1; omega
  have e2 : h.2.1 91 (740 + 6 * (k : Int) + 2).toNat = a (742 + 6 * k) := by rw [ha]; congr 1; omega
  have e3 : h.2.1 91 (740 + 6 * (k : Int) + 3).toNat = a (743 + 6 * k) := by rw [ha]; congr 1; omega
  have e4 : h.2.1 91 (740 + 6 * (k : Int) + 4).toNat = a (744 + 6 * k) := by rw [ha]; congr 1; omega
  have e5 : h.2.1 91 (740 + 6 * (k : Int) + 5).toNat = a (745 + 6 * k) := by rw [ha]; congr 1; omega
  obtain ⟨c0, c1, c2, c3, c4, c5⟩ := hok
  generalize a (740 + 6 * k) = hgh at *
  generalize a (741 + 6 * k) = ex at *
  generalize a (742 + 6 * k) = ey at *
  generalize a (743 + 6 * k) = low at *
  generalize a (744 + 6 * k) = most at *
  generalize a (745 + 6 * k) = side at *
  have m1 := jmb (a := 100 * ht) (b := ex) (A := 600) (B := 99) (by omega) (by omega)
  have m2 := jmb (a := 100 * ht) (b := ey) (A := 600) (B := 99) (by omega) (by omega)
  have m3 := jmb (a := 100 * ht) (b := side) (A := 600) (B := 20) (by omega) (by omega)
  have m4 := jmb (a := dx) (b := hgh) (A := 5) (B := 99) (by omega) (by omega)
  have m5 := jmb (a := dy) (b := hgh) (A := 5) (B := 99) (by omega) (by omega)
  refine eX12_shadowLets _ _ _ _ _ fun r_k r_dx r_dy r_h ho => ?_
  unfold bX12_shadowLets
  unfold ja_r at r_k r_dx r_dy r_h
  refine jt_sI (x := 740 + 6 * (k : Int)) (jv_is (jv_w (jv_add jv_ci (jv_w (jv_mul jv_ci (jv_li rfl)) (by first | (unfold ja_r; omega) | (unfold ja_rl; omega) | omega | assumption))) (by first | (unfold ja_r; omega) | (unfold ja_rl; omega) | omega | assumption)) (by rfl)) ?_
  refine jt_sI (x := 100 * ht * side) (jv_is (jv_w (jv_mul (jv_w (jv_mul jv_ci (jv_li rfl)) (by first | (unfold ja_r; omega) | (unfold ja_rl; omega) | omega | assumption)) (jv_fI (jr_g (jr_lr rfl) (by first | rfl | assumption) (by first | rfl | assumption | exact jG_at hG rfl | exact jG_90 hG rfl)) (jv_w (jv_add (jv_li rfl) jv_ci) (by first | (unfold ja_r; omega) | (unfold ja_rl; omega) | omega | assumption)) (by first | rfl | assumption) (by first | (unfold ja_r; omega) | (unfold ja_rl; omega) | omega | assumption) (by first | (unfold ja_r; omega) | (unfold ja_rl; omega) | omega | assumption) (by first | assumption | rfl))) (by first | (unfold ja_r; omega) | (unfold ja_rl; omega) | omega | assumption)) (by rfl)) ?_
  refine jt_sI (x := low + ((0 : Nat) : Int)) (jv_is (jv_fI (jr_g (jr_lr rfl) (by first | rfl | assumption) (by first | rfl | assumption | exact jG_at hG rfl | exact jG_90 hG rfl)) (jv_w (jv_add (jv_li rfl) jv_ci) (by first | (unfold ja_r; omega) | (unfold ja_rl; omega) | omega | assumption)) (by first | rfl | assumption) (by first | (unfold ja_r; omega) | (unfold ja_rl; omega) | omega | assumption) (by first | (unfold ja_r; omega) | (unfold ja_rl; omega) | omega | assumption) (by first | assumption | rfl)) (by omega)) ?_
  refine jb_forc ((most - low + 1).toNat) (fun (i : Nat) L' h' => ∃ (v_f : Int), L' = [some (.inr (.inr (some (90)))), some (.inl ((k : Int))), some (.inl (dx)), some (.inl (dy)), some (.inl (ht)), some (.inl (740 + 6 * (k : Int))), some (.inl (100 * ht * side)), some (.inl (v_f))] ∧ v_f = low + (i : Int) ∧ h = h' ∧ (∀ j : Nat, j < i → ¬ shP hgh ex ey side dx dy ht (low + (j : Int)))) ⟨_, rfl, (by first | rfl | omega | (simp; done) | (simp; omega)), rfl, (by intro j hj; omega)⟩ ?_ ?_ ?_
  · rintro i h_i _ _ ⟨v_f0, rfl, rfl, rfl, no⟩
    exact jd_eq (jd_le (jv_li rfl) (jv_fI (jr_g (jr_lr rfl) (by first | rfl | assumption) (by first | rfl | assumption | exact jG_at hG rfl | exact jG_90 hG rfl)) (jv_w (jv_add (jv_li rfl) jv_ci) (by first | (unfold ja_r; omega) | (unfold ja_rl; omega) | omega | assumption)) (by first | rfl | assumption) (by first | (unfold ja_r; omega) | (unfold ja_rl; omega) | omega | assumption) (by first | (unfold ja_r; omega) | (unfold ja_rl; omega) | omega | assumption) (by first | assumption | rfl))) (by omega)
  · rintro i h_i _ _ ⟨v_f0, rfl, rfl, rfl, no⟩
    have m6 := jmb (a := dx * hgh) (b := low + (i : Int)) (A := 495) (B := 300) (by omega) (by omega)
    have m7 := jmb (a := dy * hgh) (b := low + (i : Int)) (A := 495) (B := 300) (by omega) (by omega)
    refine jb_if_d (jd_and (jd_le (jy_sI (jA_i jA_0 (jv_w (jv_add (jv_w (jv_mul (jv_w (jv_mul jv_ci (jv_li rfl)) (by first | (unfold ja_r; omega) | (unfold ja_rl; omega) | omega | assumption)) (jv_fI (jr_g (jr_lr rfl) (by first | rfl | assumption) (by first | rfl | assumption | exact jG_at hG rfl | exact jG_90 hG rfl)) (jv_w (jv_add (jv_li rfl) jv_ci) (by first | (unfold ja_r; omega) | (unfold ja_rl; omega) | omega | assumption)) (by first | rfl | assumption) (by first | (unfold ja_r; omega) | (unfold ja_rl; omega) | omega | assumption) (by first | (unfold ja_r; omega) | (unfold ja_rl; omega) | omega | assumption) (by first | assumption | rfl))) (by first | (unfold ja_r; omega) | (unfold ja_rl; omega) | omega | assumption)) (jv_w (jv_mul (jv_w (jv_mul (jv_li rfl) (jv_fI (jr_g (jr_lr rfl) (by first | rfl | assumption) (by first | rfl | assumption | exact jG_at hG rfl | exact jG_90 hG rfl)) (jv_li rfl) (by first | rfl | assumption) (by first | (unfold ja_r; omega) | (unfold ja_rl; omega) | omega | assumption) (by first | (unfold ja_r; omega) | (unfold ja_rl; omega) | omega | assumption) (by first | assumption | rfl))) (by first | (unfold ja_r; omega) | (unfold ja_rl; omega) | omega | assumption)) (jv_li rfl)) (by first | (unfold ja_r; omega) | (unfold ja_rl; omega) | omega | assumption))) (by first | (unfold ja_r; omega) | (unfold ja_rl; omega) | omega | assumption))) fun _ => kX12_abs (by first | (unfold ja_r; omega) | (unfold ja_rl; omega) | omega | assumption)) (jv_li rfl)) (fun _ => (jd_le (jy_sI (jA_i jA_0 (jv_w (jv_add (jv_w (jv_mul (jv_w (jv_mul jv_ci (jv_li rfl)) (by first | (unfold ja_r; omega) | (unfold ja_rl; omega) | omega | assumption)) (jv_fI (jr_g (jr_lr rfl) (by first | rfl | assumption) (by first | rfl | assumption | exact jG_at hG rfl | exact jG_90 hG rfl)) (jv_w (jv_add (jv_li rfl) jv_ci) (by first | (unfold ja_r; omega) | (unfold ja_rl; omega) | omega | assumption)) (by first | rfl | assumption) (by first | (unfold ja_r; omega) | (unfold ja_rl; omega) | omega | assumption) (by first | (unfold ja_r; omega) | (unfold ja_rl; omega) | omega | assumption) (by first | assumption | rfl))) (by first | (unfold ja_r; omega) | (unfold ja_rl; omega) | omega | assumption)) (jv_w (jv_mul (jv_w (jv_mul (jv_li rfl) (jv_fI (jr_g (jr_lr rfl) (by first | rfl | assumption) (by first | rfl | assumption | exact jG_at hG rfl | exact jG_90 hG rfl)) (jv_li rfl) (by first | rfl | assumption) (by first | (unfold ja_r; omega) | (unfold ja_rl; omega) | omega | assumption) (by first | (unfold ja_r; omega) | (unfold ja_rl; omega) | omega | assumption) (by first | assumption | rfl))) (by first | (unfold ja_r; omega) | (unfold ja_rl; omega) | omega | assumption)) (jv_li rfl)) (by first | (unfold ja_r; omega) | (unfold ja_rl; omega) | omega | assumption))) (by first | (unfold ja_r; omega) | (unfold ja_rl; omega) | omega | assumption))) fun _ => kX12_abs (by first | (unfold ja_r; omega) | (unfold ja_rl; omega) | omega | assumption)) (jv_li rfl)))) (fun c1 => ?_) (fun c1 => ?_)
    · have c6 : shP hgh ex ey side dx dy ht (low + (i : Int)) := c1
      refine jv_ci _ ⟨Or.inr rfl, ?_⟩
      rw [shD_1 (f := low + (i : Int)) (by omega) (by omega) (by omega) c6] at q
      exact q
    · have c6 : ¬ shP hgh ex ey side dx dy ht (low + (i : Int)) := c1
      exact jt_inc rfl (by first | (unfold ja_r; omega) | (unfold ja_rl; omega) | omega | assumption) ⟨_, rfl, (by first | rfl | omega | (simp; done) | (simp; omega)), rfl, (by intro j hj; by_cases z : j = i; subst z; exact c6; exact no j (by omega))⟩
  · rintro _ _ ⟨v_f0, rfl, rfl, rfl, no⟩
    refine jv_ci _ ⟨Or.inl rfl, ?_⟩
    rw [shD_0 (by omega) (by omega) (fun f h1 h2 => by have z := no (f - low).toNat (by omega); rw [show low + ((f - low).toNat : Int) = f by omega] at z; exact z)] at q
    exact q
set_option maxRecDepth 10000 in
theorem kX12_azimuth {l : Launch} {d : Nat} {h : ja_H} {Q : ja_Q} {sh : ja_S} {x y : Int} (hx : -5 ≤ x ∧ x ≤ 5) (hy : -5 ≤ y ∧ y ≤ 5) (q : Q (some (.inl (azi x y))) h) : ja_C l (d + 2) mX12_azimuth sh [.inl (x), .inl (y)] h Q := by
  obtain ⟨a, ha⟩ : ∃ a : Int, (x.natAbs : Int) = a := ⟨_, rfl⟩
  obtain ⟨b, hb⟩ : ∃ b : Int, (y.natAbs : Int) = b := ⟨_, rfl⟩
  unfold azi at q
  rw [ha, hb] at q
  have hab : 0 ≤ a ∧ a ≤ 5 ∧ 0 ≤ b ∧ b ≤ 5 := by omega
  refine eX12_azimuth _ _ fun r_dx r_dy ho => ?_
  unfold bX12_azimuth
  unfold ja_r at r_dx r_dy
  refine jt_sI (x := a) (jv_is (jy_sI (jA_i jA_0 (jv_li rfl)) fun _ => kX12_abs (by first | (unfold ja_r; omega) | (unfold ja_rl; omega) | omega | assumption)) (by exact ha)) ?_
  refine jt_sI (x := b) (jv_is (jy_sI (jA_i jA_0 (jv_li rfl)) fun _ => kX12_abs (by first | (unfold ja_r; omega) | (unfold ja_rl; omega) | omega | assumption)) (by exact hb)) ?_
  refine jb_if_d (jd_and (jd_eqI (jv_li rfl) jv_ci) (fun _ => (jd_eqI (jv_li rfl) jv_ci))) (fun c1 => ?_) (fun c1 => ?_)
  · rw [if_pos c1] at q
    refine jt_rI jv_ci ?_
    exact q
  · rw [if_neg c1] at q
    refine jb_if_d (jd_lt (jv_w (jv_mul jv_ci (jv_li rfl)) (by first | (unfold ja_r; omega) | (unfold ja_rl; omega) | omega | assumption)) (jv_li rfl)) (fun c2 => ?_) (fun c2 => ?_)
    · rw [if_pos c2] at q
      refine jt_rI (jv_cv (jd_gt (jv_li rfl) jv_ci) (fun _ => jv_ci) (fun _ => jv_ci)) ?_
      exact q
    · rw [if_neg c2] at q
      refine jb_if_d (jd_lt (jv_w (jv_mul jv_ci (jv_li rfl)) (by first | (unfold ja_r; omega) | (unfold ja_rl; omega) | omega | assumption)) (jv_li rfl)) (fun c3 => ?_) (fun c3 => ?_)
      · rw [if_pos c3] at q
        refine jt_rI (jv_cv (jd_lt (jv_li rfl) jv_ci) (fun _ => jv_ci) (fun _ => jv_ci)) ?_
        exact q
      · rw [if_neg c3] at q
        refine jt_rI (x := (if y < 0 then (if 0 < x then 1 else 3) else (if x < 0 then 5 else 7))) (jv_is (jv_cv (jd_gt (jv_li rfl) jv_ci) (fun _ => (jv_cv (jd_lt (jv_li rfl) jv_ci) (fun _ => jv_ci) (fun _ => jv_ci))) (fun _ => (jv_cv (jd_lt (jv_li rfl) jv_ci) (fun _ => jv_ci) (fun _ => jv_ci)))) (by repeat' split <;> omega)) ?_
        exact q
def snD (pt dx dy : Int) : Int := if (azi dx dy = -1 ∨ (azi dx dy - pt) % 8 ≤ 1) ∨ (azi dx dy - pt) % 8 = 7 then 1 else 0
set_option maxRecDepth 10000 in
theorem kX12_shineLets {l : Launch} {d : Nat} {h : ja_H} {Q : ja_Q} {n k : Nat} {a : Nat → Int} {dx dy : Int} (hG : jG h.1) (ha : h.2.1 91 = a) (hk : k < 8) (hok : 0 ≤ a (820 + k) ∧ a (820 + k) ≤ 7) (b1 : -5 ≤ dx ∧ dx ≤ 5) (b2 : -5 ≤ dy ∧ dy ≤ 5) (q : Q (some (.inl (snD (a (820 + k)) dx dy))) h) : ja_C l (d + 3) mX12_shineLets (js_sh n) [.inr (.inr (some (90))), .inl ((k : Int)), .inl (dx), .inl (dy)] h Q := by
  have e0 : h.2.1 91 (820 + (k : Int)).toNat = a (820 + k) := by rw [ha]; congr 1
  have ab := azi_b dx dy
  obtain ⟨p, hp⟩ : ∃ p : Int, azi dx dy = p := ⟨_, rfl⟩
  unfold snD at q
  rw [hp] at q ab
  generalize a (820 + k) = pt at *
  obtain ⟨u, hu⟩ : ∃ u : Int, ((p - pt).natAbs : Int) = u := ⟨_, rfl⟩
  refine eX12_shineLets _ _ _ _ fun r_k r_dx r_dy ho => ?_
  unfold bX12_shineLets
  unfold ja_r at r_k r_dx r_dy
  refine jt_sI (x := p) (jv_is (jy_sI (jA_i (jA_i jA_0 (jv_li rfl)) (jv_li rfl)) fun _ => kX12_azimuth (by first | (unfold ja_r; omega) | (unfold ja_rl; omega) | omega | assumption) (by first | (unfold ja_r; omega) | (unfold ja_rl; omega) | omega | assumption)) (by exact hp)) ?_
  refine jb_if_d (jd_lt (jv_li rfl) jv_ci) (fun c1 => ?_) (fun c1 => ?_)
  · refine jv_ci _ ⟨Or.inr rfl, ?_⟩
    rw [if_pos (by omega)] at q
    exact q
  · refine jt_sI (x := u) (jv_is (jy_sI (jA_i jA_0 (jv_w (jv_sub (jv_li rfl) (jv_fI (jr_g (jr_lr rfl) (by first | rfl | assumption) (by first | rfl | assumption | exact jG_at hG rfl | exact jG_90 hG rfl)) (jv_w (jv_add jv_ci (jv_li rfl)) (by first | (unfold ja_r; omega) | (unfold ja_rl; omega) | omega | assumption)) (by first | rfl | assumption) (by first | (unfold ja_r; omega) | (unfold ja_rl; omega) | omega | assumption) (by first | (unfold ja_r; omega) | (unfold ja_rl; omega) | omega | assumption) (by first | assumption | rfl))) (by first | (unfold ja_r; omega) | (unfold ja_rl; omega) | omega | assumption))) fun _ => kX12_abs (by first | (unfold ja_r; omega) | (unfold ja_rl; omega) | omega | assumption)) (by exact hu)) ?_
    refine jt_rZ (φ := (p = -1 ∨ (p - pt) % 8 ≤ 1) ∨ (p - pt) % 8 = 7) (jv_is (jv_cb (jd_or (jd_le (jv_li rfl) jv_ci) (fun _ => (jd_eqI (jv_li rfl) jv_ci)))) (by congr 1; apply propext; omega)) ?_
    exact q
def sS (a : Nat → Int) (k : Nat) (q : Int) : Int := shD (a (740 + 6 * k)) (a (741 + 6 * k)) (a (742 + 6 * k)) (a (743 + 6 * k)) (a (744 + 6 * k)) (a (745 + 6 * k)) (lx q) (ly q) (lh q)
def sN (a : Nat → Int) (k : Nat) (q : Int) : Int := snD (a (820 + k)) (lx q) (ly q)
/-- what a lamp is let by, of the set v: after k shadows; then after k shines -/
def lvS (a : Nat → Int) (v q : Int) : Nat → Int
  | 0 => 0
  | k + 1 => if jbt v k = true ∧ sS a k q ≠ 0 then ja_lor (lvS a v q k) (ja_shl 1 (k : Int)) else lvS a v q k
def lvN (a : Nat → Int) (v q : Int) (s : Nat) : Nat → Int
  | 0 => lvS a v q s
  | k + 1 => if jbt v (12 + k) = true ∧ sN a k q ≠ 0 then ja_lor (lvN a v q s k) (ja_shl 1 (12 + (k : Int))) else lvN a v q s k
theorem lvS_b (a : Nat → Int) (v q : Int) : ∀ k, k ≤ 12 → ∀ j, jbt (lvS a v q k) j = (decide (j < k) && jbt v j && decide (sS a j q ≠ 0))
  | 0, _, j => by simp [lvS, jbt_0]
  | k + 1, hk, j => by
    have ih := lvS_b a v q k (by omega) j
    unfold lvS
    split
    · rename_i c
      rw [jbt_or, ih, jbt_shl1 (by omega)]
      by_cases z : j = k
      · subst z; simp [c]
      · have : (j < k + 1) ↔ j < k := by omega
        simp [z, this]
    · rename_i c
      rw [ih]
      by_cases z : j = k
      · subst z
        by_cases d : jbt v j = true
        · have : sS a j q = 0 := Classical.not_not.mp fun w => c ⟨d, w⟩
          simp [this]
        · simp [d]
      · have : (j < k + 1) ↔ j < k := by omega
        simp [this]
theorem lvN_b (a : Nat → Int) (v q : Int) (s : Nat) (hs : s ≤ 12) : ∀ k, k ≤ 8 → ∀ j, jbt (lvN a v q s k) j = (jbt v j && ((decide (j < s) && decide (sS a j q ≠ 0)) || (decide (12 ≤ j ∧ j < 12 + k) && decide (sN a (j - 12) q ≠ 0))))
  | 0, _, j => by
    have : ¬ (12 ≤ j ∧ j < 12 + 0) := by omega
    rw [lvN, lvS_b a v q s hs]
    cases jbt v j <;> simp [this]
  | k + 1, hk, j => by
    have ih := lvN_b a v q s hs k (by omega) j
    have e : (12 + (k : Int)) = ((12 + k : Nat) : Int) := by omega
    unfold lvN
    rw [e]
    by_cases z : j = 12 + k
    · subst z
      have n1 : ¬ (12 ≤ 12 + k ∧ 12 + k < 12 + k) := by omega
      have n2 : (12 ≤ 12 + k ∧ 12 + k < 12 + (k + 1)) := by omega
      have n3 : ¬ 12 + k < s := by omega
      split
      · rename_i c
        rw [jbt_or, ih, jbt_shl1 (by omega)]
        simp [c, n2]
      · rename_i c
        rw [ih]
        by_cases d : jbt v (12 + k) = true
        · have : sN a k q = 0 := Classical.not_not.mp fun w => c ⟨d, w⟩
          simp [this, n3]
        · simp [d]
    · have n1 : (12 ≤ j ∧ j < 12 + (k + 1)) ↔ (12 ≤ j ∧ j < 12 + k) := by omega
      split
      · rw [jbt_or, ih, jbt_shl1 (by omega)]
        simp [z, n1]
      · rw [ih]; simp only [n1]
theorem lvN_r (a : Nat → Int) (v q : Int) (s : Nat) : ∀ k, ja_r (lvN a v q s k) := by
  have h1 : ∀ k, ja_r (lvS a v q k) := by
    intro k
    induction k with
    | zero => unfold lvS ja_r; omega
    | succ k ih => unfold lvS; split; exact ja_lor_r _ _; exact ih
  intro k
  induction k with
  | zero => exact h1 s
  | succ k ih => unfold lvN; split; exact ja_lor_r _ _; exact ih
