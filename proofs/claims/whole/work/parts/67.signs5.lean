section JT6
variable {L : ja_L} {h : ja_H} {e f : ja_EI} {r : ja_ER} {x y : Int} {N B C : ja_P} {R : ja_Q}
theorem jt_uB {sh : ja_S} {k n : Nat} {z w : Int} {u : Int → Int → Int} (p : jr r L h (some k)) (hk : sh[k]? = some (1, n)) (q : jv e L h z) (h0 : 0 ≤ z) (h1 : z < (n : Nat)) (s : jv f L h y) (e' : u (h.2.1 k z.toNat) y = w) (ww : N L (h.1, ja_up h.2.1 k z.toNat w, h.2.2)) : jb_uA sh r e (fun x K => f fun y => K (u x y)) N B C R L h := jt_uA p hk q h0 h1 s (by rw [e']; exact ww)
theorem jt_uG {sh : ja_S} {ci j k : Nat} {w : Int} {u : Int → Int → Int} (p : jr r L h (some k)) (hk : sh[k]? = some (0, ci)) (s : jv f L h y) (e' : u (h.2.1 k j) y = w) (ww : N L (h.1, ja_up h.2.1 k j w, h.2.2)) : jb_uF sh ci j r (fun x K => f fun y => K (u x y)) N B C R L h := jt_uF p hk s (by rw [e']; exact ww)
end JT6
theorem or_i {P : Prop} {i : Int} : (¬ P ∨ i < -1) ↔ ¬ (P ∧ -1 ≤ i) := by by_cases z : P <;> simp [z] <;> omega
theorem or_w {P R : Prop} : (¬ P ∨ ¬ R) ↔ ¬ (P ∧ R) := by by_cases z : P <;> simp [z]
theorem ja_land_comm (x y : Int) : ja_land x y = ja_land y x := jbt_ext (ja_land_r _ _) (ja_land_r _ _) fun k _ => by rw [jbt_and, jbt_and, Bool.and_comm]
def lmF (M : Nat → Int) (v i : Int) : Int := if i = -1 then (nlt M v 726 : Int) else if 0 ≤ ntl M v i ∧ ntl M v i < 726 then ltold (ntl M v i) else -1
def ftF (M : Nat → Int) (v w : Int) : Int := if w = 0 then ltold (bs (fun q => pcn (M q) 20) 726 : Nat) else if w = 1 then (pcn (M (bs (fun q => pcn (M q) 20) 726)) 20 : Nat) else ja_land v (ja_lxor (M (bs (fun q => pcn (M q) 20) 726)) (-1))
set_option maxRecDepth 10000 in
theorem kX11_lamps {l : Launch} {d : Nat} {h : ja_H} {Q : ja_Q} {n s t : Nat} {v i : Int} (hG : jG h.1) (hs : h.2.1 1 6 = (s : Int)) (ht : h.2.1 1 7 = (t : Int)) (hs2 : s ≤ 12) (ht2 : t ≤ 8) (q : Q (some (.inl (if jtd s t v ∧ -1 ≤ i then lmF (fun q => ja_land (h.2.1 30 q) v) v i else -1))) h) : ja_C l (d + 3) mX11_lamps (js_sh n) [.inr (.inr (some (0))), .inl (v), .inl (i)] h Q := by
  refine eX11_lamps _ _ _ fun r_set r_i ho => ?_
  unfold bX11_lamps
  unfold ja_r at r_set r_i
  refine jb_if_d (φ := ¬ (jtd s t v ∧ -1 ≤ i)) (jd_eq (jd_or (jd_not (jd_b (jy_mI (jr_lr rfl) (by first | rfl | assumption) (jA_i jA_0 (jv_li rfl)) fun _ => kX11_areTold hG hs ht hs2 ht2))) (fun _ => (jd_lt (jv_li rfl) jv_ci))) (by exact or_i)) (fun c1 => ?_) (fun c1 => ?_)
  · rw [if_neg c1] at q
    refine jt_rI jv_ci ?_
    exact q
  · have c1 := Classical.not_not.mp c1
    rw [if_pos c1] at q
    have c2 := c1.2
    refine jt_rI (x := lmF (fun q => ja_land (h.2.1 30 q) v) v i) (jv_is (jv_cv (jd_eqI (jv_li rfl) jv_ci) (fun _ => (jy_mI (jr_g (jr_lr rfl) (by first | rfl | assumption) (by first | rfl | assumption | exact jG_at hG rfl | exact jG_90 hG rfl)) (by first | rfl | assumption) (jA_i jA_0 (jv_li rfl)) fun _ => kX7_countLet hG)) (fun _ => (jy_mI (jr_g (jr_lr rfl) (by first | rfl | assumption) (by first | rfl | assumption | exact jG_at hG rfl | exact jG_90 hG rfl)) (by first | rfl | assumption) (jA_i jA_0 (jy_mI (jr_g (jr_lr rfl) (by first | rfl | assumption) (by first | rfl | assumption | exact jG_at hG rfl | exact jG_90 hG rfl)) (by first | rfl | assumption) (jA_i (jA_i jA_0 (jv_li rfl)) (jv_li rfl)) fun _ => kX7_nthLet hG (by first | (unfold ja_r; omega) | (unfold ja_rl; omega) | omega | assumption))) fun _ => kX7_nameOf))) (by rfl)) ?_
    exact q
set_option maxRecDepth 10000 in
theorem kX11_fight {l : Launch} {d : Nat} {h : ja_H} {Q : ja_Q} {n s t : Nat} {v w : Int} (hG : jG h.1) (hs : h.2.1 1 6 = (s : Int)) (ht : h.2.1 1 7 = (t : Int)) (hs2 : s ≤ 12) (ht2 : t ≤ 8) (q : Q (some (.inl (if jtd s t v ∧ 0 ≤ w ∧ w ≤ 2 then ftF (fun q => ja_land (h.2.1 30 q) v) v w else -1))) h) : ja_C l (d + 3) mX11_fight (js_sh n) [.inr (.inr (some (0))), .inl (v), .inl (w)] h Q := by
  refine eX11_fight _ _ _ fun r_set r_what ho => ?_
  unfold bX11_fight
  unfold ja_r at r_set r_what
  refine jb_if_d (φ := ¬ (jtd s t v ∧ 0 ≤ w ∧ w ≤ 2)) (jd_eq (jd_or (jd_not (jd_b (jy_mI (jr_lr rfl) (by first | rfl | assumption) (jA_i jA_0 (jv_li rfl)) fun _ => kX11_areTold hG hs ht hs2 ht2))) (fun _ => (jd_not (jd_b (jy_sI (jA_i (jA_i (jA_i jA_0 (jv_li rfl)) jv_ci) jv_ci) fun _ => kX11_within))))) (by exact or_w)) (fun c1 => ?_) (fun c1 => ?_)
  · rw [if_neg c1] at q
    refine jt_rI jv_ci ?_
    exact q
  · have c1 := Classical.not_not.mp c1
    rw [if_pos c1] at q
    have h20 := jtd_20 hs2 ht2 c1.1
    unfold ftF at q
    have hM : ∀ q : Nat, 0 ≤ ja_land (h.2.1 30 q) v ∧ ja_land (h.2.1 30 q) v < 1048576 := fun q => jbt_lt20 (ja_land_r _ _) fun k h1 h2 => by rw [jbt_and, h20 k h1 h2, Bool.and_false]
    have bl := bs_lt (fun q => pcn (ja_land (h.2.1 30 q) v) 20) 726 (by decide)
    generalize hb : bs (fun q => pcn (ja_land (h.2.1 30 q) v) 20) 726 = b at q bl
    have hMb := hM b
    obtain ⟨mb, hmb⟩ : ∃ mb : Int, ja_land (h.2.1 30 b) v = mb := ⟨_, rfl⟩
    rw [hmb] at hMb
    simp only [hmb] at q
    refine jt_sI (x := ((b : Nat) : Int)) (jv_is (jy_mI (jr_g (jr_lr rfl) (by first | rfl | assumption) (by first | rfl | assumption | exact jG_at hG rfl | exact jG_90 hG rfl)) (by first | rfl | assumption) (jA_i jA_0 (jv_li rfl)) fun _ => kX7_mostLet hG (by first | (unfold ja_r; omega) | (unfold ja_rl; omega) | omega | assumption)) (by rw [hb])) ?_
    refine jt_sI (x := mb) (jv_is (jv_and (jv_li rfl) (jy_mI (jr_g (jr_lr rfl) (by first | rfl | assumption) (by first | rfl | assumption | exact jG_at hG rfl | exact jG_90 hG rfl)) (by first | rfl | assumption) (jA_i jA_0 (jv_li rfl)) fun _ => kX7_signsLetting hG (by first | (unfold ja_r; omega) | (unfold ja_rl; omega) | omega | assumption))) (by rw [← hmb, ja_land_comm, Int.toNat_natCast])) ?_
    refine jb_if_d (jd_eqI (jv_li rfl) jv_ci) (fun c2 => ?_) (fun c2 => ?_)
    · rw [if_pos c2] at q
      refine jt_rI (x := ltold (b : Nat)) (jv_is (jy_mI (jr_g (jr_lr rfl) (by first | rfl | assumption) (by first | rfl | assumption | exact jG_at hG rfl | exact jG_90 hG rfl)) (by first | rfl | assumption) (jA_i jA_0 (jv_li rfl)) fun _ => kX7_nameOf) (by exact if_pos (by omega))) ?_
      exact q
    · rw [if_neg c2] at q
      refine jt_rI (jv_cv (jd_eqI (jv_li rfl) jv_ci) (fun _ => (jy_sI (jA_i jA_0 (jv_li rfl)) fun _ => kJ6_bitCount (by first | (unfold ja_r; omega) | (unfold ja_rl; omega) | omega | assumption))) (fun _ => (jv_and (jv_li rfl) (jv_xor (jv_li rfl) jv_ci)))) ?_
      exact q
set_option maxRecDepth 10000 in
theorem kX12_lamps {l : Launch} {d : Nat} {h : ja_H} {Q : ja_Q} {n s t : Nat} {a : Nat → Int} {v i0 : Int} (hG : jG h.1) (ha : h.2.1 91 = a) (hs : a 0 = (s : Int)) (ht : a 1 = (t : Int)) (hs2 : s ≤ 12) (ht2 : t ≤ 8) (o1 : ∀ k, k < s → shOk a k) (o2 : ∀ k, k < t → 0 ≤ a (820 + k) ∧ a (820 + k) ≤ 7) (q1 : jtd s t v ∧ -1 ≤ i0 → ∀ f, jfr [94] h.2.1 f → Q (some (.inl (lmF (fun q : Nat => lvN a v (q : Int) s t) v i0))) (h.1, f, h.2.2)) (q2 : ¬ (jtd s t v ∧ -1 ≤ i0) → Q (some (.inl (-1))) h) : ja_C l (d + 5) mX12_lamps (js_sh n) [.inr (.inr (some (90))), .inl (v), .inl (i0)] h Q := by
  refine eX12_lamps _ _ _ fun r_set r_i ho => ?_
  unfold bX12_lamps
  unfold ja_r at r_set r_i
  refine jb_if_d (φ := ¬ (jtd s t v ∧ -1 ≤ i0)) (jd_eq (jd_or (jd_not (jd_b (jy_mI (jr_lr rfl) (by first | rfl | assumption) (jA_i jA_0 (jv_li rfl)) fun _ => kX12_areSigns hG ha hs ht hs2 ht2))) (fun _ => (jd_lt (jv_li rfl) jv_ci))) (by exact or_i)) (fun c1 => ?_) (fun c1 => ?_)
  · refine jt_rI jv_ci ?_
    exact q2 c1
  · have c1 := Classical.not_not.mp c1
    refine jx_m (jr_lr rfl) (by first | rfl | assumption) (jA_i jA_0 (jv_li rfl)) (kX12_findLets hG ha hs ht hs2 ht2 o1 o2 fun f fr f1 => ⟨rfl, ?_⟩)
    have q := q1 c1 f fr
    generalize hM : (fun q : Nat => lvN a v (q : Int) s t) = M at q
    have fq : ∀ j : Nat, j < 726 → f 94 ((j : Nat) : Int).toNat = M j := fun j hj => by rw [← hM]; exact f1 j hj
    refine jt_sI jv_ci ?_
    refine jt_sI jv_ci ?_
    refine jb_forc (726) (fun (i : Nat) L' h' => ∃ (v_n : Int) (v_q : Int), L' = [some (.inr (.inr (some (90)))), some (.inl (v)), some (.inl (i0)), some (.inl (v_n)), some (.inl (v_q))] ∧ v_n = ((nlt M v i : Nat) : Int) ∧ v_q = (i : Int) ∧ (h.1, f, h.2.2) = h' ∧ (∀ r, r < i → ¬ (M r = v ∧ ((nlt M v r : Nat) : Int) = i0))) ⟨_, _, rfl, (by first | rfl | omega | (simp; done) | (simp; omega)), (by first | rfl | omega | (simp; done) | (simp; omega)), rfl, (by intro r hr; omega)⟩ ?_ ?_ ?_
    · rintro i h_i _ _ ⟨v_n0, v_q0, rfl, rfl, rfl, rfl, no⟩
      exact jd_eq (jd_lt (jv_li rfl) jv_ci) (by omega)
    · rintro i h_i _ _ ⟨v_n0, v_q0, rfl, rfl, rfl, rfl, no⟩
      have nb := nlt_le M v i
      have fq2 := fq i h_i
      refine jb_if_d (jd_ne (jv_fI (jr_g (jr_lr rfl) (by first | rfl | assumption) (by first | rfl | assumption | exact jG_at hG rfl | exact jG_90 hG rfl)) (jv_li rfl) (by first | rfl | assumption) (by first | (unfold ja_r; omega) | (unfold ja_rl; omega) | omega | assumption) (by first | (unfold ja_r; omega) | (unfold ja_rl; omega) | omega | assumption) (by first | assumption | rfl)) (jv_li rfl)) (fun c2 => ?_) (fun c2 => ?_)
      · exact jt_inc rfl (by first | (unfold ja_r; omega) | (unfold ja_rl; omega) | omega | assumption) ⟨_, _, rfl, (by simp only [nlt]; first | (rw [if_neg c2]; rfl) | (rw [if_pos (Classical.not_not.mp c2)]; rfl)), (by first | rfl | omega | (simp; done) | (simp; omega)), rfl, (by intro r hr; by_cases z : r = i; subst z; (first | (intro w; exact c2 w.1) | (intro w; exact c3 w.2)); exact no r (by omega))⟩
      · refine jb_if_d (jd_eqI (jv_li rfl) (jv_li rfl)) (fun c3 => ?_) (fun c3 => ?_)
        · refine jt_rI (jy_sI (jA_i jA_0 (jv_li rfl)) fun _ => kX12_told (by first | (unfold ja_r; omega) | (unfold ja_rl; omega) | omega | assumption)) ?_
          unfold lmF at q
          rw [if_neg (by omega), ntl_at h_i (Classical.not_not.mp c2) c3 no, if_pos (by omega)] at q
          exact q
        · refine jt_inc rfl (by first | (unfold ja_r; omega) | (unfold ja_rl; omega) | omega | assumption) ?_
          exact jt_inc rfl (by first | (unfold ja_r; omega) | (unfold ja_rl; omega) | omega | assumption) ⟨_, _, rfl, (by simp only [nlt]; first | (rw [if_neg c2]; rfl) | (rw [if_pos (Classical.not_not.mp c2)]; rfl)), (by first | rfl | omega | (simp; done) | (simp; omega)), rfl, (by intro r hr; by_cases z : r = i; subst z; (first | (intro w; exact c2 w.1) | (intro w; exact c3 w.2)); exact no r (by omega))⟩
    · rintro _ _ ⟨v_n0, v_q0, rfl, rfl, rfl, rfl, no⟩
      refine jt_rI (x := lmF M v i0) (jv_is (jv_cv (jd_eqI (jv_li rfl) jv_ci) (fun _ => (jv_li rfl)) (fun _ => jv_ci)) (by unfold lmF; rw [ntl_no no]; split <;> simp)) ?_
      exact q
set_option maxRecDepth 10000 in
theorem kX12_fight {l : Launch} {d : Nat} {h : ja_H} {Q : ja_Q} {n s t : Nat} {a : Nat → Int} {v w : Int} (hG : jG h.1) (ha : h.2.1 91 = a) (hs : a 0 = (s : Int)) (ht : a 1 = (t : Int)) (hs2 : s ≤ 12) (ht2 : t ≤ 8) (o1 : ∀ k, k < s → shOk a k) (o2 : ∀ k, k < t → 0 ≤ a (820 + k) ∧ a (820 + k) ≤ 7) (q1 : jtd s t v ∧ 0 ≤ w ∧ w ≤ 2 → ∀ f, jfr [94] h.2.1 f → Q (some (.inl (ftF (fun q : Nat => lvN a v (q : Int) s t) v w))) (h.1, f, h.2.2)) (q2 : ¬ (jtd s t v ∧ 0 ≤ w ∧ w ≤ 2) → Q (some (.inl (-1))) h) : ja_C l (d + 5) mX12_fight (js_sh n) [.inr (.inr (some (90))), .inl (v), .inl (w)] h Q := by
  refine eX12_fight _ _ _ fun r_set r_what ho => ?_
  unfold bX12_fight
  unfold ja_r at r_set r_what
  refine jb_if_d (φ := ¬ (jtd s t v ∧ 0 ≤ w ∧ w ≤ 2)) (jd_eq (jd_or (jd_not (jd_b (jy_mI (jr_lr rfl) (by first | rfl | assumption) (jA_i jA_0 (jv_li rfl)) fun _ => kX12_areSigns hG ha hs ht hs2 ht2))) (fun _ => (jd_not (jd_b (jy_sI (jA_i (jA_i (jA_i jA_0 (jv_li rfl)) jv_ci) jv_ci) fun _ => kX12_isIn))))) (by exact or_w)) (fun c1 => ?_) (fun c1 => ?_)
  · refine jt_rI jv_ci ?_
    exact q2 c1
  · have c1 := Classical.not_not.mp c1
    refine jx_m (jr_lr rfl) (by first | rfl | assumption) (jA_i jA_0 (jv_li rfl)) (kX12_findLets hG ha hs ht hs2 ht2 o1 o2 fun f fr f1 => ⟨rfl, ?_⟩)
    have q := q1 c1 f fr
    generalize hM : (fun q : Nat => lvN a v (q : Int) s t) = M at q
    have fq : ∀ j : Nat, j < 726 → f 94 ((j : Nat) : Int).toNat = M j := fun j hj => by rw [← hM]; exact f1 j hj
    refine jt_sI jv_ci ?_
    refine jt_sI (x := ((0 + 1 : Nat) : Int)) (jv_is jv_ci (by rfl)) ?_
    refine jb_forc (725) (fun (i : Nat) L' h' => ∃ (v_best : Int) (v_q : Int), L' = [some (.inr (.inr (some (90)))), some (.inl (v)), some (.inl (w)), some (.inl (v_best)), some (.inl (v_q))] ∧ v_best = ((bs (fun q => pcn (M q) 20) (i + 1) : Nat) : Int) ∧ v_q = ((i + 1 : Nat) : Int) ∧ (h.1, f, h.2.2) = h') ⟨_, _, rfl, (by simp [bs]), (by rfl), rfl⟩ ?_ ?_ ?_
    · rintro i h_i _ _ ⟨v_best0, v_q0, rfl, rfl, rfl, rfl⟩
      exact jd_eq (jd_lt (jv_li rfl) jv_ci) (by omega)
    · rintro i h_i _ _ ⟨v_best0, v_q0, rfl, rfl, rfl, rfl⟩
      have fq2 := fq (i + 1) (by omega)
      have bl := bs_lt (fun q => pcn (M q) 20) (i + 1) (by omega)
      have fq3 := fq (bs (fun q => pcn (M q) 20) (i + 1)) (by omega)
      refine jb_if_d (jd_gt (jy_sI (jA_i jA_0 (jv_fI (jr_g (jr_lr rfl) (by first | rfl | assumption) (by first | rfl | assumption | exact jG_at hG rfl | exact jG_90 hG rfl)) (jv_li rfl) (by first | rfl | assumption) (by first | (unfold ja_r; omega) | (unfold ja_rl; omega) | omega | assumption) (by first | (unfold ja_r; omega) | (unfold ja_rl; omega) | omega | assumption) (by first | assumption | rfl))) fun _ => kX12_countBits) (jy_sI (jA_i jA_0 (jv_fI (jr_g (jr_lr rfl) (by first | rfl | assumption) (by first | rfl | assumption | exact jG_at hG rfl | exact jG_90 hG rfl)) (jv_li rfl) (by first | rfl | assumption) (by first | (unfold ja_r; omega) | (unfold ja_rl; omega) | omega | assumption) (by first | (unfold ja_r; omega) | (unfold ja_rl; omega) | omega | assumption) (by first | assumption | rfl))) fun _ => kX12_countBits)) (fun c2 => ?_) (fun c2 => ?_)
      · refine jt_sI (jv_li rfl) ?_
        exact jt_inc rfl (by first | (unfold ja_r; omega) | (unfold ja_rl; omega) | omega | assumption) ⟨_, _, rfl, (by first | (rw [bs, if_pos (by omega)]) | (rw [bs.eq_2 _ (i + 1), if_neg (by omega)])), (by omega), rfl⟩
      · exact jt_inc rfl (by first | (unfold ja_r; omega) | (unfold ja_rl; omega) | omega | assumption) ⟨_, _, rfl, (by first | (rw [bs, if_pos (by omega)]) | (rw [bs.eq_2 _ (i + 1), if_neg (by omega)])), (by omega), rfl⟩
    · rintro _ _ ⟨v_best0, v_q0, rfl, rfl, rfl, rfl⟩
      have bl := bs_lt (fun q => pcn (M q) 20) (725 + 1) (by decide)
      have fq3 := fq (bs (fun q => pcn (M q) 20) (725 + 1)) (by omega)
      refine jt_rI (x := ftF M v w) (jv_is (jv_cv (jd_eqI (jv_li rfl) jv_ci) (fun _ => (jy_sI (jA_i jA_0 (jv_li rfl)) fun _ => kX12_told (by first | (unfold ja_r; omega) | (unfold ja_rl; omega) | omega | assumption))) (fun _ => (jv_cv (jd_eqI (jv_li rfl) jv_ci) (fun _ => (jy_sI (jA_i jA_0 (jv_fI (jr_g (jr_lr rfl) (by first | rfl | assumption) (by first | rfl | assumption | exact jG_at hG rfl | exact jG_90 hG rfl)) (jv_li rfl) (by first | rfl | assumption) (by first | (unfold ja_r; omega) | (unfold ja_rl; omega) | omega | assumption) (by first | (unfold ja_r; omega) | (unfold ja_rl; omega) | omega | assumption) (by first | assumption | rfl))) fun _ => kX12_countBits)) (fun _ => (jv_and (jv_li rfl) (jv_xor (jv_fI (jr_g (jr_lr rfl) (by first | rfl | assumption) (by first | rfl | assumption | exact jG_at hG rfl | exact jG_90 hG rfl)) (jv_li rfl) (by first | rfl | assumption) (by first | (unfold ja_r; omega) | (unfold ja_rl; omega) | omega | assumption) (by first | (unfold ja_r; omega) | (unfold ja_rl; omega) | omega | assumption) (by first | assumption | rfl)) jv_ci)))))) (by rfl)) ?_
      exact q
/-- a shadow's numbers as they must be -/
def shA (hgh ex ey low most side : Int) : Prop := (1 ≤ hgh ∧ hgh ≤ 99) ∧ (-99 ≤ ex ∧ ex ≤ 99) ∧ (-99 ≤ ey ∧ ey ≤ 99) ∧ (1 ≤ low ∧ low ≤ 300) ∧ (low ≤ most ∧ most ≤ 300) ∧ 0 ≤ side ∧ side ≤ 20
set_option maxRecDepth 10000 in
theorem kX11_shadow {l : Launch} {d : Nat} {h : ja_H} {Q : ja_Q} {n s : Nat} {hgh ex ey low most side : Int} (hG : jG h.1) (hs : h.2.1 1 6 = (s : Int)) (hs2 : s ≤ 12) (q1 : shA hgh ex ey low most side ∧ s < 12 → ∀ f, jfr [30] h.2.1 f → (∀ q : Nat, q < 726 → f 30 q = jmk (h.2.1 30 q) s (shE hgh ex ey low most side (q : Int))) → Q (some (.inl (s : Int))) (h.1, ja_up f 1 6 ((s : Int) + 1), h.2.2)) (q2 : ¬ (shA hgh ex ey low most side ∧ s < 12) → Q (some (.inl (-1))) h) : ja_C l (d + 4) mX11_shadow (js_sh n) [.inr (.inr (some (0))), .inl (hgh), .inl (ex), .inl (ey), .inl (low), .inl (most), .inl (side)] h Q := by
  refine eX11_shadow _ _ _ _ _ _ _ fun r_high r_ex r_ey r_low r_most r_side ho => ?_
  unfold bX11_shadow
  unfold ja_r at r_high r_ex r_ey r_low r_most r_side
  refine jt_sI (jv_cb (jd_and (jd_b (jy_sI (jA_i (jA_i (jA_i jA_0 (jv_li rfl)) jv_ci) jv_ci) fun _ => kX11_within)) (fun _ => (jd_b (jy_sI (jA_i (jA_i jA_0 (jv_li rfl)) (jv_li rfl)) fun _ => kX11_isPoint))))) ?_
  refine jt_sI (jv_cb (jd_and (jd_b (jy_sI (jA_i (jA_i (jA_i jA_0 (jv_li rfl)) jv_ci) jv_ci) fun _ => kX11_within)) (fun _ => (jd_b (jy_sI (jA_i (jA_i (jA_i jA_0 (jv_li rfl)) (jv_li rfl)) jv_ci) fun _ => kX11_within))))) ?_
  refine jb_if_d (φ := ¬ (shA hgh ex ey low most side ∧ s < 12)) (jd_eq (jd_or (jd_or (jd_or (jd_not (jd_b (jv_li rfl))) (fun _ => (jd_not (jd_b (jv_li rfl))))) (fun _ => (jd_not (jd_b (jy_sI (jA_i (jA_i (jA_i jA_0 (jv_li rfl)) jv_ci) jv_ci) fun _ => kX11_within))))) (fun _ => (jd_ge (jv_gF (jr_g (jr_lr rfl) rfl (jG_at hG rfl)) rfl hs) jv_ci))) (by unfold shA; omega)) (fun c1 => ?_) (fun c1 => ?_)
  · refine jt_rI jv_ci ?_
    exact q2 c1
  · have c1 := Classical.not_not.mp c1
    have c2 := c1.2
    obtain ⟨⟨a1, a2, a3, a4, a5, a6⟩, -⟩ := id c1
    refine jx_m (jr_g (jr_lr rfl) (by first | rfl | assumption) (by first | rfl | assumption | exact jG_at hG rfl | exact jG_90 hG rfl)) (by first | rfl | assumption) (jA_i (jA_i (jA_i (jA_i (jA_i (jA_i (jA_i jA_0 (jv_gF (jr_g (jr_lr rfl) (by first | rfl | assumption) (by first | rfl | assumption | exact jG_at hG rfl | exact jG_90 hG rfl)) (by first | rfl | assumption) (by first | assumption | rfl))) (jv_li rfl)) (jv_li rfl)) (jv_li rfl)) (jv_li rfl)) (jv_li rfl)) (jv_li rfl)) (kX7_addShadow hG (by omega) a1 a2 a3 a4 a5 a6 fun f fr f1 => ⟨rfl, ?_⟩)
    have f6 : f 1 6 = (s : Int) := by rw [fr 1 (by decide)]; exact hs
    refine jt_uG (w := (s : Int) + 1) (jr_g (jr_lr rfl) (by first | rfl | assumption) (by first | rfl | assumption | exact jG_at hG rfl | exact jG_90 hG rfl)) (by first | rfl | assumption) jv_ci (by show ja_w (f 1 6 + 1) = _; rw [f6, ja_w_id (by unfold ja_r; omega)]) ?_
    have f7 : ja_up f 1 6 ((s : Int) + 1) 1 6 = (s : Int) + 1 := ja_upE rfl rfl
    refine jt_rI (x := (s : Int)) (jv_is (jv_w (jv_sub (jv_gF (jr_g (jr_lr rfl) (by first | rfl | assumption) (by first | rfl | assumption | exact jG_at hG rfl | exact jG_90 hG rfl)) (by first | rfl | assumption) (by first | assumption | rfl)) jv_ci) (by first | (unfold ja_r; omega) | (unfold ja_rl; omega) | omega | assumption)) (by omega)) ?_
    exact q1 c1 f fr f1
set_option maxRecDepth 10000 in
theorem kX11_shine {l : Launch} {d : Nat} {h : ja_H} {Q : ja_Q} {n t : Nat} {pt : Int} (hG : jG h.1) (ht : h.2.1 1 7 = (t : Int)) (ht2 : t ≤ 8) (q1 : (0 ≤ pt ∧ pt ≤ 7) ∧ t < 8 → ∀ f, jfr [30] h.2.1 f → (∀ q : Nat, q < 726 → f 30 q = jmk (h.2.1 30 q) (12 + t) (snE pt (q : Int))) → Q (some (.inl (t : Int))) (h.1, ja_up f 1 7 ((t : Int) + 1), h.2.2)) (q2 : ¬ ((0 ≤ pt ∧ pt ≤ 7) ∧ t < 8) → Q (some (.inl (-1))) h) : ja_C l (d + 4) mX11_shine (js_sh n) [.inr (.inr (some (0))), .inl (pt)] h Q := by
  refine eX11_shine _ _ fun r_point ho => ?_
  unfold bX11_shine
  unfold ja_r at r_point
  refine jb_if_d (φ := ¬ ((0 ≤ pt ∧ pt ≤ 7) ∧ t < 8)) (jd_eq (jd_or (jd_not (jd_b (jy_sI (jA_i (jA_i (jA_i jA_0 (jv_li rfl)) jv_ci) jv_ci) fun _ => kX11_within))) (fun _ => (jd_ge (jv_gF (jr_g (jr_lr rfl) (by first | rfl | assumption) (by first | rfl | assumption | exact jG_at hG rfl | exact jG_90 hG rfl)) (by first | rfl | assumption) (by first | assumption | rfl)) jv_ci))) (by omega)) (fun c1 => ?_) (fun c1 => ?_)
  · refine jt_rI jv_ci ?_
    exact q2 c1
  · have c1 := Classical.not_not.mp c1
    have c2 := c1.2
    refine jx_m (jr_g (jr_lr rfl) rfl (jG_at hG rfl)) rfl (jA_i (jA_i jA_0 (jv_is (x' := ((12 + t : Nat) : Int)) (jv_w (jv_add jv_ci (jv_gF (jr_g (jr_lr rfl) rfl (jG_at hG rfl)) rfl ht)) (by first | (unfold ja_r; omega) | (unfold ja_rl; omega) | omega | assumption)) (by omega))) (jv_li rfl)) (kX7_addShine hG (by omega) c1.1 fun f fr f1 => ⟨rfl, ?_⟩)
    have f6 : f 1 7 = (t : Int) := by rw [fr 1 (by decide)]; exact ht
    refine jt_uG (w := (t : Int) + 1) (jr_g (jr_lr rfl) (by first | rfl | assumption) (by first | rfl | assumption | exact jG_at hG rfl | exact jG_90 hG rfl)) (by first | rfl | assumption) jv_ci (by show ja_w (f 1 7 + 1) = _; rw [f6, ja_w_id (by unfold ja_r; omega)]) ?_
    have f7 : ja_up f 1 7 ((t : Int) + 1) 1 7 = (t : Int) + 1 := ja_upE rfl rfl
    refine jt_rI (x := (t : Int)) (jv_is (jv_w (jv_sub (jv_gF (jr_g (jr_lr rfl) (by first | rfl | assumption) (by first | rfl | assumption | exact jG_at hG rfl | exact jG_90 hG rfl)) (by first | rfl | assumption) (by first | assumption | rfl)) jv_ci) (by first | (unfold ja_r; omega) | (unfold ja_rl; omega) | omega | assumption)) (by omega)) ?_
    exact q1 c1 f fr f1
