/-! switches; arraycopy -/
def ja_J : List (Int × Nat) → Nat → Int → Nat
  | [], d, _ => d
  | (k, t) :: r, d, z => if z = k then t else ja_J r d z
def jb_cs : List (Int × ja_T) → ja_T → Int → ja_T
  | [], sd, _ => sd
  | (k, s) :: r, sd, z => if z = k then s else jb_cs r sd z
theorem ja_J_out {dt : Nat} {z : Int} : ∀ {kt : List (Int × Nat)}, (∀ q ∈ kt, q.1 ≠ z) → ja_J kt dt z = dt
  | [], _ => rfl
  | (k, t) :: r, h => by
    rw [ja_J, if_neg (fun q => h (k, t) List.mem_cons_self q.symm)]
    exact ja_J_out fun q hq => h q (List.mem_cons_of_mem _ hq)
section JSW
variable {X : ja_X} {cc : ByteArray} {own : String} {d k pc p1 p2 p3 idx : Nat} {L : ja_L} {st : List ja_W} {h : ja_H} {N B C : ja_P} {R : ja_Q}
theorem ja_s_tab {dflt lo hi z : Int} {offs : Array Int} {len dt : Nat} {kt : List (Int × Nat)} (ok : ja_Ok X cc own d) (dg : decode cc pc = .ok (.tableswitch dflt lo hi offs, len)) (h1 : (List.range offs.size).all (fun j => decide ((pc : Int) + offs.getD j 0 = (ja_J kt dt (lo + j) : Nat))) = true) (h2 : kt.all (fun q => decide (lo ≤ q.1 ∧ q.1 ≤ hi)) = true) (h3 : (pc : Int) + dflt = (dt : Nat)) (h4 : (offs.size : Int) = hi - lo + 1) (k : ja_At X (ja_J kt dt z) L st h) : ja_At X pc L (.inl z :: st) h := by
  obtain ⟨⟨p, l, e, R, s, m, args, below, meth, c, cells, slots, Q⟩, D, cy, ad, sh, A, nL⟩ := X
  intro ls vs H locs hl hv hs hL hh hP hD hS
  subst hv
  have hz : ja_r z := ja_oh hs
  have hk := k ls _ H locs hl rfl (ja_ot hs) hL hh hP hD hS
  by_cases ho : z < lo ∨ hi < z
  · have e1 : ja_J kt dt z = dt := ja_J_out fun q hq => by
      have := of_decide_eq_true (List.all_eq_true.mp h2 q hq)
      omega
    rw [e1] at hk
    exact lv_tableOut ok.1 ok.2.1 dg (by rw [ja_toI hz]; exact ho) h3 hk
  · have hj : (z - lo).toNat < offs.size := by omega
    have e1 := of_decide_eq_true (List.all_eq_true.mp h1 (z - lo).toNat (List.mem_range.mpr hj))
    have e2 : lo + ((z - lo).toNat : Int) = z := by omega
    rw [e2] at e1
    refine lv_tableIn ok.1 ok.2.1 dg (by rw [ja_toI hz]; omega) (by rw [ja_toI hz]; omega) (off := offs.getD (z - lo).toNat 0) ?_ e1 hk
    rw [ja_toI hz]
    simp [Array.getD, hj]
theorem ja_off {dflt z : Int} {dt pc : Nat} (h3 : (pc : Int) + dflt = (dt : Nat)) : ∀ kt : List (Int × Nat), (pc : Int) + Op.lookupswitch.offset (kt.map fun q => (q.1, (q.2 : Int) - pc)) dflt z = (ja_J kt dt z : Nat)
  | [] => h3
  | (k, t) :: r => by
    rw [List.map_cons, Op.lookupswitch.offset_cons, ja_J]
    by_cases q : z = k
    · rw [if_pos q.symm, if_pos q]; omega
    · rw [if_neg (fun w => q w.symm), if_neg q]; exact ja_off h3 r
theorem ja_s_look {dflt z : Int} {ps : Array (Int × Int)} {len dt : Nat} {kt : List (Int × Nat)} (ok : ja_Ok X cc own d) (dg : decode cc pc = .ok (.lookupswitch dflt ps, len)) (hp : (ps.toList.zip (ps.toList.drop 1)).all (fun (a, next) => a.1 < next.1) = true) (h1 : (kt.map fun q => (q.1, (q.2 : Int) - pc)) = ps.toList) (h3 : (pc : Int) + dflt = (dt : Nat)) (k : ja_At X (ja_J kt dt z) L st h) : ja_At X pc L (.inl z :: st) h := by
  obtain ⟨⟨p, l, e, R, s, m, args, below, meth, c, cells, slots, Q⟩, D, cy, ad, sh, A, nL⟩ := X
  intro ls vs H locs hl hv hs hL hh hP hD hS
  subst hv
  have hz : ja_r z := ja_oh hs
  have hk := k ls _ H locs hl rfl (ja_ot hs) hL hh hP hD hS
  refine lv_lookup ok.1 ok.2.1 dg hp (off := Op.lookupswitch.offset ps.toList dflt z) (by rw [ja_toI hz]) ?_ hk
  rw [← h1]
  exact ja_off h3 kt
theorem jc_sw {e : ja_EI} {s : Int → ja_T} (J : Int → Nat) (he : ja_OI X 0 pc p1 e) (hJ : ∀ z L h, ja_At X (J z) L [] h → ja_At X p1 L [.inl z] h) (hs : ∀ N' : ja_P, (∀ L h, N' L h → N L h) → ∀ z, ja_Rz X [] (J z) (s z N' N' C R)) : ja_Rz X [] pc (jb_sw e s N B C R) := fun L h ⟨N', q1, q2⟩ => he [] ja_c0 _ (fun z L h q => hJ z L h (hs N' q1 z L h q)) L h q2
theorem ja_cs_n {sd : ja_T} {dt : Nat} (q : ja_Rz X [] dt (sd N B C R)) : ∀ z, ja_Rz X [] (ja_J [] dt z) (jb_cs [] sd z N B C R) := fun _ => q
theorem ja_cs_c {s sd : ja_T} {k0 : Int} {t dt : Nat} {kt : List (Int × Nat)} {ks : List (Int × ja_T)} (q : ja_Rz X [] t (s N B C R)) (r : ∀ z, ja_Rz X [] (ja_J kt dt z) (jb_cs ks sd z N B C R)) : ∀ z, ja_Rz X [] (ja_J ((k0, t) :: kt) dt z) (jb_cs ((k0, s) :: ks) sd z N B C R) := by
  intro z
  by_cases w : z = k0
  · rw [ja_J, jb_cs, if_pos w, if_pos w]; exact q
  · rw [ja_J, jb_cs, if_neg w, if_neg w]; exact r z
def ja_cp (f : Nat → Nat → Int) (ks sp kd dp n : Nat) : Nat → Nat → Int := fun a b => if a = kd then va_cpy (f ks) (f kd) sp dp n b else f a b
def ja_LC (own : String) (idx : Nat) : Prop := Cond.methodLink own idx arraycopyName ∈ ja_tbl ∧ Cond.native arraycopyName ∈ ja_tbl ∧ Cond.static arraycopyName ∈ ja_tbl ∧ Cond.initialized "java/lang/System" ∈ ja_tbl
theorem ja_nfw : nativeFrameWords "java/lang/System" "arraycopy" 5 + 11 ≤ 56 := by decide +kernel
theorem ja_s_copy {ks kd n0 n1 : Nat} {sp dp n : Int} (ok : ja_Ok X cc own (d + 1)) (hk : ja_LC own idx) (dg : decode cc pc = .ok (.invokestatic idx, 3)) (hc : ja_cat st ≤ 8) (g1 : (ja_sh X)[ks]? = some (1, n0)) (g2 : (ja_sh X)[kd]? = some (1, n1)) (h1 : 0 ≤ sp) (h2 : 0 ≤ dp) (h3 : 0 ≤ n) (h4 : sp + n ≤ (n0 : Nat)) (h5 : dp + n ≤ (n1 : Nat)) (kk : ja_At X (pc + 3) L st (h.1, ja_cp h.2.1 ks sp.toNat kd dp.toNat n.toNat, h.2.2)) : ja_At X pc L (.inl n :: .inl dp :: .inr (.inr (some kd)) :: .inl sp :: .inr (.inr (some ks)) :: st) h := by
  obtain ⟨⟨p, l, e, R, s, m, args, below, meth, c, cells, slots, Q⟩, D, cy, ad, sh, A, nL⟩ := X
  intro ls vs H locs hl hv hs hL hh hP hD hS
  subst hv
  have r3 : ja_r n := ja_oh hs
  have r2 : ja_r dp := ja_oh (ja_ot hs)
  have r1 : ja_r sp := ja_oh (ja_ot (ja_ot (ja_ot hs)))
  obtain ⟨o1, o2, o3, o4, o5, o6, o7, o8, o9, o10, o11, o12, o13⟩ := ok
  obtain ⟨k1, k2, k3, k4⟩ := hk
  have np : ∀ {z : Int}, ja_r z → 0 ≤ z → ¬ Int32.ofInt z < 0 := fun hz h0 q => by
    have := (ja_clt hz ja_r0).mp q
    omega
  have hf : ∀ q, ja_cp h.2.1 ks sp.toNat kd dp.toNat n.toNat kd q = va_cpy (h.2.1 ks) (h.2.1 kd) sp.toNat dp.toNat n.toNat q := fun q => by simp [ja_cp]
  have hw : (ja_wld cy ad sh h).set kd (ad kd, .inl (cy 1, n1, .inl (va_cpy (fun j => Int32.ofInt (h.2.1 ks j)) (fun j => Int32.ofInt (h.2.1 kd j)) sp.toNat dp.toNat n.toNat))) = ja_wld cy ad sh (h.1, ja_cp h.2.1 ks sp.toNat kd dp.toNat n.toNat, h.2.2) := by
    refine ja_wld_set g2 ?_ (ja_cel_In fun a b ha => by simp [ja_cp, ha])
    show Sum.inl _ = Sum.inl _
    congr 4
    funext j
    show Int32.ofInt (ja_cp h.2.1 ks sp.toNat kd dp.toNat n.toNat kd j) = _
    rw [hf j]
    unfold va_cpy
    split <;> rfl
  have ho : ja_ho (h.1, ja_cp h.2.1 ks sp.toNat kd dp.toNat n.toNat, h.2.2) := by
    refine ⟨fun a b => ?_, hh.2⟩
    show ja_r (ja_cp h.2.1 ks sp.toNat kd dp.toNat n.toNat a b)
    unfold ja_cp va_cpy
    split
    · split
      · exact hh.1 _ _
      · exact hh.1 _ _
    · exact hh.1 _ _
  have hfr := ja_nfw
  refine va_copyi (a := ad kd) (rest := st.map (ja_c ad)) o1 o2 (o3.trans hl.1.symm) o4 (o5 _ k1) (o5 _ k2) (o5 _ k3) (o5 _ k4) o6 hP hD hS ks kd 0 0 (ja_wld_at g1) (ja_wld_at g2) rfl rfl rfl (np r1 h1) (np r2 h2) (np r3 h3) (by rw [ja_clamp r1 h1, ja_clamp r3 h3]; omega) (by rw [ja_clamp r2 h2, ja_clamp r3 h3]; omega) (fun _ _ => rfl) (by omega) (by rw [ja_cat_sum]; omega) dg ?_
  intro H1 locs1 hP1 hD1 hS1
  rw [ja_clamp r1 h1, ja_clamp r2 h2, ja_clamp r3 h3, hw] at hP1 hD1
  exact kk ls _ H1 locs1 hl rfl (ja_ot (ja_ot (ja_ot (ja_ot (ja_ot hs))))) hL ho hP1 hD1 hS1
def jb_cp (sh : ja_S) (r1 : ja_ER) (e1 : ja_EI) (r2 : ja_ER) (e2 e3 : ja_EI) : ja_T := fun N _ _ _ => r1 fun q => e1 fun a => r2 fun w => e2 fun b => e3 fun m L h => ∃ ks kd n0 n1, q = some ks ∧ w = some kd ∧ sh[ks]? = some (1, n0) ∧ sh[kd]? = some (1, n1) ∧ 0 ≤ a ∧ 0 ≤ b ∧ 0 ≤ m ∧ a + m ≤ (n0 : Nat) ∧ b + m ≤ (n1 : Nat) ∧ N L (h.1, ja_cp h.2.1 ks a.toNat kd b.toNat m.toNat, h.2.2)
theorem jc_cp {r1 r2 : ja_ER} {e1 e2 e3 : ja_EI} {p4 p5 : Nat} (ok : ja_Ok X cc own (d + 1)) (q1 : ja_OR X 0 pc p1 r1) (q2 : ja_OI X 1 p1 p2 e1) (q3 : ja_OR X 2 p2 p3 r2) (q4 : ja_OI X 3 p3 p4 e2) (q5 : ja_OI X 4 p4 p5 e3) (hk : ja_LC own idx) (dg : decode cc p5 = .ok (.invokestatic idx, 3)) (hN : ja_Rz X [] (p5 + 3) N) : ja_Rz X [] pc (jb_cp (ja_sh X) r1 e1 r2 e2 e3 N B C R) :=
  q1 [] ja_c0 _ fun _ => q2 _ (ja_cat_R ja_c0) _ fun _ => q3 _ (ja_cat_I (ja_cat_R ja_c0)) _ fun _ => q4 _ (ja_cat_R (ja_cat_I (ja_cat_R ja_c0))) _ fun _ => q5 _ (ja_cat_I (ja_cat_R (ja_cat_I (ja_cat_R ja_c0)))) _ fun _ _ _ ⟨_, _, _, _, w1, w2, w3, w4, w5, w6, w7, w8, w9, w10⟩ => by
    subst w1; subst w2
    exact ja_s_copy ok hk dg (by decide) w3 w4 w5 w6 w7 w8 w9 (hN _ _ w10)
end JSW
