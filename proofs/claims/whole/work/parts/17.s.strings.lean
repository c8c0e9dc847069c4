/-! text constants -/
def ja_c16 (x : Int) : Int := ((Int32.ofInt x).toUInt32 % 65536).toInt32.toInt
def jst_b (i j : Nat) : Int := ((jst_byt.getD i []).getD j 0).toInt
def ja_LT (own : String) (idx : Nat) (M : ja_M) (n : Nat) : Prop := Cond.methodLink own idx M.1 ∈ ja_tbl ∧ Cond.instanceMethod M.1 ∈ ja_tbl ∧ Cond.selects M.1.cls M.1 M.1 ∈ ja_tbl ∧ Cond.initialized M.1.cls ∈ ja_tbl ∧ Cond.code M.1 M.2.1 M.2.2.1 M.2.2.2 ∈ ja_tbl ∧ ja_D M n ∧ M.1.cls = "java/lang/String"
theorem jst_lenlt : ∀ i, i < 12 → jst_len.getD i 0 < 100 := by decide
section JST
variable {X : ja_X} {cc : ByteArray} {own : String} {d d' k pc p1 p2 p3 idx n i : Nat} {L : ja_L} {st as : List ja_W} {h : ja_H} {M : ja_M} {Q2 : Option ja_W → ja_H → Prop} {N B C : ja_P} {R : ja_Q}
theorem ja_s_i2c {x : Int} (ok : ja_Ok X cc own d) (dg : decode cc pc = .ok (.i2c, 1)) (kk : ja_At X (pc + 1) L (.inl (ja_c16 x) :: st) h) : ja_At X pc L (.inl x :: st) h := by
  obtain ⟨⟨p, l, e, R, s, m, args, below, meth, c, cells, slots, Q⟩, D, cy, ad, sh, A, nL⟩ := X
  intro ls vs H locs hl hv hs hL hh hP hD hS
  subst hv
  refine lv_i2c (v := Int32.ofInt (ja_c16 x)) ok.1 ok.2.1 dg (ja_eqI rfl) ?_
  exact kk ls _ H locs hl rfl (ja_oc (ja_rI _) (ja_ot hs)) hL hh hP hD hS
theorem ja_s_ldcS (ok : ja_Ok X cc RX5 d) (hi : i < 12) (dg : decode cc pc = .ok (.ldc (jst_ix.getD i 0), 2)) (kk : ja_At X (pc + 2) L (.inr (.inr (some (1000000 + i))) :: st) h) : ja_At X pc L st h := by
  obtain ⟨⟨p, l, e, R, s, m, args, below, meth, c, cells, slots, Q⟩, D, cy, ad, sh, A, nL⟩ := X
  intro ls vs H locs hl hv hs hL hh hP hD hS
  subst hv
  obtain ⟨o1, o2, o3, o4, o5, o6, o7, o8, o9, o10, o11, o12, t1, t2, t3, t4⟩ := ok
  exact va_ldcS o1 o2 o4 (t2 i hi) dg (kk ls _ H locs hl rfl (ja_oc trivial hs) hL hh hP hD hS)
theorem ja_s_strV (ok : ja_Ok X cc own d) (hi : i < 12) (hw : Cond.fieldLink own idx "java/lang/String" "value" "[B" ∈ ja_tbl) (dg : decode cc pc = .ok (.getfield idx, 3)) (kk : ja_At X (pc + 3) L (.inr (.inr (some (2000000 + i))) :: st) h) : ja_At X pc L (.inr (.inr (some (1000000 + i))) :: st) h := by
  obtain ⟨⟨p, l, e, R, s, m, args, below, meth, c, cells, slots, Q⟩, D, cy, ad, sh, A, nL⟩ := X
  intro ls vs H locs hl hv hs hL hh hP hD hS
  subst hv
  obtain ⟨o1, o2, o3, o4, o5, o6, o7, o8, o9, o10, o11, o12, t1, t2, t3, t4⟩ := ok
  exact vk_getf o1 o2 (t1.1 i hi).2.2.1 hS o4 (o5 _ hw) (fun _ q => q) dg (kk ls _ H locs hl rfl (ja_oc trivial (ja_ot hs)) hL hh hP hD hS)
theorem ja_s_strC (ok : ja_Ok X cc own d) (hi : i < 12) (hw : Cond.fieldLink own idx "java/lang/String" "coder" "B" ∈ ja_tbl) (dg : decode cc pc = .ok (.getfield idx, 3)) (kk : ja_At X (pc + 3) L (.inl 0 :: st) h) : ja_At X pc L (.inr (.inr (some (1000000 + i))) :: st) h := by
  obtain ⟨⟨p, l, e, R, s, m, args, below, meth, c, cells, slots, Q⟩, D, cy, ad, sh, A, nL⟩ := X
  intro ls vs H locs hl hv hs hL hh hP hD hS
  subst hv
  obtain ⟨o1, o2, o3, o4, o5, o6, o7, o8, o9, o10, o11, o12, t1, t2, t3, t4⟩ := ok
  exact vk_getf o1 o2 (t1.1 i hi).2.1 hS o4 (o5 _ hw) (fun _ q => q) dg (kk ls _ H locs hl rfl (ja_oc ja_r0 (ja_ot hs)) hL hh hP hD hS)
theorem ja_s_strL (ok : ja_Ok X cc own d) (hi : i < 12) (dg : decode cc pc = .ok (.arraylength, 1)) (kk : ja_At X (pc + 1) L (.inl ((jst_len.getD i 0 : Nat) : Int) :: st) h) : ja_At X pc L (.inr (.inr (some (2000000 + i))) :: st) h := by
  obtain ⟨⟨p, l, e, R, s, m, args, below, meth, c, cells, slots, Q⟩, D, cy, ad, sh, A, nL⟩ := X
  intro ls vs H locs hl hv hs hL hh hP hD hS
  subst hv
  obtain ⟨o1, o2, o3, o4, o5, o6, o7, o8, o9, o10, o11, o12, t1, t2, t3, t4⟩ := ok
  have hlt := jst_lenlt i hi
  exact va_tlen o1 o2 (t1.1 i hi).2.2.2 hS (v := Int32.ofInt ((jst_len.getD i 0 : Nat) : Int)) rfl dg (kk ls _ H locs hl rfl (ja_oc (show ja_r _ by unfold ja_r; omega) (ja_ot hs)) hL hh hP hD hS)
theorem ja_s_strB {z : Int} (ok : ja_Ok X cc own d) (hi : i < 12) (h0 : 0 ≤ z) (h1 : z < (jst_len.getD i 0 : Nat)) (dg : decode cc pc = .ok (.baload, 1)) (kk : ja_At X (pc + 1) L (.inl (jst_b i z.toNat) :: st) h) : ja_At X pc L (.inl z :: .inr (.inr (some (2000000 + i))) :: st) h := by
  obtain ⟨⟨p, l, e, R, s, m, args, below, meth, c, cells, slots, Q⟩, D, cy, ad, sh, A, nL⟩ := X
  intro ls vs H locs hl hv hs hL hh hP hD hS
  subst hv
  obtain ⟨o1, o2, o3, o4, o5, o6, o7, o8, o9, o10, o11, o12, t1, t2, t3, t4⟩ := ok
  have hz : ja_r z := ja_oh hs
  refine va_tb o1 o2 (t1.1 i hi).2.2.2 hS (ja_in hz h0 h1) (v := .int (Int32.ofInt (jst_b i z.toNat))) ?_ dg (kk ls _ H locs hl rfl (ja_oc (ja_rI _) (ja_ot (ja_ot hs))) hL hh hP hD hS)
  rw [ja_clamp hz h0]
  show Value.int _ = Value.int _
  rw [jst_b, ja_of]
theorem ja_s_gCS (ok : ja_Ok X cc own d) (hw : Cond.fieldLink own idx "java/lang/String" "COMPACT_STRINGS" "Z" ∈ ja_tbl) (dg : decode cc pc = .ok (.getstatic idx, 3)) (kk : ja_At X (pc + 3) L (.inl 1 :: st) h) : ja_At X pc L st h := by
  obtain ⟨⟨p, l, e, R, s, m, args, below, meth, c, cells, slots, Q⟩, D, cy, ad, sh, A, nL⟩ := X
  intro ls vs H locs hl hv hs hL hh hP hD hS
  subst hv
  obtain ⟨o1, o2, o3, o4, o5, o6, o7, o8, o9, o10, o11, o12, t1, t2, t3, t4⟩ := ok
  exact va_gets o1 o2 t3 hS o4 (o5 _ hw) (fun _ q => q) dg (kk ls _ H locs hl rfl (ja_oc (show ja_r 1 by unfold ja_r; omega) hs) hL hh hP hD hS)
theorem ja_s_gSI (ok : ja_Ok X cc own d) (hw : Cond.fieldLink own idx "jdk/internal/util/Preconditions" "SIOOBE_FORMATTER" "Ljava/util/function/BiFunction;" ∈ ja_tbl) (dg : decode cc pc = .ok (.getstatic idx, 3)) (kk : ∀ r, ja_At X (pc + 3) L (.inr (.inr r) :: st) h) : ja_At X pc L st h := by
  obtain ⟨⟨p, l, e, R, s, m, args, below, meth, c, cells, slots, Q⟩, D, cy, ad, sh, A, nL⟩ := X
  intro ls vs H locs hl hv hs hL hh hP hD hS
  subst hv
  obtain ⟨o1, o2, o3, o4, o5, o6, o7, o8, o9, o10, o11, o12, t1, t2, t3, r, hr, t4⟩ := ok
  exact va_gets o1 o2 t4 hS o4 (o5 _ hw) (fun _ q => q) dg (kk r ls _ H locs hl rfl (ja_oc trivial hs) hL hh hP hD hS)
theorem ja_s_callT (ok : ja_Ok X cc own d) (hk : ja_LT own idx M n) (dg : decode cc pc = .ok (.invokevirtual idx, 3)) (hd : d' + 1 ≤ d) (hn : as.length = n) (hc : ja_cat st ≤ 8) (hi : i < 12) (hC : ja_C (ja_l X) d' M (ja_sh X) (.inr (.inr (some (1000000 + i))) :: as) h Q2) (kk : ∀ r h', Q2 r h' → ja_At X (pc + 3) L (r.toList ++ st) h') : ja_At X pc L (as.reverse ++ .inr (.inr (some (1000000 + i))) :: st) h := by
  obtain ⟨⟨p, l, e, R, s, m, args, below, meth, c, cells, slots, Q⟩, D, cy, ad, sh, A, nL⟩ := X
  intro ls vs H locs hl hv hs hL hh hP hD hS
  subst hv
  obtain ⟨k1, k2, k3, k4, k5, ⟨k6, k7⟩, k8⟩ := hk
  obtain ⟨o1, o2, o3, o4, o5, o6, o7, o8, o9, o10, o11, o12, o13⟩ := ok
  have hb := callB_of (R := R) (s := s) (own := own) (index := idx) (rm := ja_rm d') (mc := 0) (ms := 0) n o5 (ja_goodM k5) rfl rfl rfl (o5 _ k4) (o5 _ k1) k6 ⟨show d' + 1 ≤ R.frames by omega, show 8 + (M.2.2.1 + 11) + 64 * d' ≤ R.locals by omega⟩
  have hs2 : ∀ u ∈ (.inr (.inr (some (1000000 + i))) :: as : List ja_W), ja_ok u := ja_oc trivial (ja_oa hs)
  have hrv := vk_recv (locs := locs) (H := H) o13.1 hi hS
  rw [← k8] at hrv
  refine ja_run (va_runV (C := M.1.cls) (b := ad (1000000 + i)) (rest := st.map (ja_c ad)) (As := as.map (ja_c ad)) ⟨o1, o2, o3, o4, o5⟩ (hC D cy ad H.size hh hs2) ⟨hb, o5 _ k2, o5 _ k3⟩ ⟨ja_blind, hrv, fun U hU hW => ⟨rfl, by rw [hU], by rw [hU]; exact hP, va_K.moved hW.alike o6, hD.weaken (fun _ _ _ _ => trivial), ja_nst_warm hW o12, ja_str_call o13 hS (ja_A1 hD hS o7) hU hW⟩⟩ rfl (by rw [List.length_map]; exact hn) hl.1 (by simp [ja_c, va_rf]) (lv_room (by rw [ja_cat_sum]; exact hc)) dg ⟨o10, o11⟩) hD hS o7 ?_
  intro r h' H1 locs1 hq hho hok hP1 hD1 hS1
  rw [ja_mapO]
  exact kk r h' hq ls _ H1 locs1 hl rfl (ja_ov hok (ja_ot (ja_ob hs))) hL hho hP1 hD1 hS1
def jb_st (i : Nat) : ja_ER := fun K => K (some (1000000 + i))
theorem jc_st (ok : ja_Ok X cc RX5 d) (hi : i < 12) (dg : decode cc pc = .ok (.ldc (jst_ix.getD i 0), 2)) : ja_OR X k pc (pc + 2) (jb_st i) := fun st hst K hK L h q => ja_s_ldcS ok hi dg (hK _ _ _ q)
def jb_sv (r : ja_ER) : ja_ER := fun K => r fun q L h => ∃ i, q = some (1000000 + i) ∧ i < 12 ∧ K (some (2000000 + i)) L h
theorem jc_sv {r : ja_ER} (ok : ja_Ok X cc own d) (hr : ja_OR X k pc p1 r) (hw : Cond.fieldLink own idx "java/lang/String" "value" "[B" ∈ ja_tbl) (dg : decode cc p1 = .ok (.getfield idx, 3)) : ja_OR X k pc (p1 + 3) (jb_sv r) := fun st hst K hK => hr st hst _ fun _ _ _ ⟨_, q1, q2, q3⟩ => by
  subst q1
  exact ja_s_strV ok q2 hw dg (hK _ _ _ q3)
def jb_sc (r : ja_ER) : ja_EI := fun K => r fun q L h => ∃ i, q = some (1000000 + i) ∧ i < 12 ∧ K 0 L h
theorem jc_sc {r : ja_ER} (ok : ja_Ok X cc own d) (hr : ja_OR X k pc p1 r) (hw : Cond.fieldLink own idx "java/lang/String" "coder" "B" ∈ ja_tbl) (dg : decode cc p1 = .ok (.getfield idx, 3)) : ja_OI X k pc (p1 + 3) (jb_sc r) := fun st hst K hK => hr st hst _ fun _ _ _ ⟨_, q1, q2, q3⟩ => by
  subst q1
  exact ja_s_strC ok q2 hw dg (hK _ _ _ q3)
def jb_sl (r : ja_ER) : ja_EI := fun K => r fun q L h => ∃ i, q = some (2000000 + i) ∧ i < 12 ∧ K ((jst_len.getD i 0 : Nat) : Int) L h
theorem jc_sl {r : ja_ER} (ok : ja_Ok X cc own d) (hr : ja_OR X k pc p1 r) (dg : decode cc p1 = .ok (.arraylength, 1)) : ja_OI X k pc (p1 + 1) (jb_sl r) := fun st hst K hK => hr st hst _ fun _ _ _ ⟨_, q1, q2, q3⟩ => by
  subst q1
  exact ja_s_strL ok q2 dg (hK _ _ _ q3)
def jb_sb (r : ja_ER) (e : ja_EI) : ja_EI := fun K => r fun q => e fun z L h => ∃ i, q = some (2000000 + i) ∧ i < 12 ∧ 0 ≤ z ∧ z < (jst_len.getD i 0 : Nat) ∧ K (jst_b i z.toNat) L h
theorem jc_sb {r : ja_ER} {e : ja_EI} (ok : ja_Ok X cc own d) (hr : ja_OR X k pc p1 r) (he : ja_OI X (k + 1) p1 p2 e) (dg : decode cc p2 = .ok (.baload, 1)) : ja_OI X k pc (p2 + 1) (jb_sb r e) := fun st hst K hK => hr st hst _ fun _ => he _ (ja_cat_R hst) _ fun _ _ _ ⟨_, q1, q2, q3, q4, q5⟩ => by
  subst q1
  exact ja_s_strB ok q2 q3 q4 dg (hK _ _ _ q5)
theorem jc_gcs (ok : ja_Ok X cc own d) (hw : Cond.fieldLink own idx "java/lang/String" "COMPACT_STRINGS" "Z" ∈ ja_tbl) (dg : decode cc pc = .ok (.getstatic idx, 3)) : ja_OI X k pc (pc + 3) (jb_ci 1) := fun st hst K hK L h q => ja_s_gCS ok hw dg (hK _ _ _ q)
def jb_gsi : ja_ER := fun K L h => ∀ r, K r L h
theorem jc_gsi (ok : ja_Ok X cc own d) (hw : Cond.fieldLink own idx "jdk/internal/util/Preconditions" "SIOOBE_FORMATTER" "Ljava/util/function/BiFunction;" ∈ ja_tbl) (dg : decode cc pc = .ok (.getstatic idx, 3)) : ja_OR X k pc (pc + 3) jb_gsi := fun st hst K hK L h q => ja_s_gSI ok hw dg fun r => hK _ _ _ (q r)
def jb_i2c (a : ja_EI) : ja_EI := fun K => a fun x => K (ja_c16 x)
theorem jc_i2c {a : ja_EI} (ok : ja_Ok X cc own d) (ha : ja_OI X k pc p1 a) (dg : decode cc p1 = .ok (.i2c, 1)) : ja_OI X k pc (p1 + 1) (jb_i2c a) := fun st hst K hK => ha st hst _ fun _ _ _ q => ja_s_i2c ok dg (hK _ _ _ q)
def jb_ct (l : Launch) (d : Nat) (sh : ja_S) (M : ja_M) (r : ja_ER) (A : ja_EA) : ja_EX := fun K => r fun q => A fun vs L h => ∃ i, q = some (1000000 + i) ∧ i < 12 ∧ ja_C l d M sh (.inr (.inr (some (1000000 + i))) :: vs) h fun r h' => K r L h'
theorem jc_ct {r : ja_ER} {A : ja_EA} {c : Nat} (ok : ja_Ok X cc own (d + 1)) (hr : ja_OR X k pc p1 r) (hA : ja_OA X (k + 1) p1 p2 c n A) (hk : ja_LT own idx M n) (dg : decode cc p2 = .ok (.invokevirtual idx, 3)) (h8 : k ≤ 8) : ja_OX X k pc (p2 + 3) (jb_ct (ja_l X) d (ja_sh X) M r A) := fun st hst K hK => hr st hst _ fun _ => hA _ (ja_cat_R hst) _ fun vs L _ _ h2 ⟨_, q1, q2, q3⟩ => by
  subst q1
  exact ja_s_callT ok hk dg (Nat.le_refl _) h2 (Nat.le_trans hst h8) q2 q3 fun r h' q => hK r L h' q
def jb_rN (ty : FieldType) (e : ja_EI) : ja_T := fun _ _ _ R => e fun z _ h => narrow ty (.int (Int32.ofInt z)) = .int (Int32.ofInt z) ∧ R (some (.inl z)) h
theorem jc_rN {ty : FieldType} {e : ja_EI} (he : ja_OI X 0 pc p1 e) (hR : ja_RN ty X cc R) (dg : decode cc p1 = .ok (.ireturn, 1)) : ja_Rz X [] pc (jb_rN ty e N B C R) := he [] ja_c0 _ fun _ _ _ q => hR _ _ _ _ dg q.1 q.2
end JST
