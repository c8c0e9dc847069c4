/-! calls: 'ja_C l d M sh as h Q': the method M, called with 'as' on the heap h, within d frames, comes back with Q -/
def ja_rm (d : Nat) : Room := { frames := d, cells := 0, slots := 0, locals := 64 * d }
abbrev ja_M : Type := MethodName × ByteArray × Nat × Option FieldType
def ja_ws (M : ja_M) : List Cond := Cond.code M.1 M.2.1 M.2.2.1 M.2.2.2 :: ja_tbl
def ja_Pc (D : va_G) (cy : Nat → ClassId) (ad : Nat → Nat) (sz : Nat) (sh : ja_S) (as : List ja_W) (h : ja_H) : Array Value → Jvm.State → Prop :=
  va_Pc (as.map (ja_c ad)) (fun U => U.heap.size = sz ∧ va_P D vwCl (ja_wld cy ad sh h) U.heap ∧ va_K D vwCl (ja_tys cy) U ∧ va_D (fun _ => True) (ja_wld cy ad sh h) ∧ ja_nst U ∧ ja_str (va_A (ja_wld cy ad sh h) sz) ad U)
def ja_Qc (D : va_G) (cy : Nat → ClassId) (ad : Nat → Nat) (sz : Nat) (sh : ja_S) (h : ja_H) (Q : Option ja_W → ja_H → Prop) : Array Value → Jvm.State → Outcome → Jvm.State → Prop := fun _ st oc t =>
  (∃ (r : Option ja_W) (h' : ja_H), oc = .returned (r.map (ja_c ad)) ∧ Q r h' ∧ ja_ho h' ∧ (∀ v, r = some v → ja_ok v) ∧ va_P D vwCl (ja_wld cy ad sh h') t.heap ∧ va_D (va_A (ja_wld cy ad sh h) sz) (ja_wld cy ad sh h')) ∧ va_F (va_A (ja_wld cy ad sh h) sz) st t
def ja_C (l : Launch) (d : Nat) (M : ja_M) (sh : ja_S) (as : List ja_W) (h : ja_H) (Q : Option ja_W → ja_H → Prop) : Prop :=
  ∀ (D : va_G) (cy : Nat → ClassId) (ad : Nat → Nat) (sz : Nat), ja_ho h → (∀ v ∈ as, ja_ok v) →
    Met l M.1 (ja_ws M) (ja_rm d) (ja_Pc D cy ad sz sh as h) (ja_Qc D cy ad sz sh h Q) 0 0 (va_A (ja_wld cy ad sh h) sz)
theorem ja_blind {D : va_G} {cy : Nat → ClassId} {ad : Nat → Nat} {sz : Nat} {sh : ja_S} {as : List ja_W} {h : ja_H} : FrameBlind (ja_Pc D cy ad sz sh as h) := by
  intro a U g mk q
  obtain ⟨q0, q1, qP, qK, qD, qN, qT⟩ := q
  exact ⟨q0, q1, qP, va_K.moved (u := U) (U := U.calling g mk a) (Vm.Alike.refl U.vm) qK, qD, ja_nst_same (u := U) rfl qN, ja_str_same (u := U) qT rfl rfl⟩
theorem ja_good : GoodIn ja_tbl ja_tbl := fun w hw => ⟨hw, good_of_word (List.mem_filter.mp hw).2⟩
theorem ja_goodM {M : ja_M} (h : Cond.code M.1 M.2.1 M.2.2.1 M.2.2.2 ∈ ja_tbl) : GoodIn ja_tbl (ja_ws M) := by
  intro w hw
  rcases List.mem_cons.mp hw with rfl | hw
  · exact ja_good _ h
  · exact ja_good w hw
theorem ja_A1 {A : Nat → Prop} {W1 : va_W} {H0 H : Heap} {locs : List Loc} (hD : va_D A W1) (hS : va_S A H0 H locs) (hA : ∀ q, H0.size ≤ q → A q) : ∀ q, va_A W1 H.size q → A q := by
  intro q hq
  rcases hq with ⟨k, e, hk⟩ | hq
  · exact hD.2 k (q, e) hk
  · exact hA q (Nat.le_trans hS.1 hq)
theorem ja_run {p : Program} {l : Launch} {e : Env} {R : Room} {s : Jvm.State} {m : MethodId} {args : Array Value} {below : List Frame} {meth : Method} {c : Code} {H : Heap} {locs : List Loc} {cells slots : Nat} {Q : Jvm.State → Prop} {D : va_G} {cy : Nat → ClassId} {ad : Nat → Nat} {sh : ja_S} {A : Nat → Prop} {pc : Nat} {ls : Array Slot} {st0 rest : List Value} {h : ja_H} {Q2 : Option ja_W → ja_H → Prop} {av : Array Value}
    (hr : va_Run p l e R s m args below meth c H locs cells slots 0 0 (F0 m pc ls st0) rest (ja_Qc D cy ad H.size sh h Q2 av) (va_A (ja_wld cy ad sh h) H.size))
    (hD : va_D A (ja_wld cy ad sh h)) (hS : va_S A s.heap H locs) (hA : ∀ q, s.heap.size ≤ q → A q)
    (kk : ∀ (r : Option ja_W) (h' : ja_H) (H1 : Heap) (locs1 : List Loc), Q2 r h' → ja_ho h' → (∀ v, r = some v → ja_ok v) → va_P D vwCl (ja_wld cy ad sh h') H1 → va_D A (ja_wld cy ad sh h') → va_S A s.heap H1 locs1 → W p l e R s m args below meth c H1 locs1 cells slots Q (F0 m (pc + 3) ls ((r.map (ja_c ad)).toList ++ rest))) : W p l e R s m args below meth c H locs cells slots Q (F0 m pc ls st0) := by
  intro T hT X
  have hA1 : ∀ q, va_A (ja_wld cy ad sh h) H.size q → A q := by
    intro q hq
    rcases hq with ⟨k, e, hk⟩ | hq
    · exact hD.2 k (q, e) hk
    · exact hA q (Nat.le_trans hS.1 hq)
  obtain ⟨v, st₀, t, T', L, h0, X', hL, e1, e2, ⟨⟨r, h', hv, hq, hho, hok, hP1, hD1⟩, hz, hk⟩, stp⟩ := hr T hT X
  have hv : v = r.map (ja_c ad) := by injection hv
  subst hv
  rw [h0] at hz hk
  obtain ⟨t2, a1, b1⟩ := kk r h' T'.heap (locs ++ L) hq hho hok (by rw [e1]; exact hP1) ⟨hD1.1, fun k q hq2 => hA1 _ (hD1.2 k q hq2)⟩
    ⟨Nat.le_trans hS.1 (by rw [e1]; exact hz), fun q h1 h2 => by rw [e1, hk q (Nat.lt_of_lt_of_le h1 hS.1) (fun z => h2 (hA1 q z))]; exact hS.2.1 q h1 h2, fun q hq => by
      rcases List.mem_append.mp hq with h | h
      · exact hS.2.2 q h
      · exact hA1 _ (hL q h)⟩ T' rfl X'
  exact ⟨t2, stp t2 a1, b1⟩
abbrev ja_D (M : ja_M) (n : Nat) : Prop := (M.1.cls ≠ "java/lang/invoke/MethodHandle" ∧ M.1.cls ≠ "java/lang/invoke/VarHandle" ∧ (parseMethodDescriptor M.1.desc).map (fun d => d.parameters.length) = some n) ∧ M.2.2.1 ≤ 45
def ja_LS (own : String) (idx : Nat) (M : ja_M) (n : Nat) : Prop := Cond.methodLink own idx M.1 ∈ ja_tbl ∧ Cond.static M.1 ∈ ja_tbl ∧ Cond.initialized M.1.cls ∈ ja_tbl ∧ Cond.code M.1 M.2.1 M.2.2.1 M.2.2.2 ∈ ja_tbl ∧ ja_D M n
def ja_LN (own : String) (idx : Nat) (host : String) (M : ja_M) (n : Nat) : Prop := Cond.methodLinkNest own idx M.1 host ∈ lw_tbl ∧ Cond.static M.1 ∈ ja_tbl ∧ Cond.initialized M.1.cls ∈ ja_tbl ∧ Cond.code M.1 M.2.1 M.2.2.1 M.2.2.2 ∈ ja_tbl ∧ ja_D M n
def ja_LV (own : String) (idx : Nat) (ci : Nat) (M : ja_M) (n : Nat) : Prop := Cond.methodLink own idx M.1 ∈ ja_tbl ∧ Cond.instanceMethod M.1 ∈ ja_tbl ∧ Cond.selects M.1.cls M.1 M.1 ∈ ja_tbl ∧ Cond.initialized M.1.cls ∈ ja_tbl ∧ Cond.code M.1 M.2.1 M.2.2.1 M.2.2.2 ∈ ja_tbl ∧ ja_D M n ∧ ∃ T, vwCl[ci]? = some (M.1.cls, T, ja_n ci)
theorem ja_oa {as st : List ja_W} (hs : ∀ u ∈ as.reverse ++ st, ja_ok u) : ∀ u ∈ as, ja_ok u := fun u hu => hs u (List.mem_append_left _ (List.mem_reverse.mpr hu))
theorem ja_ob {a st : List ja_W} (hs : ∀ u ∈ a ++ st, ja_ok u) : ∀ u ∈ st, ja_ok u := fun u hu => hs u (List.mem_append_right _ hu)
theorem ja_ov {r : Option ja_W} {st : List ja_W} (hr : ∀ v, r = some v → ja_ok v) (hs : ∀ u ∈ st, ja_ok u) : ∀ u ∈ r.toList ++ st, ja_ok u := by
  intro u hu
  rcases List.mem_append.mp hu with h | h
  · cases r with
    | none => simp at h
    | some v => simp at h; subst h; exact hr u rfl
  · exact hs u h
theorem ja_mapO (ad : Nat → Nat) (r : Option ja_W) (st : List ja_W) : (r.map (ja_c ad)).toList ++ st.map (ja_c ad) = (r.toList ++ st).map (ja_c ad) := by cases r <;> rfl
section JAC
variable {X : ja_X} {cc : ByteArray} {own : String} {d d' pc idx n : Nat} {L : ja_L} {st as : List ja_W} {h : ja_H} {M : ja_M} {Q2 : Option ja_W → ja_H → Prop}
theorem ja_s_callS (ok : ja_Ok X cc own d) (hk : ja_LS own idx M n) (dg : decode cc pc = .ok (.invokestatic idx, 3)) (hd : d' + 1 ≤ d) (hn : as.length = n) (hc : ja_cat st ≤ 8) (hC : ja_C (ja_l X) d' M (ja_sh X) as h Q2) (kk : ∀ r h', Q2 r h' → ja_At X (pc + 3) L (r.toList ++ st) h') : ja_At X pc L (as.reverse ++ st) h := by
  obtain ⟨⟨p, l, e, R, s, m, args, below, meth, c, cells, slots, Q⟩, D, cy, ad, sh, A, nL⟩ := X
  intro ls vs H locs hl hv hs hL hh hP hD hS
  subst hv
  obtain ⟨k1, k2, k3, k4, k5, k6⟩ := hk
  obtain ⟨o1, o2, o3, o4, o5, o6, o7, o8, o9, o10, o11, o12, o13⟩ := ok
  have hb := callB_of (R := R) (s := s) (own := own) (index := idx) (rm := ja_rm d') (mc := 0) (ms := 0) n o5 (ja_goodM k4) rfl rfl rfl (o5 _ k3) (o5 _ k1) k5 ⟨show d' + 1 ≤ R.frames by omega, show 8 + (M.2.2.1 + 11) + 64 * d' ≤ R.locals by omega⟩
  refine ja_run (va_runS (rest := st.map (ja_c ad)) (As := as.map (ja_c ad)) ⟨o1, o2, o3, o4, o5⟩ (hC D cy ad H.size hh (ja_oa hs)) ⟨hb, o5 _ k2⟩ ⟨ja_blind, fun U hU hW => ⟨rfl, by rw [hU], by rw [hU]; exact hP, va_K.moved hW.alike o6, hD.weaken (fun _ _ _ _ => trivial), ja_nst_warm hW o12, ja_str_call o13 hS (ja_A1 hD hS o7) hU hW⟩⟩ rfl (by rw [List.length_map]; exact hn) hl.1 (by simp) (lv_room (by rw [ja_cat_sum]; exact hc)) dg ⟨o10, o11⟩) hD hS o7 ?_
  intro r h' H1 locs1 hq hho hok hP1 hD1 hS1
  rw [ja_mapO]
  exact kk r h' hq ls _ H1 locs1 hl rfl (ja_ov hok (ja_ob hs)) hL hho hP1 hD1 hS1
theorem ja_s_callN {host : String} (ok : ja_Ok X cc own d) (hk : ja_LN own idx host M n) (dg : decode cc pc = .ok (.invokestatic idx, 3)) (hd : d' + 1 ≤ d) (hn : as.length = n) (hc : ja_cat st ≤ 8) (hC : ja_C (ja_l X) d' M (ja_sh X) as h Q2) (kk : ∀ r h', Q2 r h' → ja_At X (pc + 3) L (r.toList ++ st) h') : ja_At X pc L (as.reverse ++ st) h := by
  obtain ⟨⟨p, l, e, R, s, m, args, below, meth, c, cells, slots, Q⟩, D, cy, ad, sh, A, nL⟩ := X
  intro ls vs H locs hl hv hs hL hh hP hD hS
  subst hv
  obtain ⟨k1, k2, k3, k4, k5, k6⟩ := hk
  obtain ⟨o1, o2, o3, o4, o5, o6, o7, o8, o9, o10, o11, o12, o13⟩ := ok
  have hb : va_CN R s args own idx M.1 host M.2.1 M.2.2.1 M.2.2.2 (ja_ws M) (ja_rm d') 0 0 n := by
    refine ⟨⟨rfl, rfl, show d' + 1 ≤ R.frames by omega, show 8 + (M.2.2.1 + 11) + 64 * d' ≤ R.locals by omega, pay_in o5 (ja_goodM k4), List.mem_cons_self⟩, o5 _ k4, o5 _ k3, ⟨k5.1, k5.2.1⟩, fun sig hsig => ?_, va_Nw.use rfl (o12 _ _ _ _ k1)⟩
    have h2 := k5.2.2
    rw [hsig] at h2
    exact (Option.some.inj h2).symm
  refine ja_run (va_runSN (rest := st.map (ja_c ad)) (As := as.map (ja_c ad)) ⟨o1, o2, o3, o4, o5⟩ (hC D cy ad H.size hh (ja_oa hs)) ⟨hb, o5 _ k2, trivial⟩ ⟨ja_blind, fun U hU hW => ⟨rfl, by rw [hU], by rw [hU]; exact hP, va_K.moved hW.alike o6, hD.weaken (fun _ _ _ _ => trivial), ja_nst_warm hW o12, ja_str_call o13 hS (ja_A1 hD hS o7) hU hW⟩⟩ rfl (by rw [List.length_map]; exact hn) hl.1 (by simp) (lv_room (by rw [ja_cat_sum]; exact hc)) dg ⟨o10, o11⟩) hD hS o7 ?_
  intro r h' H1 locs1 hq hho hok hP1 hD1 hS1
  rw [ja_mapO]
  exact kk r h' hq ls _ H1 locs1 hl rfl (ja_ov hok (ja_ob hs)) hL hho hP1 hD1 hS1
theorem ja_s_callV {ci k : Nat} (ok : ja_Ok X cc own d) (hk : ja_LV own idx ci M n) (dg : decode cc pc = .ok (.invokevirtual idx, 3)) (hd : d' + 1 ≤ d) (hn : as.length = n) (hc : ja_cat st ≤ 8) (hr : (ja_sh X)[k]? = some (0, ci)) (hC : ja_C (ja_l X) d' M (ja_sh X) (.inr (.inr (some k)) :: as) h Q2) (kk : ∀ r h', Q2 r h' → ja_At X (pc + 3) L (r.toList ++ st) h') : ja_At X pc L (as.reverse ++ .inr (.inr (some k)) :: st) h := by
  obtain ⟨⟨p, l, e, R, s, m, args, below, meth, c, cells, slots, Q⟩, D, cy, ad, sh, A, nL⟩ := X
  intro ls vs H locs hl hv hs hL hh hP hD hS
  subst hv
  obtain ⟨k1, k2, k3, k4, k5, ⟨k6, k7⟩, T, k8⟩ := hk
  obtain ⟨o1, o2, o3, o4, o5, o6, o7, o8, o9, o10, o11, o12, o13⟩ := ok
  have hb := callB_of (R := R) (s := s) (own := own) (index := idx) (rm := ja_rm d') (mc := 0) (ms := 0) n o5 (ja_goodM k5) rfl rfl rfl (o5 _ k4) (o5 _ k1) k6 ⟨show d' + 1 ≤ R.frames by omega, show 8 + (M.2.2.1 + 11) + 64 * d' ≤ R.locals by omega⟩
  have hs2 : ∀ u ∈ (.inr (.inr (some k)) :: as : List ja_W), ja_ok u := ja_oc trivial (ja_oa hs)
  refine ja_run (va_runV (C := M.1.cls) (b := ad k) (rest := st.map (ja_c ad)) (As := as.map (ja_c ad)) ⟨o1, o2, o3, o4, o5⟩ (hC D cy ad H.size hh hs2) ⟨hb, o5 _ k2, o5 _ k3⟩ ⟨ja_blind, va_recv o6 hP k8 (ja_wld_at hr), fun U hU hW => ⟨rfl, by rw [hU], by rw [hU]; exact hP, va_K.moved hW.alike o6, hD.weaken (fun _ _ _ _ => trivial), ja_nst_warm hW o12, ja_str_call o13 hS (ja_A1 hD hS o7) hU hW⟩⟩ rfl (by rw [List.length_map]; exact hn) hl.1 (by simp [ja_c, va_rf]) (lv_room (by rw [ja_cat_sum]; exact hc)) dg ⟨o10, o11⟩) hD hS o7 ?_
  intro r h' H1 locs1 hq hho hok hP1 hD1 hS1
  rw [ja_mapO]
  exact kk r h' hq ls _ H1 locs1 hl rfl (ja_ov hok (ja_ot (ja_ob hs))) hL hho hP1 hD1 hS1
end JAC
/-! entry and return -/
theorem ja_en_mem (ad : Nat → Nat) : ∀ (as : List ja_W) (o i : Nat) (w : ja_W), ja_get (ja_en as) i = some w → (o + i, ja_c ad w) ∈ lv_args o (as.map (ja_c ad))
  | [], o, i, w, h => by simp [ja_en, ja_get] at h
  | v :: r, o, i, w, h => by
    show (o + i, ja_c ad w) ∈ (o, ja_c ad v) :: lv_args (if (ja_c ad v).category = 2 then o + 2 else o + 1) (r.map (ja_c ad))
    rw [ja_cat_c]
    unfold ja_en at h
    by_cases hv : ja_lg v = true
    · simp only [hv, if_true] at h ⊢
      match i, h with
      | 0, h => cases h; exact List.mem_cons_self
      | 1, h => simp [ja_get] at h
      | i + 2, h =>
        have := ja_en_mem ad r (o + 2) i w h
        rw [show o + (i + 2) = o + 2 + i by omega]
        exact List.mem_cons_of_mem _ this
    · simp only [hv] at h ⊢
      match i, h with
      | 0, h => cases h; exact List.mem_cons_self
      | i + 1, h =>
        have := ja_en_mem ad r (o + 1) i w h
        rw [show o + (i + 1) = o + 1 + i by omega]
        exact List.mem_cons_of_mem _ this
theorem ja_en_ok : ∀ (as : List ja_W) (i : Nat) (w : ja_W), ja_get (ja_en as) i = some w → w ∈ as
  | [], i, w, h => by simp [ja_en, ja_get] at h
  | v :: r, i, w, h => by
    unfold ja_en at h
    by_cases hv : ja_lg v = true
    · simp only [hv, if_true] at h
      match i, h with
      | 0, h => cases h; exact List.mem_cons_self
      | 1, h => simp [ja_get] at h
      | i + 2, h => exact List.mem_cons_of_mem _ (ja_en_ok r i w h)
    · simp only [hv] at h
      match i, h with
      | 0, h => cases h; exact List.mem_cons_self
      | i + 1, h => exact List.mem_cons_of_mem _ (ja_en_ok r i w h)
def ja_pad (n : Nat) (L : ja_L) : ja_L := L ++ List.replicate (n - L.length) none
theorem ja_get_pad {n : Nat} : ∀ {L : ja_L} {k i : Nat} {w : ja_W}, ja_get (L ++ List.replicate k none) i = some w → ja_get L i = some w
  | [], k, i, w, h => by
    exfalso
    rw [List.nil_append, ja_get_eq] at h
    rw [List.getElem?_replicate] at h
    split at h <;> simp at h
  | x :: r, k, 0, w, h => h
  | x :: r, k, i + 1, w, h => ja_get_pad (n := n) (L := r) h
theorem ja_sl_len (ad : Nat → Nat) : ∀ as : List ja_W, (lg_sl (as.map (ja_c ad))).length = ja_cat as
  | [] => rfl
  | v :: r => by
    have ih := ja_sl_len ad r
    simp only [List.map_cons, lg_sl, List.flatMap_cons, List.length_append] at ih ⊢
    rw [ih, ja_cat_c]
    simp only [ja_cat]
    by_cases hv : ja_lg v = true <;> simp [hv]
/-- what a method's body gets: its own X, the return rows -/
def ja_RI (X : ja_X) (cc : ByteArray) (R : Option ja_W → ja_H → Prop) : Prop := ∀ pc L z h, decode cc pc = .ok (.ireturn, 1) → R (some (.inl z)) h → ja_At X pc L [.inl z] h
def ja_RZ (X : ja_X) (cc : ByteArray) (R : Option ja_W → ja_H → Prop) : Prop := ∀ pc L z h, decode cc pc = .ok (.ireturn, 1) → (z = 0 ∨ z = 1) → R (some (.inl z)) h → ja_At X pc L [.inl z] h
def ja_RN (ty : FieldType) (X : ja_X) (cc : ByteArray) (R : Option ja_W → ja_H → Prop) : Prop := ∀ pc L z h, decode cc pc = .ok (.ireturn, 1) → narrow ty (.int (Int32.ofInt z)) = .int (Int32.ofInt z) → R (some (.inl z)) h → ja_At X pc L [.inl z] h
def ja_RL (X : ja_X) (cc : ByteArray) (R : Option ja_W → ja_H → Prop) : Prop := ∀ pc L z h, decode cc pc = .ok (.lreturn, 1) → R (some (.inr (.inl z))) h → ja_At X pc L [.inr (.inl z)] h
def ja_RR (X : ja_X) (cc : ByteArray) (R : Option ja_W → ja_H → Prop) : Prop := ∀ pc L r h, decode cc pc = .ok (.areturn, 1) → R (some (.inr (.inr r))) h → ja_At X pc L [.inr (.inr r)] h
def ja_RV (X : ja_X) (cc : ByteArray) (R : Option ja_W → ja_H → Prop) : Prop := ∀ pc L h, decode cc pc = .ok (.return_, 1) → R none h → ja_At X pc L [] h
def ja_Rt (X : ja_X) (cc : ByteArray) (R : Option ja_W → ja_H → Prop) : Option FieldType → Prop
  | none => ja_RV X cc R
  | some .int => ja_RI X cc R
  | some .boolean => ja_RZ X cc R
  | some .byte => ja_RN .byte X cc R
  | some .char => ja_RN .char X cc R
  | some .long => ja_RL X cc R
  | some (.object _) => ja_RR X cc R
  | _ => True
theorem ja_met {l : Launch} {d : Nat} {M : ja_M} {sh : ja_S} {as : List ja_W} {h : ja_H} {Q : Option ja_W → ja_H → Prop} (hy : plainFor M.1 = true) (hcat : ja_cat as ≤ M.2.2.1)
    (body : ∀ X : ja_X, ja_Ok X M.2.1 M.1.cls d → ja_l X = l → ja_sh X = sh → X.2.2.2.2.2.2 = M.2.2.1 → ja_Rt X M.2.1 Q M.2.2.2 → (∀ v ∈ as, ja_ok v) → ja_ho h → ja_At X 0 (ja_pad M.2.2.1 (ja_en as)) [] h) : ja_C l d M sh as h Q := by
  intro D cy ad sz hho has
  refine va_MetF (cc := M.2.1) (maxL := M.2.2.1) (ret := M.2.2.2) hy rfl ?_
  intro p e s m args below meth c s₁ B hml hv
  obtain ⟨rfl, hsz, hP, hK, hD0, hnst, hstr⟩ := hv
  have hx := B.exec
  have hb := B.bytes
  have hr := B.returns
  have hts0 := atoms_spec (ws := ja_ws M) B.pre
  have hts : ∀ w ∈ ja_tbl, w.before (as.map (ja_c ad)).toArray s = true := fun w hw => hts0 w (List.mem_cons_of_mem _ hw)
  have hown : s.vm.findClass M.1.cls = some m.cls := findClass_of_methodNamed B.named
  have hlocks := B.notSynchronized
  subst hsz
  have hD := hD0.self (sz := s.heap.size)
  have hS : va_S (va_A (ja_wld cy ad sh h) s.heap.size) s.heap s.heap [] := va_S.rf
  have hl := lv_entry (as.map (ja_c ad)) (n := M.2.2.1) (by rw [ja_sl_len]; exact hcat)
  rw [lg_entry_eq]
  have key := body ((p, l, e, ja_rm d, s, m, (as.map (ja_c ad)).toArray, below, meth, c, 0, 0, MQ below (ja_Qc D cy ad s.heap.size sh h Q) (as.map (ja_c ad)).toArray s 0 0 (va_A (ja_wld cy ad sh h) s.heap.size)), D, cy, ad, sh, va_A (ja_wld cy ad sh h) s.heap.size, M.2.2.1)
    ⟨hx, hb, hml, hown, hts, hK, fun q hq => Or.inr hq, Nat.le_refl d, Nat.le_refl _, Nat.le_refl _, Nat.le_refl _, hnst, hstr⟩ rfl rfl rfl ?_ has hho
  · refine key _ [] s.heap [] ⟨hl.1, hl.2.1, fun q hq => ?_⟩ rfl (fun v hv => by simp at hv) (fun i v hv => has v (ja_en_ok as i v (ja_get_pad (n := 0) hv))) hho hP hD hS
    obtain ⟨j, u⟩ := q
    obtain ⟨w, -, h1, h2⟩ := (ja_ls_mem ad _ 0 j u).mp hq
    rw [Nat.sub_zero] at h1
    subst h2
    refine hl.2.2 (j, ja_c ad w) ?_
    have := ja_en_mem ad as 0 j w (ja_get_pad (n := 0) h1)
    rw [Nat.zero_add] at this
    exact this
  · have fin : ∀ (r : Option ja_W) (h' : ja_H) (H : Heap) (locs : List Loc), Q r h' → ja_ho h' → (∀ v, r = some v → ja_ok v) → va_P D vwCl (ja_wld cy ad sh h') H → va_D (va_A (ja_wld cy ad sh h) s.heap.size) (ja_wld cy ad sh h') → va_S (va_A (ja_wld cy ad sh h) s.heap.size) s.heap H locs → ∀ t : Jvm.State, t.heap = H → ja_Qc D cy ad s.heap.size sh h Q (as.map (ja_c ad)).toArray s (.returned (r.map (ja_c ad))) t := by
      intro r h' H locs hq hho' hok hP' hD' hS' t ht
      exact ⟨⟨r, h', rfl, hq, hho', hok, by rw [ht]; exact hP', hD'⟩, hS'.F ht⟩
    rcases hret : M.2.2.2 with _ | ty
    · intro pc L h' dg hq ls vs H locs hl hv hs hL hh hP' hD' hS'
      subst hv
      exact W.vret hx hb (hr.trans hret) (fun t ht hW => fin none h' H locs hq hh (fun v q => by cases q) hP' hD' hS' t ht) hS'.2.2 dg
    · cases ty with
      | int =>
        intro pc L z h' dg hq ls vs H locs hl hv hs hL hh hP' hD' hS'
        subst hv
        exact W.iret hx hb (hr.trans hret) (fun t ht hW => fin (some (.inl z)) h' H locs hq hh (fun v q => by cases q; exact ja_oh hs) hP' hD' hS' t ht) hS'.2.2 dg
      | boolean =>
        intro pc L z h' dg hz hq ls vs H locs hl hv hs hL hh hP' hD' hS'
        subst hv
        exact W.zret hx hb (hr.trans hret) (by rcases hz with rfl | rfl <;> rfl) (fun t ht hW => fin (some (.inl z)) h' H locs hq hh (fun v q => by cases q; exact ja_oh hs) hP' hD' hS' t ht) hS'.2.2 dg
      | byte =>
        intro pc L z h' dg hz hq ls vs H locs hl hv hs hL hh hP' hD' hS'
        subst hv
        exact W.zret hx hb (hr.trans hret) hz (fun t ht hW => fin (some (.inl z)) h' H locs hq hh (fun v q => by cases q; exact ja_oh hs) hP' hD' hS' t ht) hS'.2.2 dg
      | char =>
        intro pc L z h' dg hz hq ls vs H locs hl hv hs hL hh hP' hD' hS'
        subst hv
        exact W.zret hx hb (hr.trans hret) hz (fun t ht hW => fin (some (.inl z)) h' H locs hq hh (fun v q => by cases q; exact ja_oh hs) hP' hD' hS' t ht) hS'.2.2 dg
      | long =>
        intro pc L z h' dg hq ls vs H locs hl hv hs hL hh hP' hD' hS'
        subst hv
        exact W.lret hx hb (hr.trans hret) (fun t ht hW => fin (some (.inr (.inl z))) h' H locs hq hh (fun v q => by cases q; exact ja_oh hs) hP' hD' hS' t ht) hS'.2.2 dg
      | object C =>
        intro pc L r h' dg hq ls vs H locs hl hv hs hL hh hP' hD' hS'
        subst hv
        refine W.aret hx hb (hr.trans hret) (Or.inl ⟨_, rfl⟩) ?_ (fun t ht hW => fin (some (.inr (.inr r))) h' H locs hq hh (fun v q => by cases q; exact ja_oh hs) hP' hD' hS' t ht) hS'.2.2 dg
        cases r with
        | none => exact Or.inl rfl
        | some r => exact Or.inr ⟨_, rfl⟩
      | _ => trivial
