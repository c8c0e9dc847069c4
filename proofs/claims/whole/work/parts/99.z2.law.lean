/-! the law: the script, its own growing -/
def ja_Im : ja_X → Prop
  | ((_, _, _, _, s, _, _, _, _, _, _, _, _), _) => va_AO "TwoSuns$Picture" s ∧ va_AO "TwoSuns$Program" s
/-- where a constructor stands: X0 at its entry, X now, grown by ext, with ce cells of sl slots; CE and SL in all -/
def ja_Cy (X0 X : ja_X) (cc : ByteArray) (own : String) (d : Nat) (ext : ja_S) (ce sl CE SL : Nat) : Prop := ja_Ok X cc own d ∧ ja_Im X ∧ ja_Gr X0 X ext ce sl ∧ ja_Rm X0 CE SL
section JCY
variable {X0 X : ja_X} {cc : ByteArray} {own : String} {d pc idx k ce sl CE SL : Nat} {ext : ja_S} {L : ja_L} {st : List ja_W} {h : ja_H}
theorem ja_Cy_sh (cx : ja_Cy X0 X cc own d ext ce sl CE SL) : ja_sh X = ja_sh X0 ++ ext := by
  obtain ⟨-, -, ⟨ad', -, rfl⟩, -⟩ := cx
  rfl
theorem ja_Cy_l (cx : ja_Cy X0 X cc own d ext ce sl CE SL) : ja_l X = ja_l X0 := by
  obtain ⟨-, -, ⟨ad', -, rfl⟩, -⟩ := cx
  rfl
theorem ja_Cy_nL (cx : ja_Cy X0 X cc own d ext ce sl CE SL) : X.2.2.2.2.2.2 = X0.2.2.2.2.2.2 := by
  obtain ⟨-, -, ⟨ad', -, rfl⟩, -⟩ := cx
  rfl
theorem ja_Cy_len (cx : ja_Cy X0 X cc own d ext ce sl CE SL) : (ja_sh X).length = (ja_sh X0).length + ext.length := by rw [ja_Cy_sh cx, List.length_append]
theorem ja_Cy_at (cx : ja_Cy X0 X cc own d ext ce sl CE SL) (i : Nat) {q : Nat × Nat} (hk : (ja_sh X0).length + i = k) (hi : ext[i]? = some q) : (ja_sh X)[k]? = some q := by
  rw [ja_Cy_sh cx, List.getElem?_append_right (by omega), show k - (ja_sh X0).length = i by omega]
  exact hi
theorem ja_Cy_old (cx : ja_Cy X0 X cc own d ext ce sl CE SL) {q : Nat × Nat} (hk : (ja_sh X0)[k]? = some q) : (ja_sh X)[k]? = some q := by
  rw [ja_Cy_sh cx, List.getElem?_append_left (List.getElem?_eq_some_iff.mp hk).1]
  exact hk
/-- X grows by one cell -/
theorem ja_Cy_one (cx : ja_Cy X0 X cc own d ext ce sl CE SL) {q : Nat × Nat} {n a : Nat} (hc : ce + 1 ≤ CE) (hs : sl + n ≤ SL) (hk : (ja_sh X).length = k) (h1 : k < 1000000) : ja_Cy X0 (ja_gX X (fun j => if j = k then a else ja_ad X j) [q] 1 n) cc own d (ext ++ [q]) (ce + 1) (sl + n) CE SL := by
  obtain ⟨ok, hI, hG, hR⟩ := cx
  have ag : ja_ag (ja_sh X).length (ja_ad X) (fun j => if j = k then a else ja_ad X j) := fun j hj => by
    show (if j = k then a else ja_ad X j) = ja_ad X j
    rw [if_neg (by omega)]
  have hG2 : ja_Gr X0 (ja_gX X (fun j => if j = k then a else ja_ad X j) [q] 1 n) (ext ++ [q]) (ce + 1) (sl + n) := ja_Gr_tr hG ⟨_, ag, rfl⟩
  refine ⟨?_, ?_, hG2, hR⟩
  · obtain ⟨ad', -, rfl⟩ := hG
    obtain ⟨⟨p, l, e, R, s, m, args, below, meth, c, cells, slots, Q⟩, D, cy, ad, sh, A, nL⟩ := X0
    obtain ⟨o1, o2, o3, o4, o5, o6, o7, o8, o9, o10, o11, o12, o13⟩ := ok
    exact ⟨o1, o2, o3, o4, o5, o6, o7, o8, o9, by have := hR.1; show cells + ce + 1 ≤ R.cells; omega, by have := hR.2; show slots + sl + n ≤ R.slots; omega, o12, ja_str_ag ag o13⟩
  · obtain ⟨ad', -, rfl⟩ := hG
    obtain ⟨⟨p, l, e, R, s, m, args, below, meth, c, cells, slots, Q⟩, D, cy, ad, sh, A, nL⟩ := X0
    exact hI
theorem jz_new {ci : Nat} (cx : ja_Cy X0 X cc own d ext ce sl CE SL) (hN : ja_Nw own idx ci) (dg : decode cc pc = .ok (.new idx, 3)) (hk : (ja_sh X).length = k) (h1 : k < 1000000) (hc : ce + 1 ≤ CE) (hs : sl + ja_n ci ≤ SL) (hcl : ja_cls k h) (hst : ∀ v ∈ st, ja_k k v) (hL : ja_kL k L) (hb : ja_bk k h)
    (kk : ∀ X', ja_Cy X0 X' cc own d (ext ++ [(0, ci)]) (ce + 1) (sl + ja_n ci) CE SL → ja_At X' (pc + 3) L (.inr (.inr (some k)) :: st) h) : ja_At X pc L st h := by
  have key := fun a => kk _ (ja_Cy_one (a := a) cx (q := (0, ci)) hc hs hk h1)
  have hR := (ja_Cy_one (a := 0) cx (q := (0, ci)) hc hs hk h1).1
  have ok := cx.1
  clear kk cx
  obtain ⟨⟨p, l, e, R, s, m, args, below, meth, c, cells, slots, Q⟩, D, cy, ad, sh, A, nL⟩ := X
  have hk : sh.length = k := hk
  subst hk
  intro ls vs H locs hl hv hs2 hL2 hh hP hD hS
  subst hv
  obtain ⟨C, T, n1, n2, n3, n4, n5, n6, n7⟩ := hN
  obtain ⟨o1, o2, o3, o4, o5, o6, o7, o8, o9, o10, o11, o12, o13⟩ := ok
  refine va_new (fs := (List.range (ja_n ci)).map fun j => ja_fv ad h sh.length j (ja_ty ci j)) o1 o2 o5 n2 (ja_ty ci) n3 o4 (o5 _ n4) (o5 _ n5) (o5 _ n6) o6 hP hD hS o7 n1 (fun j hj => ?_) hR.2.2.2.2.2.2.2.2.2.1 hR.2.2.2.2.2.2.2.2.2.2.1 dg ?_
  · rw [ja_dv (j := j) (ad := ad) hb (ja_ty ci j) (n7 j hj)]
    simp [vp_V, List.getD, hj]
  · intro a H1 hP1 hD1 hS1
    have ag : ja_ag sh.length ad (fun j => if j = sh.length then a else ad j) := fun j hj => by
      show (if j = sh.length then a else ad j) = ad j
      rw [if_neg (by omega)]
    have e : ja_wld cy (fun j => if j = sh.length then a else ad j) (sh ++ [(0, ci)]) h = ja_wld cy ad sh h ++ [(a, .inr (ci, (List.range (ja_n ci)).map fun j => ja_fv ad h sh.length j (ja_ty ci j)))] := by
      rw [ja_wld_push, ja_k_wld ag hcl, ja_k_cel ag hcl]
      simp only [if_true]
      rfl
    have key := key a ls (.ref a :: st.map (ja_c ad)) H1 locs
    refine key (by rw [ja_k_ls ag L 0 hL]; exact hl) ?_ (ja_oc trivial hs2) hL2 hh (by rw [e]; exact hP1) (by rw [e]; exact hD1) hS1
    rw [List.map_cons, ja_k_st ag hst]
    simp [ja_c, va_rf]
end JCY
section JCY3
variable {X0 X : ja_X} {cc : ByteArray} {own : String} {d d' pc idx k n ce sl CE SL mc ms r : Nat} {ext ext2 : ja_S} {L : ja_L} {st as : List ja_W} {h : ja_H} {M : ja_M} {Q2 : ja_H → Prop}
/-- X grows by what a call has made -/
theorem ja_Cy_more (cx : ja_Cy X0 X cc own d ext ce sl CE SL) {ad' : Nat → Nat} (ag : ja_ag (ja_sh X).length (ja_ad X) ad') (hc : ce + mc ≤ CE) (hs : sl + ms ≤ SL) : ja_Cy X0 (ja_gX X ad' ext2 mc ms) cc own d (ext ++ ext2) (ce + mc) (sl + ms) CE SL := by
  obtain ⟨ok, hI, hG, hR⟩ := cx
  refine ⟨?_, ?_, ja_Gr_tr hG ⟨_, ag, rfl⟩, hR⟩
  · obtain ⟨ad2, -, rfl⟩ := hG
    obtain ⟨⟨p, l, e, R, s, m, args, below, meth, c, cells, slots, Q⟩, D, cy, ad, sh, A, nL⟩ := X0
    obtain ⟨o1, o2, o3, o4, o5, o6, o7, o8, o9, o10, o11, o12, o13⟩ := ok
    exact ⟨o1, o2, o3, o4, o5, o6, o7, o8, o9, by have := hR.1; show cells + ce + mc ≤ R.cells; omega, by have := hR.2; show slots + sl + ms ≤ R.slots; omega, o12, ja_str_ag ag o13⟩
  · obtain ⟨ad2, -, rfl⟩ := hG
    obtain ⟨⟨p, l, e, R, s, m, args, below, meth, c, cells, slots, Q⟩, D, cy, ad, sh, A, nL⟩ := X0
    exact hI
theorem jz_call (cx : ja_Cy X0 X cc own d ext ce sl CE SL) (hk : ja_LI own idx M n) (dg : decode cc pc = .ok (.invokespecial idx, 3)) (hd : d' + 1 ≤ d) (hn : as.length = n) (hcat : ja_cat st ≤ 8) (hc : ce + mc ≤ CE) (hs : sl + ms ≤ SL) (hst : ∀ v ∈ st, ja_k (ja_sh X).length v) (hL : ja_kL (ja_sh X).length L) (hC : ja_G (ja_l X) d' M mc ms (ja_sh X) (.inr (.inr (some r)) :: as) h ext2 Q2)
    (kk : ∀ X' h', Q2 h' → ja_Cy X0 X' cc own d (ext ++ ext2) (ce + mc) (sl + ms) CE SL → ja_At X' (pc + 3) L st h') : ja_At X pc L (as.reverse ++ .inr (.inr (some r)) :: st) h := by
  have key := fun ad' (ag : ja_ag (ja_sh X).length (ja_ad X) ad') h' q => kk _ h' q (ja_Cy_more (mc := mc) (ms := ms) (ext2 := ext2) cx ag hc hs)
  have hR := (ja_Cy_more (mc := mc) (ms := ms) (ext2 := ext2) (ad' := ja_ad X) cx (fun _ _ => rfl) hc hs).1
  have ok := cx.1
  have hI := cx.2.1
  clear kk cx
  obtain ⟨⟨p, l, e, R, s, m, args, below, meth, c, cells, slots, Q⟩, D, cy, ad, sh, A, nL⟩ := X
  intro ls vs H locs hl hv hs3 hL2 hh hP hD hS
  subst hv
  obtain ⟨k1, k2, k3, k4, ⟨k5, k6⟩, k7, k8⟩ := hk
  obtain ⟨My, Mc, ML, Mr⟩ := M
  have k8 : Mr = none := k8
  subst k8
  have hR1 := hR.2.2.2.2.2.2.2.2.2.1
  have hR2 := hR.2.2.2.2.2.2.2.2.2.2.1
  clear hR
  obtain ⟨o1, o2, o3, o4, o5, o6, o7, o8, o9, o10, o11, o12, o13⟩ := ok
  have hb := callB_of (R := R) (s := s) (own := own) (index := idx) (rm := ja_rg d' mc ms) (mc := mc) (ms := ms) n o5 (ja_goodM (M := (My, Mc, ML, none)) k4) rfl rfl rfl (o5 _ k3) (o5 _ k1) k5 ⟨show d' + 1 ≤ R.frames by omega, show 8 + (ML + 11) + 64 * d' ≤ R.locals by have k6 : ML ≤ 45 := k6; omega⟩
  have hs2 : ∀ u ∈ (.inr (.inr (some r)) :: as : List ja_W), ja_ok u := ja_oc trivial (ja_oa hs3)
  have hr := va_runI (b := ad r) (rest := st.map (ja_c ad)) (As := as.map (ja_c ad)) (below := below) (meth := meth) (e := e) (locs := locs) (cells := cells) (slots := slots) (g := F0 m pc ls ((as.reverse ++ .inr (.inr (some r)) :: st).map (ja_c ad))) ⟨o1, o2, o3, o4, o5⟩ (hC D cy ad H.size hh hs2) ⟨hb, k7, o5 _ k2⟩ ⟨ja_blindG, fun U hU hW => ⟨rfl, ⟨by rw [hU], by rw [hU]; exact hP, va_K.moved hW.alike o6, hD.weaken (fun _ _ _ _ => trivial), ja_nst_warm hW o12, ja_str_call o13 hS (ja_A1 hD hS o7) hU hW⟩, va_AO.moved hW.alike hI.1, va_AO.moved hW.alike hI.2⟩⟩ rfl (by rw [List.length_map]; exact hn) hl.1 (by show List.map _ _ = _; simp [ja_c, va_rf]) (lv_room (by rw [ja_cat_sum]; exact hcat)) dg ⟨hR1, hR2⟩
  intro T hT X
  have hA1 := ja_A1 hD hS o7
  obtain ⟨v, st₀, t, T', L2, h0, X', hL3, e1, e2, ⟨⟨ad', h', ag, hv, hq, hho, hP1, hD1⟩, hz, hk2⟩, stp⟩ := hr T hT X
  have hv : v = none := by injection hv
  subst hv
  rw [h0] at hz hk2
  obtain ⟨t2, a1, b1⟩ := key ad' ag h' hq ls (st.map (ja_c ad)) T'.heap (locs ++ L2) (by rw [ja_k_ls ag L 0 hL]; exact hl) (ja_k_st ag hst).symm (ja_ot (ja_ob hs3)) hL2 hho (by rw [e1]; exact hP1) ⟨hD1.1, fun k q hq2 => hA1 _ (hD1.2 k q hq2)⟩
    ⟨Nat.le_trans hS.1 (by rw [e1]; exact hz), fun q h1 h2 => by rw [e1, hk2 q (Nat.lt_of_lt_of_le h1 hS.1) (fun z => h2 (hA1 q z))]; exact hS.2.1 q h1 h2, fun q hq => by
      rcases List.mem_append.mp hq with h | h
      · exact hS.2.2 q h
      · exact hA1 _ (hL3 q h)⟩ T' rfl X'
  exact ⟨t2, stp t2 a1, b1⟩
end JCY3

theorem ja_Cy_e {X0 X : ja_X} {cc : ByteArray} {own : String} {d ce sl ce' sl' CE SL : Nat} {ext ext' : ja_S} (cx : ja_Cy X0 X cc own d ext ce sl CE SL) (h1 : ext = ext') (h2 : ce = ce') (h3 : sl = sl') : ja_Cy X0 X cc own d ext' ce' sl' CE SL := by
  subst h1; subst h2; subst h3; exact cx
def ja_Sc : ja_X → Nat → (Nat → Int32) → Prop
  | ((_, _, _, _, s, _, _, _, _, _, _, _, _), _, _, ad, _, A, _), L, xs => va_X (ad 3000000) L xs s s.heap ∧ ad 3000000 < s.heap.size ∧ ¬ A (ad 3000000)
theorem ja_Sc_gr {X X' : ja_X} {ext : ja_S} {ce sl L : Nat} {xs : Nat → Int32} (h : ja_Sc X L xs) (hG : ja_Gr X X' ext ce sl) : ja_Sc X' L xs := by
  obtain ⟨⟨p, l, e, R, s, m, args, below, meth, c, cells, slots, Q⟩, D, cy, ad, sh, A, nL⟩ := X
  obtain ⟨ad', ha, rfl⟩ := hG
  have e : ad' 3000000 = ad 3000000 := ha 3000000 (Or.inr (by decide))
  show va_X (ad' 3000000) L xs s s.heap ∧ ad' 3000000 < s.heap.size ∧ ¬ A (ad' 3000000)
  rw [e]
  exact h
section JSC
variable {X : ja_X} {cc : ByteArray} {own : String} {d pc L : Nat} {xs : Nat → Int32} {Lc : ja_L} {st : List ja_W} {h : ja_H}
theorem jz_sld {z : Int} (ok : ja_Ok X cc own d) (sc : ja_Sc X L xs) (dg : decode cc pc = .ok (.iaload, 1)) (h0 : 0 ≤ z) (h1 : z < (L : Int)) (kk : ja_At X (pc + 1) Lc (.inl (xs z.toNat).toInt :: st) h) : ja_At X pc Lc (.inl z :: .inr (.inr (some 3000000)) :: st) h := by
  obtain ⟨⟨p, l, e, R, s, m, args, below, meth, c, cells, slots, Q⟩, D, cy, ad, sh, A, nL⟩ := X
  intro ls vs H locs hl hv hs hL hh hP hD hS
  subst hv
  have hz : ja_r z := ja_oh hs
  refine va_sld ok.1 ok.2.1 sc.1 sc.2.1 sc.2.2 hS (ja_in hz h0 h1) dg ?_
  rw [ja_clamp hz h0]
  refine kk ls _ H locs hl ?_ (ja_oc (ja_rI _) (ja_ot (ja_ot hs))) hL hh hP hD hS
  simp [ja_c]
theorem jz_slen (ok : ja_Ok X cc own d) (sc : ja_Sc X L xs) (hL31 : L < 2147483648) (dg : decode cc pc = .ok (.arraylength, 1)) (kk : ja_At X (pc + 1) Lc (.inl (L : Int) :: st) h) : ja_At X pc Lc (.inr (.inr (some 3000000)) :: st) h := by
  obtain ⟨⟨p, l, e, R, s, m, args, below, meth, c, cells, slots, Q⟩, D, cy, ad, sh, A, nL⟩ := X
  intro ls vs H locs hl hv hs hL hh hP hD hS
  subst hv
  have hr : ja_r (L : Int) := by unfold ja_r; omega
  refine va_slen ok.1 ok.2.1 sc.1 sc.2.1 sc.2.2 hS dg ?_
  exact kk ls _ H locs hl rfl (ja_oc hr (ja_ot hs)) hL hh hP hD hS
end JSC
/-! a method that reads the script -/
def ja_Ps (D : va_G) (cy : Nat → ClassId) (ad : Nat → Nat) (sz : Nat) (sh : ja_S) (as : List ja_W) (h : ja_H) (L : Nat) (xs : Nat → Int32) : Array Value → Jvm.State → Prop :=
  va_Pc (as.map (ja_c ad)) (fun U => (U.heap.size = sz ∧ va_P D vwCl (ja_wld cy ad sh h) U.heap ∧ va_K D vwCl (ja_tys cy) U ∧ va_D (fun _ => True) (ja_wld cy ad sh h) ∧ ja_nst U ∧ ja_str (va_A (ja_wld cy ad sh h) sz) ad U) ∧ va_X (ad 3000000) L xs U U.heap ∧ ad 3000000 < sz ∧ ¬ va_A (ja_wld cy ad sh h) sz (ad 3000000))
def ja_CS (l : Launch) (d : Nat) (M : ja_M) (sh : ja_S) (as : List ja_W) (h : ja_H) (L : Nat) (xs : Nat → Int32) (Q : Option ja_W → ja_H → Prop) : Prop :=
  ∀ (D : va_G) (cy : Nat → ClassId) (ad : Nat → Nat) (sz : Nat), ja_ho h → (∀ v ∈ as, ja_ok v) →
    Met l M.1 (ja_ws M) (ja_rm d) (ja_Ps D cy ad sz sh as h L xs) (ja_Qc D cy ad sz sh h Q) 0 0 (va_A (ja_wld cy ad sh h) sz)
theorem ja_blindS {D : va_G} {cy : Nat → ClassId} {ad : Nat → Nat} {sz : Nat} {sh : ja_S} {as : List ja_W} {h : ja_H} {L : Nat} {xs : Nat → Int32} : FrameBlind (ja_Ps D cy ad sz sh as h L xs) := by
  intro a U g mk q
  obtain ⟨q0, ⟨q1, qP, qK, qD, qN, qT⟩, qX, q2, q3⟩ := q
  exact ⟨q0, ⟨q1, qP, va_K.moved (u := U) (U := U.calling g mk a) (Vm.Alike.refl U.vm) qK, qD, ja_nst_same (u := U) rfl qN, ja_str_same (u := U) qT rfl rfl⟩, va_X.moved (u := U) (U := U.calling g mk a) (Vm.Alike.refl U.vm) qX, q2, q3⟩
theorem ja_metS {l : Launch} {d : Nat} {M : ja_M} {sh : ja_S} {as : List ja_W} {h : ja_H} {L : Nat} {xs : Nat → Int32} {Q : Option ja_W → ja_H → Prop} (hy : plainFor M.1 = true) (hcat : ja_cat as ≤ M.2.2.1) (hret : M.2.2.2 = some .int)
    (body : ∀ X : ja_X, ja_Ok X M.2.1 M.1.cls d → ja_Sc X L xs → X.2.2.2.2.2.2 = M.2.2.1 → (∀ pc Lc z, decode M.2.1 pc = .ok (.ireturn, 1) → Q (some (.inl z)) h → ja_At X pc Lc [.inl z] h) → ja_At X 0 (ja_pad M.2.2.1 (ja_en as)) [] h) : ja_CS l d M sh as h L xs Q := by
  intro D cy ad sz hho has
  refine va_MetF (cc := M.2.1) (maxL := M.2.2.1) (ret := M.2.2.2) hy rfl ?_
  intro p e s m args below meth c s₁ B hml hv
  obtain ⟨rfl, ⟨hsz, hP, hK, hD0, hnst, hstr⟩, hX, hX2, hX3⟩ := hv
  have hx := B.exec
  have hb := B.bytes
  have hr := B.returns
  have hts0 := atoms_spec (ws := ja_ws M) B.pre
  have hts : ∀ w ∈ ja_tbl, w.before (as.map (ja_c ad)).toArray s = true := fun w hw => hts0 w (List.mem_cons_of_mem _ hw)
  have hown : s.vm.findClass M.1.cls = some m.cls := findClass_of_methodNamed B.named
  have hlocks := B.notSynchronized
  subst hsz
  have hD := hD0.self (sz := s.heap.size)
  have hS : va_S (va_A (ja_wld cy ad sh h) s.heap.size) s.heap s.heap [] := va_S.rf
  have hl := lv_entry (as.map (ja_c ad)) (n := M.2.2.1) (by rw [ja_sl_len]; exact hcat)
  rw [lg_entry_eq]
  have key := body ((p, l, e, ja_rm d, s, m, (as.map (ja_c ad)).toArray, below, meth, c, 0, 0, MQ below (ja_Qc D cy ad s.heap.size sh h Q) (as.map (ja_c ad)).toArray s 0 0 (va_A (ja_wld cy ad sh h) s.heap.size)), D, cy, ad, sh, va_A (ja_wld cy ad sh h) s.heap.size, M.2.2.1)
    ⟨hx, hb, hml, hown, hts, hK, fun q hq => Or.inr hq, Nat.le_refl d, Nat.le_refl _, Nat.le_refl _, Nat.le_refl _, hnst, hstr⟩ ⟨hX, hX2, hX3⟩ rfl ?_
  · refine key _ [] s.heap [] ⟨hl.1, hl.2.1, fun q hq => ?_⟩ rfl (fun v hv => by simp at hv) (fun i v hv => has v (ja_en_ok as i v (ja_get_pad (n := 0) hv))) hho hP hD hS
    obtain ⟨j, u⟩ := q
    obtain ⟨w, -, h1, h2⟩ := (ja_ls_mem ad _ 0 j u).mp hq
    rw [Nat.sub_zero] at h1
    subst h2
    refine hl.2.2 (j, ja_c ad w) ?_
    have := ja_en_mem ad as 0 j w (ja_get_pad (n := 0) h1)
    rw [Nat.zero_add] at this
    exact this
  · intro pc Lc z dg hq ls vs H locs hl hv hs hL hh hP' hD' hS'
    subst hv
    exact W.iret hx hb (hr.trans hret) (fun t ht hW => ⟨⟨some (.inl z), h, rfl, hq, hh, fun v q => by cases q; exact ja_oh hs, by rw [ht]; exact hP', hD'⟩, hS'.F ht⟩) hS'.2.2 dg
theorem jz_callS {X : ja_X} {cc : ByteArray} {own : String} {d d' pc idx n L : Nat} {xs : Nat → Int32} {Lc : ja_L} {st as : List ja_W} {h : ja_H} {M : ja_M} {Q2 : Option ja_W → ja_H → Prop} (ok : ja_Ok X cc own d) (sc : ja_Sc X L xs) (hk : ja_LS own idx M n) (dg : decode cc pc = .ok (.invokestatic idx, 3)) (hd : d' + 1 ≤ d) (hn : as.length = n) (hc : ja_cat st ≤ 8) (hC : ja_CS (ja_l X) d' M (ja_sh X) as h L xs Q2) (kk : ∀ r h', Q2 r h' → ja_At X (pc + 3) Lc (r.toList ++ st) h') : ja_At X pc Lc (as.reverse ++ st) h := by
  obtain ⟨⟨p, l, e, R, s, m, args, below, meth, c, cells, slots, Q⟩, D, cy, ad, sh, A, nL⟩ := X
  intro ls vs H locs hl hv hs hL hh hP hD hS
  subst hv
  obtain ⟨k1, k2, k3, k4, k5, k6⟩ := hk
  obtain ⟨o1, o2, o3, o4, o5, o6, o7, o8, o9, o10, o11, o12, o13⟩ := ok
  have hb := callB_of (R := R) (s := s) (own := own) (index := idx) (rm := ja_rm d') (mc := 0) (ms := 0) n o5 (ja_goodM k4) rfl rfl rfl (o5 _ k3) (o5 _ k1) k5 ⟨show d' + 1 ≤ R.frames by omega, show 8 + (M.2.2.1 + 11) + 64 * d' ≤ R.locals by omega⟩
  have hA1 := ja_A1 hD hS o7
  refine ja_run (va_runS (rest := st.map (ja_c ad)) (As := as.map (ja_c ad)) ⟨o1, o2, o3, o4, o5⟩ (hC D cy ad H.size hh (ja_oa hs)) ⟨hb, o5 _ k2⟩ ⟨ja_blindS, fun U hU hW => ⟨rfl, ⟨by rw [hU], by rw [hU]; exact hP, va_K.moved hW.alike o6, hD.weaken (fun _ _ _ _ => trivial), ja_nst_warm hW o12, ja_str_call o13 hS hA1 hU hW⟩, va_X.moved hW.alike (by rw [hU]; exact sc.1.kept (hS.2.1 _ sc.2.1 sc.2.2)), Nat.lt_of_lt_of_le sc.2.1 hS.1, fun y => sc.2.2 (hA1 _ y)⟩⟩ rfl (by rw [List.length_map]; exact hn) hl.1 (by simp) (lv_room (by rw [ja_cat_sum]; exact hc)) dg ⟨o10, o11⟩) hD hS o7 ?_
  intro r h' H1 locs1 hq hho hok hP1 hD1 hS1
  rw [ja_mapO]
  exact kk r h' hq ls _ H1 locs1 hl rfl (ja_ov hok (ja_ob hs)) hL hho hP1 hD1 hS1
