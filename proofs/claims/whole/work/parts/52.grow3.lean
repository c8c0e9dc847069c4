/-! growing: calls of constructors, their entry and return -/
def ja_rg (d ce sl : Nat) : Room := { frames := d, cells := ce, slots := sl, locals := 64 * d }
def ja_Pg (D : va_G) (cy : Nat → ClassId) (ad : Nat → Nat) (sz : Nat) (sh : ja_S) (as : List ja_W) (h : ja_H) : Array Value → Jvm.State → Prop :=
  va_Pc (as.map (ja_c ad)) (fun U => (U.heap.size = sz ∧ va_P D vwCl (ja_wld cy ad sh h) U.heap ∧ va_K D vwCl (ja_tys cy) U ∧ va_D (fun _ => True) (ja_wld cy ad sh h) ∧ ja_nst U ∧ ja_str (va_A (ja_wld cy ad sh h) sz) ad U) ∧ va_AO "TwoSuns$Picture" U ∧ va_AO "TwoSuns$Program" U)
def ja_Qg (D : va_G) (cy : Nat → ClassId) (ad : Nat → Nat) (sz : Nat) (sh : ja_S) (h : ja_H) (ext : ja_S) (Q : ja_H → Prop) : Array Value → Jvm.State → Outcome → Jvm.State → Prop := fun _ st oc t =>
  (∃ (ad' : Nat → Nat) (h' : ja_H), ja_ag sh.length ad ad' ∧ oc = .returned none ∧ Q h' ∧ ja_ho h' ∧ va_P D vwCl (ja_wld cy ad' (sh ++ ext) h') t.heap ∧ va_D (va_A (ja_wld cy ad sh h) sz) (ja_wld cy ad' (sh ++ ext) h')) ∧ va_F (va_A (ja_wld cy ad sh h) sz) st t
def ja_G (l : Launch) (d : Nat) (M : ja_M) (ce sl : Nat) (sh : ja_S) (as : List ja_W) (h : ja_H) (ext : ja_S) (Q : ja_H → Prop) : Prop :=
  ∀ (D : va_G) (cy : Nat → ClassId) (ad : Nat → Nat) (sz : Nat), ja_ho h → (∀ v ∈ as, ja_ok v) →
    Met l M.1 (ja_ws M) (ja_rg d ce sl) (ja_Pg D cy ad sz sh as h) (ja_Qg D cy ad sz sh h ext Q) ce sl (va_A (ja_wld cy ad sh h) sz)
theorem ja_blindG {D : va_G} {cy : Nat → ClassId} {ad : Nat → Nat} {sz : Nat} {sh : ja_S} {as : List ja_W} {h : ja_H} : FrameBlind (ja_Pg D cy ad sz sh as h) := by
  intro a U g mk q
  obtain ⟨q0, ⟨q1, qP, qK, qD, qN, qT⟩, qa, qb⟩ := q
  exact ⟨q0, ⟨q1, qP, va_K.moved (u := U) (U := U.calling g mk a) (Vm.Alike.refl U.vm) qK, qD, ja_nst_same (u := U) rfl qN, ja_str_same (u := U) qT rfl rfl⟩, va_AO.moved (u := U) (U := U.calling g mk a) (Vm.Alike.refl U.vm) qa, va_AO.moved (u := U) (U := U.calling g mk a) (Vm.Alike.refl U.vm) qb⟩
def ja_LI (own : String) (idx : Nat) (M : ja_M) (n : Nat) : Prop := Cond.methodLink own idx M.1 ∈ ja_tbl ∧ Cond.instanceMethod M.1 ∈ ja_tbl ∧ Cond.initialized M.1.cls ∈ ja_tbl ∧ Cond.code M.1 M.2.1 M.2.2.1 none ∈ ja_tbl ∧ ja_D M n ∧ M.1.name = "<init>" ∧ M.2.2.2 = none
section JCX3
variable {X0 X : ja_X} {cc : ByteArray} {own : String} {d d' pc idx k n ce sl CE SL mc ms r : Nat} {ext ext2 : ja_S} {L : ja_L} {st as : List ja_W} {h : ja_H} {M : ja_M} {Q2 : ja_H → Prop}
/-- X grows by what a call has made -/
theorem ja_Cx_more (cx : ja_Cx X0 X cc own d ext ce sl CE SL) {ad' : Nat → Nat} (ag : ja_ag (ja_sh X).length (ja_ad X) ad') (hc : ce + mc ≤ CE) (hs : sl + ms ≤ SL) : ja_Cx X0 (ja_gX X ad' ext2 mc ms) cc own d (ext ++ ext2) (ce + mc) (sl + ms) CE SL := by
  obtain ⟨ok, hI, hG, hR⟩ := cx
  refine ⟨?_, ?_, ja_Gr_tr hG ⟨_, ag, rfl⟩, hR⟩
  · obtain ⟨ad2, -, rfl⟩ := hG
    obtain ⟨⟨p, l, e, R, s, m, args, below, meth, c, cells, slots, Q⟩, D, cy, ad, sh, A, nL⟩ := X0
    obtain ⟨o1, o2, o3, o4, o5, o6, o7, o8, o9, o10, o11, o12, o13⟩ := ok
    exact ⟨o1, o2, o3, o4, o5, o6, o7, o8, o9, by have := hR.1; show cells + ce + mc ≤ R.cells; omega, by have := hR.2; show slots + sl + ms ≤ R.slots; omega, o12, ja_str_ag ag o13⟩
  · obtain ⟨ad2, -, rfl⟩ := hG
    obtain ⟨⟨p, l, e, R, s, m, args, below, meth, c, cells, slots, Q⟩, D, cy, ad, sh, A, nL⟩ := X0
    exact hI
theorem jx_call (cx : ja_Cx X0 X cc own d ext ce sl CE SL) (hk : ja_LI own idx M n) (dg : decode cc pc = .ok (.invokespecial idx, 3)) (hd : d' + 1 ≤ d) (hn : as.length = n) (hcat : ja_cat st ≤ 8) (hc : ce + mc ≤ CE) (hs : sl + ms ≤ SL) (hst : ∀ v ∈ st, ja_k (ja_sh X).length v) (hL : ja_kL (ja_sh X).length L) (hC : ja_G (ja_l X) d' M mc ms (ja_sh X) (.inr (.inr (some r)) :: as) h ext2 Q2)
    (kk : ∀ X' h', Q2 h' → ja_Cx X0 X' cc own d (ext ++ ext2) (ce + mc) (sl + ms) CE SL → ja_At X' (pc + 3) L st h') : ja_At X pc L (as.reverse ++ .inr (.inr (some r)) :: st) h := by
  have key := fun ad' (ag : ja_ag (ja_sh X).length (ja_ad X) ad') h' q => kk _ h' q (ja_Cx_more (mc := mc) (ms := ms) (ext2 := ext2) cx ag hc hs)
  have hR := (ja_Cx_more (mc := mc) (ms := ms) (ext2 := ext2) (ad' := ja_ad X) cx (fun _ _ => rfl) hc hs).1
  have ok := cx.1
  have hI := cx.2.1
  clear kk cx
  obtain ⟨⟨p, l, e, R, s, m, args, below, meth, c, cells, slots, Q⟩, D, cy, ad, sh, A, nL⟩ := X
  intro ls vs H locs hl hv hs3 hL2 hh hP hD hS
  subst hv
  obtain ⟨k1, k2, k3, k4, ⟨k5, k6⟩, k7, k8⟩ := hk
  obtain ⟨My, Mc, ML, Mr⟩ := M
  have k8 : Mr = none := k8
  subst k8
  have hR1 := hR.2.2.2.2.2.2.2.2.2.1
  have hR2 := hR.2.2.2.2.2.2.2.2.2.2.1
  clear hR
  obtain ⟨o1, o2, o3, o4, o5, o6, o7, o8, o9, o10, o11, o12, o13⟩ := ok
  have hb := callB_of (R := R) (s := s) (own := own) (index := idx) (rm := ja_rg d' mc ms) (mc := mc) (ms := ms) n o5 (ja_goodM (M := (My, Mc, ML, none)) k4) rfl rfl rfl (o5 _ k3) (o5 _ k1) k5 ⟨show d' + 1 ≤ R.frames by omega, show 8 + (ML + 11) + 64 * d' ≤ R.locals by have k6 : ML ≤ 45 := k6; omega⟩
  have hs2 : ∀ u ∈ (.inr (.inr (some r)) :: as : List ja_W), ja_ok u := ja_oc trivial (ja_oa hs3)
  have hr := va_runI (b := ad r) (rest := st.map (ja_c ad)) (As := as.map (ja_c ad)) (below := below) (meth := meth) (e := e) (locs := locs) (cells := cells) (slots := slots) (g := F0 m pc ls ((as.reverse ++ .inr (.inr (some r)) :: st).map (ja_c ad))) ⟨o1, o2, o3, o4, o5⟩ (hC D cy ad H.size hh hs2) ⟨hb, k7, o5 _ k2⟩ ⟨ja_blindG, fun U hU hW => ⟨rfl, ⟨by rw [hU], by rw [hU]; exact hP, va_K.moved hW.alike o6, hD.weaken (fun _ _ _ _ => trivial), ja_nst_warm hW o12, ja_str_call o13 hS (ja_A1 hD hS o7) hU hW⟩, va_AO.moved hW.alike hI.2.1, va_AO.moved hW.alike hI.2.2⟩⟩ rfl (by rw [List.length_map]; exact hn) hl.1 (by show List.map _ _ = _; simp [ja_c, va_rf]) (lv_room (by rw [ja_cat_sum]; exact hcat)) dg ⟨hR1, hR2⟩
  intro T hT X
  have hA1 := ja_A1 hD hS o7
  obtain ⟨v, st₀, t, T', L2, h0, X', hL3, e1, e2, ⟨⟨ad', h', ag, hv, hq, hho, hP1, hD1⟩, hz, hk2⟩, stp⟩ := hr T hT X
  have hv : v = none := by injection hv
  subst hv
  rw [h0] at hz hk2
  obtain ⟨t2, a1, b1⟩ := key ad' ag h' hq ls (st.map (ja_c ad)) T'.heap (locs ++ L2) (by rw [ja_k_ls ag L 0 hL]; exact hl) (ja_k_st ag hst).symm (ja_ot (ja_ob hs3)) hL2 hho (by rw [e1]; exact hP1) ⟨hD1.1, fun k q hq2 => hA1 _ (hD1.2 k q hq2)⟩
    ⟨Nat.le_trans hS.1 (by rw [e1]; exact hz), fun q h1 h2 => by rw [e1, hk2 q (Nat.lt_of_lt_of_le h1 hS.1) (fun z => h2 (hA1 q z))]; exact hS.2.1 q h1 h2, fun q hq => by
      rcases List.mem_append.mp hq with h | h
      · exact hS.2.2 q h
      · exact hA1 _ (hL3 q h)⟩ T' rfl X'
  exact ⟨t2, stp t2 a1, b1⟩
theorem jx_obj (ok : ja_Ok X cc own (d + 1)) (hw : Cond.methodLink own idx Lib.objectInit ∈ ja_tbl ∧ Cond.instanceMethod Lib.objectInit ∈ ja_tbl ∧ Cond.code Lib.objectInit ⟨#[0xb1]⟩ 1 none ∈ ja_tbl) (dg : decode cc pc = .ok (.invokespecial idx, 3)) (kk : ja_At X (pc + 3) L [] h) : ja_At X pc L [.inr (.inr (some r))] h := by
  obtain ⟨⟨p, l, e, R, s, m, args, below, meth, c, cells, slots, Q⟩, D, cy, ad, sh, A, nL⟩ := X
  intro ls vs H locs hl hv hs3 hL2 hh hP hD hS
  subst hv
  obtain ⟨o1, o2, o3, o4, o5, o6, o7, o8, o9, o10, o11, o12, o13⟩ := ok
  refine W.objInit o1 o2 o4 (o5 _ hw.1) (o5 _ hw.2.1) (o5 _ hw.2.2) rfl (hl.1.trans o3.symm) (a := ad r) (rest := []) rfl dg (by omega) ?_ (kk ls [] H locs hl rfl (fun v hv => by cases hv) hL2 hh hP hD hS)
  refine Nat.le_trans (Nat.add_le_add_right (lv_room (st := []) (by decide)) 12) (by omega)
end JCX3
theorem ja_metG {l : Launch} {d CE SL : Nat} {M : ja_M} {sh ext : ja_S} {as : List ja_W} {h : ja_H} {Q : ja_H → Prop} (hy : plainFor M.1 = true) (hcat : ja_cat as ≤ M.2.2.1) (hnm : M.1.name = "<init>") (hret : M.2.2.2 = none)
    (body : ∀ X : ja_X, ja_Cx X X M.2.1 M.1.cls d [] 0 0 CE SL → ja_l X = l → ja_sh X = sh → X.2.2.2.2.2.2 = M.2.2.1 → (∀ X', ja_Gr X X' ext CE SL → ∀ pc L h', decode M.2.1 pc = .ok (.return_, 1) → Q h' → ja_At X' pc L [] h') → (∀ v ∈ as, ja_ok v) → ja_ho h → ja_At X 0 (ja_pad M.2.2.1 (ja_en as)) [] h) : ja_G l d M CE SL sh as h ext Q := by
  intro D cy ad sz hho has
  refine va_MetF (cc := M.2.1) (maxL := M.2.2.1) (ret := M.2.2.2) hy rfl ?_
  intro p e s m args below meth c s₁ B hml hv
  obtain ⟨rfl, ⟨hsz, hP, hK, hD0, hnst, hstr⟩, ha1, ha2⟩ := hv
  have hx := B.exec
  have hb := B.bytes
  have hr := B.returns
  have hts0 := atoms_spec (ws := ja_ws M) B.pre
  have hts : ∀ w ∈ ja_tbl, w.before (as.map (ja_c ad)).toArray s = true := fun w hw => hts0 w (List.mem_cons_of_mem _ hw)
  have hown : s.vm.findClass M.1.cls = some m.cls := findClass_of_methodNamed B.named
  have hin : meth.name = "<init>" := ((name_of_methodNamed B.named B.method).1).trans hnm
  have hlocks := B.notSynchronized
  subst hsz
  have hD := hD0.self (sz := s.heap.size)
  have hS : va_S (va_A (ja_wld cy ad sh h) s.heap.size) s.heap s.heap [] := va_S.rf
  have hl := lv_entry (as.map (ja_c ad)) (n := M.2.2.1) (by rw [ja_sl_len]; exact hcat)
  rw [lg_entry_eq]
  have key := body ((p, l, e, ja_rg d CE SL, s, m, (as.map (ja_c ad)).toArray, below, meth, c, 0, 0, MQ below (ja_Qg D cy ad s.heap.size sh h ext Q) (as.map (ja_c ad)).toArray s CE SL (va_A (ja_wld cy ad sh h) s.heap.size)), D, cy, ad, sh, va_A (ja_wld cy ad sh h) s.heap.size, M.2.2.1)
    ⟨⟨hx, hb, hml, hown, hts, hK, fun q hq => Or.inr hq, Nat.le_refl d, Nat.le_refl _, Nat.zero_le _, Nat.zero_le _, hnst, hstr⟩, ⟨hin, ha1, ha2⟩, ja_Gr_rf _, ⟨by show 0 + CE ≤ CE; omega, by show 0 + SL ≤ SL; omega⟩⟩ rfl rfl rfl ?_ has hho
  · refine key _ [] s.heap [] ⟨hl.1, hl.2.1, fun q hq => ?_⟩ rfl (fun v hv => by simp at hv) (fun i v hv => has v (ja_en_ok as i v (ja_get_pad (n := 0) hv))) hho hP hD hS
    obtain ⟨j, u⟩ := q
    obtain ⟨w, -, h1, h2⟩ := (ja_ls_mem ad _ 0 j u).mp hq
    rw [Nat.sub_zero] at h1
    subst h2
    refine hl.2.2 (j, ja_c ad w) ?_
    have := ja_en_mem ad as 0 j w (ja_get_pad (n := 0) h1)
    rw [Nat.zero_add] at this
    exact this
  · rintro X' ⟨ad', ag, rfl⟩ pc L h' dg hq ls vs H locs hl2 hv hs2 hL hh hP' hD' hS'
    subst hv
    have z1 : 0 + CE = CE := Nat.zero_add CE
    have z2 : 0 + SL = SL := Nat.zero_add SL
    show W p l e (ja_rg d CE SL) s m _ below meth c H locs (0 + CE) (0 + SL) _ _
    rw [z1, z2]
    exact W.vret hx hb (hr.trans hret) (fun t ht hW => ⟨⟨ad', h', ag, rfl, hq, hh, by rw [ht]; exact hP', hD'⟩, hS'.F ht⟩) hS'.2.2 dg
