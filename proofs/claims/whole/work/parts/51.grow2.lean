/-! growing: arrays -/
theorem ja_cyI {D : va_G} {cy : Nat → ClassId} {s : Jvm.State} {cA : ClassId} {ty : FieldType} {t : Nat} (ht : (ja_tys cy)[t]? = some (cy (t + 1), ty)) (hp : ∀ C, ty ≠ .object C) (hK : va_K D vwCl (ja_tys cy ++ [(cA, ty)]) s) : cA = cy (t + 1) := by
  have hl := (List.getElem?_eq_some_iff.mp ht).1
  have h1 := (hK.2 t (cy (t + 1), ty) (by rw [List.getElem?_append_left hl]; exact ht)).2
  have h2 := (hK.2 (ja_tys cy).length (cA, ty) (by simp)).2
  unfold va_RA at h1 h2
  cases ty <;> first | exact (Option.some.inj (h1.symm.trans h2)).symm | exact absurd rfl (hp _)
theorem ja_cyO {D : va_G} {cy : Nat → ClassId} {s : Jvm.State} {cA : ClassId} {C : String} {t : Nat} (ht : (ja_tys cy)[t]? = some (cy (t + 1), .object C)) (hK : va_K D vwCl (ja_tys cy ++ [(cA, .object C)]) s) : cA = cy (t + 1) := by
  have hl := (List.getElem?_eq_some_iff.mp ht).1
  obtain ⟨_, _, -, -, -, h1⟩ := (hK.2 t (cy (t + 1), .object C) (by rw [List.getElem?_append_left hl]; exact ht)).2
  obtain ⟨_, _, -, -, -, h2⟩ := (hK.2 (ja_tys cy).length (cA, .object C) (by simp)).2
  exact (Option.some.inj (h1.symm.trans h2)).symm
section JCX2
variable {X0 X : ja_X} {cc : ByteArray} {own : String} {d pc idx k ce sl CE SL : Nat} {ext : ja_S} {L : ja_L} {st : List ja_W} {h : ja_H}
theorem ja_neg0 {z : Int} (hz : ja_r z) (h0 : 0 ≤ z) : ¬ Int32.ofInt z < 0 := fun q => by
  rw [show (0 : Int32) = Int32.ofInt 0 from rfl, ja_clt hz ja_r0] at q
  omega
theorem jx_newI {z : Int} (cx : ja_Cx X0 X cc own d ext ce sl CE SL) (hw : Cond.arrayClass .int ∈ ja_tbl) (dg : decode cc pc = .ok (.newarray .int, 2)) (hk : (ja_sh X).length = k) (h1 : k < 1000000) (h0 : 0 ≤ z) (hz : z ≤ 100000000) (hc : ce + 1 ≤ CE) (hs : sl + z.toNat ≤ SL) (hcl : ja_cls k h) (hst : ∀ v ∈ st, ja_k k v) (hL : ja_kL k L) (hb : ja_bk k h)
    (kk : ∀ X', ja_Cx X0 X' cc own d (ext ++ [(1, z.toNat)]) (ce + 1) (sl + z.toNat) CE SL → ja_At X' (pc + 2) L (.inr (.inr (some k)) :: st) h) : ja_At X pc L (.inl z :: st) h := by
  have key := fun a => kk _ (ja_Cx_one (a := a) cx (q := (1, z.toNat)) hc hs hk h1)
  have hR := (ja_Cx_one (a := 0) cx (q := (1, z.toNat)) hc hs hk h1).1
  have ok := cx.1
  clear kk cx
  obtain ⟨⟨p, l, e, R, s, m, args, below, meth, c, cells, slots, Q⟩, D, cy, ad, sh, A, nL⟩ := X
  have hk : sh.length = k := hk
  subst hk
  intro ls vs H locs hl hv hs2 hL2 hh hP hD hS
  subst hv
  obtain ⟨o1, o2, o3, o4, o5, o6, o7, o8, o9, o10, o11, o12, o13⟩ := ok
  have hzr : ja_r z := ja_oh hs2
  have hcm : ∀ cA : ClassId, vp_cell cA (z.toNat, .inl fun j => Int32.ofInt (h.2.1 sh.length j)) = arrV cA z.toNat (fun _ => defaultValue .int) := fun cA => by
    rw [vp_cell_i]
    congr 1
    funext j
    rw [(hb j).2.1]
    rfl
  refine va_newa (atype := .int) o1 o2 (o5 _ hw) rfl o6 hP hD hS o7 hcm (ja_neg0 hzr h0) (ja_clamp hzr h0) (by show z.toNat * 4 ≤ _; omega) hR.2.2.2.2.2.2.2.2.2.1 hR.2.2.2.2.2.2.2.2.2.2.1 dg ?_
  intro a cA H1 hK1 hP1 hD1 hS1
  have hcA := ja_cyI (t := 0) rfl (fun C q => by cases q) hK1
  subst hcA
  have ag : ja_ag sh.length ad (fun j => if j = sh.length then a else ad j) := fun j hj => by
    show (if j = sh.length then a else ad j) = ad j
    rw [if_neg (by omega)]
  have e : ja_wld cy (fun j => if j = sh.length then a else ad j) (sh ++ [(1, z.toNat)]) h = ja_wld cy ad sh h ++ [(a, .inl (cy 1, z.toNat, .inl fun j => Int32.ofInt (h.2.1 sh.length j)))] := by
    rw [ja_wld_push, ja_k_wld ag hcl, ja_k_cel ag hcl]
    simp only [if_true]
    rfl
  have key := key a ls (.ref a :: st.map (ja_c ad)) H1 locs
  refine key (by rw [ja_k_ls ag L 0 hL]; exact hl) ?_ (ja_oc trivial (ja_ot hs2)) hL2 hh (by rw [e]; exact hP1) (by rw [e]; exact hD1) hS1
  rw [List.map_cons, ja_k_st ag hst]
  simp [ja_c, va_rf]
theorem jx_newZ {z : Int} (cx : ja_Cx X0 X cc own d ext ce sl CE SL) (hw : Cond.arrayClass .boolean ∈ ja_tbl) (dg : decode cc pc = .ok (.newarray .boolean, 2)) (hk : (ja_sh X).length = k) (h1 : k < 1000000) (h0 : 0 ≤ z) (hz : z ≤ 100000000) (hc : ce + 1 ≤ CE) (hs : sl + z.toNat ≤ SL) (hcl : ja_cls k h) (hst : ∀ v ∈ st, ja_k k v) (hL : ja_kL k L) (hb : ja_bk k h)
    (kk : ∀ X', ja_Cx X0 X' cc own d (ext ++ [(2, z.toNat)]) (ce + 1) (sl + z.toNat) CE SL → ja_At X' (pc + 2) L (.inr (.inr (some k)) :: st) h) : ja_At X pc L (.inl z :: st) h := by
  have key := fun a => kk _ (ja_Cx_one (a := a) cx (q := (2, z.toNat)) hc hs hk h1)
  have hR := (ja_Cx_one (a := 0) cx (q := (2, z.toNat)) hc hs hk h1).1
  have ok := cx.1
  clear kk cx
  obtain ⟨⟨p, l, e, R, s, m, args, below, meth, c, cells, slots, Q⟩, D, cy, ad, sh, A, nL⟩ := X
  have hk : sh.length = k := hk
  subst hk
  intro ls vs H locs hl hv hs2 hL2 hh hP hD hS
  subst hv
  obtain ⟨o1, o2, o3, o4, o5, o6, o7, o8, o9, o10, o11, o12, o13⟩ := ok
  have hzr : ja_r z := ja_oh hs2
  have hcm : ∀ cA : ClassId, vp_cell cA (z.toNat, .inl fun j => Int32.ofInt (h.2.1 sh.length j)) = arrV cA z.toNat (fun _ => defaultValue .boolean) := fun cA => by
    rw [vp_cell_i]
    congr 1
    funext j
    rw [(hb j).2.1]
    rfl
  refine va_newa (atype := .boolean) o1 o2 (o5 _ hw) rfl o6 hP hD hS o7 hcm (ja_neg0 hzr h0) (ja_clamp hzr h0) (by show z.toNat * 1 ≤ _; omega) hR.2.2.2.2.2.2.2.2.2.1 hR.2.2.2.2.2.2.2.2.2.2.1 dg ?_
  intro a cA H1 hK1 hP1 hD1 hS1
  have hcA := ja_cyI (t := 1) rfl (fun C q => by cases q) hK1
  subst hcA
  have ag : ja_ag sh.length ad (fun j => if j = sh.length then a else ad j) := fun j hj => by
    show (if j = sh.length then a else ad j) = ad j
    rw [if_neg (by omega)]
  have e : ja_wld cy (fun j => if j = sh.length then a else ad j) (sh ++ [(2, z.toNat)]) h = ja_wld cy ad sh h ++ [(a, .inl (cy 2, z.toNat, .inl fun j => Int32.ofInt (h.2.1 sh.length j)))] := by
    rw [ja_wld_push, ja_k_wld ag hcl, ja_k_cel ag hcl]
    simp only [if_true]
    rfl
  have key := key a ls (.ref a :: st.map (ja_c ad)) H1 locs
  refine key (by rw [ja_k_ls ag L 0 hL]; exact hl) ?_ (ja_oc trivial (ja_ot hs2)) hL2 hh (by rw [e]; exact hP1) (by rw [e]; exact hD1) hS1
  rw [List.map_cons, ja_k_st ag hst]
  simp [ja_c, va_rf]
theorem jx_newL {z : Int} (cx : ja_Cx X0 X cc own d ext ce sl CE SL) (hw : Cond.arrayClass .long ∈ ja_tbl) (dg : decode cc pc = .ok (.newarray .long, 2)) (hk : (ja_sh X).length = k) (h1 : k < 1000000) (h0 : 0 ≤ z) (hz : z ≤ 10000000) (hc : ce + 1 ≤ CE) (hs : sl + z.toNat ≤ SL) (hcl : ja_cls k h) (hst : ∀ v ∈ st, ja_k k v) (hL : ja_kL k L) (hb : ja_bk k h)
    (kk : ∀ X', ja_Cx X0 X' cc own d (ext ++ [(3, z.toNat)]) (ce + 1) (sl + z.toNat) CE SL → ja_At X' (pc + 2) L (.inr (.inr (some k)) :: st) h) : ja_At X pc L (.inl z :: st) h := by
  have key := fun a => kk _ (ja_Cx_one (a := a) cx (q := (3, z.toNat)) hc hs hk h1)
  have hR := (ja_Cx_one (a := 0) cx (q := (3, z.toNat)) hc hs hk h1).1
  have ok := cx.1
  clear kk cx
  obtain ⟨⟨p, l, e, R, s, m, args, below, meth, c, cells, slots, Q⟩, D, cy, ad, sh, A, nL⟩ := X
  have hk : sh.length = k := hk
  subst hk
  intro ls vs H locs hl hv hs2 hL2 hh hP hD hS
  subst hv
  obtain ⟨o1, o2, o3, o4, o5, o6, o7, o8, o9, o10, o11, o12, o13⟩ := ok
  have hzr : ja_r z := ja_oh hs2
  have hcm : ∀ cA : ClassId, vp_cell cA (z.toNat, .inr (.inl fun j => Int64.ofInt (h.2.2 sh.length j))) = arrV cA z.toNat (fun _ => defaultValue .long) := fun cA => by
    rw [vp_cell_l]
    congr 1
    funext j
    rw [(hb j).2.2]
    rfl
  refine va_newa (atype := .long) o1 o2 (o5 _ hw) rfl o6 hP hD hS o7 hcm (ja_neg0 hzr h0) (ja_clamp hzr h0) (by show z.toNat * 8 ≤ _; omega) hR.2.2.2.2.2.2.2.2.2.1 hR.2.2.2.2.2.2.2.2.2.2.1 dg ?_
  intro a cA H1 hK1 hP1 hD1 hS1
  have hcA := ja_cyI (t := 2) rfl (fun C q => by cases q) hK1
  subst hcA
  have ag : ja_ag sh.length ad (fun j => if j = sh.length then a else ad j) := fun j hj => by
    show (if j = sh.length then a else ad j) = ad j
    rw [if_neg (by omega)]
  have e : ja_wld cy (fun j => if j = sh.length then a else ad j) (sh ++ [(3, z.toNat)]) h = ja_wld cy ad sh h ++ [(a, .inl (cy 3, z.toNat, .inr (.inl fun j => Int64.ofInt (h.2.2 sh.length j))))] := by
    rw [ja_wld_push, ja_k_wld ag hcl, ja_k_cel ag hcl]
    simp only [if_true]
    rfl
  have key := key a ls (.ref a :: st.map (ja_c ad)) H1 locs
  refine key (by rw [ja_k_ls ag L 0 hL]; exact hl) ?_ (ja_oc trivial (ja_ot hs2)) hL2 hh (by rw [e]; exact hP1) (by rw [e]; exact hD1) hS1
  rw [List.map_cons, ja_k_st ag hst]
  simp [ja_c, va_rf]
theorem jx_newP {z : Int} (cx : ja_Cx X0 X cc own d ext ce sl CE SL) (hw : Cond.classLink own idx "TwoSuns$Picture" ∈ ja_tbl) (dg : decode cc pc = .ok (.anewarray idx, 3)) (hk : (ja_sh X).length = k) (h1 : k < 1000000) (h0 : 0 ≤ z) (hz : z ≤ 100000000) (hc : ce + 1 ≤ CE) (hs : sl + z.toNat ≤ SL) (hcl : ja_cls k h) (hst : ∀ v ∈ st, ja_k k v) (hL : ja_kL k L) (hb : ja_bk k h)
    (kk : ∀ X', ja_Cx X0 X' cc own d (ext ++ [(4, z.toNat)]) (ce + 1) (sl + z.toNat) CE SL → ja_At X' (pc + 3) L (.inr (.inr (some k)) :: st) h) : ja_At X pc L (.inl z :: st) h := by
  have key := fun a => kk _ (ja_Cx_one (a := a) cx (q := (4, z.toNat)) hc hs hk h1)
  have hR := (ja_Cx_one (a := 0) cx (q := (4, z.toNat)) hc hs hk h1).1
  have ok := cx.1
  have hI := cx.2.1
  clear kk cx
  obtain ⟨⟨p, l, e, R, s, m, args, below, meth, c, cells, slots, Q⟩, D, cy, ad, sh, A, nL⟩ := X
  have hk : sh.length = k := hk
  subst hk
  intro ls vs H locs hl hv hs2 hL2 hh hP hD hS
  subst hv
  obtain ⟨o1, o2, o3, o4, o5, o6, o7, o8, o9, o10, o11, o12, o13⟩ := ok
  have hzr : ja_r z := ja_oh hs2
  refine va_newq o1 o2 o4 (o5 _ hw) hI.2.1 o6 hP hD hS o7 (ja_neg0 hzr h0) (ja_clamp hzr h0) (by omega) hR.2.2.2.2.2.2.2.2.2.1 hR.2.2.2.2.2.2.2.2.2.2.1 dg ?_
  intro a cA H1 hK1 hP1 hD1 hS1
  have hcA := ja_cyO (t := 3) rfl hK1
  subst hcA
  have ag : ja_ag sh.length ad (fun j => if j = sh.length then a else ad j) := fun j hj => by
    show (if j = sh.length then a else ad j) = ad j
    rw [if_neg (by omega)]
  have e : ja_wld cy (fun j => if j = sh.length then a else ad j) (sh ++ [(4, z.toNat)]) h = ja_wld cy ad sh h ++ [(a, .inl (cy 4, z.toNat, .inr (.inr (.inr (.inr (fun _ => none))))))] := by
    rw [ja_wld_push, ja_k_wld ag hcl, ja_k_cel ag hcl]
    simp only [if_true]
    show _ ++ [(a, Sum.inl (cy 4, z.toNat, Sum.inr (Sum.inr (Sum.inr (Sum.inr fun j => (h.1 sh.length j).map ad)))))] = _
    simp only [(hb _).1]
    rfl
  have key := key a ls (.ref a :: st.map (ja_c ad)) H1 locs
  refine key (by rw [ja_k_ls ag L 0 hL]; exact hl) ?_ (ja_oc trivial (ja_ot hs2)) hL2 hh (by rw [e]; exact hP1) (by rw [e]; exact hD1) hS1
  rw [List.map_cons, ja_k_st ag hst]
  simp [ja_c, va_rf]
theorem jx_newG {z : Int} (cx : ja_Cx X0 X cc own d ext ce sl CE SL) (hw : Cond.classLink own idx "TwoSuns$Program" ∈ ja_tbl) (dg : decode cc pc = .ok (.anewarray idx, 3)) (hk : (ja_sh X).length = k) (h1 : k < 1000000) (h0 : 0 ≤ z) (hz : z ≤ 100000000) (hc : ce + 1 ≤ CE) (hs : sl + z.toNat ≤ SL) (hcl : ja_cls k h) (hst : ∀ v ∈ st, ja_k k v) (hL : ja_kL k L) (hb : ja_bk k h)
    (kk : ∀ X', ja_Cx X0 X' cc own d (ext ++ [(5, z.toNat)]) (ce + 1) (sl + z.toNat) CE SL → ja_At X' (pc + 3) L (.inr (.inr (some k)) :: st) h) : ja_At X pc L (.inl z :: st) h := by
  have key := fun a => kk _ (ja_Cx_one (a := a) cx (q := (5, z.toNat)) hc hs hk h1)
  have hR := (ja_Cx_one (a := 0) cx (q := (5, z.toNat)) hc hs hk h1).1
  have ok := cx.1
  have hI := cx.2.1
  clear kk cx
  obtain ⟨⟨p, l, e, R, s, m, args, below, meth, c, cells, slots, Q⟩, D, cy, ad, sh, A, nL⟩ := X
  have hk : sh.length = k := hk
  subst hk
  intro ls vs H locs hl hv hs2 hL2 hh hP hD hS
  subst hv
  obtain ⟨o1, o2, o3, o4, o5, o6, o7, o8, o9, o10, o11, o12, o13⟩ := ok
  have hzr : ja_r z := ja_oh hs2
  refine va_newq o1 o2 o4 (o5 _ hw) hI.2.2 o6 hP hD hS o7 (ja_neg0 hzr h0) (ja_clamp hzr h0) (by omega) hR.2.2.2.2.2.2.2.2.2.1 hR.2.2.2.2.2.2.2.2.2.2.1 dg ?_
  intro a cA H1 hK1 hP1 hD1 hS1
  have hcA := ja_cyO (t := 4) rfl hK1
  subst hcA
  have ag : ja_ag sh.length ad (fun j => if j = sh.length then a else ad j) := fun j hj => by
    show (if j = sh.length then a else ad j) = ad j
    rw [if_neg (by omega)]
  have e : ja_wld cy (fun j => if j = sh.length then a else ad j) (sh ++ [(5, z.toNat)]) h = ja_wld cy ad sh h ++ [(a, .inl (cy 5, z.toNat, .inr (.inr (.inr (.inr (fun _ => none))))))] := by
    rw [ja_wld_push, ja_k_wld ag hcl, ja_k_cel ag hcl]
    simp only [if_true]
    show _ ++ [(a, Sum.inl (cy 5, z.toNat, Sum.inr (Sum.inr (Sum.inr (Sum.inr fun j => (h.1 sh.length j).map ad)))))] = _
    simp only [(hb _).1]
    rfl
  have key := key a ls (.ref a :: st.map (ja_c ad)) H1 locs
  refine key (by rw [ja_k_ls ag L 0 hL]; exact hl) ?_ (ja_oc trivial (ja_ot hs2)) hL2 hh (by rw [e]; exact hP1) (by rw [e]; exact hD1) hS1
  rw [List.map_cons, ja_k_st ag hst]
  simp [ja_c, va_rf]
end JCX2
