/-! growing: cells made behind the world's last -/
def ja_ag (n : Nat) (ad ad' : Nat → Nat) : Prop := ∀ k, k < n ∨ 1000000 ≤ k → ad' k = ad k
def ja_k (n : Nat) : ja_W → Prop
  | .inr (.inr (some r)) => r < n ∨ 1000000 ≤ r
  | _ => True
/-- no reference beyond n -/
def ja_cls (n : Nat) (h : ja_H) : Prop := ∀ k j r, h.1 k j = some r → r < n
def ja_kL (n : Nat) (L : ja_L) : Prop := ∀ v, some v ∈ L → ja_k n v
def ja_bk (k : Nat) (h : ja_H) : Prop := ∀ j, h.1 k j = none ∧ h.2.1 k j = 0 ∧ h.2.2 k j = 0
section JGR
variable {n : Nat} {ad ad' : Nat → Nat} {cy : Nat → ClassId} {sh : ja_S} {h : ja_H}
theorem ja_k_c (ha : ja_ag n ad ad') {v : ja_W} (hv : ja_k n v) : ja_c ad' v = ja_c ad v := by
  rcases v with z | z | _ | r
  · rfl
  · rfl
  · rfl
  · show va_rf (some (ad' r)) = va_rf (some (ad r))
    rw [ha r hv]
theorem ja_k_ls (ha : ja_ag n ad ad') : ∀ (L : ja_L) (i : Nat), ja_kL n L → ja_ls ad' i L = ja_ls ad i L
  | [], _, _ => rfl
  | none :: r, i, q => ja_k_ls ha r (i + 1) (fun v hv => q v (List.mem_cons_of_mem _ hv))
  | some v :: r, i, q => by
    show (i, ja_c ad' v) :: ja_ls ad' (i + 1) r = (i, ja_c ad v) :: ja_ls ad (i + 1) r
    rw [ja_k_c ha (q v List.mem_cons_self), ja_k_ls ha r (i + 1) (fun v hv => q v (List.mem_cons_of_mem _ hv))]
theorem ja_k_st (ha : ja_ag n ad ad') {st : List ja_W} (q : ∀ v ∈ st, ja_k n v) : st.map (ja_c ad') = st.map (ja_c ad) := List.map_congr_left fun v hv => ja_k_c ha (q v hv)
theorem ja_k_cel (ha : ja_ag n ad ad') (hc : ja_cls n h) (k : Nat) (q : Nat × Nat) : ja_cel cy ad' h k q = ja_cel cy ad h k q := by
  have e : ∀ k j, (h.1 k j).map ad' = (h.1 k j).map ad := fun k j => by
    cases he : h.1 k j with
    | none => rfl
    | some r => show some (ad' r) = some (ad r); rw [ha r (Or.inl (hc k j r he))]
  obtain ⟨t, m⟩ := q
  match t with
  | 0 => simp only [ja_cel]; congr 2; apply List.map_congr_left; intro i _; unfold ja_fv; simp only [e]
  | 1 => simp only [ja_cel]
  | 2 => simp only [ja_cel]
  | 3 => simp only [ja_cel]
  | _ + 4 => simp only [ja_cel, e]
theorem ja_k_wld (ha : ja_ag sh.length ad ad') (hc : ja_cls sh.length h) : ja_wld cy ad' sh h = ja_wld cy ad sh h := by
  unfold ja_wld
  apply List.ext_getElem?
  intro j
  simp only [List.getElem?_mapIdx]
  cases hj : sh[j]? with
  | none => rfl
  | some q =>
    have hl := (List.getElem?_eq_some_iff.mp hj).1
    simp only [Option.map_some, ja_k_cel ha hc, ha j (Or.inl hl)]
theorem ja_wld_push {q : Nat × Nat} : ja_wld cy ad (sh ++ [q]) h = ja_wld cy ad sh h ++ [(ad sh.length, ja_cel cy ad h sh.length q)] := by
  unfold ja_wld
  rw [List.mapIdx_concat]
theorem ja_str_ag {A : Nat → Prop} {U : Jvm.State} (ha : ja_ag n ad ad') (q : ja_str A ad U) : ja_str A ad' U := by
  have e : ∀ i, ad' (1000000 + i) = ad (1000000 + i) := fun i => ha _ (Or.inr (by omega))
  have e2 : ∀ i, ad' (2000000 + i) = ad (2000000 + i) := fun i => ha _ (Or.inr (by omega))
  obtain ⟨h1, h2, h3, r, hr, h4⟩ := q
  refine ⟨?_, fun i hi => ?_, h3, r, hr, ?_⟩
  · simp only [e, e2]; exact h1
  · rw [e]; exact h2 i hi
  · have e3 : r.map ad' = r.map ad := by
      cases r with
      | none => rfl
      | some r => show some _ = some _; rw [ha r (Or.inr (hr r rfl))]
    rw [e3]; exact h4
end JGR
def ja_gX : ja_X → (Nat → Nat) → ja_S → Nat → Nat → ja_X
  | ((p, l, e, R, s, m, args, below, meth, c, cells, slots, Q), D, cy, _, sh, A, nL), ad', ext, ce, sl => ((p, l, e, R, s, m, args, below, meth, c, cells + ce, slots + sl, Q), D, cy, ad', sh ++ ext, A, nL)
abbrev ja_ad (X : ja_X) : Nat → Nat := X.2.2.2.1
def ja_Gr (X X' : ja_X) (ext : ja_S) (ce sl : Nat) : Prop := ∃ ad', ja_ag (ja_sh X).length (ja_ad X) ad' ∧ X' = ja_gX X ad' ext ce sl
/-- in a constructor: its name, and what the array classes of objects want -/
def ja_In : ja_X → Prop
  | ((_, _, _, _, s, _, _, _, meth, _, _, _, _), _) => meth.name = "<init>" ∧ va_AO "TwoSuns$Picture" s ∧ va_AO "TwoSuns$Program" s
def ja_Rm : ja_X → Nat → Nat → Prop
  | ((_, _, _, R, _, _, _, _, _, _, cells, slots, _), _), ce, sl => cells + ce ≤ R.cells ∧ slots + sl ≤ R.slots
theorem ja_Gr_rf (X : ja_X) : ja_Gr X X [] 0 0 := by
  obtain ⟨⟨p, l, e, R, s, m, args, below, meth, c, cells, slots, Q⟩, D, cy, ad, sh, A, nL⟩ := X
  exact ⟨ad, fun _ _ => rfl, by simp [ja_gX]⟩
theorem ja_Gr_tr {X X' X'' : ja_X} {e1 e2 : ja_S} {c1 c2 s1 s2 : Nat} (h1 : ja_Gr X X' e1 c1 s1) (h2 : ja_Gr X' X'' e2 c2 s2) : ja_Gr X X'' (e1 ++ e2) (c1 + c2) (s1 + s2) := by
  obtain ⟨⟨p, l, e, R, s, m, args, below, meth, c, cells, slots, Q⟩, D, cy, ad, sh, A, nL⟩ := X
  obtain ⟨ad1, a1, rfl⟩ := h1
  obtain ⟨ad2, a2, rfl⟩ := h2
  refine ⟨ad2, fun k hk => ?_, ?_⟩
  · rw [a2 k (by rcases hk with hk | hk; exact Or.inl (by have hk : k < sh.length := hk; show k < (sh ++ e1).length; rw [List.length_append]; omega); exact Or.inr hk)]
    exact a1 k hk
  · simp [ja_gX, List.append_assoc, Nat.add_assoc]
/-- where a constructor stands: X0 at its entry, X now, grown by ext, with ce cells of sl slots; CE and SL in all -/
def ja_Cx (X0 X : ja_X) (cc : ByteArray) (own : String) (d : Nat) (ext : ja_S) (ce sl CE SL : Nat) : Prop := ja_Ok X cc own d ∧ ja_In X ∧ ja_Gr X0 X ext ce sl ∧ ja_Rm X0 CE SL
section JCX
variable {X0 X : ja_X} {cc : ByteArray} {own : String} {d pc idx k ce sl CE SL : Nat} {ext : ja_S} {L : ja_L} {st : List ja_W} {h : ja_H}
theorem ja_Cx_sh (cx : ja_Cx X0 X cc own d ext ce sl CE SL) : ja_sh X = ja_sh X0 ++ ext := by
  obtain ⟨-, -, ⟨ad', -, rfl⟩, -⟩ := cx
  rfl
theorem ja_Cx_l (cx : ja_Cx X0 X cc own d ext ce sl CE SL) : ja_l X = ja_l X0 := by
  obtain ⟨-, -, ⟨ad', -, rfl⟩, -⟩ := cx
  rfl
theorem ja_Cx_nL (cx : ja_Cx X0 X cc own d ext ce sl CE SL) : X.2.2.2.2.2.2 = X0.2.2.2.2.2.2 := by
  obtain ⟨-, -, ⟨ad', -, rfl⟩, -⟩ := cx
  rfl
theorem ja_Cx_len (cx : ja_Cx X0 X cc own d ext ce sl CE SL) : (ja_sh X).length = (ja_sh X0).length + ext.length := by rw [ja_Cx_sh cx, List.length_append]
theorem ja_Cx_at (cx : ja_Cx X0 X cc own d ext ce sl CE SL) (i : Nat) {q : Nat × Nat} (hk : (ja_sh X0).length + i = k) (hi : ext[i]? = some q) : (ja_sh X)[k]? = some q := by
  rw [ja_Cx_sh cx, List.getElem?_append_right (by omega), show k - (ja_sh X0).length = i by omega]
  exact hi
theorem ja_Cx_old (cx : ja_Cx X0 X cc own d ext ce sl CE SL) {q : Nat × Nat} (hk : (ja_sh X0)[k]? = some q) : (ja_sh X)[k]? = some q := by
  rw [ja_Cx_sh cx, List.getElem?_append_left (List.getElem?_eq_some_iff.mp hk).1]
  exact hk
/-- X grows by one cell -/
theorem ja_Cx_one (cx : ja_Cx X0 X cc own d ext ce sl CE SL) {q : Nat × Nat} {n a : Nat} (hc : ce + 1 ≤ CE) (hs : sl + n ≤ SL) (hk : (ja_sh X).length = k) (h1 : k < 1000000) : ja_Cx X0 (ja_gX X (fun j => if j = k then a else ja_ad X j) [q] 1 n) cc own d (ext ++ [q]) (ce + 1) (sl + n) CE SL := by
  obtain ⟨ok, hI, hG, hR⟩ := cx
  have ag : ja_ag (ja_sh X).length (ja_ad X) (fun j => if j = k then a else ja_ad X j) := fun j hj => by
    show (if j = k then a else ja_ad X j) = ja_ad X j
    rw [if_neg (by omega)]
  have hG2 : ja_Gr X0 (ja_gX X (fun j => if j = k then a else ja_ad X j) [q] 1 n) (ext ++ [q]) (ce + 1) (sl + n) := ja_Gr_tr hG ⟨_, ag, rfl⟩
  refine ⟨?_, ?_, hG2, hR⟩
  · obtain ⟨ad', -, rfl⟩ := hG
    obtain ⟨⟨p, l, e, R, s, m, args, below, meth, c, cells, slots, Q⟩, D, cy, ad, sh, A, nL⟩ := X0
    obtain ⟨o1, o2, o3, o4, o5, o6, o7, o8, o9, o10, o11, o12, o13⟩ := ok
    exact ⟨o1, o2, o3, o4, o5, o6, o7, o8, o9, by have := hR.1; show cells + ce + 1 ≤ R.cells; omega, by have := hR.2; show slots + sl + n ≤ R.slots; omega, o12, ja_str_ag ag o13⟩
  · obtain ⟨ad', -, rfl⟩ := hG
    obtain ⟨⟨p, l, e, R, s, m, args, below, meth, c, cells, slots, Q⟩, D, cy, ad, sh, A, nL⟩ := X0
    exact hI
def ja_Nw (own : String) (idx ci : Nat) : Prop := ∃ (C : String) (T : u_T), vwCl[ci]? = some (C, T, ja_n ci) ∧ (∀ w ∈ u_ws C T (ja_n ci), w ∈ ja_tbl) ∧ (∀ k, k < ja_n ci → parseFieldDescriptor (T k).2.2.1 = some (ja_ty ci k)) ∧ Cond.classLink own idx C ∈ ja_tbl ∧ Cond.instantiable C (ja_n ci) ∈ ja_tbl ∧ Cond.initialized C ∈ ja_tbl ∧ ∀ j, j < ja_n ci → ja_ty ci j ≠ .double ∧ ja_ty ci j ≠ .float
theorem ja_dv {ad : Nat → Nat} {k j : Nat} (hb : ja_bk k h) (ty : FieldType) (hty : ty ≠ .double ∧ ty ≠ .float) : defaultValue ty = ja_fv ad h k j ty := by
  obtain ⟨b1, b2, b3⟩ := hb j
  cases ty <;> simp [ja_fv, defaultValue, b1, b2, b3, va_rf] at hty ⊢
theorem jx_new {ci : Nat} (cx : ja_Cx X0 X cc own d ext ce sl CE SL) (hN : ja_Nw own idx ci) (dg : decode cc pc = .ok (.new idx, 3)) (hk : (ja_sh X).length = k) (h1 : k < 1000000) (hc : ce + 1 ≤ CE) (hs : sl + ja_n ci ≤ SL) (hcl : ja_cls k h) (hst : ∀ v ∈ st, ja_k k v) (hL : ja_kL k L) (hb : ja_bk k h)
    (kk : ∀ X', ja_Cx X0 X' cc own d (ext ++ [(0, ci)]) (ce + 1) (sl + ja_n ci) CE SL → ja_At X' (pc + 3) L (.inr (.inr (some k)) :: st) h) : ja_At X pc L st h := by
  have key := fun a => kk _ (ja_Cx_one (a := a) cx (q := (0, ci)) hc hs hk h1)
  have hR := (ja_Cx_one (a := 0) cx (q := (0, ci)) hc hs hk h1).1
  have ok := cx.1
  clear kk cx
  obtain ⟨⟨p, l, e, R, s, m, args, below, meth, c, cells, slots, Q⟩, D, cy, ad, sh, A, nL⟩ := X
  have hk : sh.length = k := hk
  subst hk
  intro ls vs H locs hl hv hs2 hL2 hh hP hD hS
  subst hv
  obtain ⟨C, T, n1, n2, n3, n4, n5, n6, n7⟩ := hN
  obtain ⟨o1, o2, o3, o4, o5, o6, o7, o8, o9, o10, o11, o12, o13⟩ := ok
  refine va_new (fs := (List.range (ja_n ci)).map fun j => ja_fv ad h sh.length j (ja_ty ci j)) o1 o2 o5 n2 (ja_ty ci) n3 o4 (o5 _ n4) (o5 _ n5) (o5 _ n6) o6 hP hD hS o7 n1 (fun j hj => ?_) hR.2.2.2.2.2.2.2.2.2.1 hR.2.2.2.2.2.2.2.2.2.2.1 dg ?_
  · rw [ja_dv (j := j) (ad := ad) hb (ja_ty ci j) (n7 j hj)]
    simp [vp_V, List.getD, hj]
  · intro a H1 hP1 hD1 hS1
    have ag : ja_ag sh.length ad (fun j => if j = sh.length then a else ad j) := fun j hj => by
      show (if j = sh.length then a else ad j) = ad j
      rw [if_neg (by omega)]
    have e : ja_wld cy (fun j => if j = sh.length then a else ad j) (sh ++ [(0, ci)]) h = ja_wld cy ad sh h ++ [(a, .inr (ci, (List.range (ja_n ci)).map fun j => ja_fv ad h sh.length j (ja_ty ci j)))] := by
      rw [ja_wld_push, ja_k_wld ag hcl, ja_k_cel ag hcl]
      simp only [if_true]
      rfl
    have key := key a ls (.ref a :: st.map (ja_c ad)) H1 locs
    refine key (by rw [ja_k_ls ag L 0 hL]; exact hl) ?_ (ja_oc trivial hs2) hL2 hh (by rw [e]; exact hP1) (by rw [e]; exact hD1) hS1
    rw [List.map_cons, ja_k_st ag hst]
    simp [ja_c, va_rf]
end JCX
