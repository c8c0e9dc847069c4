def R_law : String := "TwoSunsLaw"
def lw_P (b : Addr) (xs : List Int32) (args : Array Value) (s : State) : Prop := args = #[.ref b] ∧ s.IntsAt b xs ∧ xs.length ≤ 3586 ∧ (Jvm.Cond.and given_1 narrow_1).before args s = true
def lw_Q (_ : Array Value) (s : State) (o : Outcome) (t : State) : Prop := o = .returned (some (.int 1)) ∧ Framed s o t [] 600000 7302250
def lw_Z (below : List Frame) (a : Array Value) (s : State) : State → Prop := fun t => ∃ o, t.status = .running ∧ Ended t below o ∧ lw_Q a s o t
/-- the law's own end, with 1 on the stack, nothing written that was there before, its room as the claim has it -/
theorem lw_ret {p : Program} {l : Launch} {e : Env} {s : State} {m : MethodId} {below : List Frame} {meth : Method} {c : Code} {b : Nat} (hx : p.tables.exec = Jvm.exec) (hb : c.code = code) (hr : meth.sig.returnType = ret) (hlocks : meth.locks = false) {pc : Nat} {H : Heap} {ls : Array Slot} (hdg : decode code pc = .ok (.ireturn, 1)) : W p l e room_1 s m #[Value.ref b] below meth c H [] 600000 7302250 (lw_Z below #[Value.ref b] s) (F0 m pc ls [.int 1]) := by
  intro T hT X
  obtain ⟨fs, hret, hrun, hended, hW, hframe⟩ := X.leave (v := some (.int 1)) (hlocks := hlocks) (fun h => by rw [hr] at h; cases h)
  have hmeth' : T.vm.method? m = some meth := X.method'
  refine ⟨T.setFrames fs, ?_, .returned (some (.int 1)), hrun, hended, rfl, ⟨_, rfl⟩, hW, hframe⟩
  jvm_step X.here [X.here.top, hx, hb, hdg, hmeth', hr, ret, narrow_b1]
  (try refine ⟨rfl, ?_⟩); (try refine ⟨rfl, ?_⟩)
  first | (intro acts; rw [hret _ acts rfl rfl rfl]) | rw [hret _ _ rfl rfl rfl]
  exact Steps.refl _
/-- what holds at the law's entry: the machine, the code, the tables' words (any of lw_tbl by 'hts w (by decide +kernel)'), the script of L ints xs at the cell b, what the Statement gives of the start (any of its parts by flat_of_before) -/
def lw_At (p : Program) (s : State) (m : MethodId) (meth : Method) (c : Code) (b L : Nat) (xs : Nat → Int32) : Prop :=
  p.tables.exec = Jvm.exec ∧ c.code = code ∧ meth.sig.returnType = ret ∧ c.maxLocals = 4 ∧ s.vm.findClass R_law = some m.cls ∧ (∀ w ∈ lw_tbl, w.before #[Value.ref b] s = true) ∧ va_X b L xs s s.heap ∧ b < s.heap.size ∧ meth.locks = false ∧ (Jvm.Cond.and given_1 narrow_1).before #[Value.ref b] s = true
/-! the law's loop, its start and its end -/
def lw_kt : List (Int × Nat) := [(0, 188), (1, 241), (2, 324), (3, 367), (4, 400), (5, 475), (6, 498), (7, 531), (8, 564), (9, 597), (10, 650), (11, 683), (12, 746), (13, 789), (14, 880), (15, 933), (16, 976), (17, 1039), (18, 1062), (19, 1075), (20, 1098), (21, 1131), (22, 1174), (23, 1207), (24, 1250), (25, 1273), (26, 1316), (27, 1369), (28, 1382), (29, 1395)]
set_option maxRecDepth 10000 in
theorem law_loop {X : ja_X} {L n w g : Nat} {xs : Nat → Int32} (ok : ja_Ok X cL_law RL 60) (sc : ja_Sc X L xs) (hsh : ja_sh X = js_sh n) (hL : L ≤ 3586) (hnl : X.2.2.2.2.2.2 = 4) (fin : ∀ (Lc : ja_L) (h : ja_H), ja_At X 1425 Lc [.inl 1] h) : ∀ (k i : Nat) (h : ja_H), L ≤ i + 7 * k → i ≤ 3600 → INV w g n h → ja_At X 38 (lwL i) [] h := by
  intro k
  induction k with
  | zero =>
    intro i h hk hi hI
    refine ja_s_iload_n ok dL_law_38 rfl rfl (ja_s_aload_n ok dL_law_39 rfl rfl (jz_slen ok sc (by omega) dL_law_40 (ja_s_bipush ok dL_law_41 (v := 7) (by decide) (ja_s_isub ok dL_law_43 ?_))))
    rw [ja_w_id (by unfold ja_r; omega)]
    refine ja_s_icmp_gt ok dL_law_44 rfl (fun _ => ?_) (fun y => absurd (by omega) y)
    exact ja_s_iconst ok dL_law_1424 (v := 1) (by decide) (fin _ _)
  | succ k ih =>
    intro i h hk hi hI
    refine ja_s_iload_n ok dL_law_38 rfl rfl (ja_s_aload_n ok dL_law_39 rfl rfl (jz_slen ok sc (by omega) dL_law_40 (ja_s_bipush ok dL_law_41 (v := 7) (by decide) (ja_s_isub ok dL_law_43 ?_))))
    rw [ja_w_id (by unfold ja_r; omega)]
    refine ja_s_icmp_gt ok dL_law_44 rfl (fun _ => ?_) (fun y => ?_)
    · exact ja_s_iconst ok dL_law_1424 (v := 1) (by decide) (fin _ _)
    have hiL : i + 7 ≤ L := by omega
    have hi : i ≤ 4000 := by omega
    have kk : ∀ h', INV w g n h' → ja_At X 1418 (lwL i) [] h' := fun h' hI' => by
      refine ja_s_iinc ok dL_law_1418 (by rw [hnl]; decide) rfl (ja_s_goto ok dL_law_1421 rfl ?_)
      have e : ja_w ((i : Int) + 7) = ((i + 7 : Nat) : Int) := by rw [ja_w_id (by unfold ja_r; omega)]; omega
      rw [e]
      exact ih (i + 7) h' (by omega) (by omega) hI'
    refine ja_s_aload_n ok dL_law_47 rfl rfl (ja_s_iload_n ok dL_law_48 rfl rfl (jz_sld ok sc dL_law_49 (by omega) (by omega) (ja_s_bipush ok dL_law_50 (v := 31) (by decide) (ja_s_iand ok dL_law_52 ?_))))
    refine ja_s_tab (kt := lw_kt) (dt := 1418) ok dL_law_53 (by decide +kernel) (by decide +kernel) rfl rfl ?_
    generalize ja_land _ 31 = zz
    unfold lw_kt
    simp only [ja_J]
    by_cases q0 : zz = 0
    · rw [if_pos q0]
      exact law_c0 ok sc hsh hiL hi hI kk
    rw [if_neg q0]
    by_cases q1 : zz = 1
    · rw [if_pos q1]
      exact law_c1 ok sc hsh hiL hi hI kk
    rw [if_neg q1]
    by_cases q2 : zz = 2
    · rw [if_pos q2]
      exact law_c2 ok sc hsh hiL hi hI kk
    rw [if_neg q2]
    by_cases q3 : zz = 3
    · rw [if_pos q3]
      exact law_c3 ok sc hsh hiL hi hI kk
    rw [if_neg q3]
    by_cases q4 : zz = 4
    · rw [if_pos q4]
      exact law_c4 ok sc hsh hiL hi hI kk
    rw [if_neg q4]
    by_cases q5 : zz = 5
    · rw [if_pos q5]
      exact law_c5 ok sc hsh hiL hi hI kk
    rw [if_neg q5]
    by_cases q6 : zz = 6
    · rw [if_pos q6]
      exact law_c6 ok sc hsh hiL hi hI kk
    rw [if_neg q6]
    by_cases q7 : zz = 7
    · rw [if_pos q7]
      exact law_c7 ok sc hsh hiL hi hI kk
    rw [if_neg q7]
    by_cases q8 : zz = 8
    · rw [if_pos q8]
      exact law_c8 ok sc hsh hiL hi hI kk
    rw [if_neg q8]
    by_cases q9 : zz = 9
    · rw [if_pos q9]
      exact law_c9 ok sc hsh hiL hi hI kk
    rw [if_neg q9]
    by_cases q10 : zz = 10
    · rw [if_pos q10]
      exact law_c10 ok sc hsh hiL hi hI kk
    rw [if_neg q10]
    by_cases q11 : zz = 11
    · rw [if_pos q11]
      exact law_c11 ok sc hsh hiL hi hI kk
    rw [if_neg q11]
    by_cases q12 : zz = 12
    · rw [if_pos q12]
      exact law_c12 ok sc hsh hiL hi hI kk
    rw [if_neg q12]
    by_cases q13 : zz = 13
    · rw [if_pos q13]
      exact law_c13 ok sc hsh hiL hi hI kk
    rw [if_neg q13]
    by_cases q14 : zz = 14
    · rw [if_pos q14]
      exact law_c14 ok sc hsh hiL hi hI kk
    rw [if_neg q14]
    by_cases q15 : zz = 15
    · rw [if_pos q15]
      exact law_c15 ok sc hsh hiL hi hI kk
    rw [if_neg q15]
    by_cases q16 : zz = 16
    · rw [if_pos q16]
      exact law_c16 ok sc hsh hiL hi hI kk
    rw [if_neg q16]
    by_cases q17 : zz = 17
    · rw [if_pos q17]
      exact law_c17 ok sc hsh hiL hi hI kk
    rw [if_neg q17]
    by_cases q18 : zz = 18
    · rw [if_pos q18]
      exact law_c18 ok sc hsh hiL hi hI kk
    rw [if_neg q18]
    by_cases q19 : zz = 19
    · rw [if_pos q19]
      exact law_c19 ok sc hsh hiL hi hI kk
    rw [if_neg q19]
    by_cases q20 : zz = 20
    · rw [if_pos q20]
      exact law_c20 ok sc hsh hiL hi hI kk
    rw [if_neg q20]
    by_cases q21 : zz = 21
    · rw [if_pos q21]
      exact law_c21 ok sc hsh hiL hi hI kk
    rw [if_neg q21]
    by_cases q22 : zz = 22
    · rw [if_pos q22]
      exact law_c22 ok sc hsh hiL hi hI kk
    rw [if_neg q22]
    by_cases q23 : zz = 23
    · rw [if_pos q23]
      exact law_c23 ok sc hsh hiL hi hI kk
    rw [if_neg q23]
    by_cases q24 : zz = 24
    · rw [if_pos q24]
      exact law_c24 ok sc hsh hiL hi hI kk
    rw [if_neg q24]
    by_cases q25 : zz = 25
    · rw [if_pos q25]
      exact law_c25 ok sc hsh hiL hi hI kk
    rw [if_neg q25]
    by_cases q26 : zz = 26
    · rw [if_pos q26]
      exact law_c26 ok sc hsh hiL hi hI kk
    rw [if_neg q26]
    by_cases q27 : zz = 27
    · rw [if_pos q27]
      exact law_c27 ok sc hsh hiL hi hI kk
    rw [if_neg q27]
    by_cases q28 : zz = 28
    · rw [if_pos q28]
      exact law_c28 ok sc hsh hiL hi hI kk
    rw [if_neg q28]
    by_cases q29 : zz = 29
    · rw [if_pos q29]
      exact law_c29 ok sc hsh hiL hi hI kk
    rw [if_neg q29]
    exact kk h hI
/-- the classes of the world, as the tables have them -/
theorem nw_kn {s : Jvm.State} {args : Array Value} {own : String} {idx ci : Nat} (hts : ∀ w ∈ ja_tbl, w.before args s = true) (hN : ja_Nw own idx ci) : ∃ (cC : ClassId) (iS : Nat → Nat), ∀ q : vw_C, vwCl[ci]? = some q → u_Kn s q.1 q.2.1 q.2.2 cC iS := by
  obtain ⟨C, T, n1, n2, n3, n4, n5, n6, n7⟩ := hN
  obtain ⟨cC, iS, hk⟩ := u_known hts n2 (hts _ n5)
  refine ⟨cC, iS, fun q hq => ?_⟩
  rw [n1] at hq
  cases hq
  exact hk
theorem law_D {s : Jvm.State} {args : Array Value} (hts : ∀ w ∈ ja_tbl, w.before args s = true) : ∃ D : va_G, ∀ (c : Nat) (q : vw_C), vwCl[c]? = some q → u_Kn s q.1 q.2.1 q.2.2 (D.1 c) (D.2 c) := by
  have h0 : ∀ c : Nat, ∃ y : ClassId × (Nat → Nat), ∀ q : vw_C, vwCl[c]? = some q → u_Kn s q.1 q.2.1 q.2.2 y.1 y.2 := fun c => by
    have mk : (∃ (cC : ClassId) (iS : Nat → Nat), ∀ q : vw_C, vwCl[c]? = some q → u_Kn s q.1 q.2.1 q.2.2 cC iS) → ∃ y : ClassId × (Nat → Nat), ∀ q : vw_C, vwCl[c]? = some q → u_Kn s q.1 q.2.1 q.2.2 y.1 y.2 := fun ⟨a, b, hh⟩ => ⟨(a, b), hh⟩
    match c with
    | 0 => exact mk (nw_kn hts jNX11_44)
    | 1 => exact mk (nw_kn hts jNX11_72)
    | 2 => exact mk (nw_kn hts jNX11_37)
    | 3 => exact mk (nw_kn hts jNX8_9)
    | 4 => exact mk (nw_kn hts jNX11_86)
    | 5 => exact mk (nw_kn hts jNX11_65)
    | 6 => exact mk (nw_kn hts jNX11_58)
    | 7 => exact mk (nw_kn hts jNX11_30)
    | 8 => exact mk (nw_kn hts jNX11_18)
    | 9 => exact mk (nw_kn hts jNX11_79)
    | 10 => exact mk (nw_kn hts jNX11_51)
    | 11 => exact mk (nw_kn hts jNL_7)
    | 12 => exact mk (nw_kn hts jNL_18)
    | c + 13 =>
      refine ⟨((nw_kn hts jNL_7).choose, fun _ => 0), fun q hq => ?_⟩
      have hl := (List.getElem?_eq_some_iff.mp hq).1
      simp at hl
      omega
  obtain ⟨F, hF⟩ := Classical.axiomOfChoice h0
  exact ⟨(fun c => (F c).1, fun c => (F c).2), fun c q hq => hF c q hq⟩
theorem law_AO1 : Cond.arrayOver (.object "TwoSuns$Picture") ∈ lw_tbl := List.mem_append_right _ (by decide +kernel)
theorem law_AO2 : Cond.arrayOver (.object "TwoSuns$Program") ∈ lw_tbl := List.mem_append_right _ (by decide +kernel)
theorem arr_p {s : Jvm.State} {args : Array Value} {ty : FieldType} (hp : ∀ C, ty ≠ .object C) (h : (Cond.arrayClass ty).before args s = true) : ∃ cA, ArrOfT s cA ty ∧ va_RA s cA ty := by
  obtain ⟨c, k, comp, h1, h2, h3⟩ := Cond.arrayClass_spec h
  refine ⟨c, fun n z => ⟨fun k h => (by cases h), k, h2, comp, h3⟩, ?_⟩
  unfold va_RA
  cases ty <;> first | exact h1 | exact absurd rfl (hp _)
theorem arr_o {s : Jvm.State} {C : String} (h : va_AO C s) : ∃ cA, ArrOfT s cA (.object C) ∧ va_RA s cA (.object C) := by
  obtain ⟨comp, c, k, h1, h2, h3, h4, h5⟩ := Cond.arrayOver_spec h
  exact ⟨c, fun n z => ⟨fun k h => (by cases h), k, h3, comp, h4⟩, k, comp, h3, h4, h1, h5⟩
theorem law_cy {s : Jvm.State} {args : Array Value} (hts : ∀ w ∈ ja_tbl, w.before args s = true) (a1 : va_AO "TwoSuns$Picture" s) (a2 : va_AO "TwoSuns$Program" s) : ∃ cy : Nat → ClassId, ∀ (k : Nat) (q : ClassId × FieldType), (ja_tys cy)[k]? = some q → ArrOfT s q.1 q.2 ∧ va_RA s q.1 q.2 := by
  obtain ⟨c1, h1⟩ := arr_p (fun C q => by cases q) (hts _ waI)
  obtain ⟨c2, h2⟩ := arr_p (fun C q => by cases q) (hts _ waZ)
  obtain ⟨c3, h3⟩ := arr_p (fun C q => by cases q) (hts _ waL)
  obtain ⟨c4, h4⟩ := arr_o a1
  obtain ⟨c5, h5⟩ := arr_o a2
  refine ⟨fun k => if k = 1 then c1 else if k = 2 then c2 else if k = 3 then c3 else if k = 4 then c4 else c5, fun k q hq => ?_⟩
  match k, hq with
  | 0, hq => cases hq; exact h1
  | 1, hq => cases hq; exact h2
  | 2, hq => cases hq; exact h3
  | 3, hq => cases hq; exact h4
  | 4, hq => cases hq; exact h5
  | k + 5, hq => have hl := (List.getElem?_eq_some_iff.mp hq).1; simp [ja_tys] at hl; omega
