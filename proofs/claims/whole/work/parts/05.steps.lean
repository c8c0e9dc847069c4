/-! one instruction, a row each -/
theorem ja_oc {v : ja_W} {st : List ja_W} (h : ja_ok v) (hs : ∀ u ∈ st, ja_ok u) : ∀ u ∈ v :: st, ja_ok u := by
  intro u hu
  rcases List.mem_cons.mp hu with rfl | hu
  · exact h
  · exact hs u hu
theorem ja_ot {v : ja_W} {st : List ja_W} (hs : ∀ u ∈ v :: st, ja_ok u) : ∀ u ∈ st, ja_ok u := fun u hu => hs u (List.mem_cons_of_mem _ hu)
theorem ja_oh {v : ja_W} {st : List ja_W} (hs : ∀ u ∈ v :: st, ja_ok u) : ja_ok v := hs v List.mem_cons_self
theorem ja_ofw (z : Int) : Int32.ofInt (ja_w z) = Int32.ofInt z := by
  apply Int32.toInt_inj.mp
  rw [ja_toI (ja_w_r z), Int32.toInt_ofInt]; rfl
theorem ja_ofwl (z : Int) : Int64.ofInt (ja_wl z) = Int64.ofInt z := by
  apply Int64.toInt_inj.mp
  rw [ja_toL (ja_wl_r z), Int64.toInt_ofInt]; rfl
theorem ja_eqI {a : Int32} {z : Int} (h : a.toInt = z) : a = Int32.ofInt z := by rw [← h, ja_of]
theorem ja_eqL {a : Int64} {z : Int} (h : a.toInt = z) : a = Int64.ofInt z := by rw [← h, ja_ofL]
theorem ja_divI {x y : Int} (hx : ja_r x) (hy : ja_r y) : Int32.ofInt x / Int32.ofInt y = Int32.ofInt (ja_w (x.tdiv y)) := by
  apply ja_eqI
  rw [Int32.toInt_div, ja_toI hx, ja_toI hy]; rfl
theorem ja_divL {x y : Int} (hx : ja_rl x) (hy : ja_rl y) : Int64.ofInt x / Int64.ofInt y = Int64.ofInt (ja_wl (x.tdiv y)) := by
  apply ja_eqL
  rw [Int64.toInt_div, ja_toL hx, ja_toL hy]; rfl
theorem ja_tmod_r {x y : Int} (hx : ja_r x) : ja_r (x.tmod y) := by
  unfold ja_r at *
  have h1 := Int.tmod_add_mul_tdiv x y
  have h2 : (x.tmod y).natAbs ≤ x.natAbs := by
    rw [Int.natAbs_tmod]; exact Nat.mod_le _ _
  rcases Int.le_total 0 x with q | q
  · have := Int.tmod_nonneg y q; omega
  · have h3 : 0 ≤ (-x).tmod y := Int.tmod_nonneg y (by omega)
    rw [Int.neg_tmod] at h3
    omega
theorem ja_tmod_rl {x y : Int} (hx : ja_rl x) : ja_rl (x.tmod y) := by
  unfold ja_rl at *
  have h2 : (x.tmod y).natAbs ≤ x.natAbs := by
    rw [Int.natAbs_tmod]; exact Nat.mod_le _ _
  rcases Int.le_total 0 x with q | q
  · have := Int.tmod_nonneg y q; omega
  · have h3 : 0 ≤ (-x).tmod y := Int.tmod_nonneg y (by omega)
    rw [Int.neg_tmod] at h3
    omega
theorem ja_remI {x y : Int} (hx : ja_r x) (hy : ja_r y) : Int32.ofInt x - Int32.ofInt x / Int32.ofInt y * Int32.ofInt y = Int32.ofInt (x.tmod y) := by
  rw [ja_divI hx hy, ja_ofw, ← Int32.ofInt_mul, ← Int32.ofInt_sub]
  congr 1
  have := Int.tmod_add_mul_tdiv x y
  rw [Int.mul_comm] at this
  omega
theorem ja_remL {x y : Int} (hx : ja_rl x) (hy : ja_rl y) : Int64.ofInt x - Int64.ofInt x / Int64.ofInt y * Int64.ofInt y = Int64.ofInt (x.tmod y) := by
  rw [ja_divL hx hy, ja_ofwl, ← Int64.ofInt_mul, ← Int64.ofInt_sub]
  congr 1
  have := Int.tmod_add_mul_tdiv x y
  rw [Int.mul_comm] at this
  omega
theorem ja_ne0 {y : Int} (hy : ja_r y) (h : y ≠ 0) : ¬ Int32.ofInt y = 0 := fun q => h (by have := congrArg Int32.toInt q; rw [ja_toI hy] at this; exact this)
theorem ja_ne0L {y : Int} (hy : ja_rl y) (h : y ≠ 0) : ¬ Int64.ofInt y = 0 := fun q => h (by have := congrArg Int64.toInt q; rw [ja_toL hy] at this; exact this)
def ja_land (x y : Int) : Int := (Int32.ofInt x &&& Int32.ofInt y).toInt
def ja_lor (x y : Int) : Int := (Int32.ofInt x ||| Int32.ofInt y).toInt
def ja_lxor (x y : Int) : Int := (Int32.ofInt x ^^^ Int32.ofInt y).toInt
def ja_shl (x y : Int) : Int := (Int32.ofInt x <<< (Int32.ofInt y &&& 31)).toInt
def ja_shr (x y : Int) : Int := (Int32.ofInt x >>> (Int32.ofInt y &&& 31)).toInt
def ja_ushr (x y : Int) : Int := ((Int32.ofInt x).toUInt32 >>> ((Int32.ofInt y).toUInt32 &&& Int32.toUInt32 31)).toInt32.toInt
def ja_andL (x y : Int) : Int := (Int64.ofInt x &&& Int64.ofInt y).toInt
def ja_orL (x y : Int) : Int := (Int64.ofInt x ||| Int64.ofInt y).toInt
def ja_shlL (x y : Int) : Int := (Int64.ofInt x <<< ((Int32.ofInt y).toInt64 &&& 63)).toInt
def ja_sg (x y : Int) : Int := if x > y then 1 else if x = y then 0 else -1
def ja_absI (x : Int) : Int := if x = -2147483648 then x else if x < 0 then -x else x

theorem ja_s_iadd {X : ja_X} {cc : ByteArray} {own : String} {d pc : Nat} {L : ja_L} {st : List ja_W} {h : ja_H} {x y : Int} (ok : ja_Ok X cc own d) (dg : decode cc pc = .ok (.iadd, 1)) (k : ja_At X (pc + 1) L (.inl (ja_w (x + y)) :: st) h) : ja_At X pc L (.inl y :: .inl x :: st) h := by
  obtain ⟨⟨p, l, e, R, s, m, args, below, meth, c, cells, slots, Q⟩, D, cy, ad, sh, A, nL⟩ := X
  intro ls vs H locs hl hv hs hL hh hP hD hS
  subst hv
  have hy : ja_r y := ja_oh hs
  have hx : ja_r x := ja_oh (ja_ot hs)
  refine lv_iadd ok.1 ok.2.1 dg ?_
  have hq : Int32.ofInt x + Int32.ofInt y = Int32.ofInt (ja_w (x + y)) := by rw [ja_ofw, Int32.ofInt_add]
  rw [hq]
  exact k ls _ H locs hl rfl (ja_oc (ja_w_r _) (ja_ot (ja_ot hs))) hL hh hP hD hS

theorem ja_s_isub {X : ja_X} {cc : ByteArray} {own : String} {d pc : Nat} {L : ja_L} {st : List ja_W} {h : ja_H} {x y : Int} (ok : ja_Ok X cc own d) (dg : decode cc pc = .ok (.isub, 1)) (k : ja_At X (pc + 1) L (.inl (ja_w (x - y)) :: st) h) : ja_At X pc L (.inl y :: .inl x :: st) h := by
  obtain ⟨⟨p, l, e, R, s, m, args, below, meth, c, cells, slots, Q⟩, D, cy, ad, sh, A, nL⟩ := X
  intro ls vs H locs hl hv hs hL hh hP hD hS
  subst hv
  have hy : ja_r y := ja_oh hs
  have hx : ja_r x := ja_oh (ja_ot hs)
  refine lv_isub ok.1 ok.2.1 dg ?_
  have hq : Int32.ofInt x - Int32.ofInt y = Int32.ofInt (ja_w (x - y)) := by rw [ja_ofw, Int32.ofInt_sub]
  rw [hq]
  exact k ls _ H locs hl rfl (ja_oc (ja_w_r _) (ja_ot (ja_ot hs))) hL hh hP hD hS

theorem ja_s_imul {X : ja_X} {cc : ByteArray} {own : String} {d pc : Nat} {L : ja_L} {st : List ja_W} {h : ja_H} {x y : Int} (ok : ja_Ok X cc own d) (dg : decode cc pc = .ok (.imul, 1)) (k : ja_At X (pc + 1) L (.inl (ja_w (x * y)) :: st) h) : ja_At X pc L (.inl y :: .inl x :: st) h := by
  obtain ⟨⟨p, l, e, R, s, m, args, below, meth, c, cells, slots, Q⟩, D, cy, ad, sh, A, nL⟩ := X
  intro ls vs H locs hl hv hs hL hh hP hD hS
  subst hv
  have hy : ja_r y := ja_oh hs
  have hx : ja_r x := ja_oh (ja_ot hs)
  refine lv_imul ok.1 ok.2.1 dg ?_
  have hq : Int32.ofInt x * Int32.ofInt y = Int32.ofInt (ja_w (x * y)) := by rw [ja_ofw, Int32.ofInt_mul]
  rw [hq]
  exact k ls _ H locs hl rfl (ja_oc (ja_w_r _) (ja_ot (ja_ot hs))) hL hh hP hD hS

theorem ja_s_idiv {X : ja_X} {cc : ByteArray} {own : String} {d pc : Nat} {L : ja_L} {st : List ja_W} {h : ja_H} {x y : Int} (ok : ja_Ok X cc own d) (dg : decode cc pc = .ok (.idiv, 1)) (hn : y ≠ 0) (k : ja_At X (pc + 1) L (.inl (ja_w (x.tdiv y)) :: st) h) : ja_At X pc L (.inl y :: .inl x :: st) h := by
  obtain ⟨⟨p, l, e, R, s, m, args, below, meth, c, cells, slots, Q⟩, D, cy, ad, sh, A, nL⟩ := X
  intro ls vs H locs hl hv hs hL hh hP hD hS
  subst hv
  have hy : ja_r y := ja_oh hs
  have hx : ja_r x := ja_oh (ja_ot hs)
  refine lv_idiv ok.1 ok.2.1 dg (ja_ne0 hy hn) ?_
  have hq : Int32.ofInt x / Int32.ofInt y = Int32.ofInt (ja_w (x.tdiv y)) := ja_divI hx hy
  rw [hq]
  exact k ls _ H locs hl rfl (ja_oc (ja_w_r _) (ja_ot (ja_ot hs))) hL hh hP hD hS

theorem ja_s_irem {X : ja_X} {cc : ByteArray} {own : String} {d pc : Nat} {L : ja_L} {st : List ja_W} {h : ja_H} {x y : Int} (ok : ja_Ok X cc own d) (dg : decode cc pc = .ok (.irem, 1)) (hn : y ≠ 0) (k : ja_At X (pc + 1) L (.inl (x.tmod y) :: st) h) : ja_At X pc L (.inl y :: .inl x :: st) h := by
  obtain ⟨⟨p, l, e, R, s, m, args, below, meth, c, cells, slots, Q⟩, D, cy, ad, sh, A, nL⟩ := X
  intro ls vs H locs hl hv hs hL hh hP hD hS
  subst hv
  have hy : ja_r y := ja_oh hs
  have hx : ja_r x := ja_oh (ja_ot hs)
  refine lv_irem ok.1 ok.2.1 dg (ja_ne0 hy hn) ?_
  have hq : Int32.ofInt x - Int32.ofInt x / Int32.ofInt y * Int32.ofInt y = Int32.ofInt (x.tmod y) := ja_remI hx hy
  rw [hq]
  exact k ls _ H locs hl rfl (ja_oc (ja_tmod_r hx) (ja_ot (ja_ot hs))) hL hh hP hD hS

theorem ja_s_iand {X : ja_X} {cc : ByteArray} {own : String} {d pc : Nat} {L : ja_L} {st : List ja_W} {h : ja_H} {x y : Int} (ok : ja_Ok X cc own d) (dg : decode cc pc = .ok (.iand, 1)) (k : ja_At X (pc + 1) L (.inl (ja_land x y) :: st) h) : ja_At X pc L (.inl y :: .inl x :: st) h := by
  obtain ⟨⟨p, l, e, R, s, m, args, below, meth, c, cells, slots, Q⟩, D, cy, ad, sh, A, nL⟩ := X
  intro ls vs H locs hl hv hs hL hh hP hD hS
  subst hv
  have hy : ja_r y := ja_oh hs
  have hx : ja_r x := ja_oh (ja_ot hs)
  refine lv_iand ok.1 ok.2.1 dg ?_
  have hq : Int32.ofInt x &&& Int32.ofInt y = Int32.ofInt (ja_land x y) := ja_eqI rfl
  rw [hq]
  exact k ls _ H locs hl rfl (ja_oc (ja_rI _) (ja_ot (ja_ot hs))) hL hh hP hD hS

theorem ja_s_ior {X : ja_X} {cc : ByteArray} {own : String} {d pc : Nat} {L : ja_L} {st : List ja_W} {h : ja_H} {x y : Int} (ok : ja_Ok X cc own d) (dg : decode cc pc = .ok (.ior, 1)) (k : ja_At X (pc + 1) L (.inl (ja_lor x y) :: st) h) : ja_At X pc L (.inl y :: .inl x :: st) h := by
  obtain ⟨⟨p, l, e, R, s, m, args, below, meth, c, cells, slots, Q⟩, D, cy, ad, sh, A, nL⟩ := X
  intro ls vs H locs hl hv hs hL hh hP hD hS
  subst hv
  have hy : ja_r y := ja_oh hs
  have hx : ja_r x := ja_oh (ja_ot hs)
  refine lv_ior ok.1 ok.2.1 dg ?_
  have hq : Int32.ofInt x ||| Int32.ofInt y = Int32.ofInt (ja_lor x y) := ja_eqI rfl
  rw [hq]
  exact k ls _ H locs hl rfl (ja_oc (ja_rI _) (ja_ot (ja_ot hs))) hL hh hP hD hS

theorem ja_s_ixor {X : ja_X} {cc : ByteArray} {own : String} {d pc : Nat} {L : ja_L} {st : List ja_W} {h : ja_H} {x y : Int} (ok : ja_Ok X cc own d) (dg : decode cc pc = .ok (.ixor, 1)) (k : ja_At X (pc + 1) L (.inl (ja_lxor x y) :: st) h) : ja_At X pc L (.inl y :: .inl x :: st) h := by
  obtain ⟨⟨p, l, e, R, s, m, args, below, meth, c, cells, slots, Q⟩, D, cy, ad, sh, A, nL⟩ := X
  intro ls vs H locs hl hv hs hL hh hP hD hS
  subst hv
  have hy : ja_r y := ja_oh hs
  have hx : ja_r x := ja_oh (ja_ot hs)
  refine lv_ixor ok.1 ok.2.1 dg ?_
  have hq : Int32.ofInt x ^^^ Int32.ofInt y = Int32.ofInt (ja_lxor x y) := ja_eqI rfl
  rw [hq]
  exact k ls _ H locs hl rfl (ja_oc (ja_rI _) (ja_ot (ja_ot hs))) hL hh hP hD hS

theorem ja_s_ishl {X : ja_X} {cc : ByteArray} {own : String} {d pc : Nat} {L : ja_L} {st : List ja_W} {h : ja_H} {x y : Int} (ok : ja_Ok X cc own d) (dg : decode cc pc = .ok (.ishl, 1)) (k : ja_At X (pc + 1) L (.inl (ja_shl x y) :: st) h) : ja_At X pc L (.inl y :: .inl x :: st) h := by
  obtain ⟨⟨p, l, e, R, s, m, args, below, meth, c, cells, slots, Q⟩, D, cy, ad, sh, A, nL⟩ := X
  intro ls vs H locs hl hv hs hL hh hP hD hS
  subst hv
  have hy : ja_r y := ja_oh hs
  have hx : ja_r x := ja_oh (ja_ot hs)
  refine lv_ishl ok.1 ok.2.1 dg ?_
  have hq : Int32.ofInt x <<< (Int32.ofInt y &&& 31) = Int32.ofInt (ja_shl x y) := ja_eqI rfl
  rw [hq]
  exact k ls _ H locs hl rfl (ja_oc (ja_rI _) (ja_ot (ja_ot hs))) hL hh hP hD hS

theorem ja_s_ishr {X : ja_X} {cc : ByteArray} {own : String} {d pc : Nat} {L : ja_L} {st : List ja_W} {h : ja_H} {x y : Int} (ok : ja_Ok X cc own d) (dg : decode cc pc = .ok (.ishr, 1)) (k : ja_At X (pc + 1) L (.inl (ja_shr x y) :: st) h) : ja_At X pc L (.inl y :: .inl x :: st) h := by
  obtain ⟨⟨p, l, e, R, s, m, args, below, meth, c, cells, slots, Q⟩, D, cy, ad, sh, A, nL⟩ := X
  intro ls vs H locs hl hv hs hL hh hP hD hS
  subst hv
  have hy : ja_r y := ja_oh hs
  have hx : ja_r x := ja_oh (ja_ot hs)
  refine lv_ishr ok.1 ok.2.1 dg ?_
  have hq : Int32.ofInt x >>> (Int32.ofInt y &&& 31) = Int32.ofInt (ja_shr x y) := ja_eqI rfl
  rw [hq]
  exact k ls _ H locs hl rfl (ja_oc (ja_rI _) (ja_ot (ja_ot hs))) hL hh hP hD hS

theorem ja_s_iushr {X : ja_X} {cc : ByteArray} {own : String} {d pc : Nat} {L : ja_L} {st : List ja_W} {h : ja_H} {x y : Int} (ok : ja_Ok X cc own d) (dg : decode cc pc = .ok (.iushr, 1)) (k : ja_At X (pc + 1) L (.inl (ja_ushr x y) :: st) h) : ja_At X pc L (.inl y :: .inl x :: st) h := by
  obtain ⟨⟨p, l, e, R, s, m, args, below, meth, c, cells, slots, Q⟩, D, cy, ad, sh, A, nL⟩ := X
  intro ls vs H locs hl hv hs hL hh hP hD hS
  subst hv
  refine lv_iushr (v := Int32.ofInt (ja_ushr x y)) ok.1 ok.2.1 dg (ja_eqI rfl) ?_
  exact k ls _ H locs hl rfl (ja_oc (ja_rI _) (ja_ot (ja_ot hs))) hL hh hP hD hS
theorem ja_s_ineg {X : ja_X} {cc : ByteArray} {own : String} {d pc : Nat} {L : ja_L} {st : List ja_W} {h : ja_H} {x : Int} (ok : ja_Ok X cc own d) (dg : decode cc pc = .ok (.ineg, 1)) (k : ja_At X (pc + 1) L (.inl (ja_w (-x)) :: st) h) : ja_At X pc L (.inl x :: st) h := by
  obtain ⟨⟨p, l, e, R, s, m, args, below, meth, c, cells, slots, Q⟩, D, cy, ad, sh, A, nL⟩ := X
  intro ls vs H locs hl hv hs hL hh hP hD hS
  subst hv
  refine lv_ineg ok.1 ok.2.1 dg ?_
  have hq : -Int32.ofInt x = Int32.ofInt (ja_w (-x)) := by rw [ja_ofw, Int32.ofInt_neg]
  rw [hq]
  exact k ls _ H locs hl rfl (ja_oc (ja_w_r _) (ja_ot hs)) hL hh hP hD hS

theorem ja_s_ladd {X : ja_X} {cc : ByteArray} {own : String} {d pc : Nat} {L : ja_L} {st : List ja_W} {h : ja_H} {x y : Int} (ok : ja_Ok X cc own d) (dg : decode cc pc = .ok (.ladd, 1)) (k : ja_At X (pc + 1) L (.inr (.inl (ja_wl (x + y))) :: st) h) : ja_At X pc L (.inr (.inl y) :: .inr (.inl x) :: st) h := by
  obtain ⟨⟨p, l, e, R, s, m, args, below, meth, c, cells, slots, Q⟩, D, cy, ad, sh, A, nL⟩ := X
  intro ls vs H locs hl hv hs hL hh hP hD hS
  subst hv
  have hy : ja_rl y := ja_oh hs
  have hx : ja_rl x := ja_oh (ja_ot hs)
  refine lv_ladd ok.1 ok.2.1 dg ?_
  have hq : Int64.ofInt x + Int64.ofInt y = Int64.ofInt (ja_wl (x + y)) := by rw [ja_ofwl, Int64.ofInt_add]
  rw [hq]
  exact k ls _ H locs hl rfl (ja_oc (ja_wl_r _) (ja_ot (ja_ot hs))) hL hh hP hD hS

theorem ja_s_lsub {X : ja_X} {cc : ByteArray} {own : String} {d pc : Nat} {L : ja_L} {st : List ja_W} {h : ja_H} {x y : Int} (ok : ja_Ok X cc own d) (dg : decode cc pc = .ok (.lsub, 1)) (k : ja_At X (pc + 1) L (.inr (.inl (ja_wl (x - y))) :: st) h) : ja_At X pc L (.inr (.inl y) :: .inr (.inl x) :: st) h := by
  obtain ⟨⟨p, l, e, R, s, m, args, below, meth, c, cells, slots, Q⟩, D, cy, ad, sh, A, nL⟩ := X
  intro ls vs H locs hl hv hs hL hh hP hD hS
  subst hv
  have hy : ja_rl y := ja_oh hs
  have hx : ja_rl x := ja_oh (ja_ot hs)
  refine lv_lsub ok.1 ok.2.1 dg ?_
  have hq : Int64.ofInt x - Int64.ofInt y = Int64.ofInt (ja_wl (x - y)) := by rw [ja_ofwl, Int64.ofInt_sub]
  rw [hq]
  exact k ls _ H locs hl rfl (ja_oc (ja_wl_r _) (ja_ot (ja_ot hs))) hL hh hP hD hS

theorem ja_s_lmul {X : ja_X} {cc : ByteArray} {own : String} {d pc : Nat} {L : ja_L} {st : List ja_W} {h : ja_H} {x y : Int} (ok : ja_Ok X cc own d) (dg : decode cc pc = .ok (.lmul, 1)) (k : ja_At X (pc + 1) L (.inr (.inl (ja_wl (x * y))) :: st) h) : ja_At X pc L (.inr (.inl y) :: .inr (.inl x) :: st) h := by
  obtain ⟨⟨p, l, e, R, s, m, args, below, meth, c, cells, slots, Q⟩, D, cy, ad, sh, A, nL⟩ := X
  intro ls vs H locs hl hv hs hL hh hP hD hS
  subst hv
  have hy : ja_rl y := ja_oh hs
  have hx : ja_rl x := ja_oh (ja_ot hs)
  refine lv_lmul ok.1 ok.2.1 dg ?_
  have hq : Int64.ofInt x * Int64.ofInt y = Int64.ofInt (ja_wl (x * y)) := by rw [ja_ofwl, Int64.ofInt_mul]
  rw [hq]
  exact k ls _ H locs hl rfl (ja_oc (ja_wl_r _) (ja_ot (ja_ot hs))) hL hh hP hD hS

theorem ja_s_ldiv {X : ja_X} {cc : ByteArray} {own : String} {d pc : Nat} {L : ja_L} {st : List ja_W} {h : ja_H} {x y : Int} (ok : ja_Ok X cc own d) (dg : decode cc pc = .ok (.ldiv, 1)) (hn : y ≠ 0) (k : ja_At X (pc + 1) L (.inr (.inl (ja_wl (x.tdiv y))) :: st) h) : ja_At X pc L (.inr (.inl y) :: .inr (.inl x) :: st) h := by
  obtain ⟨⟨p, l, e, R, s, m, args, below, meth, c, cells, slots, Q⟩, D, cy, ad, sh, A, nL⟩ := X
  intro ls vs H locs hl hv hs hL hh hP hD hS
  subst hv
  have hy : ja_rl y := ja_oh hs
  have hx : ja_rl x := ja_oh (ja_ot hs)
  refine lv_ldiv ok.1 ok.2.1 dg (ja_ne0L hy hn) ?_
  have hq : Int64.ofInt x / Int64.ofInt y = Int64.ofInt (ja_wl (x.tdiv y)) := ja_divL hx hy
  rw [hq]
  exact k ls _ H locs hl rfl (ja_oc (ja_wl_r _) (ja_ot (ja_ot hs))) hL hh hP hD hS

theorem ja_s_lrem {X : ja_X} {cc : ByteArray} {own : String} {d pc : Nat} {L : ja_L} {st : List ja_W} {h : ja_H} {x y : Int} (ok : ja_Ok X cc own d) (dg : decode cc pc = .ok (.lrem, 1)) (hn : y ≠ 0) (k : ja_At X (pc + 1) L (.inr (.inl (x.tmod y)) :: st) h) : ja_At X pc L (.inr (.inl y) :: .inr (.inl x) :: st) h := by
  obtain ⟨⟨p, l, e, R, s, m, args, below, meth, c, cells, slots, Q⟩, D, cy, ad, sh, A, nL⟩ := X
  intro ls vs H locs hl hv hs hL hh hP hD hS
  subst hv
  have hy : ja_rl y := ja_oh hs
  have hx : ja_rl x := ja_oh (ja_ot hs)
  refine lv_lrem ok.1 ok.2.1 dg (ja_ne0L hy hn) ?_
  have hq : Int64.ofInt x - Int64.ofInt x / Int64.ofInt y * Int64.ofInt y = Int64.ofInt (x.tmod y) := ja_remL hx hy
  rw [hq]
  exact k ls _ H locs hl rfl (ja_oc (ja_tmod_rl hx) (ja_ot (ja_ot hs))) hL hh hP hD hS

theorem ja_s_land {X : ja_X} {cc : ByteArray} {own : String} {d pc : Nat} {L : ja_L} {st : List ja_W} {h : ja_H} {x y : Int} (ok : ja_Ok X cc own d) (dg : decode cc pc = .ok (.land, 1)) (k : ja_At X (pc + 1) L (.inr (.inl (ja_andL x y)) :: st) h) : ja_At X pc L (.inr (.inl y) :: .inr (.inl x) :: st) h := by
  obtain ⟨⟨p, l, e, R, s, m, args, below, meth, c, cells, slots, Q⟩, D, cy, ad, sh, A, nL⟩ := X
  intro ls vs H locs hl hv hs hL hh hP hD hS
  subst hv
  have hy : ja_rl y := ja_oh hs
  have hx : ja_rl x := ja_oh (ja_ot hs)
  refine lv_land ok.1 ok.2.1 dg ?_
  have hq : Int64.ofInt x &&& Int64.ofInt y = Int64.ofInt (ja_andL x y) := ja_eqL rfl
  rw [hq]
  exact k ls _ H locs hl rfl (ja_oc (ja_rL _) (ja_ot (ja_ot hs))) hL hh hP hD hS

theorem ja_s_lor {X : ja_X} {cc : ByteArray} {own : String} {d pc : Nat} {L : ja_L} {st : List ja_W} {h : ja_H} {x y : Int} (ok : ja_Ok X cc own d) (dg : decode cc pc = .ok (.lor, 1)) (k : ja_At X (pc + 1) L (.inr (.inl (ja_orL x y)) :: st) h) : ja_At X pc L (.inr (.inl y) :: .inr (.inl x) :: st) h := by
  obtain ⟨⟨p, l, e, R, s, m, args, below, meth, c, cells, slots, Q⟩, D, cy, ad, sh, A, nL⟩ := X
  intro ls vs H locs hl hv hs hL hh hP hD hS
  subst hv
  have hy : ja_rl y := ja_oh hs
  have hx : ja_rl x := ja_oh (ja_ot hs)
  refine lv_lor ok.1 ok.2.1 dg ?_
  have hq : Int64.ofInt x ||| Int64.ofInt y = Int64.ofInt (ja_orL x y) := ja_eqL rfl
  rw [hq]
  exact k ls _ H locs hl rfl (ja_oc (ja_rL _) (ja_ot (ja_ot hs))) hL hh hP hD hS

theorem ja_s_lshl {X : ja_X} {cc : ByteArray} {own : String} {d pc : Nat} {L : ja_L} {st : List ja_W} {h : ja_H} {x y : Int} (ok : ja_Ok X cc own d) (dg : decode cc pc = .ok (.lshl, 1)) (k : ja_At X (pc + 1) L (.inr (.inl (ja_shlL x y)) :: st) h) : ja_At X pc L (.inl y :: .inr (.inl x) :: st) h := by
  obtain ⟨⟨p, l, e, R, s, m, args, below, meth, c, cells, slots, Q⟩, D, cy, ad, sh, A, nL⟩ := X
  intro ls vs H locs hl hv hs hL hh hP hD hS
  subst hv
  refine lv_lshl (v := Int64.ofInt (ja_shlL x y)) ok.1 ok.2.1 dg (ja_eqL rfl) ?_
  exact k ls _ H locs hl rfl (ja_oc (ja_rL _) (ja_ot (ja_ot hs))) hL hh hP hD hS
theorem ja_s_lneg {X : ja_X} {cc : ByteArray} {own : String} {d pc : Nat} {L : ja_L} {st : List ja_W} {h : ja_H} {x : Int} (ok : ja_Ok X cc own d) (dg : decode cc pc = .ok (.lneg, 1)) (k : ja_At X (pc + 1) L (.inr (.inl (ja_wl (-x))) :: st) h) : ja_At X pc L (.inr (.inl x) :: st) h := by
  obtain ⟨⟨p, l, e, R, s, m, args, below, meth, c, cells, slots, Q⟩, D, cy, ad, sh, A, nL⟩ := X
  intro ls vs H locs hl hv hs hL hh hP hD hS
  subst hv
  refine lv_lneg ok.1 ok.2.1 dg ?_
  have hq : -Int64.ofInt x = Int64.ofInt (ja_wl (-x)) := by rw [ja_ofwl, Int64.ofInt_neg]
  rw [hq]
  exact k ls _ H locs hl rfl (ja_oc (ja_wl_r _) (ja_ot hs)) hL hh hP hD hS
theorem ja_s_i2l {X : ja_X} {cc : ByteArray} {own : String} {d pc : Nat} {L : ja_L} {st : List ja_W} {h : ja_H} {x : Int} (ok : ja_Ok X cc own d) (dg : decode cc pc = .ok (.i2l, 1)) (k : ja_At X (pc + 1) L (.inr (.inl x) :: st) h) : ja_At X pc L (.inl x :: st) h := by
  obtain ⟨⟨p, l, e, R, s, m, args, below, meth, c, cells, slots, Q⟩, D, cy, ad, sh, A, nL⟩ := X
  intro ls vs H locs hl hv hs hL hh hP hD hS
  subst hv
  have hx : ja_r x := ja_oh hs
  have hx2 : ja_rl x := by unfold ja_r at hx; unfold ja_rl; omega
  refine lv_i2l (v := Int64.ofInt x) ok.1 ok.2.1 dg (ja_eqL (by rw [Int32.toInt_toInt64, ja_toI hx])) ?_
  exact k ls _ H locs hl rfl (ja_oc hx2 (ja_ot hs)) hL hh hP hD hS
theorem ja_s_l2i {X : ja_X} {cc : ByteArray} {own : String} {d pc : Nat} {L : ja_L} {st : List ja_W} {h : ja_H} {x : Int} (ok : ja_Ok X cc own d) (dg : decode cc pc = .ok (.l2i, 1)) (k : ja_At X (pc + 1) L (.inl (ja_w x) :: st) h) : ja_At X pc L (.inr (.inl x) :: st) h := by
  obtain ⟨⟨p, l, e, R, s, m, args, below, meth, c, cells, slots, Q⟩, D, cy, ad, sh, A, nL⟩ := X
  intro ls vs H locs hl hv hs hL hh hP hD hS
  subst hv
  have hx : ja_rl x := ja_oh hs
  refine lv_l2i (v := Int32.ofInt (ja_w x)) ok.1 ok.2.1 dg (ja_eqI (by rw [Int64.toInt_toInt32, ja_toL hx]; rfl)) ?_
  exact k ls _ H locs hl rfl (ja_oc (ja_w_r _) (ja_ot hs)) hL hh hP hD hS
theorem ja_s_lcmp {X : ja_X} {cc : ByteArray} {own : String} {d pc : Nat} {L : ja_L} {st : List ja_W} {h : ja_H} {x y : Int} (ok : ja_Ok X cc own d) (dg : decode cc pc = .ok (.lcmp, 1)) (k : ja_At X (pc + 1) L (.inl (ja_sg x y) :: st) h) : ja_At X pc L (.inr (.inl y) :: .inr (.inl x) :: st) h := by
  obtain ⟨⟨p, l, e, R, s, m, args, below, meth, c, cells, slots, Q⟩, D, cy, ad, sh, A, nL⟩ := X
  intro ls vs H locs hl hv hs hL hh hP hD hS
  subst hv
  have hy : ja_rl y := ja_oh hs
  have hx : ja_rl x := ja_oh (ja_ot hs)
  refine W.lcmp ok.1 ok.2.1 dg ?_
  have hq : lg_cmp (Int64.ofInt x) (Int64.ofInt y) = Int32.ofInt (ja_sg x y) := by
    unfold lg_cmp ja_sg
    simp only [gt_iff_lt, Int64.lt_iff_toInt_lt, ← Int64.toInt_inj, ja_toL hx, ja_toL hy]
    repeat' split
    all_goals rfl
  rw [hq]
  have hr : ja_r (ja_sg x y) := by unfold ja_sg ja_r; repeat' split
                                   all_goals omega
  exact k ls _ H locs hl rfl (ja_oc hr (ja_ot (ja_ot hs))) hL hh hP hD hS

theorem ja_s_iconst {X : ja_X} {cc : ByteArray} {own : String} {d pc : Nat} {L : ja_L} {st : List ja_W} {h : ja_H} {n v : Int} (ok : ja_Ok X cc own d) (dg : decode cc pc = .ok (.iconst n, 1)) (hv : (Int32.ofInt n).toInt = v) (k : ja_At X (pc + 1) L (.inl v :: st) h) : ja_At X pc L st h := by
  obtain ⟨⟨p, l, e, R, s, m, args, below, meth, c, cells, slots, Q⟩, D, cy, ad, sh, A, nL⟩ := X
  intro ls vs H locs hl hv hs hL hh hP hD hS
  subst hv
  subst hv
  refine lv_iconst (v := Int32.ofInt n) ok.1 ok.2.1 dg rfl ?_
  exact k ls _ H locs hl (by simp only [List.map_cons, ja_c, ja_of]) (ja_oc (ja_rI _) hs) hL hh hP hD hS

theorem ja_s_bipush {X : ja_X} {cc : ByteArray} {own : String} {d pc : Nat} {L : ja_L} {st : List ja_W} {h : ja_H} {n v : Int} (ok : ja_Ok X cc own d) (dg : decode cc pc = .ok (.bipush n, 2)) (hv : ((Int8.ofInt n).toInt32).toInt = v) (k : ja_At X (pc + 2) L (.inl v :: st) h) : ja_At X pc L st h := by
  obtain ⟨⟨p, l, e, R, s, m, args, below, meth, c, cells, slots, Q⟩, D, cy, ad, sh, A, nL⟩ := X
  intro ls vs H locs hl hv hs hL hh hP hD hS
  subst hv
  subst hv
  refine lv_bipush (v := (Int8.ofInt n).toInt32) ok.1 ok.2.1 dg rfl ?_
  exact k ls _ H locs hl (by simp only [List.map_cons, ja_c, ja_of]) (ja_oc (ja_rI _) hs) hL hh hP hD hS

theorem ja_s_sipush {X : ja_X} {cc : ByteArray} {own : String} {d pc : Nat} {L : ja_L} {st : List ja_W} {h : ja_H} {n v : Int} (ok : ja_Ok X cc own d) (dg : decode cc pc = .ok (.sipush n, 3)) (hv : ((Int16.ofInt n).toInt32).toInt = v) (k : ja_At X (pc + 3) L (.inl v :: st) h) : ja_At X pc L st h := by
  obtain ⟨⟨p, l, e, R, s, m, args, below, meth, c, cells, slots, Q⟩, D, cy, ad, sh, A, nL⟩ := X
  intro ls vs H locs hl hv hs hL hh hP hD hS
  subst hv
  subst hv
  refine lv_sipush (v := (Int16.ofInt n).toInt32) ok.1 ok.2.1 dg rfl ?_
  exact k ls _ H locs hl (by simp only [List.map_cons, ja_c, ja_of]) (ja_oc (ja_rI _) hs) hL hh hP hD hS

theorem ja_s_ldc {X : ja_X} {cc : ByteArray} {own : String} {d pc : Nat} {L : ja_L} {st : List ja_W} {h : ja_H} {idx : Nat} {v : Int} (ok : ja_Ok X cc own d) (hw : Cond.constant own idx (Int32.ofInt v) ∈ ja_tbl) (hv : ja_r v) (dg : decode cc pc = .ok (.ldc idx, 2)) (k : ja_At X (pc + 2) L (.inl v :: st) h) : ja_At X pc L st h := by
  obtain ⟨⟨p, l, e, R, s, m, args, below, meth, c, cells, slots, Q⟩, D, cy, ad, sh, A, nL⟩ := X
  intro ls vs H locs hl hv hs hL hh hP hD hS
  subst hv
  refine lv_ldc ok.1 ok.2.1 ok.2.2.2.1 (ok.2.2.2.2.1 _ hw) dg ?_
  exact k ls _ H locs hl rfl (ja_oc hv hs) hL hh hP hD hS
theorem ja_s_ldcw {X : ja_X} {cc : ByteArray} {own : String} {d pc : Nat} {L : ja_L} {st : List ja_W} {h : ja_H} {idx : Nat} {v : Int} (ok : ja_Ok X cc own d) (hw : Cond.constant own idx (Int32.ofInt v) ∈ ja_tbl) (hv : ja_r v) (dg : decode cc pc = .ok (.ldc_w idx, 3)) (k : ja_At X (pc + 3) L (.inl v :: st) h) : ja_At X pc L st h := by
  obtain ⟨⟨p, l, e, R, s, m, args, below, meth, c, cells, slots, Q⟩, D, cy, ad, sh, A, nL⟩ := X
  intro ls vs H locs hl hv hs hL hh hP hD hS
  subst hv
  refine lv_ldcw ok.1 ok.2.1 ok.2.2.2.1 (ok.2.2.2.2.1 _ hw) dg ?_
  exact k ls _ H locs hl rfl (ja_oc hv hs) hL hh hP hD hS
theorem ja_s_ldc2 {X : ja_X} {cc : ByteArray} {own : String} {d pc : Nat} {L : ja_L} {st : List ja_W} {h : ja_H} {idx : Nat} {v : Int} (ok : ja_Ok X cc own d) (hw : Cond.constantLong own idx (Int64.ofInt v) ∈ ja_tbl) (hv : ja_rl v) (dg : decode cc pc = .ok (.ldc2_w idx, 3)) (k : ja_At X (pc + 3) L (.inr (.inl v) :: st) h) : ja_At X pc L st h := by
  obtain ⟨⟨p, l, e, R, s, m, args, below, meth, c, cells, slots, Q⟩, D, cy, ad, sh, A, nL⟩ := X
  intro ls vs H locs hl hv hs hL hh hP hD hS
  subst hv
  refine lv_ldc2 ok.1 ok.2.1 ok.2.2.2.1 (ok.2.2.2.2.1 _ hw) dg ?_
  exact k ls _ H locs hl rfl (ja_oc hv hs) hL hh hP hD hS
theorem ja_s_lconst {X : ja_X} {cc : ByteArray} {own : String} {d pc : Nat} {L : ja_L} {st : List ja_W} {h : ja_H} {n : Fin 2} {v : Int} (ok : ja_Ok X cc own d) (dg : decode cc pc = .ok (.lconst n, 1)) (hv : (Int64.ofNat (n : Nat)).toInt = v) (k : ja_At X (pc + 1) L (.inr (.inl v) :: st) h) : ja_At X pc L st h := by
  obtain ⟨⟨p, l, e, R, s, m, args, below, meth, c, cells, slots, Q⟩, D, cy, ad, sh, A, nL⟩ := X
  intro ls vs H locs hl hv hs hL hh hP hD hS
  subst hv
  subst hv
  refine lv_lconst (v := Int64.ofNat (n : Nat)) ok.1 ok.2.1 dg rfl ?_
  exact k ls _ H locs hl (by simp only [List.map_cons, ja_c, ja_ofL]) (ja_oc (ja_rL _) hs) hL hh hP hD hS
theorem ja_s_null {X : ja_X} {cc : ByteArray} {own : String} {d pc : Nat} {L : ja_L} {st : List ja_W} {h : ja_H} (ok : ja_Ok X cc own d) (dg : decode cc pc = .ok (.aconst_null, 1)) (k : ja_At X (pc + 1) L (.inr (.inr none) :: st) h) : ja_At X pc L st h := by
  obtain ⟨⟨p, l, e, R, s, m, args, below, meth, c, cells, slots, Q⟩, D, cy, ad, sh, A, nL⟩ := X
  intro ls vs H locs hl hv hs hL hh hP hD hS
  subst hv
  refine lv_null ok.1 ok.2.1 dg ?_
  exact k ls _ H locs hl rfl (ja_oc trivial hs) hL hh hP hD hS

theorem ja_s_iload_n {X : ja_X} {cc : ByteArray} {own : String} {d pc : Nat} {L : ja_L} {st : List ja_W} {h : ja_H} {n : Fin 4} {i : Nat} {z : Int} (ok : ja_Ok X cc own d) (dg : decode cc pc = .ok (.iload_n n, 1)) (hi : (n : Nat) = i) (hg : ja_get L i = some (.inl z)) (k : ja_At X (pc + 1) L (.inl z :: st) h) : ja_At X pc L st h := by
  obtain ⟨⟨p, l, e, R, s, m, args, below, meth, c, cells, slots, Q⟩, D, cy, ad, sh, A, nL⟩ := X
  intro ls vs H locs hl hv hs hL hh hP hD hS
  subst hv
  refine lv_iload_n ok.1 ok.2.1 dg hi (hl.2.2 _ (ja_ls_at hg)) ?_
  exact k ls _ H locs hl rfl (ja_oc (hL _ _ hg) hs) hL hh hP hD hS
theorem ja_s_iload {X : ja_X} {cc : ByteArray} {own : String} {d pc : Nat} {L : ja_L} {st : List ja_W} {h : ja_H} {i : Nat} {z : Int} (ok : ja_Ok X cc own d) (dg : decode cc pc = .ok (.iload i, 2)) (hg : ja_get L i = some (.inl z)) (k : ja_At X (pc + 2) L (.inl z :: st) h) : ja_At X pc L st h := by
  obtain ⟨⟨p, l, e, R, s, m, args, below, meth, c, cells, slots, Q⟩, D, cy, ad, sh, A, nL⟩ := X
  intro ls vs H locs hl hv hs hL hh hP hD hS
  subst hv
  refine lv_iload ok.1 ok.2.1 dg (hl.2.2 _ (ja_ls_at hg)) ?_
  exact k ls _ H locs hl rfl (ja_oc (hL _ _ hg) hs) hL hh hP hD hS

theorem ja_s_lload_n {X : ja_X} {cc : ByteArray} {own : String} {d pc : Nat} {L : ja_L} {st : List ja_W} {h : ja_H} {n : Fin 4} {i : Nat} {z : Int} (ok : ja_Ok X cc own d) (dg : decode cc pc = .ok (.lload_n n, 1)) (hi : (n : Nat) = i) (hg : ja_get L i = some (.inr (.inl z))) (k : ja_At X (pc + 1) L (.inr (.inl z) :: st) h) : ja_At X pc L st h := by
  obtain ⟨⟨p, l, e, R, s, m, args, below, meth, c, cells, slots, Q⟩, D, cy, ad, sh, A, nL⟩ := X
  intro ls vs H locs hl hv hs hL hh hP hD hS
  subst hv
  refine lv_lload_n ok.1 ok.2.1 dg hi (hl.2.2 _ (ja_ls_at hg)) ?_
  exact k ls _ H locs hl rfl (ja_oc (hL _ _ hg) hs) hL hh hP hD hS
theorem ja_s_lload {X : ja_X} {cc : ByteArray} {own : String} {d pc : Nat} {L : ja_L} {st : List ja_W} {h : ja_H} {i : Nat} {z : Int} (ok : ja_Ok X cc own d) (dg : decode cc pc = .ok (.lload i, 2)) (hg : ja_get L i = some (.inr (.inl z))) (k : ja_At X (pc + 2) L (.inr (.inl z) :: st) h) : ja_At X pc L st h := by
  obtain ⟨⟨p, l, e, R, s, m, args, below, meth, c, cells, slots, Q⟩, D, cy, ad, sh, A, nL⟩ := X
  intro ls vs H locs hl hv hs hL hh hP hD hS
  subst hv
  refine lv_lload ok.1 ok.2.1 dg (hl.2.2 _ (ja_ls_at hg)) ?_
  exact k ls _ H locs hl rfl (ja_oc (hL _ _ hg) hs) hL hh hP hD hS

theorem ja_s_aload_n {X : ja_X} {cc : ByteArray} {own : String} {d pc : Nat} {L : ja_L} {st : List ja_W} {h : ja_H} {n : Fin 4} {i : Nat} {r : Option Nat} (ok : ja_Ok X cc own d) (dg : decode cc pc = .ok (.aload_n n, 1)) (hi : (n : Nat) = i) (hg : ja_get L i = some (.inr (.inr r))) (k : ja_At X (pc + 1) L (.inr (.inr r) :: st) h) : ja_At X pc L st h := by
  obtain ⟨⟨p, l, e, R, s, m, args, below, meth, c, cells, slots, Q⟩, D, cy, ad, sh, A, nL⟩ := X
  intro ls vs H locs hl hv hs hL hh hP hD hS
  subst hv
  have hq := hl.2.2 _ (ja_ls_at (ad := ad) hg)
  have hk := fun (H : Heap) (locs : List Loc) hP hD hS => k ls ((.inr (.inr r) :: st).map (ja_c ad)) H locs hl rfl (ja_oc (hL _ _ hg) hs) hL hh hP hD hS
  cases r with
  | none => exact lv_aload_nN ok.1 ok.2.1 dg hi hq (hk H locs hP hD hS)
  | some r => exact lv_aload_n ok.1 ok.2.1 dg hi hq (hk H locs hP hD hS)
theorem ja_s_aload {X : ja_X} {cc : ByteArray} {own : String} {d pc : Nat} {L : ja_L} {st : List ja_W} {h : ja_H} {i : Nat} {r : Option Nat} (ok : ja_Ok X cc own d) (dg : decode cc pc = .ok (.aload i, 2)) (hg : ja_get L i = some (.inr (.inr r))) (k : ja_At X (pc + 2) L (.inr (.inr r) :: st) h) : ja_At X pc L st h := by
  obtain ⟨⟨p, l, e, R, s, m, args, below, meth, c, cells, slots, Q⟩, D, cy, ad, sh, A, nL⟩ := X
  intro ls vs H locs hl hv hs hL hh hP hD hS
  subst hv
  have hq := hl.2.2 _ (ja_ls_at (ad := ad) hg)
  have hk := fun (H : Heap) (locs : List Loc) hP hD hS => k ls ((.inr (.inr r) :: st).map (ja_c ad)) H locs hl rfl (ja_oc (hL _ _ hg) hs) hL hh hP hD hS
  cases r with
  | none => exact lv_aloadN ok.1 ok.2.1 dg hq (hk H locs hP hD hS)
  | some r => exact lv_aload ok.1 ok.2.1 dg hq (hk H locs hP hD hS)
theorem ja_lh1 {ad : Nat → Nat} {ls : Array Slot} {nL i : Nat} {L : ja_L} {v : ja_W} (hv : ja_lg v = false) (h : lv_has ls nL ((i, ja_c ad v) :: (ja_ls ad 0 L).filter (fun q => !(q.1 == i) && !(q.1 + 1 == i && q.2.category == 2)))) : lv_has ls nL (ja_ls ad 0 (ja_set L i v)) := by
  refine ⟨h.1, h.2.1, fun q hq => ?_⟩
  obtain ⟨j, u⟩ := q
  obtain ⟨w, -, h1, h2⟩ := (ja_ls_mem ad _ 0 j u).mp hq
  rw [Nat.sub_zero] at h1
  subst h2
  refine h.2.2 (j, ja_c ad w) ?_
  rcases ja_get_set L i j v w h1 with ⟨rfl, rfl⟩ | ⟨a, b, cc2, -⟩
  · exact List.mem_cons_self
  · refine List.mem_cons_of_mem _ (List.mem_filter.mpr ⟨ja_ls_at b, ?_⟩)
    simp only [Bool.and_eq_true, Bool.not_eq_true', beq_eq_false_iff_ne, ne_eq, Bool.and_eq_false_iff]
    refine ⟨a, ?_⟩
    by_cases e : j + 1 = i
    · right
      rw [ja_cat_c]
      have : ja_lg w = false := by
        cases hw : ja_lg w
        · rfl
        · exact absurd ⟨e, hw⟩ cc2
      simp [this]
    · left; exact e
theorem ja_lh2 {ad : Nat → Nat} {ls : Array Slot} {nL i : Nat} {L : ja_L} {v : ja_W} (hv : ja_lg v = true) (h : lv_has ls nL ((i, ja_c ad v) :: (ja_ls ad 0 L).filter (fun q => !(q.1 == i) && (!(q.1 == i + 1) && !(q.1 + 1 == i && q.2.category == 2))))) : lv_has ls nL (ja_ls ad 0 (ja_set L i v)) := by
  refine ⟨h.1, h.2.1, fun q hq => ?_⟩
  obtain ⟨j, u⟩ := q
  obtain ⟨w, -, h1, h2⟩ := (ja_ls_mem ad _ 0 j u).mp hq
  rw [Nat.sub_zero] at h1
  subst h2
  refine h.2.2 (j, ja_c ad w) ?_
  rcases ja_get_set L i j v w h1 with ⟨rfl, rfl⟩ | ⟨a, b, cc2, dd2⟩
  · exact List.mem_cons_self
  · refine List.mem_cons_of_mem _ (List.mem_filter.mpr ⟨ja_ls_at b, ?_⟩)
    simp only [Bool.and_eq_true, Bool.not_eq_true', beq_eq_false_iff_ne, ne_eq, Bool.and_eq_false_iff]
    refine ⟨a, fun q => dd2 ⟨hv, q⟩, ?_⟩
    by_cases e : j + 1 = i
    · right
      rw [ja_cat_c]
      have : ja_lg w = false := by
        cases hw : ja_lg w
        · rfl
        · exact absurd ⟨e, hw⟩ cc2
      simp [this]
    · left; exact e
theorem ja_oL {L : ja_L} {i : Nat} {v : ja_W} (hv : ja_ok v) (hL : ∀ i v, ja_get L i = some v → ja_ok v) : ∀ j u, ja_get (ja_set L i v) j = some u → ja_ok u := by
  intro j u hu
  rcases ja_get_set L i j v u hu with ⟨-, rfl⟩ | ⟨-, b, -⟩
  · exact hv
  · exact hL j u b

theorem ja_s_istore_n {X : ja_X} {cc : ByteArray} {own : String} {d pc : Nat} {L : ja_L} {st : List ja_W} {h : ja_H} {n : Fin 4} {i : Nat} {z : Int} (ok : ja_Ok X cc own d) (dg : decode cc pc = .ok (.istore_n n, 1)) (hi : (n : Nat) = i) (hn : i < X.2.2.2.2.2.2) (k : ja_At X (pc + 1) (ja_set L i (.inl z)) st h) : ja_At X pc L (.inl z :: st) h := by
  obtain ⟨⟨p, l, e, R, s, m, args, below, meth, c, cells, slots, Q⟩, D, cy, ad, sh, A, nL⟩ := X
  intro ls vs H locs hl hv hs hL hh hP hD hS
  subst hv
  refine lv_istore_n ok.1 ok.2.1 dg hi hl hn rfl (fun ls' hl' => ?_)
  exact k ls' _ H locs (ja_lh1 (v := .inl z) rfl hl') rfl (ja_ot hs) (ja_oL (ja_oh hs) hL) hh hP hD hS
theorem ja_s_istore {X : ja_X} {cc : ByteArray} {own : String} {d pc : Nat} {L : ja_L} {st : List ja_W} {h : ja_H} {i : Nat} {z : Int} (ok : ja_Ok X cc own d) (dg : decode cc pc = .ok (.istore i, 2)) (hn : i < X.2.2.2.2.2.2) (k : ja_At X (pc + 2) (ja_set L i (.inl z)) st h) : ja_At X pc L (.inl z :: st) h := by
  obtain ⟨⟨p, l, e, R, s, m, args, below, meth, c, cells, slots, Q⟩, D, cy, ad, sh, A, nL⟩ := X
  intro ls vs H locs hl hv hs hL hh hP hD hS
  subst hv
  refine lv_istore ok.1 ok.2.1 dg hl hn rfl (fun ls' hl' => ?_)
  exact k ls' _ H locs (ja_lh1 (v := .inl z) rfl hl') rfl (ja_ot hs) (ja_oL (ja_oh hs) hL) hh hP hD hS

theorem ja_s_lstore_n {X : ja_X} {cc : ByteArray} {own : String} {d pc : Nat} {L : ja_L} {st : List ja_W} {h : ja_H} {n : Fin 4} {i : Nat} {z : Int} (ok : ja_Ok X cc own d) (dg : decode cc pc = .ok (.lstore_n n, 1)) (hi : (n : Nat) = i) (hn : i + 1 < X.2.2.2.2.2.2) (k : ja_At X (pc + 1) (ja_set L i (.inr (.inl z))) st h) : ja_At X pc L (.inr (.inl z) :: st) h := by
  obtain ⟨⟨p, l, e, R, s, m, args, below, meth, c, cells, slots, Q⟩, D, cy, ad, sh, A, nL⟩ := X
  intro ls vs H locs hl hv hs hL hh hP hD hS
  subst hv
  refine lv_lstore_n ok.1 ok.2.1 dg hi hl hn rfl (fun ls' hl' => ?_)
  exact k ls' _ H locs (ja_lh2 (v := .inr (.inl z)) rfl hl') rfl (ja_ot hs) (ja_oL (ja_oh hs) hL) hh hP hD hS
theorem ja_s_lstore {X : ja_X} {cc : ByteArray} {own : String} {d pc : Nat} {L : ja_L} {st : List ja_W} {h : ja_H} {i : Nat} {z : Int} (ok : ja_Ok X cc own d) (dg : decode cc pc = .ok (.lstore i, 2)) (hn : i + 1 < X.2.2.2.2.2.2) (k : ja_At X (pc + 2) (ja_set L i (.inr (.inl z))) st h) : ja_At X pc L (.inr (.inl z) :: st) h := by
  obtain ⟨⟨p, l, e, R, s, m, args, below, meth, c, cells, slots, Q⟩, D, cy, ad, sh, A, nL⟩ := X
  intro ls vs H locs hl hv hs hL hh hP hD hS
  subst hv
  refine lv_lstore ok.1 ok.2.1 dg hl hn rfl (fun ls' hl' => ?_)
  exact k ls' _ H locs (ja_lh2 (v := .inr (.inl z)) rfl hl') rfl (ja_ot hs) (ja_oL (ja_oh hs) hL) hh hP hD hS

theorem ja_s_astore_n {X : ja_X} {cc : ByteArray} {own : String} {d pc : Nat} {L : ja_L} {st : List ja_W} {h : ja_H} {n : Fin 4} {i : Nat} {r : Option Nat} (ok : ja_Ok X cc own d) (dg : decode cc pc = .ok (.astore_n n, 1)) (hi : (n : Nat) = i) (hn : i < X.2.2.2.2.2.2) (k : ja_At X (pc + 1) (ja_set L i (.inr (.inr r))) st h) : ja_At X pc L (.inr (.inr r) :: st) h := by
  obtain ⟨⟨p, l, e, R, s, m, args, below, meth, c, cells, slots, Q⟩, D, cy, ad, sh, A, nL⟩ := X
  intro ls vs H locs hl hv hs hL hh hP hD hS
  subst hv
  have hk := fun ls' hl' => k ls' (st.map (ja_c ad)) H locs (ja_lh1 (v := .inr (.inr r)) rfl hl') rfl (ja_ot hs) (ja_oL (ja_oh hs) hL) hh hP hD hS
  cases r with
  | none => exact lv_astore_nN ok.1 ok.2.1 dg hi hl hn rfl hk
  | some r => exact lv_astore_n ok.1 ok.2.1 dg hi hl hn rfl hk

theorem ja_s_astore {X : ja_X} {cc : ByteArray} {own : String} {d pc : Nat} {L : ja_L} {st : List ja_W} {h : ja_H} {i : Nat} {r : Option Nat} (ok : ja_Ok X cc own d) (dg : decode cc pc = .ok (.astore i, 2)) (hn : i < X.2.2.2.2.2.2) (k : ja_At X (pc + 2) (ja_set L i (.inr (.inr r))) st h) : ja_At X pc L (.inr (.inr r) :: st) h := by
  obtain ⟨⟨p, l, e, R, s, m, args, below, meth, c, cells, slots, Q⟩, D, cy, ad, sh, A, nL⟩ := X
  intro ls vs H locs hl hv hs hL hh hP hD hS
  subst hv
  have hk := fun ls' hl' => k ls' (st.map (ja_c ad)) H locs (ja_lh1 (v := .inr (.inr r)) rfl hl') rfl (ja_ot hs) (ja_oL (ja_oh hs) hL) hh hP hD hS
  cases r with
  | none => exact lv_astoreN ok.1 ok.2.1 dg hl hn rfl hk
  | some r => exact lv_astore ok.1 ok.2.1 dg hl hn rfl hk

theorem ja_s_iinc {X : ja_X} {cc : ByteArray} {own : String} {d pc : Nat} {L : ja_L} {st : List ja_W} {h : ja_H} {i : Nat} {n z : Int} (ok : ja_Ok X cc own d) (dg : decode cc pc = .ok (.iinc i n, 3)) (hn : i < X.2.2.2.2.2.2) (hg : ja_get L i = some (.inl z)) (k : ja_At X (pc + 3) (ja_set L i (.inl (ja_w (z + n)))) st h) : ja_At X pc L st h := by
  obtain ⟨⟨p, l, e, R, s, m, args, below, meth, c, cells, slots, Q⟩, D, cy, ad, sh, A, nL⟩ := X
  intro ls vs H locs hl hv hs hL hh hP hD hS
  subst hv
  obtain ⟨k0, hk0⟩ := List.getElem?_of_mem (ja_ls_at (ad := ad) hg)
  refine lv_iinc (v := Int32.ofInt (ja_w (z + n))) ok.1 ok.2.1 dg hl (k := k0) hk0 (by rw [ja_ofw, Int32.ofInt_add]) hn rfl (fun ls' hl' => ?_)
  exact k ls' _ H locs (ja_lh1 (v := .inl (ja_w (z + n))) rfl hl') rfl hs (ja_oL (ja_w_r _) hL) hh hP hD hS
theorem ja_s_goto {X : ja_X} {cc : ByteArray} {own : String} {d pc : Nat} {L : ja_L} {st : List ja_W} {h : ja_H} {off : Int} {tgt : Nat} (ok : ja_Ok X cc own d) (dg : decode cc pc = .ok (.goto off, 3)) (ht : (pc : Int) + off = (tgt : Int)) (k : ja_At X tgt L st h) : ja_At X pc L st h := by
  obtain ⟨⟨p, l, e, R, s, m, args, below, meth, c, cells, slots, Q⟩, D, cy, ad, sh, A, nL⟩ := X
  intro ls vs H locs hl hv hs hL hh hP hD hS
  subst hv
  exact lv_goto ok.1 ok.2.1 dg ht (k ls _ H locs hl rfl hs hL hh hP hD hS)
theorem ja_s_pop {X : ja_X} {cc : ByteArray} {own : String} {d pc : Nat} {L : ja_L} {st : List ja_W} {h : ja_H} {v : ja_W} (ok : ja_Ok X cc own d) (dg : decode cc pc = .ok (.pop, 1)) (hv : ja_lg v = false) (k : ja_At X (pc + 1) L st h) : ja_At X pc L (v :: st) h := by
  obtain ⟨⟨p, l, e, R, s, m, args, below, meth, c, cells, slots, Q⟩, D, cy, ad, sh, A, nL⟩ := X
  intro ls vs H locs hl hv hs hL hh hP hD hS
  subst hv
  exact lv_pop ok.1 ok.2.1 dg (by rw [ja_cat_c, hv]; rfl) (k ls _ H locs hl rfl (ja_ot hs) hL hh hP hD hS)
theorem ja_s_dup {X : ja_X} {cc : ByteArray} {own : String} {d pc : Nat} {L : ja_L} {st : List ja_W} {h : ja_H} {v : ja_W} (ok : ja_Ok X cc own d) (dg : decode cc pc = .ok (.dup, 1)) (hv : ja_lg v = false) (k : ja_At X (pc + 1) L (v :: v :: st) h) : ja_At X pc L (v :: st) h := by
  obtain ⟨⟨p, l, e, R, s, m, args, below, meth, c, cells, slots, Q⟩, D, cy, ad, sh, A, nL⟩ := X
  intro ls vs H locs hl hv hs hL hh hP hD hS
  subst hv
  exact lv_dup ok.1 ok.2.1 dg (by rw [ja_cat_c, hv]; rfl) (k ls _ H locs hl rfl (ja_oc (ja_oh hs) hs) hL hh hP hD hS)
theorem ja_s_dup2 {X : ja_X} {cc : ByteArray} {own : String} {d pc : Nat} {L : ja_L} {st : List ja_W} {h : ja_H} {v w : ja_W} (ok : ja_Ok X cc own d) (dg : decode cc pc = .ok (.dup2, 1)) (hv : ja_lg v = false) (hw : ja_lg w = false) (k : ja_At X (pc + 1) L (v :: w :: v :: w :: st) h) : ja_At X pc L (v :: w :: st) h := by
  obtain ⟨⟨p, l, e, R, s, m, args, below, meth, c, cells, slots, Q⟩, D, cy, ad, sh, A, nL⟩ := X
  intro ls vs H locs hl hv hs hL hh hP hD hS
  subst hv
  exact lv_dup2_11 ok.1 ok.2.1 dg (by rw [ja_cat_c, hv]; rfl) (by rw [ja_cat_c, hw]; rfl) (k ls _ H locs hl rfl (ja_oc (ja_oh hs) (ja_oc (ja_oh (ja_ot hs)) hs)) hL hh hP hD hS)

theorem ja_ceq {x y : Int} (hx : ja_r x) (hy : ja_r y) : Int32.ofInt x = Int32.ofInt y ↔ x = y := by
  rw [← Int32.toInt_inj, ja_toI hx, ja_toI hy]
theorem ja_clt {x y : Int} (hx : ja_r x) (hy : ja_r y) : Int32.ofInt x < Int32.ofInt y ↔ x < y := by
  rw [Int32.lt_iff_toInt_lt, ja_toI hx, ja_toI hy]
theorem ja_cle {x y : Int} (hx : ja_r x) (hy : ja_r y) : Int32.ofInt x ≤ Int32.ofInt y ↔ x ≤ y := by
  rw [Int32.le_iff_toInt_le, ja_toI hx, ja_toI hy]
theorem ja_r0 : ja_r 0 := by unfold ja_r; omega

theorem ja_s_icmp_eq {X : ja_X} {cc : ByteArray} {own : String} {d pc : Nat} {L : ja_L} {st : List ja_W} {h : ja_H} {x y off : Int} {tgt : Nat} (ok : ja_Ok X cc own d) (dg : decode cc pc = .ok (.if_icmp .eq off, 3)) (ht : (pc : Int) + off = (tgt : Int)) (kt : x = y → ja_At X tgt L st h) (kf : ¬ x = y → ja_At X (pc + 3) L st h) : ja_At X pc L (.inl y :: .inl x :: st) h := by
  obtain ⟨⟨p, l, e, R, s, m, args, below, meth, c, cells, slots, Q⟩, D, cy, ad, sh, A, nL⟩ := X
  intro ls vs H locs hl hv hs hL hh hP hD hS
  subst hv
  have hy : ja_r y := ja_oh hs
  have hx : ja_r x := ja_oh (ja_ot hs)
  exact lv_icmp_eq ok.1 ok.2.1 dg ht (fun q => kt ((ja_ceq hx hy).mp q) ls _ H locs hl rfl (ja_ot (ja_ot hs)) hL hh hP hD hS) (fun q => kf (fun w => q ((ja_ceq hx hy).mpr w)) ls _ H locs hl rfl (ja_ot (ja_ot hs)) hL hh hP hD hS)

theorem ja_s_if_eq {X : ja_X} {cc : ByteArray} {own : String} {d pc : Nat} {L : ja_L} {st : List ja_W} {h : ja_H} {x off : Int} {tgt : Nat} (ok : ja_Ok X cc own d) (dg : decode cc pc = .ok (.ifCond .eq off, 3)) (ht : (pc : Int) + off = (tgt : Int)) (kt : x = 0 → ja_At X tgt L st h) (kf : ¬ x = 0 → ja_At X (pc + 3) L st h) : ja_At X pc L (.inl x :: st) h := by
  obtain ⟨⟨p, l, e, R, s, m, args, below, meth, c, cells, slots, Q⟩, D, cy, ad, sh, A, nL⟩ := X
  intro ls vs H locs hl hv hs hL hh hP hD hS
  subst hv
  have hx : ja_r x := ja_oh hs
  exact lv_if_eq ok.1 ok.2.1 dg ht (fun q => kt ((ja_ceq hx ja_r0).mp q) ls _ H locs hl rfl (ja_ot hs) hL hh hP hD hS) (fun q => kf (fun w => q ((ja_ceq hx ja_r0).mpr w)) ls _ H locs hl rfl (ja_ot hs) hL hh hP hD hS)

theorem ja_s_icmp_ne {X : ja_X} {cc : ByteArray} {own : String} {d pc : Nat} {L : ja_L} {st : List ja_W} {h : ja_H} {x y off : Int} {tgt : Nat} (ok : ja_Ok X cc own d) (dg : decode cc pc = .ok (.if_icmp .ne off, 3)) (ht : (pc : Int) + off = (tgt : Int)) (kt : ¬ x = y → ja_At X tgt L st h) (kf : x = y → ja_At X (pc + 3) L st h) : ja_At X pc L (.inl y :: .inl x :: st) h := by
  obtain ⟨⟨p, l, e, R, s, m, args, below, meth, c, cells, slots, Q⟩, D, cy, ad, sh, A, nL⟩ := X
  intro ls vs H locs hl hv hs hL hh hP hD hS
  subst hv
  have hy : ja_r y := ja_oh hs
  have hx : ja_r x := ja_oh (ja_ot hs)
  exact lv_icmp_ne ok.1 ok.2.1 dg ht (fun q => kt (fun w => q ((ja_ceq hx hy).mpr w)) ls _ H locs hl rfl (ja_ot (ja_ot hs)) hL hh hP hD hS) (fun q => kf ((ja_ceq hx hy).mp q) ls _ H locs hl rfl (ja_ot (ja_ot hs)) hL hh hP hD hS)

theorem ja_s_if_ne {X : ja_X} {cc : ByteArray} {own : String} {d pc : Nat} {L : ja_L} {st : List ja_W} {h : ja_H} {x off : Int} {tgt : Nat} (ok : ja_Ok X cc own d) (dg : decode cc pc = .ok (.ifCond .ne off, 3)) (ht : (pc : Int) + off = (tgt : Int)) (kt : ¬ x = 0 → ja_At X tgt L st h) (kf : x = 0 → ja_At X (pc + 3) L st h) : ja_At X pc L (.inl x :: st) h := by
  obtain ⟨⟨p, l, e, R, s, m, args, below, meth, c, cells, slots, Q⟩, D, cy, ad, sh, A, nL⟩ := X
  intro ls vs H locs hl hv hs hL hh hP hD hS
  subst hv
  have hx : ja_r x := ja_oh hs
  exact lv_if_ne ok.1 ok.2.1 dg ht (fun q => kt (fun w => q ((ja_ceq hx ja_r0).mpr w)) ls _ H locs hl rfl (ja_ot hs) hL hh hP hD hS) (fun q => kf ((ja_ceq hx ja_r0).mp q) ls _ H locs hl rfl (ja_ot hs) hL hh hP hD hS)

theorem ja_s_icmp_lt {X : ja_X} {cc : ByteArray} {own : String} {d pc : Nat} {L : ja_L} {st : List ja_W} {h : ja_H} {x y off : Int} {tgt : Nat} (ok : ja_Ok X cc own d) (dg : decode cc pc = .ok (.if_icmp .lt off, 3)) (ht : (pc : Int) + off = (tgt : Int)) (kt : x < y → ja_At X tgt L st h) (kf : ¬ x < y → ja_At X (pc + 3) L st h) : ja_At X pc L (.inl y :: .inl x :: st) h := by
  obtain ⟨⟨p, l, e, R, s, m, args, below, meth, c, cells, slots, Q⟩, D, cy, ad, sh, A, nL⟩ := X
  intro ls vs H locs hl hv hs hL hh hP hD hS
  subst hv
  have hy : ja_r y := ja_oh hs
  have hx : ja_r x := ja_oh (ja_ot hs)
  exact lv_icmp_lt ok.1 ok.2.1 dg ht (fun q => kt ((ja_clt hx hy).mp q) ls _ H locs hl rfl (ja_ot (ja_ot hs)) hL hh hP hD hS) (fun q => kf (fun w => q ((ja_clt hx hy).mpr w)) ls _ H locs hl rfl (ja_ot (ja_ot hs)) hL hh hP hD hS)

theorem ja_s_if_lt {X : ja_X} {cc : ByteArray} {own : String} {d pc : Nat} {L : ja_L} {st : List ja_W} {h : ja_H} {x off : Int} {tgt : Nat} (ok : ja_Ok X cc own d) (dg : decode cc pc = .ok (.ifCond .lt off, 3)) (ht : (pc : Int) + off = (tgt : Int)) (kt : x < 0 → ja_At X tgt L st h) (kf : ¬ x < 0 → ja_At X (pc + 3) L st h) : ja_At X pc L (.inl x :: st) h := by
  obtain ⟨⟨p, l, e, R, s, m, args, below, meth, c, cells, slots, Q⟩, D, cy, ad, sh, A, nL⟩ := X
  intro ls vs H locs hl hv hs hL hh hP hD hS
  subst hv
  have hx : ja_r x := ja_oh hs
  exact lv_if_lt ok.1 ok.2.1 dg ht (fun q => kt ((ja_clt hx ja_r0).mp q) ls _ H locs hl rfl (ja_ot hs) hL hh hP hD hS) (fun q => kf (fun w => q ((ja_clt hx ja_r0).mpr w)) ls _ H locs hl rfl (ja_ot hs) hL hh hP hD hS)

theorem ja_s_icmp_ge {X : ja_X} {cc : ByteArray} {own : String} {d pc : Nat} {L : ja_L} {st : List ja_W} {h : ja_H} {x y off : Int} {tgt : Nat} (ok : ja_Ok X cc own d) (dg : decode cc pc = .ok (.if_icmp .ge off, 3)) (ht : (pc : Int) + off = (tgt : Int)) (kt : y ≤ x → ja_At X tgt L st h) (kf : ¬ y ≤ x → ja_At X (pc + 3) L st h) : ja_At X pc L (.inl y :: .inl x :: st) h := by
  obtain ⟨⟨p, l, e, R, s, m, args, below, meth, c, cells, slots, Q⟩, D, cy, ad, sh, A, nL⟩ := X
  intro ls vs H locs hl hv hs hL hh hP hD hS
  subst hv
  have hy : ja_r y := ja_oh hs
  have hx : ja_r x := ja_oh (ja_ot hs)
  exact lv_icmp_ge ok.1 ok.2.1 dg ht (fun q => kt ((ja_cle hy hx).mp q) ls _ H locs hl rfl (ja_ot (ja_ot hs)) hL hh hP hD hS) (fun q => kf (fun w => q ((ja_cle hy hx).mpr w)) ls _ H locs hl rfl (ja_ot (ja_ot hs)) hL hh hP hD hS)

theorem ja_s_if_ge {X : ja_X} {cc : ByteArray} {own : String} {d pc : Nat} {L : ja_L} {st : List ja_W} {h : ja_H} {x off : Int} {tgt : Nat} (ok : ja_Ok X cc own d) (dg : decode cc pc = .ok (.ifCond .ge off, 3)) (ht : (pc : Int) + off = (tgt : Int)) (kt : 0 ≤ x → ja_At X tgt L st h) (kf : ¬ 0 ≤ x → ja_At X (pc + 3) L st h) : ja_At X pc L (.inl x :: st) h := by
  obtain ⟨⟨p, l, e, R, s, m, args, below, meth, c, cells, slots, Q⟩, D, cy, ad, sh, A, nL⟩ := X
  intro ls vs H locs hl hv hs hL hh hP hD hS
  subst hv
  have hx : ja_r x := ja_oh hs
  exact lv_if_ge ok.1 ok.2.1 dg ht (fun q => kt ((ja_cle ja_r0 hx).mp q) ls _ H locs hl rfl (ja_ot hs) hL hh hP hD hS) (fun q => kf (fun w => q ((ja_cle ja_r0 hx).mpr w)) ls _ H locs hl rfl (ja_ot hs) hL hh hP hD hS)

theorem ja_s_icmp_gt {X : ja_X} {cc : ByteArray} {own : String} {d pc : Nat} {L : ja_L} {st : List ja_W} {h : ja_H} {x y off : Int} {tgt : Nat} (ok : ja_Ok X cc own d) (dg : decode cc pc = .ok (.if_icmp .gt off, 3)) (ht : (pc : Int) + off = (tgt : Int)) (kt : y < x → ja_At X tgt L st h) (kf : ¬ y < x → ja_At X (pc + 3) L st h) : ja_At X pc L (.inl y :: .inl x :: st) h := by
  obtain ⟨⟨p, l, e, R, s, m, args, below, meth, c, cells, slots, Q⟩, D, cy, ad, sh, A, nL⟩ := X
  intro ls vs H locs hl hv hs hL hh hP hD hS
  subst hv
  have hy : ja_r y := ja_oh hs
  have hx : ja_r x := ja_oh (ja_ot hs)
  exact lv_icmp_gt ok.1 ok.2.1 dg ht (fun q => kt ((ja_clt hy hx).mp q) ls _ H locs hl rfl (ja_ot (ja_ot hs)) hL hh hP hD hS) (fun q => kf (fun w => q ((ja_clt hy hx).mpr w)) ls _ H locs hl rfl (ja_ot (ja_ot hs)) hL hh hP hD hS)

theorem ja_s_if_gt {X : ja_X} {cc : ByteArray} {own : String} {d pc : Nat} {L : ja_L} {st : List ja_W} {h : ja_H} {x off : Int} {tgt : Nat} (ok : ja_Ok X cc own d) (dg : decode cc pc = .ok (.ifCond .gt off, 3)) (ht : (pc : Int) + off = (tgt : Int)) (kt : 0 < x → ja_At X tgt L st h) (kf : ¬ 0 < x → ja_At X (pc + 3) L st h) : ja_At X pc L (.inl x :: st) h := by
  obtain ⟨⟨p, l, e, R, s, m, args, below, meth, c, cells, slots, Q⟩, D, cy, ad, sh, A, nL⟩ := X
  intro ls vs H locs hl hv hs hL hh hP hD hS
  subst hv
  have hx : ja_r x := ja_oh hs
  exact lv_if_gt ok.1 ok.2.1 dg ht (fun q => kt ((ja_clt ja_r0 hx).mp q) ls _ H locs hl rfl (ja_ot hs) hL hh hP hD hS) (fun q => kf (fun w => q ((ja_clt ja_r0 hx).mpr w)) ls _ H locs hl rfl (ja_ot hs) hL hh hP hD hS)

theorem ja_s_icmp_le {X : ja_X} {cc : ByteArray} {own : String} {d pc : Nat} {L : ja_L} {st : List ja_W} {h : ja_H} {x y off : Int} {tgt : Nat} (ok : ja_Ok X cc own d) (dg : decode cc pc = .ok (.if_icmp .le off, 3)) (ht : (pc : Int) + off = (tgt : Int)) (kt : x ≤ y → ja_At X tgt L st h) (kf : ¬ x ≤ y → ja_At X (pc + 3) L st h) : ja_At X pc L (.inl y :: .inl x :: st) h := by
  obtain ⟨⟨p, l, e, R, s, m, args, below, meth, c, cells, slots, Q⟩, D, cy, ad, sh, A, nL⟩ := X
  intro ls vs H locs hl hv hs hL hh hP hD hS
  subst hv
  have hy : ja_r y := ja_oh hs
  have hx : ja_r x := ja_oh (ja_ot hs)
  exact lv_icmp_le ok.1 ok.2.1 dg ht (fun q => kt ((ja_cle hx hy).mp q) ls _ H locs hl rfl (ja_ot (ja_ot hs)) hL hh hP hD hS) (fun q => kf (fun w => q ((ja_cle hx hy).mpr w)) ls _ H locs hl rfl (ja_ot (ja_ot hs)) hL hh hP hD hS)

theorem ja_s_if_le {X : ja_X} {cc : ByteArray} {own : String} {d pc : Nat} {L : ja_L} {st : List ja_W} {h : ja_H} {x off : Int} {tgt : Nat} (ok : ja_Ok X cc own d) (dg : decode cc pc = .ok (.ifCond .le off, 3)) (ht : (pc : Int) + off = (tgt : Int)) (kt : x ≤ 0 → ja_At X tgt L st h) (kf : ¬ x ≤ 0 → ja_At X (pc + 3) L st h) : ja_At X pc L (.inl x :: st) h := by
  obtain ⟨⟨p, l, e, R, s, m, args, below, meth, c, cells, slots, Q⟩, D, cy, ad, sh, A, nL⟩ := X
  intro ls vs H locs hl hv hs hL hh hP hD hS
  subst hv
  have hx : ja_r x := ja_oh hs
  exact lv_if_le ok.1 ok.2.1 dg ht (fun q => kt ((ja_cle hx ja_r0).mp q) ls _ H locs hl rfl (ja_ot hs) hL hh hP hD hS) (fun q => kf (fun w => q ((ja_cle hx ja_r0).mpr w)) ls _ H locs hl rfl (ja_ot hs) hL hh hP hD hS)

theorem ja_s_ifnull {X : ja_X} {cc : ByteArray} {own : String} {d pc : Nat} {L : ja_L} {st : List ja_W} {h : ja_H} {r : Option Nat} {off : Int} {tgt : Nat} (ok : ja_Ok X cc own d) (dg : decode cc pc = .ok (.ifnull off, 3)) (ht : (pc : Int) + off = (tgt : Int)) (kt : r = none → ja_At X tgt L st h) (kf : ¬ r = none → ja_At X (pc + 3) L st h) : ja_At X pc L (.inr (.inr r) :: st) h := by
  obtain ⟨⟨p, l, e, R, s, m, args, below, meth, c, cells, slots, Q⟩, D, cy, ad, sh, A, nL⟩ := X
  intro ls vs H locs hl hv hs hL hh hP hD hS
  subst hv
  cases r with
  | none => exact lv_ifnullN ok.1 ok.2.1 dg ht (kt rfl ls _ H locs hl rfl (ja_ot hs) hL hh hP hD hS)
  | some r => exact lv_ifnull ok.1 ok.2.1 dg (kf (by simp) ls _ H locs hl rfl (ja_ot hs) hL hh hP hD hS)
theorem ja_s_ifnonnull {X : ja_X} {cc : ByteArray} {own : String} {d pc : Nat} {L : ja_L} {st : List ja_W} {h : ja_H} {r : Option Nat} {off : Int} {tgt : Nat} (ok : ja_Ok X cc own d) (dg : decode cc pc = .ok (.ifnonnull off, 3)) (ht : (pc : Int) + off = (tgt : Int)) (kt : ¬ r = none → ja_At X tgt L st h) (kf : r = none → ja_At X (pc + 3) L st h) : ja_At X pc L (.inr (.inr r) :: st) h := by
  obtain ⟨⟨p, l, e, R, s, m, args, below, meth, c, cells, slots, Q⟩, D, cy, ad, sh, A, nL⟩ := X
  intro ls vs H locs hl hv hs hL hh hP hD hS
  subst hv
  cases r with
  | none => exact lv_ifnonnullN ok.1 ok.2.1 dg (kf rfl ls _ H locs hl rfl (ja_ot hs) hL hh hP hD hS)
  | some r => exact lv_ifnonnull ok.1 ok.2.1 dg ht (kt (by simp) ls _ H locs hl rfl (ja_ot hs) hL hh hP hD hS)
