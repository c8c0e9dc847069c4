/-! fields and arrays -/
def ja_F (own : String) (idx ci j : Nat) (ty : FieldType) (fin : Bool) : Prop := ∃ (C : String) (T : u_T), vwCl[ci]? = some (C, T, ja_n ci) ∧ (∀ w ∈ u_ws C T (ja_n ci), w ∈ ja_tbl) ∧ j < ja_n ci ∧ Cond.fieldLink own idx C (T j).2.1 (T j).2.2.1 ∈ ja_tbl ∧ (T j).1 = C ∧ (∀ k, k < ja_n ci → parseFieldDescriptor (T k).2.2.1 = some (ja_ty ci k)) ∧ (∀ a, a < ja_n ci → ∀ b, b < ja_n ci → a ≠ b → (T a).2.1 ≠ (T b).2.1) ∧ ja_ty ci j = ty ∧ (T j).2.2.2 = fin
def ja_isI : FieldType → Bool
  | .long => false | .object _ => false | .array _ => false | _ => true
def ja_isR : FieldType → Bool
  | .object _ => true | .array _ => true | _ => false
theorem ja_fvI {ad : Nat → Nat} {h : ja_H} {k j : Nat} {ty : FieldType} (hty : ja_isI ty = true) : ja_fv ad h k j ty = .int (Int32.ofInt (h.2.1 k j)) := by
  cases ty <;> simp [ja_isI] at hty <;> rfl
theorem ja_fvR {ad : Nat → Nat} {h : ja_H} {k j : Nat} {ty : FieldType} (hty : ja_isR ty = true) : ja_fv ad h k j ty = va_rf ((h.1 k j).map ad) := by
  cases ty <;> simp [ja_isR] at hty <;> rfl
theorem ja_range_at {α : Type} {f : Nat → α} {n j : Nat} (hj : j < n) : ((List.range n).map f)[j]? = some (f j) := by simp [hj]
theorem ja_range_set {α : Type} {f g : Nat → α} {n j : Nat} {v : α} (hv : g j = v) (hne : ∀ i, i ≠ j → g i = f i) : ((List.range n).map f).set j v = (List.range n).map g := by
  apply List.ext_getElem?
  intro i
  by_cases hi : i = j
  · subst hi
    by_cases hl : i < n
    · rw [List.getElem?_set_self (by simpa using hl), ja_range_at hl, hv]
    · simp [hl]
  · rw [List.getElem?_set_ne (fun q => hi q.symm)]
    by_cases hl : i < n
    · rw [ja_range_at hl, ja_range_at hl, hne i hi]
    · simp [hl]
theorem ja_clamp {z : Int} (h : ja_r z) (h0 : 0 ≤ z) : (Int32.ofInt z).toNatClampNeg = z.toNat := by
  have e : (Int32.ofInt z).toNatClampNeg = (Int32.ofInt z).toInt.toNat := rfl
  rw [e, ja_toI h]
theorem ja_in {z : Int} {n : Nat} (h : ja_r z) (h0 : 0 ≤ z) (h1 : z < n) : vp_in (Int32.ofInt z) n := vp_in_iff.mpr (by rw [ja_toI h]; exact ⟨h0, h1⟩)
theorem ja_hoI {h : ja_H} {k j : Nat} {z : Int} (hh : ja_ho h) (hz : ja_r z) : ja_ho (h.1, ja_up h.2.1 k j z, h.2.2) := by
  refine ⟨fun a b => ?_, hh.2⟩
  show ja_r (ja_up h.2.1 k j z a b)
  unfold ja_up
  split
  · exact hz
  · exact hh.1 a b
theorem ja_hoL {h : ja_H} {k j : Nat} {z : Int} (hh : ja_ho h) (hz : ja_rl z) : ja_ho (h.1, h.2.1, ja_up h.2.2 k j z) := by
  refine ⟨hh.1, fun a b => ?_⟩
  show ja_rl (ja_up h.2.2 k j z a b)
  unfold ja_up
  split
  · exact hz
  · exact hh.2 a b
theorem ja_upn {α : Type} {f : Nat → Nat → α} {k j : Nat} {v : α} : ∀ a b, a ≠ k → ja_up f k j v a b = f a b := fun a b ha => by unfold ja_up; rw [if_neg (fun q => ha q.1)]
theorem ja_ups {α : Type} {f : Nat → Nat → α} {k j : Nat} {v : α} : ja_up f k j v k j = v := by simp [ja_up]
theorem ja_upi {α : Type} {f : Nat → Nat → α} {k j i : Nat} {v : α} (hi : i ≠ j) : ja_up f k j v k i = f k i := by unfold ja_up; rw [if_neg (fun q => hi q.2)]

theorem ja_s_getI {X : ja_X} {cc : ByteArray} {own : String} {d pc : Nat} {L : ja_L} {st : List ja_W} {h : ja_H} {idx ci j k : Nat} {ty : FieldType} {fin : Bool} (ok : ja_Ok X cc own d) (hF : ja_F own idx ci j ty fin) (hty : ja_isI ty = true) (dg : decode cc pc = .ok (.getfield idx, 3)) (hk : (ja_sh X)[k]? = some (0, ci)) (kk : ja_At X (pc + 3) L (.inl (h.2.1 k j) :: st) h) : ja_At X pc L (.inr (.inr (some k)) :: st) h := by
  obtain ⟨⟨p, l, e, R, s, m, args, below, meth, c, cells, slots, Q⟩, D, cy, ad, sh, A, nL⟩ := X
  intro ls vs H locs hl hv hs hL hh hP hD hS
  subst hv
  obtain ⟨C, T, h1, h2, h3, h4, h5, h6, h7, h8, h9⟩ := hF
  have hv : ja_fv ad h k j (ja_ty ci j) = .int (Int32.ofInt (h.2.1 k j)) := by rw [h8]; exact ja_fvI hty
  refine va_get (ref := C) ok.1 ok.2.1 ok.2.2.2.2.1 h2 ok.2.2.2.1 ok.2.2.2.2.2.1 hP k (ja_wld_at hk) h1 j h3 (ok.2.2.2.2.1 _ h4) (fun x q => by rw [h5] at q; exact q) (ja_range_at h3) dg ?_
  rw [hv]
  exact kk ls _ H locs hl rfl (ja_oc (hh.1 k j) (ja_ot hs)) hL hh hP hD hS

theorem ja_s_getR {X : ja_X} {cc : ByteArray} {own : String} {d pc : Nat} {L : ja_L} {st : List ja_W} {h : ja_H} {idx ci j k : Nat} {ty : FieldType} {fin : Bool} (ok : ja_Ok X cc own d) (hF : ja_F own idx ci j ty fin) (hty : ja_isR ty = true) (dg : decode cc pc = .ok (.getfield idx, 3)) (hk : (ja_sh X)[k]? = some (0, ci)) (kk : ja_At X (pc + 3) L (.inr (.inr (h.1 k j)) :: st) h) : ja_At X pc L (.inr (.inr (some k)) :: st) h := by
  obtain ⟨⟨p, l, e, R, s, m, args, below, meth, c, cells, slots, Q⟩, D, cy, ad, sh, A, nL⟩ := X
  intro ls vs H locs hl hv hs hL hh hP hD hS
  subst hv
  obtain ⟨C, T, h1, h2, h3, h4, h5, h6, h7, h8, h9⟩ := hF
  have hv : ja_fv ad h k j (ja_ty ci j) = va_rf ((h.1 k j).map ad) := by rw [h8]; exact ja_fvR hty
  refine va_get (ref := C) ok.1 ok.2.1 ok.2.2.2.2.1 h2 ok.2.2.2.1 ok.2.2.2.2.2.1 hP k (ja_wld_at hk) h1 j h3 (ok.2.2.2.2.1 _ h4) (fun x q => by rw [h5] at q; exact q) (ja_range_at h3) dg ?_
  rw [hv]
  exact kk ls _ H locs hl rfl (ja_oc trivial (ja_ot hs)) hL hh hP hD hS

theorem ja_s_getL {X : ja_X} {cc : ByteArray} {own : String} {d pc : Nat} {L : ja_L} {st : List ja_W} {h : ja_H} {idx ci j k : Nat} {ty : FieldType} {fin : Bool} (ok : ja_Ok X cc own d) (hF : ja_F own idx ci j ty fin) (hty : ty = .long) (dg : decode cc pc = .ok (.getfield idx, 3)) (hk : (ja_sh X)[k]? = some (0, ci)) (kk : ja_At X (pc + 3) L (.inr (.inl (h.2.2 k j)) :: st) h) : ja_At X pc L (.inr (.inr (some k)) :: st) h := by
  obtain ⟨⟨p, l, e, R, s, m, args, below, meth, c, cells, slots, Q⟩, D, cy, ad, sh, A, nL⟩ := X
  intro ls vs H locs hl hv hs hL hh hP hD hS
  subst hv
  obtain ⟨C, T, h1, h2, h3, h4, h5, h6, h7, h8, h9⟩ := hF
  have hv : ja_fv ad h k j (ja_ty ci j) = .long (Int64.ofInt (h.2.2 k j)) := by rw [h8]; exact by subst hty; rfl
  refine va_get (ref := C) ok.1 ok.2.1 ok.2.2.2.2.1 h2 ok.2.2.2.1 ok.2.2.2.2.2.1 hP k (ja_wld_at hk) h1 j h3 (ok.2.2.2.2.1 _ h4) (fun x q => by rw [h5] at q; exact q) (ja_range_at h3) dg ?_
  rw [hv]
  exact kk ls _ H locs hl rfl (ja_oc (hh.2 k j) (ja_ot hs)) hL hh hP hD hS

theorem ja_s_putI {X : ja_X} {cc : ByteArray} {own : String} {d pc : Nat} {L : ja_L} {st : List ja_W} {h : ja_H} {idx ci j k : Nat} {ty : FieldType} {z : Int} (ok : ja_Ok X cc own d) (hF : ja_F own idx ci j ty false) (hty : ty = .int) (dg : decode cc pc = .ok (.putfield idx, 3)) (hk : (ja_sh X)[k]? = some (0, ci)) (kk : ja_At X (pc + 3) L st (h.1, ja_up h.2.1 k j z, h.2.2)) : ja_At X pc L (.inl z :: .inr (.inr (some k)) :: st) h := by
  obtain ⟨⟨p, l, e, R, s, m, args, below, meth, c, cells, slots, Q⟩, D, cy, ad, sh, A, nL⟩ := X
  intro ls vs H locs hl hv hs hL hh hP hD hS
  subst hv
  have hz : ja_r z := ja_oh hs
  obtain ⟨C, T, h1, h2, h3, h4, h5, h6, h7, h8, h9⟩ := hF
  have hw : (ja_wld cy ad sh h).set k (ad k, .inr (ci, ((List.range (ja_n ci)).map fun j => ja_fv ad h k j (ja_ty ci j)).set j (.int (Int32.ofInt z)))) = ja_wld cy ad sh (h.1, ja_up h.2.1 k j z, h.2.2) := by
    refine ja_wld_set hk ?_ (ja_cel_In ja_upn)
    show Sum.inr (ci, _) = Sum.inr (ci, _)
    congr 2
    refine (ja_range_set ?_ ?_).symm
    · rw [h8]
      exact (ja_fvI (by subst hty; rfl)).trans (by show Value.int (Int32.ofInt (ja_up h.2.1 k j z k j)) = _; rw [ja_ups])
    · intro i hi
      unfold ja_fv
      simp only [ja_upi hi]
  refine va_put (ref := C) ok.1 ok.2.1 ok.2.2.2.2.1 h2 (ja_ty ci) h6 h7 ok.2.2.2.1 ok.2.2.2.2.2.1 hP hD hS k (ja_wld_at hk) h1 j h3 (ok.2.2.2.2.1 _ h4) (fun x q => by rw [h5] at q; exact q) h9 (ty := ty) (v := .int (Int32.ofInt z)) (by rw [h6 j h3, h8]) (by subst hty; rfl) (by subst hty; rfl) (by simpa using h3) dg ?_
  intro H1 locs1 hP1 hD1 hS1
  rw [hw] at hP1 hD1
  exact kk ls _ H1 locs1 hl rfl (ja_ot (ja_ot hs)) hL (ja_hoI hh hz) hP1 hD1 hS1

theorem ja_s_putZ {X : ja_X} {cc : ByteArray} {own : String} {d pc : Nat} {L : ja_L} {st : List ja_W} {h : ja_H} {idx ci j k : Nat} {ty : FieldType} {z : Int} (ok : ja_Ok X cc own d) (hF : ja_F own idx ci j ty false) (hty : ty = .boolean) (hb : z = 0 ∨ z = 1) (dg : decode cc pc = .ok (.putfield idx, 3)) (hk : (ja_sh X)[k]? = some (0, ci)) (kk : ja_At X (pc + 3) L st (h.1, ja_up h.2.1 k j z, h.2.2)) : ja_At X pc L (.inl z :: .inr (.inr (some k)) :: st) h := by
  obtain ⟨⟨p, l, e, R, s, m, args, below, meth, c, cells, slots, Q⟩, D, cy, ad, sh, A, nL⟩ := X
  intro ls vs H locs hl hv hs hL hh hP hD hS
  subst hv
  have hz : ja_r z := ja_oh hs
  obtain ⟨C, T, h1, h2, h3, h4, h5, h6, h7, h8, h9⟩ := hF
  have hw : (ja_wld cy ad sh h).set k (ad k, .inr (ci, ((List.range (ja_n ci)).map fun j => ja_fv ad h k j (ja_ty ci j)).set j (.int (Int32.ofInt z)))) = ja_wld cy ad sh (h.1, ja_up h.2.1 k j z, h.2.2) := by
    refine ja_wld_set hk ?_ (ja_cel_In ja_upn)
    show Sum.inr (ci, _) = Sum.inr (ci, _)
    congr 2
    refine (ja_range_set ?_ ?_).symm
    · rw [h8]
      exact (ja_fvI (by subst hty; rfl)).trans (by show Value.int (Int32.ofInt (ja_up h.2.1 k j z k j)) = _; rw [ja_ups])
    · intro i hi
      unfold ja_fv
      simp only [ja_upi hi]
  refine va_put (ref := C) ok.1 ok.2.1 ok.2.2.2.2.1 h2 (ja_ty ci) h6 h7 ok.2.2.2.1 ok.2.2.2.2.2.1 hP hD hS k (ja_wld_at hk) h1 j h3 (ok.2.2.2.2.1 _ h4) (fun x q => by rw [h5] at q; exact q) h9 (ty := ty) (v := .int (Int32.ofInt z)) (by rw [h6 j h3, h8]) (by subst hty; rcases hb with rfl | rfl <;> rfl) (by subst hty; rcases hb with rfl | rfl <;> rfl) (by simpa using h3) dg ?_
  intro H1 locs1 hP1 hD1 hS1
  rw [hw] at hP1 hD1
  exact kk ls _ H1 locs1 hl rfl (ja_ot (ja_ot hs)) hL (ja_hoI hh hz) hP1 hD1 hS1

theorem ja_s_putL {X : ja_X} {cc : ByteArray} {own : String} {d pc : Nat} {L : ja_L} {st : List ja_W} {h : ja_H} {idx ci j k : Nat} {ty : FieldType} {z : Int} (ok : ja_Ok X cc own d) (hF : ja_F own idx ci j ty false) (hty : ty = .long) (dg : decode cc pc = .ok (.putfield idx, 3)) (hk : (ja_sh X)[k]? = some (0, ci)) (kk : ja_At X (pc + 3) L st (h.1, h.2.1, ja_up h.2.2 k j z)) : ja_At X pc L (.inr (.inl z) :: .inr (.inr (some k)) :: st) h := by
  obtain ⟨⟨p, l, e, R, s, m, args, below, meth, c, cells, slots, Q⟩, D, cy, ad, sh, A, nL⟩ := X
  intro ls vs H locs hl hv hs hL hh hP hD hS
  subst hv
  have hz : ja_rl z := ja_oh hs
  obtain ⟨C, T, h1, h2, h3, h4, h5, h6, h7, h8, h9⟩ := hF
  have hw : (ja_wld cy ad sh h).set k (ad k, .inr (ci, ((List.range (ja_n ci)).map fun j => ja_fv ad h k j (ja_ty ci j)).set j (.long (Int64.ofInt z)))) = ja_wld cy ad sh (h.1, h.2.1, ja_up h.2.2 k j z) := by
    refine ja_wld_set hk ?_ (ja_cel_Lg ja_upn)
    show Sum.inr (ci, _) = Sum.inr (ci, _)
    congr 2
    refine (ja_range_set ?_ ?_).symm
    · rw [h8]
      exact by subst hty; show Value.long (Int64.ofInt (ja_up h.2.2 k j z k j)) = _; rw [ja_ups]
    · intro i hi
      unfold ja_fv
      simp only [ja_upi hi]
  refine va_put (ref := C) ok.1 ok.2.1 ok.2.2.2.2.1 h2 (ja_ty ci) h6 h7 ok.2.2.2.1 ok.2.2.2.2.2.1 hP hD hS k (ja_wld_at hk) h1 j h3 (ok.2.2.2.2.1 _ h4) (fun x q => by rw [h5] at q; exact q) h9 (ty := ty) (v := .long (Int64.ofInt z)) (by rw [h6 j h3, h8]) (by subst hty; rfl) (by subst hty; rfl) (by simpa using h3) dg ?_
  intro H1 locs1 hP1 hD1 hS1
  rw [hw] at hP1 hD1
  exact kk ls _ H1 locs1 hl rfl (ja_ot (ja_ot hs)) hL (ja_hoL hh hz) hP1 hD1 hS1

theorem ja_s_putR {X : ja_X} {cc : ByteArray} {own : String} {d pc : Nat} {L : ja_L} {st : List ja_W} {h : ja_H} {idx ci j k : Nat} {ty : FieldType} {z : Option Nat} (ok : ja_Ok X cc own d) (hF : ja_F own idx ci j ty false) (hty : ja_isR ty = true) (dg : decode cc pc = .ok (.putfield idx, 3)) (hk : (ja_sh X)[k]? = some (0, ci)) (kk : ja_At X (pc + 3) L st (ja_up h.1 k j z, h.2.1, h.2.2)) : ja_At X pc L (.inr (.inr z) :: .inr (.inr (some k)) :: st) h := by
  obtain ⟨⟨p, l, e, R, s, m, args, below, meth, c, cells, slots, Q⟩, D, cy, ad, sh, A, nL⟩ := X
  intro ls vs H locs hl hv hs hL hh hP hD hS
  subst hv
  obtain ⟨C, T, h1, h2, h3, h4, h5, h6, h7, h8, h9⟩ := hF
  have hw : (ja_wld cy ad sh h).set k (ad k, .inr (ci, ((List.range (ja_n ci)).map fun j => ja_fv ad h k j (ja_ty ci j)).set j (va_rf (z.map ad)))) = ja_wld cy ad sh (ja_up h.1 k j z, h.2.1, h.2.2) := by
    refine ja_wld_set hk ?_ (ja_cel_Rf ja_upn)
    show Sum.inr (ci, _) = Sum.inr (ci, _)
    congr 2
    refine (ja_range_set ?_ ?_).symm
    · rw [h8]
      exact (ja_fvR hty).trans (by show va_rf ((ja_up h.1 k j z k j).map ad) = _; rw [ja_ups])
    · intro i hi
      unfold ja_fv
      simp only [ja_upi hi]
  refine va_put (ref := C) ok.1 ok.2.1 ok.2.2.2.2.1 h2 (ja_ty ci) h6 h7 ok.2.2.2.1 ok.2.2.2.2.2.1 hP hD hS k (ja_wld_at hk) h1 j h3 (ok.2.2.2.2.1 _ h4) (fun x q => by rw [h5] at q; exact q) h9 (ty := ty) (v := va_rf (z.map ad)) (by rw [h6 j h3, h8]) (by cases z <;> cases ty <;> simp [ja_isR] at hty <;> rfl) (by cases z <;> cases ty <;> simp [ja_isR] at hty <;> rfl) (by simpa using h3) dg ?_
  intro H1 locs1 hP1 hD1 hS1
  rw [hw] at hP1 hD1
  exact kk ls _ H1 locs1 hl rfl (ja_ot (ja_ot hs)) hL hh hP1 hD1 hS1

theorem ja_s_iald {X : ja_X} {cc : ByteArray} {own : String} {d pc : Nat} {L : ja_L} {st : List ja_W} {h : ja_H} {k n : Nat} {i : Int} (ok : ja_Ok X cc own d) (dg : decode cc pc = .ok (.iaload, 1)) (hk : (ja_sh X)[k]? = some (1, n)) (h0 : 0 ≤ i) (h1 : i < n) (kk : ja_At X (pc + 1) L (.inl (h.2.1 k i.toNat) :: st) h) : ja_At X pc L (.inl i :: .inr (.inr (some k)) :: st) h := by
  obtain ⟨⟨p, l, e, R, s, m, args, below, meth, c, cells, slots, Q⟩, D, cy, ad, sh, A, nL⟩ := X
  intro ls vs H locs hl hv hs hL hh hP hD hS
  subst hv
  have hi : ja_r i := ja_oh hs
  refine va_iald ok.1 ok.2.1 ok.2.2.2.2.2.1 hP k 0 (ja_wld_at hk) rfl (ja_in hi h0 h1) dg ?_
  rw [ja_clamp hi h0]
  exact kk ls _ H locs hl rfl (ja_oc (hh.1 k _) (ja_ot (ja_ot hs))) hL hh hP hD hS

theorem ja_s_zald {X : ja_X} {cc : ByteArray} {own : String} {d pc : Nat} {L : ja_L} {st : List ja_W} {h : ja_H} {k n : Nat} {i : Int} (ok : ja_Ok X cc own d) (dg : decode cc pc = .ok (.baload, 1)) (hk : (ja_sh X)[k]? = some (2, n)) (h0 : 0 ≤ i) (h1 : i < n) (kk : ja_At X (pc + 1) L (.inl (h.2.1 k i.toNat) :: st) h) : ja_At X pc L (.inl i :: .inr (.inr (some k)) :: st) h := by
  obtain ⟨⟨p, l, e, R, s, m, args, below, meth, c, cells, slots, Q⟩, D, cy, ad, sh, A, nL⟩ := X
  intro ls vs H locs hl hv hs hL hh hP hD hS
  subst hv
  have hi : ja_r i := ja_oh hs
  refine va_zald ok.1 ok.2.1 ok.2.2.2.2.2.1 hP k 1 (ja_wld_at hk) rfl (ja_in hi h0 h1) dg ?_
  rw [ja_clamp hi h0]
  exact kk ls _ H locs hl rfl (ja_oc (hh.1 k _) (ja_ot (ja_ot hs))) hL hh hP hD hS

theorem ja_s_lald {X : ja_X} {cc : ByteArray} {own : String} {d pc : Nat} {L : ja_L} {st : List ja_W} {h : ja_H} {k n : Nat} {i : Int} (ok : ja_Ok X cc own d) (dg : decode cc pc = .ok (.laload, 1)) (hk : (ja_sh X)[k]? = some (3, n)) (h0 : 0 ≤ i) (h1 : i < n) (kk : ja_At X (pc + 1) L (.inr (.inl (h.2.2 k i.toNat)) :: st) h) : ja_At X pc L (.inl i :: .inr (.inr (some k)) :: st) h := by
  obtain ⟨⟨p, l, e, R, s, m, args, below, meth, c, cells, slots, Q⟩, D, cy, ad, sh, A, nL⟩ := X
  intro ls vs H locs hl hv hs hL hh hP hD hS
  subst hv
  have hi : ja_r i := ja_oh hs
  refine va_lald ok.1 ok.2.1 ok.2.2.2.2.2.1 hP k 2 (ja_wld_at hk) rfl (ja_in hi h0 h1) dg ?_
  rw [ja_clamp hi h0]
  exact kk ls _ H locs hl rfl (ja_oc (hh.2 k _) (ja_ot (ja_ot hs))) hL hh hP hD hS

theorem ja_s_aaldP {X : ja_X} {cc : ByteArray} {own : String} {d pc : Nat} {L : ja_L} {st : List ja_W} {h : ja_H} {k n : Nat} {i : Int} (ok : ja_Ok X cc own d) (dg : decode cc pc = .ok (.aaload, 1)) (hk : (ja_sh X)[k]? = some (4, n)) (h0 : 0 ≤ i) (h1 : i < n) (kk : ja_At X (pc + 1) L (.inr (.inr (h.1 k i.toNat)) :: st) h) : ja_At X pc L (.inl i :: .inr (.inr (some k)) :: st) h := by
  obtain ⟨⟨p, l, e, R, s, m, args, below, meth, c, cells, slots, Q⟩, D, cy, ad, sh, A, nL⟩ := X
  intro ls vs H locs hl hv hs hL hh hP hD hS
  subst hv
  have hi : ja_r i := ja_oh hs
  refine va_aldq ok.1 ok.2.1 ok.2.2.2.2.2.1 hP k 3 (ja_wld_at hk) rfl (ja_in hi h0 h1) dg ?_
  rw [ja_clamp hi h0]
  exact kk ls _ H locs hl rfl (ja_oc trivial (ja_ot (ja_ot hs))) hL hh hP hD hS

theorem ja_s_aaldG {X : ja_X} {cc : ByteArray} {own : String} {d pc : Nat} {L : ja_L} {st : List ja_W} {h : ja_H} {k n : Nat} {i : Int} (ok : ja_Ok X cc own d) (dg : decode cc pc = .ok (.aaload, 1)) (hk : (ja_sh X)[k]? = some (5, n)) (h0 : 0 ≤ i) (h1 : i < n) (kk : ja_At X (pc + 1) L (.inr (.inr (h.1 k i.toNat)) :: st) h) : ja_At X pc L (.inl i :: .inr (.inr (some k)) :: st) h := by
  obtain ⟨⟨p, l, e, R, s, m, args, below, meth, c, cells, slots, Q⟩, D, cy, ad, sh, A, nL⟩ := X
  intro ls vs H locs hl hv hs hL hh hP hD hS
  subst hv
  have hi : ja_r i := ja_oh hs
  refine va_aldq ok.1 ok.2.1 ok.2.2.2.2.2.1 hP k 4 (ja_wld_at hk) rfl (ja_in hi h0 h1) dg ?_
  rw [ja_clamp hi h0]
  exact kk ls _ H locs hl rfl (ja_oc trivial (ja_ot (ja_ot hs))) hL hh hP hD hS

theorem ja_s_iast {X : ja_X} {cc : ByteArray} {own : String} {d pc : Nat} {L : ja_L} {st : List ja_W} {h : ja_H} {k n : Nat} {i z : Int} (ok : ja_Ok X cc own d) (dg : decode cc pc = .ok (.iastore, 1)) (hk : (ja_sh X)[k]? = some (1, n)) (h0 : 0 ≤ i) (h1 : i < n) (kk : ja_At X (pc + 1) L st (h.1, ja_up h.2.1 k i.toNat z, h.2.2)) : ja_At X pc L (.inl z :: .inl i :: .inr (.inr (some k)) :: st) h := by
  obtain ⟨⟨p, l, e, R, s, m, args, below, meth, c, cells, slots, Q⟩, D, cy, ad, sh, A, nL⟩ := X
  intro ls vs H locs hl hv hs hL hh hP hD hS
  subst hv
  have hz : ja_r z := ja_oh hs
  have hi : ja_r i := ja_oh (ja_ot hs)
  have hw : (ja_wld cy ad sh h).set k (ad k, .inl (cy 1, n, .inl (upd (fun j => Int32.ofInt (h.2.1 k j)) i.toNat (Int32.ofInt z)))) = ja_wld cy ad sh (h.1, ja_up h.2.1 k i.toNat z, h.2.2) := by
    refine ja_wld_set hk ?_ (ja_cel_In ja_upn)
    have hf : (fun j => Int32.ofInt (ja_up h.2.1 k i.toNat z k j)) = upd (fun j => Int32.ofInt (h.2.1 k j)) i.toNat (Int32.ofInt z) := by
      funext j
      unfold upd ja_up
      by_cases q : j = i.toNat
      · simp [q]
      · simp [q]
    show Sum.inl _ = Sum.inl _
    simp only [hf]
  refine va_iast ok.1 ok.2.1 ok.2.2.2.2.2.1 hP hD hS k 0 (ja_wld_at hk) rfl (ja_in hi h0 h1) dg ?_
  rw [ja_clamp hi h0]
  intro H1 locs1 hP1 hD1 hS1
  rw [hw] at hP1 hD1
  exact kk ls _ H1 locs1 hl rfl (ja_ot (ja_ot (ja_ot hs))) hL (ja_hoI hh hz) hP1 hD1 hS1

theorem ja_s_zast {X : ja_X} {cc : ByteArray} {own : String} {d pc : Nat} {L : ja_L} {st : List ja_W} {h : ja_H} {k n : Nat} {i z : Int} (ok : ja_Ok X cc own d) (dg : decode cc pc = .ok (.bastore, 1)) (hk : (ja_sh X)[k]? = some (2, n)) (h0 : 0 ≤ i) (h1 : i < n) (hb : z = 0 ∨ z = 1) (kk : ja_At X (pc + 1) L st (h.1, ja_up h.2.1 k i.toNat z, h.2.2)) : ja_At X pc L (.inl z :: .inl i :: .inr (.inr (some k)) :: st) h := by
  obtain ⟨⟨p, l, e, R, s, m, args, below, meth, c, cells, slots, Q⟩, D, cy, ad, sh, A, nL⟩ := X
  intro ls vs H locs hl hv hs hL hh hP hD hS
  subst hv
  have hz : ja_r z := ja_oh hs
  have hi : ja_r i := ja_oh (ja_ot hs)
  have hw : (ja_wld cy ad sh h).set k (ad k, .inl (cy 2, n, .inl (upd (fun j => Int32.ofInt (h.2.1 k j)) i.toNat (vp_nar .boolean (Int32.ofInt z))))) = ja_wld cy ad sh (h.1, ja_up h.2.1 k i.toNat z, h.2.2) := by
    refine ja_wld_set hk ?_ (ja_cel_In ja_upn)
    have hn : vp_nar .boolean (Int32.ofInt z) = Int32.ofInt z := by rcases hb with rfl | rfl <;> rfl
    rw [hn]
    have hf : (fun j => Int32.ofInt (ja_up h.2.1 k i.toNat z k j)) = upd (fun j => Int32.ofInt (h.2.1 k j)) i.toNat (Int32.ofInt z) := by
      funext j
      unfold upd ja_up
      by_cases q : j = i.toNat
      · simp [q]
      · simp [q]
    show Sum.inl _ = Sum.inl _
    simp only [hf]
  refine va_zast ok.1 ok.2.1 ok.2.2.2.2.2.1 hP hD hS k 1 (ja_wld_at hk) rfl (ja_in hi h0 h1) dg ?_
  rw [ja_clamp hi h0]
  intro H1 locs1 hP1 hD1 hS1
  rw [hw] at hP1 hD1
  exact kk ls _ H1 locs1 hl rfl (ja_ot (ja_ot (ja_ot hs))) hL (ja_hoI hh hz) hP1 hD1 hS1

theorem ja_s_last {X : ja_X} {cc : ByteArray} {own : String} {d pc : Nat} {L : ja_L} {st : List ja_W} {h : ja_H} {k n : Nat} {i z : Int} (ok : ja_Ok X cc own d) (dg : decode cc pc = .ok (.lastore, 1)) (hk : (ja_sh X)[k]? = some (3, n)) (h0 : 0 ≤ i) (h1 : i < n) (kk : ja_At X (pc + 1) L st (h.1, h.2.1, ja_up h.2.2 k i.toNat z)) : ja_At X pc L (.inr (.inl z) :: .inl i :: .inr (.inr (some k)) :: st) h := by
  obtain ⟨⟨p, l, e, R, s, m, args, below, meth, c, cells, slots, Q⟩, D, cy, ad, sh, A, nL⟩ := X
  intro ls vs H locs hl hv hs hL hh hP hD hS
  subst hv
  have hz : ja_rl z := ja_oh hs
  have hi : ja_r i := ja_oh (ja_ot hs)
  have hw : (ja_wld cy ad sh h).set k (ad k, .inl (cy 3, n, .inr (.inl (vp_updL (fun j => Int64.ofInt (h.2.2 k j)) i.toNat (Int64.ofInt z))))) = ja_wld cy ad sh (h.1, h.2.1, ja_up h.2.2 k i.toNat z) := by
    refine ja_wld_set hk ?_ (ja_cel_Lg ja_upn)
    have hf : (fun j => Int64.ofInt (ja_up h.2.2 k i.toNat z k j)) = vp_updL (fun j => Int64.ofInt (h.2.2 k j)) i.toNat (Int64.ofInt z) := by
      funext j
      unfold vp_updL ja_up
      by_cases q : j = i.toNat
      · simp [q]
      · simp [q]
    show Sum.inl _ = Sum.inl _
    simp only [hf]
  refine va_last ok.1 ok.2.1 ok.2.2.2.2.2.1 hP hD hS k 2 (ja_wld_at hk) rfl (ja_in hi h0 h1) dg ?_
  rw [ja_clamp hi h0]
  intro H1 locs1 hP1 hD1 hS1
  rw [hw] at hP1 hD1
  exact kk ls _ H1 locs1 hl rfl (ja_ot (ja_ot (ja_ot hs))) hL (ja_hoL hh hz) hP1 hD1 hS1

theorem ja_s_alen1 {X : ja_X} {cc : ByteArray} {own : String} {d pc : Nat} {L : ja_L} {st : List ja_W} {h : ja_H} {k n : Nat} (ok : ja_Ok X cc own d) (dg : decode cc pc = .ok (.arraylength, 1)) (hk : (ja_sh X)[k]? = some (1, n)) (hn : n < 2147483648) (kk : ja_At X (pc + 1) L (.inl (n : Int) :: st) h) : ja_At X pc L (.inr (.inr (some k)) :: st) h := by
  obtain ⟨⟨p, l, e, R, s, m, args, below, meth, c, cells, slots, Q⟩, D, cy, ad, sh, A, nL⟩ := X
  intro ls vs H locs hl hv hs hL hh hP hD hS
  subst hv
  have hr : ja_r (n : Int) := by unfold ja_r; omega
  refine va_alen ok.1 ok.2.1 ok.2.2.2.2.2.1 hP k 0 (ja_wld_at hk) rfl (v := Int32.ofInt (n : Int)) rfl dg ?_
  exact kk ls _ H locs hl rfl (ja_oc hr (ja_ot hs)) hL hh hP hD hS

theorem ja_s_alen2 {X : ja_X} {cc : ByteArray} {own : String} {d pc : Nat} {L : ja_L} {st : List ja_W} {h : ja_H} {k n : Nat} (ok : ja_Ok X cc own d) (dg : decode cc pc = .ok (.arraylength, 1)) (hk : (ja_sh X)[k]? = some (2, n)) (hn : n < 2147483648) (kk : ja_At X (pc + 1) L (.inl (n : Int) :: st) h) : ja_At X pc L (.inr (.inr (some k)) :: st) h := by
  obtain ⟨⟨p, l, e, R, s, m, args, below, meth, c, cells, slots, Q⟩, D, cy, ad, sh, A, nL⟩ := X
  intro ls vs H locs hl hv hs hL hh hP hD hS
  subst hv
  have hr : ja_r (n : Int) := by unfold ja_r; omega
  refine va_alen ok.1 ok.2.1 ok.2.2.2.2.2.1 hP k 1 (ja_wld_at hk) rfl (v := Int32.ofInt (n : Int)) rfl dg ?_
  exact kk ls _ H locs hl rfl (ja_oc hr (ja_ot hs)) hL hh hP hD hS

theorem ja_s_alen3 {X : ja_X} {cc : ByteArray} {own : String} {d pc : Nat} {L : ja_L} {st : List ja_W} {h : ja_H} {k n : Nat} (ok : ja_Ok X cc own d) (dg : decode cc pc = .ok (.arraylength, 1)) (hk : (ja_sh X)[k]? = some (3, n)) (hn : n < 2147483648) (kk : ja_At X (pc + 1) L (.inl (n : Int) :: st) h) : ja_At X pc L (.inr (.inr (some k)) :: st) h := by
  obtain ⟨⟨p, l, e, R, s, m, args, below, meth, c, cells, slots, Q⟩, D, cy, ad, sh, A, nL⟩ := X
  intro ls vs H locs hl hv hs hL hh hP hD hS
  subst hv
  have hr : ja_r (n : Int) := by unfold ja_r; omega
  refine va_alen ok.1 ok.2.1 ok.2.2.2.2.2.1 hP k 2 (ja_wld_at hk) rfl (v := Int32.ofInt (n : Int)) rfl dg ?_
  exact kk ls _ H locs hl rfl (ja_oc hr (ja_ot hs)) hL hh hP hD hS

theorem ja_s_alen4 {X : ja_X} {cc : ByteArray} {own : String} {d pc : Nat} {L : ja_L} {st : List ja_W} {h : ja_H} {k n : Nat} (ok : ja_Ok X cc own d) (dg : decode cc pc = .ok (.arraylength, 1)) (hk : (ja_sh X)[k]? = some (4, n)) (hn : n < 2147483648) (kk : ja_At X (pc + 1) L (.inl (n : Int) :: st) h) : ja_At X pc L (.inr (.inr (some k)) :: st) h := by
  obtain ⟨⟨p, l, e, R, s, m, args, below, meth, c, cells, slots, Q⟩, D, cy, ad, sh, A, nL⟩ := X
  intro ls vs H locs hl hv hs hL hh hP hD hS
  subst hv
  have hr : ja_r (n : Int) := by unfold ja_r; omega
  refine va_alen ok.1 ok.2.1 ok.2.2.2.2.2.1 hP k 3 (ja_wld_at hk) rfl (v := Int32.ofInt (n : Int)) rfl dg ?_
  exact kk ls _ H locs hl rfl (ja_oc hr (ja_ot hs)) hL hh hP hD hS

theorem ja_s_alen5 {X : ja_X} {cc : ByteArray} {own : String} {d pc : Nat} {L : ja_L} {st : List ja_W} {h : ja_H} {k n : Nat} (ok : ja_Ok X cc own d) (dg : decode cc pc = .ok (.arraylength, 1)) (hk : (ja_sh X)[k]? = some (5, n)) (hn : n < 2147483648) (kk : ja_At X (pc + 1) L (.inl (n : Int) :: st) h) : ja_At X pc L (.inr (.inr (some k)) :: st) h := by
  obtain ⟨⟨p, l, e, R, s, m, args, below, meth, c, cells, slots, Q⟩, D, cy, ad, sh, A, nL⟩ := X
  intro ls vs H locs hl hv hs hL hh hP hD hS
  subst hv
  have hr : ja_r (n : Int) := by unfold ja_r; omega
  refine va_alen ok.1 ok.2.1 ok.2.2.2.2.2.1 hP k 4 (ja_wld_at hk) rfl (v := Int32.ofInt (n : Int)) rfl dg ?_
  exact kk ls _ H locs hl rfl (ja_oc hr (ja_ot hs)) hL hh hP hD hS
