/-! growing: final fields in a constructor, stores of references in arrays -/
section JCX4
variable {X : ja_X} {cc : ByteArray} {own : String} {d pc idx ci j k : Nat} {ty : FieldType} {L : ja_L} {st : List ja_W} {h : ja_H}
theorem jx_putI {z : Int} (ok : ja_Ok X cc own d) (hI : ja_In X) (hF : ja_F own idx ci j ty true) (hO : (vwCl[ci]?).map (fun q => q.1) = some own) (hty : ty = .int) (dg : decode cc pc = .ok (.putfield idx, 3)) (hk : (ja_sh X)[k]? = some (0, ci)) (kk : ja_At X (pc + 3) L st (h.1, ja_up h.2.1 k j z, h.2.2)) : ja_At X pc L (.inl z :: .inr (.inr (some k)) :: st) h := by
  obtain ⟨⟨p, l, e, R, s, m, args, below, meth, c, cells, slots, Q⟩, D, cy, ad, sh, A, nL⟩ := X
  intro ls vs H locs hl hv hs hL hh hP hD hS
  subst hv
  have hz : ja_r z := ja_oh hs
  obtain ⟨C, T, h1, h2, h3, h4, h5, h6, h7, h8, h9⟩ := hF
  have hC : C = own := by rw [h1] at hO; exact Option.some.inj hO
  have hw : (ja_wld cy ad sh h).set k (ad k, .inr (ci, ((List.range (ja_n ci)).map fun j => ja_fv ad h k j (ja_ty ci j)).set j (.int (Int32.ofInt z)))) = ja_wld cy ad sh (h.1, ja_up h.2.1 k j z, h.2.2) := by
    refine ja_wld_set hk ?_ (ja_cel_In ja_upn)
    show Sum.inr (ci, _) = Sum.inr (ci, _)
    congr 2
    refine (ja_range_set ?_ ?_).symm
    · rw [h8]
      exact (ja_fvI (by subst hty; rfl)).trans (by show Value.int (Int32.ofInt (ja_up h.2.1 k j z k j)) = _; rw [ja_ups])
    · intro i hi
      unfold ja_fv
      simp only [ja_upi hi]
  refine va_putF (ref := C) ok.1 ok.2.1 ok.2.2.2.2.1 h2 (ja_ty ci) h6 h7 ok.2.2.2.1 ok.2.2.2.2.2.1 hP hD hS k (ja_wld_at hk) h1 j h3 (ok.2.2.2.2.1 _ h4) (fun x q => by rw [h5] at q; exact q) h9 hI.1 (h5.trans hC) (ty := ty) (v := .int (Int32.ofInt z)) (by rw [h6 j h3, h8]) (by subst hty; rfl) (by subst hty; rfl) (by simpa using h3) dg ?_
  intro H1 locs1 hP1 hD1 hS1
  rw [hw] at hP1 hD1
  exact kk ls _ H1 locs1 hl rfl (ja_ot (ja_ot hs)) hL (ja_hoI hh hz) hP1 hD1 hS1
theorem jx_putR {z : Option Nat} (ok : ja_Ok X cc own d) (hI : ja_In X) (hF : ja_F own idx ci j ty true) (hO : (vwCl[ci]?).map (fun q => q.1) = some own) (hty : ja_isR ty = true) (dg : decode cc pc = .ok (.putfield idx, 3)) (hk : (ja_sh X)[k]? = some (0, ci)) (kk : ja_At X (pc + 3) L st (ja_up h.1 k j z, h.2.1, h.2.2)) : ja_At X pc L (.inr (.inr z) :: .inr (.inr (some k)) :: st) h := by
  obtain ⟨⟨p, l, e, R, s, m, args, below, meth, c, cells, slots, Q⟩, D, cy, ad, sh, A, nL⟩ := X
  intro ls vs H locs hl hv hs hL hh hP hD hS
  subst hv
  obtain ⟨C, T, h1, h2, h3, h4, h5, h6, h7, h8, h9⟩ := hF
  have hC : C = own := by rw [h1] at hO; exact Option.some.inj hO
  have hw : (ja_wld cy ad sh h).set k (ad k, .inr (ci, ((List.range (ja_n ci)).map fun j => ja_fv ad h k j (ja_ty ci j)).set j (va_rf (z.map ad)))) = ja_wld cy ad sh (ja_up h.1 k j z, h.2.1, h.2.2) := by
    refine ja_wld_set hk ?_ (ja_cel_Rf ja_upn)
    show Sum.inr (ci, _) = Sum.inr (ci, _)
    congr 2
    refine (ja_range_set ?_ ?_).symm
    · rw [h8]
      exact (ja_fvR hty).trans (by show va_rf ((ja_up h.1 k j z k j).map ad) = _; rw [ja_ups])
    · intro i hi
      unfold ja_fv
      simp only [ja_upi hi]
  refine va_putF (ref := C) ok.1 ok.2.1 ok.2.2.2.2.1 h2 (ja_ty ci) h6 h7 ok.2.2.2.1 ok.2.2.2.2.2.1 hP hD hS k (ja_wld_at hk) h1 j h3 (ok.2.2.2.2.1 _ h4) (fun x q => by rw [h5] at q; exact q) h9 hI.1 (h5.trans hC) (ty := ty) (v := va_rf (z.map ad)) (by rw [h6 j h3, h8]) (by cases z <;> cases ty <;> simp [ja_isR] at hty <;> rfl) (by cases z <;> cases ty <;> simp [ja_isR] at hty <;> rfl) (by simpa using h3) dg ?_
  intro H1 locs1 hP1 hD1 hS1
  rw [hw] at hP1 hD1
  exact kk ls _ H1 locs1 hl rfl (ja_ot (ja_ot hs)) hL hh hP1 hD1 hS1
theorem ja_va_up {f : Nat → Nat → Option Nat} {ad : Nat → Nat} {k i : Nat} {z : Option Nat} : va_up (fun j => (f k j).map ad) i (z.map ad) = fun j => (ja_up f k i z k j).map ad := by
  funext j
  by_cases hj : j = i
  · subst hj; simp [va_up, ja_ups]
  · simp [va_up, hj, ja_upi hj]
theorem jx_astP {n i : Nat} {z : Int} {v : Nat} (ok : ja_Ok X cc own d) (dg : decode cc pc = .ok (.aastore, 1)) (hk : (ja_sh X)[k]? = some (4, n)) (h0 : 0 ≤ z) (h1 : z < n) (hv : (ja_sh X)[v]? = some (0, 3)) (kk : ja_At X (pc + 1) L st (ja_up h.1 k z.toNat (some v), h.2.1, h.2.2)) : ja_At X pc L (.inr (.inr (some v)) :: .inl z :: .inr (.inr (some k)) :: st) h := by
  obtain ⟨⟨p, l, e, R, s, m, args, below, meth, c, cells, slots, Q⟩, D, cy, ad, sh, A, nL⟩ := X
  intro ls vs H locs hl hv2 hs hL hh hP hD hS
  subst hv2
  have hz : ja_r z := ja_oh (ja_ot hs)
  have hw : (ja_wld cy ad sh h).set k (ad k, .inl (cy 4, n, .inr (.inr (.inr (.inr (va_up (fun j => (h.1 k j).map ad) z.toNat (some (ad v)))))))) = ja_wld cy ad sh (ja_up h.1 k z.toNat (some v), h.2.1, h.2.2) := by
    refine ja_wld_set hk ?_ (ja_cel_Rf ja_upn)
    rw [show some (ad v) = (some v).map ad from rfl, ja_va_up]
    rfl
  refine va_astq (r := (RX3, TX3, 3)) ok.1 ok.2.1 ok.2.2.2.2.2.1 hP hD hS k 3 v 3 (ja_wld_at hk) rfl (ja_wld_at hv) rfl (ja_in hz h0 h1) dg ?_
  intro H1 locs1 hP1 hD1 hS1
  rw [ja_clamp hz h0] at hP1 hD1
  rw [hw] at hP1 hD1
  exact kk ls _ H1 locs1 hl rfl (ja_ot (ja_ot (ja_ot hs))) hL hh hP1 hD1 hS1
theorem jx_astG {n i : Nat} {z : Int} {v : Nat} (ok : ja_Ok X cc own d) (dg : decode cc pc = .ok (.aastore, 1)) (hk : (ja_sh X)[k]? = some (5, n)) (h0 : 0 ≤ z) (h1 : z < n) (hv : (ja_sh X)[v]? = some (0, 4)) (kk : ja_At X (pc + 1) L st (ja_up h.1 k z.toNat (some v), h.2.1, h.2.2)) : ja_At X pc L (.inr (.inr (some v)) :: .inl z :: .inr (.inr (some k)) :: st) h := by
  obtain ⟨⟨p, l, e, R, s, m, args, below, meth, c, cells, slots, Q⟩, D, cy, ad, sh, A, nL⟩ := X
  intro ls vs H locs hl hv2 hs hL hh hP hD hS
  subst hv2
  have hz : ja_r z := ja_oh (ja_ot hs)
  have hw : (ja_wld cy ad sh h).set k (ad k, .inl (cy 5, n, .inr (.inr (.inr (.inr (va_up (fun j => (h.1 k j).map ad) z.toNat (some (ad v)))))))) = ja_wld cy ad sh (ja_up h.1 k z.toNat (some v), h.2.1, h.2.2) := by
    refine ja_wld_set hk ?_ (ja_cel_Rf ja_upn)
    rw [show some (ad v) = (some v).map ad from rfl, ja_va_up]
    rfl
  refine va_astq (r := (RX4, TX4, 5)) ok.1 ok.2.1 ok.2.2.2.2.2.1 hP hD hS k 4 v 4 (ja_wld_at hk) rfl (ja_wld_at hv) rfl (ja_in hz h0 h1) dg ?_
  intro H1 locs1 hP1 hD1 hS1
  rw [ja_clamp hz h0] at hP1 hD1
  rw [hw] at hP1 hD1
  exact kk ls _ H1 locs1 hl rfl (ja_ot (ja_ot (ja_ot hs))) hL hh hP1 hD1 hS1
end JCX4
