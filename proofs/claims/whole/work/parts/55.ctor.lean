/-! constructors: arrays into final fields -/
def ja_Hz (k : Nat) (h : ja_H) : Prop := ja_cls k h ∧ ∀ a, k ≤ a → ja_bk a h
theorem ja_Hz_m {k k' : Nat} {h : ja_H} (hz : ja_Hz k h) (hk : k ≤ k') : ja_Hz k' h := ⟨fun a b r e => Nat.lt_of_lt_of_le (hz.1 a b r e) hk, fun a ha => hz.2 a (Nat.le_trans hk ha)⟩
theorem ja_Hz_R {k o j v : Nat} {h : ja_H} (hz : ja_Hz k h) (ho : o < k) (hv : v < k) : ja_Hz k (ja_up h.1 o j (some v), h.2.1, h.2.2) := by
  refine ⟨fun a b r e => ?_, fun a ha i => ?_⟩
  · have e : ja_up h.1 o j (some v) a b = some r := e
    unfold ja_up at e
    split at e
    · cases e; exact hv
    · exact hz.1 a b r e
  · have q := hz.2 a ha i
    exact ⟨(ja_upn a i (by omega)).trans q.1, q.2⟩
theorem ja_Hz_I {k o j : Nat} {z : Int} {h : ja_H} (hz : ja_Hz k h) (ho : o < k) : ja_Hz k (h.1, ja_up h.2.1 o j z, h.2.2) := by
  refine ⟨hz.1, fun a ha i => ?_⟩
  have q := hz.2 a ha i
  exact ⟨q.1, (ja_upn a i (by omega)).trans q.2.1, q.2.2⟩
theorem ja_kL_m {n m : Nat} {L : ja_L} (h : ja_kL n L) (hm : n ≤ m) : ja_kL m L := fun v hv => by
  have q := h v hv
  rcases v with z | z | _ | r
  · trivial
  · trivial
  · trivial
  · rcases q with q | q
    · exact Or.inl (Nat.lt_of_lt_of_le q hm)
    · exact Or.inr q
theorem ja_k1 {n o : Nat} (ho : o < n) : ∀ v ∈ ([.inr (.inr (some o))] : List ja_W), ja_k n v := fun v hv => by
  rw [List.mem_singleton] at hv
  subst hv
  exact Or.inl ho
theorem jx_arrI {X0 X : ja_X} {cc : ByteArray} {own : String} {d pc p1 fi ci j k o ce sl CE SL : Nat} {ty : FieldType} {ext : ja_S} {L : ja_L} {h : ja_H} {z : Int} (cx : ja_Cx X0 X cc own d ext ce sl CE SL) (da : decode cc pc = .ok (.aload_n 0, 1)) (hL0 : ja_get L 0 = some (.inr (.inr (some o)))) (hp : ∀ h', ja_At X p1 L [.inl z, .inr (.inr (some o))] h' → ja_At X (pc + 1) L [.inr (.inr (some o))] h') (dn : decode cc p1 = .ok (.newarray .int, 2)) (hF : ja_F own fi ci j ty true) (hO : (vwCl[ci]?).map (fun q => q.1) = some own) (hty : ja_isR ty = true) (dp : decode cc (p1 + 2) = .ok (.putfield fi, 3)) (ho : (ja_sh X0)[o]? = some (0, ci)) (hk : (ja_sh X0).length + ext.length = k) (h1 : k < 1000000) (h0 : 0 ≤ z) (hzb : z ≤ 10000000) (hc : ce + 1 ≤ CE) (hs : sl + z.toNat ≤ SL) (hz : ja_Hz k h) (hL : ja_kL k L)
    (kk : ∀ X', ja_Cx X0 X' cc own d (ext ++ [(1, z.toNat)]) (ce + 1) (sl + z.toNat) CE SL → ja_Hz (k + 1) (ja_up h.1 o j (some k), h.2.1, h.2.2) → ja_At X' (p1 + 5) L [] (ja_up h.1 o j (some k), h.2.1, h.2.2)) : ja_At X pc L [] h := by
  have hok : o < k := by
    have := (List.getElem?_eq_some_iff.mp ho).1
    omega
  refine ja_s_aload_n cx.1 da rfl hL0 (hp h ?_)
  refine jx_newI cx waI dn ((ja_Cx_len cx).trans hk) h1 h0 (by omega) hc hs hz.1 (ja_k1 hok) hL (hz.2 k (Nat.le_refl k)) ?_
  intro X' cx'
  exact jx_putR cx'.1 cx'.2.1 hF hO hty dp (ja_Cx_old cx' ho) (kk X' cx' (ja_Hz_R (ja_Hz_m hz (Nat.le_succ k)) (by omega) (by omega)))
theorem jx_arrZ {X0 X : ja_X} {cc : ByteArray} {own : String} {d pc p1 fi ci j k o ce sl CE SL : Nat} {ty : FieldType} {ext : ja_S} {L : ja_L} {h : ja_H} {z : Int} (cx : ja_Cx X0 X cc own d ext ce sl CE SL) (da : decode cc pc = .ok (.aload_n 0, 1)) (hL0 : ja_get L 0 = some (.inr (.inr (some o)))) (hp : ∀ h', ja_At X p1 L [.inl z, .inr (.inr (some o))] h' → ja_At X (pc + 1) L [.inr (.inr (some o))] h') (dn : decode cc p1 = .ok (.newarray .boolean, 2)) (hF : ja_F own fi ci j ty true) (hO : (vwCl[ci]?).map (fun q => q.1) = some own) (hty : ja_isR ty = true) (dp : decode cc (p1 + 2) = .ok (.putfield fi, 3)) (ho : (ja_sh X0)[o]? = some (0, ci)) (hk : (ja_sh X0).length + ext.length = k) (h1 : k < 1000000) (h0 : 0 ≤ z) (hzb : z ≤ 10000000) (hc : ce + 1 ≤ CE) (hs : sl + z.toNat ≤ SL) (hz : ja_Hz k h) (hL : ja_kL k L)
    (kk : ∀ X', ja_Cx X0 X' cc own d (ext ++ [(2, z.toNat)]) (ce + 1) (sl + z.toNat) CE SL → ja_Hz (k + 1) (ja_up h.1 o j (some k), h.2.1, h.2.2) → ja_At X' (p1 + 5) L [] (ja_up h.1 o j (some k), h.2.1, h.2.2)) : ja_At X pc L [] h := by
  have hok : o < k := by
    have := (List.getElem?_eq_some_iff.mp ho).1
    omega
  refine ja_s_aload_n cx.1 da rfl hL0 (hp h ?_)
  refine jx_newZ cx waZ dn ((ja_Cx_len cx).trans hk) h1 h0 (by omega) hc hs hz.1 (ja_k1 hok) hL (hz.2 k (Nat.le_refl k)) ?_
  intro X' cx'
  exact jx_putR cx'.1 cx'.2.1 hF hO hty dp (ja_Cx_old cx' ho) (kk X' cx' (ja_Hz_R (ja_Hz_m hz (Nat.le_succ k)) (by omega) (by omega)))
theorem jx_arrL {X0 X : ja_X} {cc : ByteArray} {own : String} {d pc p1 fi ci j k o ce sl CE SL : Nat} {ty : FieldType} {ext : ja_S} {L : ja_L} {h : ja_H} {z : Int} (cx : ja_Cx X0 X cc own d ext ce sl CE SL) (da : decode cc pc = .ok (.aload_n 0, 1)) (hL0 : ja_get L 0 = some (.inr (.inr (some o)))) (hp : ∀ h', ja_At X p1 L [.inl z, .inr (.inr (some o))] h' → ja_At X (pc + 1) L [.inr (.inr (some o))] h') (dn : decode cc p1 = .ok (.newarray .long, 2)) (hF : ja_F own fi ci j ty true) (hO : (vwCl[ci]?).map (fun q => q.1) = some own) (hty : ja_isR ty = true) (dp : decode cc (p1 + 2) = .ok (.putfield fi, 3)) (ho : (ja_sh X0)[o]? = some (0, ci)) (hk : (ja_sh X0).length + ext.length = k) (h1 : k < 1000000) (h0 : 0 ≤ z) (hzb : z ≤ 10000000) (hc : ce + 1 ≤ CE) (hs : sl + z.toNat ≤ SL) (hz : ja_Hz k h) (hL : ja_kL k L)
    (kk : ∀ X', ja_Cx X0 X' cc own d (ext ++ [(3, z.toNat)]) (ce + 1) (sl + z.toNat) CE SL → ja_Hz (k + 1) (ja_up h.1 o j (some k), h.2.1, h.2.2) → ja_At X' (p1 + 5) L [] (ja_up h.1 o j (some k), h.2.1, h.2.2)) : ja_At X pc L [] h := by
  have hok : o < k := by
    have := (List.getElem?_eq_some_iff.mp ho).1
    omega
  refine ja_s_aload_n cx.1 da rfl hL0 (hp h ?_)
  refine jx_newL cx waL dn ((ja_Cx_len cx).trans hk) h1 h0 (by omega) hc hs hz.1 (ja_k1 hok) hL (hz.2 k (Nat.le_refl k)) ?_
  intro X' cx'
  exact jx_putR cx'.1 cx'.2.1 hF hO hty dp (ja_Cx_old cx' ho) (kk X' cx' (ja_Hz_R (ja_Hz_m hz (Nat.le_succ k)) (by omega) (by omega)))
theorem gX0_init {l : Launch} {d K o : Nat} {sh : ja_S} {h : ja_H} {Q : ja_H → Prop} (hK : sh.length = K) (h1 : K < 900000) (ho : sh[o]? = some (0, 0)) (hz : ja_Hz K h) (q : ja_Hz (K + 3) ((ja_up (ja_up (ja_up h.1 o 0 (some K)) o 1 (some (K + 1))) o 2 (some (K + 2))), h.2.1, h.2.2) → Q ((ja_up (ja_up (ja_up h.1 o 0 (some K)) o 1 (some (K + 1))) o 2 (some (K + 2))), h.2.1, h.2.2)) : ja_G l (d + 1) mX0_init 3 17 sh [.inr (.inr (some o))] h [(1, 9), (1, 4), (1, 4)] Q := by
  refine ja_metG (by decide +kernel) (Nat.le_of_ble_eq_true rfl) rfl rfl ?_
  intro X cx hl hsh hnl ret has hho
  subst hsh
  have hL : ja_kL K (ja_pad mX0_init.2.2.1 (ja_en [.inr (.inr (some o))])) := fun v hv => by
    have hv : some v ∈ ([some (.inr (.inr (some o)))] : ja_L) := hv
    rw [List.mem_singleton] at hv
    cases hv
    exact Or.inl (by have := (List.getElem?_eq_some_iff.mp ho).1; omega)
  refine ja_s_aload_n cx.1 dX0_init_0 rfl rfl (jx_obj cx.1 jOX0 dX0_init_1 ?_)
  refine jx_arrI (k := K) (z := 9) cx dX0_init_4 rfl (fun h2 q => ja_s_bipush cx.1 dX0_init_5 (by decide) q) dX0_init_7 flX0_9 rfl rfl dX0_init_9 ho (by rw [hK]; rfl) (by omega) (by decide) (by decide) (by simp) (by simp) hz hL fun X cx hz => ?_
  refine jx_arrI (k := K + 1) (z := 4) cx dX0_init_12 rfl (fun h2 q => ja_s_iconst cx.1 dX0_init_13 (by decide) q) dX0_init_14 flX0_15 rfl rfl dX0_init_16 ho (by rw [hK]; rfl) (by omega) (by decide) (by decide) (by simp) (by simp) hz (ja_kL_m hL (by omega)) fun X cx hz => ?_
  refine jx_arrI (k := K + 2) (z := 4) cx dX0_init_19 rfl (fun h2 q => ja_s_iconst cx.1 dX0_init_20 (by decide) q) dX0_init_21 flX0_18 rfl rfl dX0_init_23 ho (by rw [hK]; rfl) (by omega) (by decide) (by decide) (by simp) (by simp) hz (ja_kL_m hL (by omega)) fun X cx hz => ?_
  exact ret X cx.2.2.1 _ _ _ dX0_init_26 (q hz)
theorem gX2_init {l : Launch} {d K o : Nat} {sh : ja_S} {h : ja_H} {Q : ja_H → Prop} (hK : sh.length = K) (h1 : K < 900000) (ho : sh[o]? = some (0, 2)) (hz : ja_Hz K h) (q : ja_Hz (K + 5) ((ja_up (ja_up (ja_up (ja_up (ja_up h.1 o 0 (some K)) o 1 (some (K + 1))) o 2 (some (K + 2))) o 3 (some (K + 3))) o 4 (some (K + 4))), h.2.1, h.2.2) → Q ((ja_up (ja_up (ja_up (ja_up (ja_up h.1 o 0 (some K)) o 1 (some (K + 1))) o 2 (some (K + 2))) o 3 (some (K + 3))) o 4 (some (K + 4))), h.2.1, h.2.2)) : ja_G l (d + 1) mX2_init 5 121 sh [.inr (.inr (some o))] h [(1, 10), (1, 10), (1, 10), (1, 10), (1, 81)] Q := by
  refine ja_metG (by decide +kernel) (Nat.le_of_ble_eq_true rfl) rfl rfl ?_
  intro X cx hl hsh hnl ret has hho
  subst hsh
  have hL : ja_kL K (ja_pad mX2_init.2.2.1 (ja_en [.inr (.inr (some o))])) := fun v hv => by
    have hv : some v ∈ ([some (.inr (.inr (some o)))] : ja_L) := hv
    rw [List.mem_singleton] at hv
    cases hv
    exact Or.inl (by have := (List.getElem?_eq_some_iff.mp ho).1; omega)
  refine ja_s_aload_n cx.1 dX2_init_0 rfl rfl (jx_obj cx.1 jOX2 dX2_init_1 ?_)
  refine jx_arrI (k := K) (z := 10) cx dX2_init_4 rfl (fun h2 q => ja_s_bipush cx.1 dX2_init_5 (by decide) q) dX2_init_7 flX2_9 rfl rfl dX2_init_9 ho (by rw [hK]; rfl) (by omega) (by decide) (by decide) (by simp) (by simp) hz hL fun X cx hz => ?_
  refine jx_arrI (k := K + 1) (z := 10) cx dX2_init_12 rfl (fun h2 q => ja_s_bipush cx.1 dX2_init_13 (by decide) q) dX2_init_15 flX2_15 rfl rfl dX2_init_17 ho (by rw [hK]; rfl) (by omega) (by decide) (by decide) (by simp) (by simp) hz (ja_kL_m hL (by omega)) fun X cx hz => ?_
  refine jx_arrI (k := K + 2) (z := 10) cx dX2_init_20 rfl (fun h2 q => ja_s_bipush cx.1 dX2_init_21 (by decide) q) dX2_init_23 flX2_18 rfl rfl dX2_init_25 ho (by rw [hK]; rfl) (by omega) (by decide) (by decide) (by simp) (by simp) hz (ja_kL_m hL (by omega)) fun X cx hz => ?_
  refine jx_arrI (k := K + 3) (z := 10) cx dX2_init_28 rfl (fun h2 q => ja_s_bipush cx.1 dX2_init_29 (by decide) q) dX2_init_31 flX2_21 rfl rfl dX2_init_33 ho (by rw [hK]; rfl) (by omega) (by decide) (by decide) (by simp) (by simp) hz (ja_kL_m hL (by omega)) fun X cx hz => ?_
  refine jx_arrI (k := K + 4) (z := 81) cx dX2_init_36 rfl (fun h2 q => ja_s_bipush cx.1 dX2_init_37 (by decide) q) dX2_init_39 flX2_24 rfl rfl dX2_init_41 ho (by rw [hK]; rfl) (by omega) (by decide) (by decide) (by simp) (by simp) hz (ja_kL_m hL (by omega)) fun X cx hz => ?_
  exact ret X cx.2.2.1 _ _ _ dX2_init_44 (q hz)
theorem gX4_init {l : Launch} {d K o : Nat} {sh : ja_S} {h : ja_H} {Q : ja_H → Prop} (hK : sh.length = K) (h1 : K < 900000) (ho : sh[o]? = some (0, 4)) (hz : ja_Hz K h) (q : ja_Hz (K + 3) ((ja_up (ja_up (ja_up h.1 o 0 (some K)) o 1 (some (K + 1))) o 2 (some (K + 2))), h.2.1, h.2.2) → Q ((ja_up (ja_up (ja_up h.1 o 0 (some K)) o 1 (some (K + 1))) o 2 (some (K + 2))), h.2.1, h.2.2)) : ja_G l (d + 1) mX4_init 3 428 sh [.inr (.inr (some o))] h [(1, 16), (1, 112), (1, 300)] Q := by
  refine ja_metG (by decide +kernel) (Nat.le_of_ble_eq_true rfl) rfl rfl ?_
  intro X cx hl hsh hnl ret has hho
  subst hsh
  have hL : ja_kL K (ja_pad mX4_init.2.2.1 (ja_en [.inr (.inr (some o))])) := fun v hv => by
    have hv : some v ∈ ([some (.inr (.inr (some o)))] : ja_L) := hv
    rw [List.mem_singleton] at hv
    cases hv
    exact Or.inl (by have := (List.getElem?_eq_some_iff.mp ho).1; omega)
  refine ja_s_aload_n cx.1 dX4_init_0 rfl rfl (jx_obj cx.1 jOX4 dX4_init_1 ?_)
  refine jx_arrI (k := K) (z := 16) cx dX4_init_4 rfl (fun h2 q => ja_s_bipush cx.1 dX4_init_5 (by decide) q) dX4_init_7 flX4_11 rfl rfl dX4_init_9 ho (by rw [hK]; rfl) (by omega) (by decide) (by decide) (by simp) (by simp) hz hL fun X cx hz => ?_
  refine jx_arrI (k := K + 1) (z := 112) cx dX4_init_12 rfl (fun h2 q => ja_s_bipush cx.1 dX4_init_13 (by decide) q) dX4_init_15 flX4_15 rfl rfl dX4_init_17 ho (by rw [hK]; rfl) (by omega) (by decide) (by decide) (by simp) (by simp) hz (ja_kL_m hL (by omega)) fun X cx hz => ?_
  refine jx_arrI (k := K + 2) (z := 300) cx dX4_init_20 rfl (fun h2 q => ja_s_sipush cx.1 dX4_init_21 (by decide) q) dX4_init_24 flX4_18 rfl rfl dX4_init_26 ho (by rw [hK]; rfl) (by omega) (by decide) (by decide) (by simp) (by simp) hz (ja_kL_m hL (by omega)) fun X cx hz => ?_
  exact ret X cx.2.2.1 _ _ _ dX4_init_29 (q hz)
theorem gX7_init {l : Launch} {d K o : Nat} {sh : ja_S} {h : ja_H} {Q : ja_H → Prop} (hK : sh.length = K) (h1 : K < 900000) (ho : sh[o]? = some (0, 7)) (hz : ja_Hz K h) (q : ja_Hz (K + 4) ((ja_up (ja_up (ja_up (ja_up h.1 o 0 (some K)) o 1 (some (K + 1))) o 2 (some (K + 2))) o 3 (some (K + 3))), h.2.1, h.2.2) → Q ((ja_up (ja_up (ja_up (ja_up h.1 o 0 (some K)) o 1 (some (K + 1))) o 2 (some (K + 2))) o 3 (some (K + 3))), h.2.1, h.2.2)) : ja_G l (d + 1) mX7_init 4 2181 sh [.inr (.inr (some o))] h [(1, 726), (1, 726), (1, 726), (1, 3)] Q := by
  refine ja_metG (by decide +kernel) (Nat.le_of_ble_eq_true rfl) rfl rfl ?_
  intro X cx hl hsh hnl ret has hho
  subst hsh
  have hL : ja_kL K (ja_pad mX7_init.2.2.1 (ja_en [.inr (.inr (some o))])) := fun v hv => by
    have hv : some v ∈ ([some (.inr (.inr (some o)))] : ja_L) := hv
    rw [List.mem_singleton] at hv
    cases hv
    exact Or.inl (by have := (List.getElem?_eq_some_iff.mp ho).1; omega)
  refine ja_s_aload_n cx.1 dX7_init_0 rfl rfl (jx_obj cx.1 jOX7 dX7_init_1 ?_)
  refine jx_arrI (k := K) (z := 726) cx dX7_init_4 rfl (fun h2 q => ja_s_sipush cx.1 dX7_init_5 (by decide) q) dX7_init_8 flX7_11 rfl rfl dX7_init_10 ho (by rw [hK]; rfl) (by omega) (by decide) (by decide) (by simp) (by simp) hz hL fun X cx hz => ?_
  refine jx_arrI (k := K + 1) (z := 726) cx dX7_init_13 rfl (fun h2 q => ja_s_sipush cx.1 dX7_init_14 (by decide) q) dX7_init_17 flX7_15 rfl rfl dX7_init_19 ho (by rw [hK]; rfl) (by omega) (by decide) (by decide) (by simp) (by simp) hz (ja_kL_m hL (by omega)) fun X cx hz => ?_
  refine jx_arrI (k := K + 2) (z := 726) cx dX7_init_22 rfl (fun h2 q => ja_s_sipush cx.1 dX7_init_23 (by decide) q) dX7_init_26 flX7_18 rfl rfl dX7_init_28 ho (by rw [hK]; rfl) (by omega) (by decide) (by decide) (by simp) (by simp) hz (ja_kL_m hL (by omega)) fun X cx hz => ?_
  refine jx_arrI (k := K + 3) (z := 3) cx dX7_init_31 rfl (fun h2 q => ja_s_iconst cx.1 dX7_init_32 (by decide) q) dX7_init_33 flX7_21 rfl rfl dX7_init_35 ho (by rw [hK]; rfl) (by omega) (by decide) (by decide) (by simp) (by simp) hz (ja_kL_m hL (by omega)) fun X cx hz => ?_
  exact ret X cx.2.2.1 _ _ _ dX7_init_38 (q hz)
theorem gX10_init {l : Launch} {d K o : Nat} {sh : ja_S} {h : ja_H} {Q : ja_H → Prop} (hK : sh.length = K) (h1 : K < 900000) (ho : sh[o]? = some (0, 10)) (hz : ja_Hz K h) (q : ja_Hz (K + 2) ((ja_up (ja_up h.1 o 0 (some K)) o 1 (some (K + 1))), h.2.1, h.2.2) → Q ((ja_up (ja_up h.1 o 0 (some K)) o 1 (some (K + 1))), h.2.1, h.2.2)) : ja_G l (d + 1) mX10_init 2 148 sh [.inr (.inr (some o))] h [(2, 144), (1, 4)] Q := by
  refine ja_metG (by decide +kernel) (Nat.le_of_ble_eq_true rfl) rfl rfl ?_
  intro X cx hl hsh hnl ret has hho
  subst hsh
  have hL : ja_kL K (ja_pad mX10_init.2.2.1 (ja_en [.inr (.inr (some o))])) := fun v hv => by
    have hv : some v ∈ ([some (.inr (.inr (some o)))] : ja_L) := hv
    rw [List.mem_singleton] at hv
    cases hv
    exact Or.inl (by have := (List.getElem?_eq_some_iff.mp ho).1; omega)
  refine ja_s_aload_n cx.1 dX10_init_0 rfl rfl (jx_obj cx.1 jOX10 dX10_init_1 ?_)
  refine jx_arrZ (k := K) (z := 144) cx dX10_init_4 rfl (fun h2 q => ja_s_sipush cx.1 dX10_init_5 (by decide) q) dX10_init_8 flX10_9 rfl rfl dX10_init_10 ho (by rw [hK]; rfl) (by omega) (by decide) (by decide) (by simp) (by simp) hz hL fun X cx hz => ?_
  refine jx_arrI (k := K + 1) (z := 4) cx dX10_init_13 rfl (fun h2 q => ja_s_iconst cx.1 dX10_init_14 (by decide) q) dX10_init_15 flX10_15 rfl rfl dX10_init_17 ho (by rw [hK]; rfl) (by omega) (by decide) (by decide) (by simp) (by simp) hz (ja_kL_m hL (by omega)) fun X cx hz => ?_
  exact ret X cx.2.2.1 _ _ _ dX10_init_20 (q hz)
