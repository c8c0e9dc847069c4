/-! constructors: Picture, State, Doer, Teller -/
theorem ja_Gr_e {X X' : ja_X} {e e' : ja_S} {c c' s s' : Nat} (h : ja_Gr X X' e c s) (h1 : e = e') (h2 : c = c') (h3 : s = s') : ja_Gr X X' e' c' s' := by
  subst h1; subst h2; subst h3; exact h
theorem ja_Cx_e {X0 X : ja_X} {cc : ByteArray} {own : String} {d ce sl ce' sl' CE SL : Nat} {ext ext' : ja_S} (cx : ja_Cx X0 X cc own d ext ce sl CE SL) (h1 : ext = ext') (h2 : ce = ce') (h3 : sl = sl') : ja_Cx X0 X cc own d ext' ce' sl' CE SL := by
  subst h1; subst h2; subst h3; exact cx
theorem jx_gR {X : ja_X} {cc : ByteArray} {own : String} {d pc idx ci j k : Nat} {ty : FieldType} {fin : Bool} {L : ja_L} {st : List ja_W} {h : ja_H} {r : Option Nat} (ok : ja_Ok X cc own d) (hF : ja_F own idx ci j ty fin) (hty : ja_isR ty = true) (dg : decode cc pc = .ok (.getfield idx, 3)) (hk : (ja_sh X)[k]? = some (0, ci)) (e : h.1 k j = r) (kk : ja_At X (pc + 3) L (.inr (.inr r) :: st) h) : ja_At X pc L (.inr (.inr (some k)) :: st) h := ja_s_getR ok hF hty dg hk (by rw [e]; exact kk)
theorem ja_kS {n : Nat} {l : List Nat} (h : ∀ r ∈ l, r < n) : ∀ v ∈ l.map (fun r => (.inr (.inr (some r)) : ja_W)), ja_k n v := fun v hv => by
  obtain ⟨r, hr, rfl⟩ := List.mem_map.mp hv
  exact Or.inl (h r hr)
theorem ja_k2 {n a b : Nat} (ha : a < n) (hb : b < n) : ∀ v ∈ ([.inr (.inr (some a)), .inr (.inr (some b))] : List ja_W), ja_k n v := ja_kS (l := [a, b]) (by simp [ha, hb])
theorem ja_k3 {n a b : Nat} {z : Int} (ha : a < n) (hb : b < n) : ∀ v ∈ ([.inr (.inr (some a)), .inl z, .inr (.inr (some b))] : List ja_W), ja_k n v := fun v hv => by
  simp only [List.mem_cons, List.not_mem_nil, or_false] at hv
  rcases hv with rfl | rfl | rfl
  · exact Or.inl ha
  · trivial
  · exact Or.inl hb
theorem ja_k4 {n b : Nat} {z : Int} (hb : b < n) : ∀ v ∈ ([.inl z, .inr (.inr (some b))] : List ja_W), ja_k n v := fun v hv => by
  simp only [List.mem_cons, List.not_mem_nil, or_false] at hv
  rcases hv with rfl | rfl
  · trivial
  · exact Or.inl hb
theorem ja_kLo {n o : Nat} {l : List Int} (ho : o < n) : ja_kL n (some (.inr (.inr (some o))) :: l.map (fun z => some (.inl z))) := fun v hv => by
  rcases List.mem_cons.mp hv with e | e
  · cases e; exact Or.inl ho
  · obtain ⟨z, _, e⟩ := List.mem_map.mp e
    cases e
    trivial
theorem ja_kLn {n o : Nat} {l : List Int} {m : Nat} (ho : o < n) : ja_kL n (some (.inr (.inr (some o))) :: l.map (fun z => some (.inl z)) ++ List.replicate m none) := fun v hv => by
  rcases List.mem_append.mp hv with e | e
  · exact ja_kLo ho v e
  · have := List.eq_of_mem_replicate e
    cases this
theorem gX3_init {l : Launch} {d K o n : Nat} {w g : Int} {sh : ja_S} {h : ja_H} {Q : ja_H → Prop} (hK : sh.length = K) (h1 : K < 900000) (ho : sh[o]? = some (0, 3)) (hw : 4 ≤ w ∧ w ≤ 12) (hg : 4 ≤ g ∧ g ≤ 12) (hn : (n : Int) = w * g) (hz : ja_Hz K h) (q : ja_Hz (K + 1) (ja_up h.1 o 2 (some K), ja_up (ja_up h.2.1 o 0 w) o 1 g, h.2.2) → Q (ja_up h.1 o 2 (some K), ja_up (ja_up h.2.1 o 0 w) o 1 g, h.2.2)) : ja_G l (d + 2) mX3_init 1 n sh [.inr (.inr (some o)), .inl w, .inl g] h [(1, n)] Q := by
  have hb := jp_ix hw hg (x := 0) (y := 0) (by omega) (by omega)
  refine ja_metG (by decide +kernel) (Nat.le_of_ble_eq_true rfl) rfl rfl ?_
  intro X cx hl hsh hnl ret has hho
  subst hsh
  have hoK : o < K := by have := (List.getElem?_eq_some_iff.mp ho).1; omega
  have hL : ja_kL K (ja_pad mX3_init.2.2.1 (ja_en [.inr (.inr (some o)), .inl w, .inl g])) := ja_kLo (l := [w, g]) hoK
  refine ja_s_aload_n cx.1 dX3_init_0 rfl rfl (jx_obj cx.1 jOX3 dX3_init_1 ?_)
  refine ja_s_aload_n cx.1 dX3_init_4 rfl rfl ?_
  refine ja_s_iload_n cx.1 dX3_init_5 rfl rfl ?_
  refine ja_s_iconst cx.1 dX3_init_6 (v := 1) (by decide) ?_
  refine ja_s_bipush cx.1 dX3_init_7 (v := 12) (by decide) ?_

  refine ja_s_callN (as := [.inl w, .inl 1, .inl 12]) (st := [.inr (.inr (some o))]) (d' := d + 1) (Q2 := fun r h' => r = some (.inl 1) ∧ h = h') cx.1 mlX3_9 dX3_init_9 (by omega) rfl (Nat.le_of_ble_eq_true rfl) (kX11_within ⟨by rw [if_pos (by omega)], rfl⟩) fun r h' hq => ?_
  obtain ⟨rfl, rfl⟩ := hq
  refine ja_s_if_eq (x := 1) (st := [.inr (.inr (some o))]) cx.1 dX3_init_12 rfl (fun y => absurd y (by decide)) (fun _ => ?_)
  refine ja_s_iload_n cx.1 dX3_init_15 rfl rfl (ja_s_goto cx.1 dX3_init_16 rfl ?_)
  refine jx_putI cx.1 cx.2.1 flX3_13 rfl rfl dX3_init_21 ho ?_
  refine ja_s_aload_n cx.1 dX3_init_24 rfl rfl ?_
  refine ja_s_iload_n cx.1 dX3_init_25 rfl rfl ?_
  refine ja_s_iconst cx.1 dX3_init_26 (v := 1) (by decide) ?_
  refine ja_s_bipush cx.1 dX3_init_27 (v := 12) (by decide) ?_

  refine ja_s_callN (as := [.inl g, .inl 1, .inl 12]) (st := [.inr (.inr (some o))]) (d' := d + 1) (Q2 := fun r h' => r = some (.inl 1) ∧ (h.1, ja_up h.2.1 o 0 w, h.2.2) = h') cx.1 mlX3_9 dX3_init_29 (by omega) rfl (Nat.le_of_ble_eq_true rfl) (kX11_within ⟨by rw [if_pos (by omega)], rfl⟩) fun r h' hq => ?_
  obtain ⟨rfl, rfl⟩ := hq
  refine ja_s_if_eq (x := 1) (st := [.inr (.inr (some o))]) cx.1 dX3_init_32 rfl (fun y => absurd y (by decide)) (fun _ => ?_)
  refine ja_s_iload_n cx.1 dX3_init_35 rfl rfl (ja_s_goto cx.1 dX3_init_36 rfl ?_)
  refine jx_putI cx.1 cx.2.1 flX3_19 rfl rfl dX3_init_41 ho ?_
  refine ja_s_aload_n cx.1 dX3_init_44 rfl rfl (ja_s_aload_n cx.1 dX3_init_45 rfl rfl (ja_s_getI cx.1 flX3_13 rfl dX3_init_46 ho ?_))
  refine ja_s_aload_n cx.1 dX3_init_49 rfl rfl (ja_s_getI cx.1 flX3_19 rfl dX3_init_50 ho ?_)
  refine ja_s_imul cx.1 dX3_init_53 ?_
  have e : ja_w (ja_up (ja_up h.2.1 o 0 w) o 1 g o 0 * ja_up (ja_up h.2.1 o 0 w) o 1 g o 1) = (n : Int) := by
    rw [ja_upO (by omega), ja_upE rfl rfl, ja_upE rfl rfl, hn, ja_w_id (by unfold ja_r; omega)]
  dsimp only
  rw [e]
  have hz2 : ja_Hz K (h.1, ja_up (ja_up h.2.1 o 0 w) o 1 g, h.2.2) := ja_Hz_I (ja_Hz_I hz hoK) hoK
  refine jx_newI (st := [.inr (.inr (some o))]) cx waI dX3_init_54 hK (by omega) (by omega) (by omega) (by omega) (by simp) hz2.1 (ja_k1 hoK) hL (hz2.2 K (Nat.le_refl K)) ?_
  intro X' cx'
  refine jx_putR cx'.1 cx'.2.1 flX3_22 rfl rfl dX3_init_56 (ja_Cx_old cx' ho) ?_
  exact ret X' (ja_Gr_e cx'.2.2.1 (by simp) (by simp) (by simp)) _ _ _ dX3_init_59 (q (ja_Hz_R (ja_Hz_m hz2 (Nat.le_succ K)) (by omega) (by omega)))
/-- pictures one behind another: cells B, B + 2 .., in the array P -/
def pcs (n : Nat) : Nat → ja_S
  | 0 => []
  | i + 1 => pcs n i ++ [(0, 3), (1, n)]
theorem pcs_len {n : Nat} : ∀ i, (pcs n i).length = 2 * i
  | 0 => rfl
  | i + 1 => by rw [pcs, List.length_append, pcs_len i]; simp; omega
def pH (h : ja_H) (P B : Nat) (w g : Int) (i : Nat) : ja_H := (ja_up (ja_up h.1 (B + 2 * i) 2 (some (B + 2 * i + 1))) P i (some (B + 2 * i)), ja_up (ja_up h.2.1 (B + 2 * i) 0 w) (B + 2 * i) 1 g, h.2.2)
theorem pH_r {h : ja_H} {P B i a j : Nat} {w g : Int} (h1 : a ≠ P) (h2 : a < B) : (pH h P B w g i).1 a j = h.1 a j := by
  show ja_up (ja_up h.1 (B + 2 * i) 2 (some (B + 2 * i + 1))) P i (some (B + 2 * i)) a j = _
  rw [ja_upn _ _ h1, ja_upn _ _ (by omega)]
theorem pH_z {h : ja_H} {P B i : Nat} {w g : Int} (hz : ja_Hz (B + 2 * i + 2) (ja_up h.1 (B + 2 * i) 2 (some (B + 2 * i + 1)), ja_up (ja_up h.2.1 (B + 2 * i) 0 w) (B + 2 * i) 1 g, h.2.2)) (hP : P < B) : ja_Hz (B + 2 * (i + 1)) (pH h P B w g i) := by
  have := ja_Hz_R (o := P) (j := i) (v := B + 2 * i) hz (by omega) (by omega)
  rw [show B + 2 * (i + 1) = B + 2 * i + 2 by omega]
  exact this
def fil (f : Nat → Nat → Int) (c i m : Nat) (v : Int) : Nat → Nat → Int := fun a b => if a = c ∧ i ≤ b ∧ b < m then v else f a b
theorem fil_e {f : Nat → Nat → Int} {c m : Nat} {v : Int} : fil f c m m v = f := by
  funext a b
  unfold fil
  rw [if_neg (by omega)]
theorem fil_s {f : Nat → Nat → Int} {c i m : Nat} {v : Int} (h : i < m) : fil (ja_up f c i v) c (i + 1) m v = fil f c i m v := by
  funext a b
  unfold fil ja_up
  by_cases z : a = c ∧ i ≤ b ∧ b < m
  · rw [if_pos z]
    by_cases y : b = i
    · rw [if_neg (by omega), if_pos (by omega)]
    · rw [if_pos (by omega)]
  · rw [if_neg z, if_neg (by omega), if_neg (by omega)]
/-! State -/
def stH (h : ja_H) (o K : Nat) (w g : Int) : ja_H :=
  let h0 : ja_H := (ja_up (ja_up (ja_up h.1 o 2 (some K)) o 3 (some (K + 1))) o 4 (some (K + 2)), ja_up (ja_up (ja_up h.2.1 o 5 90) o 0 w) o 1 g, h.2.2)
  let h5 := pH (pH (pH (pH (pH h0 K (K + 3) w g 0) K (K + 3) w g 1) K (K + 3) w g 2) K (K + 3) w g 3) K (K + 3) w g 4
  (h5.1, fil h5.2.1 (K + 2) 0 24 50, h5.2.2)
abbrev stL (o : Nat) (w g i : Int) : ja_L := [some (.inr (.inr (some o))), some (.inl w), some (.inl g), some (.inl i)]
set_option maxRecDepth 10000 in
theorem stI {X0 X : ja_X} {d K o n i : Nat} {w g : Int} {h : ja_H} (hK : (ja_sh X0).length = K) (h1 : K < 800000) (ho : (ja_sh X0)[o]? = some (0, 8)) (hw : 4 ≤ w ∧ w ≤ 12) (hg : 4 ≤ g ∧ g ≤ 12) (hn : (n : Int) = w * g) (hnl : X0.2.2.2.2.2.2 = 4) (hi : i < 5) (cx : ja_Cx X0 X cX8_init RX8 (d + 3) ([(4, 5), (1, 4), (1, 24)] ++ pcs n i) (3 + 2 * i) (33 + i * (3 + n)) 13 (48 + 5 * n)) (hz : ja_Hz (K + 3 + 2 * i) h) (hp : h.1 o 2 = some K)
    (kk : ∀ X', ja_Cx X0 X' cX8_init RX8 (d + 3) ([(4, 5), (1, 4), (1, 24)] ++ pcs n (i + 1)) (3 + 2 * (i + 1)) (33 + (i + 1) * (3 + n)) 13 (48 + 5 * n) → ja_Hz (K + 3 + 2 * (i + 1)) (pH h K (K + 3) w g i) → ja_At X' 45 (stL o w g ((i + 1 : Nat) : Int)) [] (pH h K (K + 3) w g i)) : ja_At X 45 (stL o w g (i : Int)) [] h := by
  have hoK : o < K := by have := (List.getElem?_eq_some_iff.mp ho).1; omega
  have len : (ja_sh X).length = K + 3 + 2 * i := by rw [ja_Cx_len cx, hK, List.length_append, pcs_len]; simp; omega
  have sK : (ja_sh X)[K]? = some (4, 5) := ja_Cx_at cx 0 (by omega) rfl
  have hnn : (i + 1) * (3 + n) = i * (3 + n) + (3 + n) := by rw [Nat.add_mul, Nat.one_mul]
  have hin : i * (3 + n) + (3 + n) ≤ 15 + 5 * n := by
    rw [← hnn]
    exact Nat.le_trans (Nat.mul_le_mul_right (3 + n) (show i + 1 ≤ 5 by omega)) (by omega)
  refine ja_s_iload_n cx.1 dX8_init_45 rfl rfl (ja_s_aload_n cx.1 dX8_init_46 rfl rfl (jx_gR cx.1 flX8_11 rfl dX8_init_47 (ja_Cx_old cx ho) hp ?_))
  refine ja_s_alen4 cx.1 dX8_init_50 sK (by decide) (ja_s_icmp_ge cx.1 dX8_init_51 rfl (fun y => absurd y (by omega)) fun _ => ?_)
  refine ja_s_aload_n cx.1 dX8_init_54 rfl rfl (jx_gR cx.1 flX8_11 rfl dX8_init_55 (ja_Cx_old cx ho) hp (ja_s_iload_n cx.1 dX8_init_58 rfl rfl ?_))
  refine jx_new cx jNX8_9 dX8_init_59 len (by omega) (by omega) (by show 33 + i * (3 + n) + 3 ≤ _; omega) hz.1 (ja_k4 (by omega)) (ja_kLo (l := [w, g, (i : Int)]) (by omega)) (hz.2 _ (Nat.le_refl _)) fun X1 cx1 => ?_
  refine ja_s_dup cx1.1 dX8_init_62 rfl (ja_s_iload_n cx1.1 dX8_init_63 rfl rfl (ja_s_iload_n cx1.1 dX8_init_64 rfl rfl ?_))
  have len1 : (ja_sh X1).length = K + 3 + 2 * i + 1 := by rw [ja_Cx_len cx1, hK]; simp [pcs_len]; omega
  refine jx_call (as := [.inl w, .inl g]) (r := K + 3 + 2 * i) (st := [.inr (.inr (some (K + 3 + 2 * i))), .inl (i : Int), .inr (.inr (some K))]) (mc := 1) (ms := n) (ext2 := [(1, n)]) (Q2 := fun h' => h' = (ja_up h.1 (K + 3 + 2 * i) 2 (some (K + 3 + 2 * i + 1)), ja_up (ja_up h.2.1 (K + 3 + 2 * i) 0 w) (K + 3 + 2 * i) 1 g, h.2.2) ∧ ja_Hz (K + 3 + 2 * i + 2) h') cx1 jIX8_34 dX8_init_65 (d' := d + 2) (by omega) rfl (Nat.le_of_ble_eq_true rfl) (by omega) (by show 33 + i * (3 + n) + 3 + n ≤ _; omega) (by rw [len1]; exact ja_k3 (by omega) (by omega)) (by rw [len1]; exact ja_kLo (l := [w, g, (i : Int)]) (by omega)) (gX3_init len1 (by omega) (by rw [ja_Cx_sh cx1, ← List.append_assoc, List.getElem?_append_right (by rw [← ja_Cx_sh cx, len]; exact Nat.le_refl _), ← ja_Cx_sh cx, len, Nat.sub_self]; rfl) hw hg hn (ja_Hz_m hz (by omega)) fun z => ⟨rfl, z⟩) fun X2 h2 hq cx2 => ?_
  obtain ⟨rfl, hz2⟩ := hq
  have sK2 : (ja_sh X2)[K]? = some (4, 5) := ja_Cx_at cx2 0 (by omega) rfl
  have sv : (ja_sh X2)[K + 3 + 2 * i]? = some (0, 3) := by
    rw [ja_Cx_sh cx2, ← List.append_assoc, List.getElem?_append_left (by rw [← ja_Cx_sh cx1, len1]; omega), ← List.append_assoc, List.getElem?_append_right (by rw [← ja_Cx_sh cx, len]; exact Nat.le_refl _), ← ja_Cx_sh cx, len, Nat.sub_self]
    rfl
  refine jx_astP (i := 0) cx2.1 dX8_init_68 sK2 (by omega) (by omega) sv ?_
  refine ja_s_iinc cx2.1 dX8_init_69 (by rw [ja_Cx_nL cx2, hnl]; decide) rfl (ja_s_goto cx2.1 dX8_init_72 rfl ?_)
  have ei : ja_w ((i : Int) + 1) = ((i + 1 : Nat) : Int) := by rw [ja_w_id (by unfold ja_r; omega)]; omega
  rw [ei]
  refine kk X2 (ja_Cx_e cx2 (by simp [pcs]) (by omega) (by show 33 + i * (3 + n) + 3 + n = _; omega)) (pH_z hz2 (by omega))
theorem stF2 {X0 X : ja_X} {d K o : Nat} {ext : ja_S} {ce sl CE SL : Nat} {w g : Int} (ho : (ja_sh X0)[o]? = some (0, 8)) (hnl : X0.2.2.2.2.2.2 = 4) (cx : ja_Cx X0 X cX8_init RX8 (d + 3) ext ce sl CE SL) (sK : (ja_sh X)[K]? = some (1, 24)) : ∀ (m i : Nat) (h : ja_H), m + i = 24 → h.1 o 4 = some K → ja_At X 100 (stL o w g 24) [] (h.1, fil h.2.1 K i 24 50, h.2.2) → ja_At X 77 (stL o w g (i : Int)) [] h := by
  intro m
  induction m with
  | zero =>
    intro i h hi hp kk
    have hi : i = 24 := by omega
    subst hi
    refine ja_s_iload_n cx.1 dX8_init_77 rfl rfl (ja_s_aload_n cx.1 dX8_init_78 rfl rfl (jx_gR cx.1 flX8_21 rfl dX8_init_79 (ja_Cx_old cx ho) hp ?_))
    refine ja_s_alen1 cx.1 dX8_init_82 sK (by decide) (ja_s_icmp_ge cx.1 dX8_init_83 rfl (fun _ => ?_) fun y => absurd (by omega) y)
    rw [fil_e] at kk
    exact kk
  | succ m ih =>
    intro i h hi hp kk
    refine ja_s_iload_n cx.1 dX8_init_77 rfl rfl (ja_s_aload_n cx.1 dX8_init_78 rfl rfl (jx_gR cx.1 flX8_21 rfl dX8_init_79 (ja_Cx_old cx ho) hp ?_))
    refine ja_s_alen1 cx.1 dX8_init_82 sK (by decide) (ja_s_icmp_ge cx.1 dX8_init_83 rfl (fun y => absurd y (by omega)) fun _ => ?_)
    refine ja_s_aload_n cx.1 dX8_init_86 rfl rfl (jx_gR cx.1 flX8_21 rfl dX8_init_87 (ja_Cx_old cx ho) hp (ja_s_iload_n cx.1 dX8_init_90 rfl rfl (ja_s_bipush cx.1 dX8_init_91 (v := 50) (by decide) ?_)))
    refine ja_s_iast cx.1 dX8_init_93 sK (by omega) (by omega) (ja_s_iinc cx.1 dX8_init_94 (by rw [ja_Cx_nL cx, hnl]; decide) rfl (ja_s_goto cx.1 dX8_init_97 rfl ?_))
    have ei : ja_w ((i : Int) + 1) = ((i + 1 : Nat) : Int) := by rw [ja_w_id (by unfold ja_r; omega)]; omega
    rw [ei, Int.toNat_natCast]
    refine ih (i + 1) (h.1, ja_up h.2.1 K i 50, h.2.2) (by omega) hp ?_
    dsimp only
    rw [fil_s (by omega)]
    exact kk
set_option maxRecDepth 10000 in
theorem gX8_init {l : Launch} {d K o n : Nat} {w g : Int} {sh : ja_S} {h : ja_H} {Q : ja_H → Prop} (hK : sh.length = K) (h1 : K < 800000) (ho : sh[o]? = some (0, 8)) (hw : 4 ≤ w ∧ w ≤ 12) (hg : 4 ≤ g ∧ g ≤ 12) (hn : (n : Int) = w * g) (hz : ja_Hz K h) (q : ja_Hz (K + 13) (stH h o K w g) → Q (stH h o K w g)) : ja_G l (d + 3) mX8_init 13 (48 + 5 * n) sh [.inr (.inr (some o)), .inl w, .inl g] h ([(4, 5), (1, 4), (1, 24)] ++ pcs n 5) Q := by
  refine ja_metG (by decide +kernel) (Nat.le_of_ble_eq_true rfl) rfl rfl ?_
  intro X cx hl hsh hnl ret has hho
  subst hsh
  have hnl : X.2.2.2.2.2.2 = 4 := hnl
  have hoK : o < K := by have := (List.getElem?_eq_some_iff.mp ho).1; omega
  have hL : ja_kL K (ja_pad mX8_init.2.2.1 (ja_en [.inr (.inr (some o)), .inl w, .inl g])) := ja_kLn (l := [w, g]) (m := 1) hoK
  refine ja_s_aload_n cx.1 dX8_init_0 rfl rfl (jx_obj cx.1 jOX8 dX8_init_1 ?_)
  refine ja_s_aload_n cx.1 dX8_init_4 rfl rfl (ja_s_iconst cx.1 dX8_init_5 (v := 5) (by decide) ?_)
  refine jx_newP (z := 5) (st := [.inr (.inr (some o))]) cx jCX8_9 dX8_init_6 hK (by omega) (by decide) (by decide) (by omega) (by show 0 + 5 ≤ _; omega) hz.1 (ja_k1 hoK) hL (hz.2 K (Nat.le_refl K)) fun X1 cx1 => ?_
  refine jx_putR cx1.1 cx1.2.1 flX8_11 rfl rfl dX8_init_9 (ja_Cx_old cx1 ho) ?_
  have hz1 := ja_Hz_R (o := o) (j := 2) (v := K) (ja_Hz_m hz (Nat.le_succ K)) (by omega) (by omega)
  refine jx_arrI (k := K + 1) (z := 4) cx1 dX8_init_12 rfl (fun h2 q => ja_s_iconst cx1.1 dX8_init_13 (by decide) q) dX8_init_14 flX8_17 rfl rfl dX8_init_16 ho (by rw [hK]; rfl) (by omega) (by decide) (by decide) (by simp) (by show 0 + 5 + 4 ≤ _; omega) hz1 (ja_kL_m hL (by omega)) fun X2 cx2 hz2 => ?_
  refine jx_arrI (k := K + 2) (z := 24) cx2 dX8_init_19 rfl (fun h2 q => ja_s_bipush cx2.1 dX8_init_20 (by decide) q) dX8_init_22 flX8_21 rfl rfl dX8_init_24 ho (by rw [hK]; rfl) (by omega) (by decide) (by decide) (by simp) (by show 0 + 5 + 4 + 24 ≤ _; omega) hz2 (ja_kL_m hL (by omega)) fun X3 cx3 hz3 => ?_
  refine ja_s_aload_n cx3.1 dX8_init_27 rfl rfl (ja_s_bipush cx3.1 dX8_init_28 (v := 90) (by decide) (ja_s_putI cx3.1 flX8_24 rfl dX8_init_30 (ja_Cx_old cx3 ho) ?_))
  refine ja_s_aload_n cx3.1 dX8_init_33 rfl rfl (ja_s_iload_n cx3.1 dX8_init_34 rfl rfl (jx_putI cx3.1 cx3.2.1 flX8_28 rfl rfl dX8_init_35 (ja_Cx_old cx3 ho) ?_))
  refine ja_s_aload_n cx3.1 dX8_init_38 rfl rfl (ja_s_iload_n cx3.1 dX8_init_39 rfl rfl (jx_putI cx3.1 cx3.2.1 flX8_31 rfl rfl dX8_init_40 (ja_Cx_old cx3 ho) ?_))
  refine ja_s_iconst cx3.1 dX8_init_43 (v := 0) (by decide) (ja_s_istore_n cx3.1 dX8_init_44 rfl (by rw [ja_Cx_nL cx3, hnl]; decide) ?_)
  have hz3 := ja_Hz_I (o := o) (j := 1) (z := g) (ja_Hz_I (o := o) (j := 0) (z := w) (ja_Hz_I (o := o) (j := 5) (z := 90) hz3 (by omega)) (by omega)) (by omega)
  dsimp only at hz3 ⊢
  have cx3 : ja_Cx X X3 cX8_init RX8 (d + 3) ([(4, 5), (1, 4), (1, 24)] ++ pcs n 0) (3 + 2 * 0) (33 + 0 * (3 + n)) 13 (48 + 5 * n) := ja_Cx_e cx3 rfl rfl (by show 0 + 5 + 4 + 24 = _; omega)
  obtain ⟨h0, e0⟩ : ∃ h0 : ja_H, h0 = (ja_up (ja_up (ja_up h.1 o 2 (some K)) o 3 (some (K + 1))) o 4 (some (K + 2)), ja_up (ja_up (ja_up h.2.1 o 5 90) o 0 w) o 1 g, h.2.2) := ⟨_, rfl⟩
  rw [← e0] at hz3 ⊢
  have p2 : h0.1 o 2 = some K := by rw [e0]; dsimp only; unfold ja_up; simp
  have p4 : h0.1 o 4 = some (K + 2) := by rw [e0]; dsimp only; unfold ja_up; simp
  have pp : ∀ (h' : ja_H) i j, (pH h' K (K + 3) w g i).1 o j = h'.1 o j := fun h' i j => pH_r (by omega) (by omega)
  refine stI (i := 0) hK h1 ho hw hg hn hnl (by decide) cx3 hz3 p2 fun X4 cx4 hz4 => ?_
  refine stI (i := 1) hK h1 ho hw hg hn hnl (by decide) cx4 hz4 (by rw [pp]; exact p2) fun X4 cx4 hz4 => ?_
  refine stI (i := 2) hK h1 ho hw hg hn hnl (by decide) cx4 hz4 (by rw [pp, pp]; exact p2) fun X4 cx4 hz4 => ?_
  refine stI (i := 3) hK h1 ho hw hg hn hnl (by decide) cx4 hz4 (by rw [pp, pp, pp]; exact p2) fun X4 cx4 hz4 => ?_
  refine stI (i := 4) hK h1 ho hw hg hn hnl (by decide) cx4 hz4 (by rw [pp, pp, pp, pp]; exact p2) fun X4 cx4 hz4 => ?_
  obtain ⟨h5, e5⟩ : ∃ h5 : ja_H, h5 = pH (pH (pH (pH (pH h0 K (K + 3) w g 0) K (K + 3) w g 1) K (K + 3) w g 2) K (K + 3) w g 3) K (K + 3) w g 4 := ⟨_, rfl⟩
  have p2 : h5.1 o 2 = some K := by rw [e5, pp, pp, pp, pp, pp]; exact p2
  have p4 : h5.1 o 4 = some (K + 2) := by rw [e5, pp, pp, pp, pp, pp]; exact p4
  rw [show ((4 + 1 : Nat) : Int) = 5 from rfl]
  rw [← e5] at hz4 ⊢
  refine ja_s_iload_n cx4.1 dX8_init_45 rfl rfl (ja_s_aload_n cx4.1 dX8_init_46 rfl rfl (jx_gR cx4.1 flX8_11 rfl dX8_init_47 (ja_Cx_old cx4 ho) p2 ?_))
  refine ja_s_alen4 cx4.1 dX8_init_50 (ja_Cx_at cx4 0 (by omega) rfl) (by decide) (ja_s_icmp_ge cx4.1 dX8_init_51 rfl (fun _ => ?_) fun y => absurd (by decide) y)
  refine ja_s_iconst cx4.1 dX8_init_75 (v := 0) (by decide) (ja_s_istore_n cx4.1 dX8_init_76 rfl (by rw [ja_Cx_nL cx4, hnl]; decide) ?_)
  refine stF2 ho hnl cx4 (ja_Cx_at cx4 2 (by omega) rfl) 24 0 h5 rfl p4 ?_
  have hzf : ja_Hz (K + 13) (stH h o K w g) := by
    have e : stH h o K w g = (h5.1, fil h5.2.1 (K + 2) 0 24 50, h5.2.2) := by rw [e5, e0]; rfl
    rw [e]
    refine ⟨fun a b r er => ?_, fun a ha i => ?_⟩
    · have := hz4.1 a b r er; omega
    · have := hz4.2 a (by omega) i
      refine ⟨this.1, ?_, this.2.2⟩
      show fil h5.2.1 (K + 2) 0 24 50 a i = 0
      unfold fil
      rw [if_neg (by omega)]
      exact this.2.1
  have e : (h5.1, fil h5.2.1 (K + 2) 0 24 50, h5.2.2) = stH h o K w g := by rw [e5, e0]; rfl
  rw [e]
  exact ret X4 (ja_Gr_e cx4.2.2.1 rfl rfl (by show 33 + 5 * (3 + n) = 48 + 5 * n; omega)) _ _ _ dX8_init_100 (q hzf)
