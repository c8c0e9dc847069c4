/-! Doer, Teller -/
def doH (h : ja_H) (o K : Nat) (w g : Int) : ja_H := (ja_up (ja_up (ja_up (ja_up h.1 o 1 (some K)) o 2 (some (K + 1))) (K + 2) 2 (some (K + 3))) o 0 (some (K + 2)), ja_up (ja_up h.2.1 (K + 2) 0 w) (K + 2) 1 g, h.2.2)
set_option maxRecDepth 10000 in
theorem gX1_init {l : Launch} {d K o n : Nat} {w g : Int} {sh : ja_S} {h : ja_H} {Q : ja_H → Prop} (hK : sh.length = K) (h1 : K < 800000) (ho : sh[o]? = some (0, 1)) (hw : 4 ≤ w ∧ w ≤ 12) (hg : 4 ≤ g ∧ g ≤ 12) (hn : (n : Int) = w * g) (hz : ja_Hz K h) (q : ja_Hz (K + 4) (doH h o K w g) → Q (doH h o K w g)) : ja_G l (d + 3) mX1_init 4 (73 + n) sh [.inr (.inr (some o)), .inl w, .inl g] h [(1, 64), (1, 6), (0, 3), (1, n)] Q := by
  refine ja_metG (by decide +kernel) (Nat.le_of_ble_eq_true rfl) rfl rfl ?_
  intro X cx hl hsh hnl ret has hho
  subst hsh
  have hoK : o < K := by have := (List.getElem?_eq_some_iff.mp ho).1; omega
  have hL : ja_kL K (ja_pad mX1_init.2.2.1 (ja_en [.inr (.inr (some o)), .inl w, .inl g])) := ja_kLo (l := [w, g]) hoK
  refine ja_s_aload_n cx.1 dX1_init_0 rfl rfl (jx_obj cx.1 jOX1 dX1_init_1 ?_)
  refine jx_arrI (k := K) (z := 64) cx dX1_init_4 rfl (fun h2 q => ja_s_bipush cx.1 dX1_init_5 (by decide) q) dX1_init_7 flX1_11 rfl rfl dX1_init_9 ho (by rw [hK]; rfl) (by omega) (by decide) (by decide) (by simp) (by show 0 + 64 ≤ _; omega) hz hL fun X1 cx1 hz1 => ?_
  refine jx_arrI (k := K + 1) (z := 6) cx1 dX1_init_12 rfl (fun h2 q => ja_s_bipush cx1.1 dX1_init_13 (by decide) q) dX1_init_15 flX1_17 rfl rfl dX1_init_17 ho (by rw [hK]; rfl) (by omega) (by decide) (by decide) (by simp) (by show 0 + 64 + 6 ≤ _; omega) hz1 (ja_kL_m hL (by omega)) fun X2 cx2 hz2 => ?_
  have len2 : (ja_sh X2).length = K + 2 := by rw [ja_Cx_len cx2, hK]; rfl
  refine ja_s_aload_n cx2.1 dX1_init_20 rfl rfl ?_
  refine jx_new cx2 jNX1_20 dX1_init_21 len2 (by omega) (by simp) (by show 0 + 64 + 6 + 3 ≤ _; omega) hz2.1 (ja_k1 (by omega)) (ja_kL_m hL (by omega)) (hz2.2 _ (Nat.le_refl _)) fun X3 cx3 => ?_
  have len3 : (ja_sh X3).length = K + 3 := by rw [ja_Cx_len cx3, hK]; rfl
  refine ja_s_dup cx3.1 dX1_init_24 rfl (ja_s_iload_n cx3.1 dX1_init_25 rfl rfl (ja_s_iload_n cx3.1 dX1_init_26 rfl rfl ?_))
  obtain ⟨h0, e0⟩ : ∃ h0 : ja_H, h0 = (ja_up (ja_up h.1 o 1 (some K)) o 2 (some (K + 1)), h.2.1, h.2.2) := ⟨_, rfl⟩
  dsimp only at hz2 ⊢
  rw [← e0] at hz2 ⊢
  refine jx_call (as := [.inl w, .inl g]) (r := K + 2) (st := [.inr (.inr (some (K + 2))), .inr (.inr (some o))]) (mc := 1) (ms := n) (ext2 := [(1, n)]) (Q2 := fun h' => h' = (ja_up h0.1 (K + 2) 2 (some (K + 3)), ja_up (ja_up h0.2.1 (K + 2) 0 w) (K + 2) 1 g, h0.2.2) ∧ ja_Hz (K + 4) h') cx3 jIX1_22 dX1_init_27 (d' := d + 2) (by omega) rfl (Nat.le_of_ble_eq_true rfl) (by simp) (by show 0 + 64 + 6 + 3 + n ≤ _; omega) (by rw [len3]; exact ja_k2 (by omega) (by omega)) (by rw [len3]; exact ja_kL_m hL (by omega)) (gX3_init len3 (by omega) (ja_Cx_at cx3 2 (by omega) rfl) hw hg hn (ja_Hz_m hz2 (by omega)) fun z => ⟨rfl, z⟩) fun X4 h4 hq cx4 => ?_
  obtain ⟨rfl, hz4⟩ := hq
  refine jx_putR cx4.1 cx4.2.1 flX1_25 rfl rfl dX1_init_30 (ja_Cx_old cx4 ho) ?_
  have hz5 := ja_Hz_R (o := o) (j := 0) (v := K + 2) hz4 (by omega) (by omega)
  subst e0
  exact ret X4 (ja_Gr_e cx4.2.2.1 rfl (by simp) (by show 0 + 64 + 6 + 3 + n = _; omega)) _ _ _ dX1_init_33 (q hz5)
def teH (h : ja_H) (o K : Nat) (w g : Int) : ja_H :=
  let h0 : ja_H := (ja_up (ja_up (ja_up h.1 o 0 (some K)) o 1 (some (K + 1))) o 2 (some (K + 2)), h.2.1, h.2.2)
  pH (pH (pH h0 K (K + 3) w g 0) K (K + 3) w g 1) K (K + 3) w g 2
set_option maxRecDepth 10000 in
theorem teI {X0 X : ja_X} {d K o n i : Nat} {w g : Int} {h : ja_H} (hK : (ja_sh X0).length = K) (h1 : K < 800000) (ho : (ja_sh X0)[o]? = some (0, 9)) (hw : 4 ≤ w ∧ w ≤ 12) (hg : 4 ≤ g ∧ g ≤ 12) (hn : (n : Int) = w * g) (hnl : X0.2.2.2.2.2.2 = 4) (hi : i < 3) (cx : ja_Cx X0 X cX9_init RX9 (d + 3) ([(4, 3), (1, 3), (1, 3)] ++ pcs n i) (3 + 2 * i) (9 + i * (3 + n)) 9 (18 + 3 * n)) (hz : ja_Hz (K + 3 + 2 * i) h) (hp : h.1 o 0 = some K)
    (kk : ∀ X', ja_Cx X0 X' cX9_init RX9 (d + 3) ([(4, 3), (1, 3), (1, 3)] ++ pcs n (i + 1)) (3 + 2 * (i + 1)) (9 + (i + 1) * (3 + n)) 9 (18 + 3 * n) → ja_Hz (K + 3 + 2 * (i + 1)) (pH h K (K + 3) w g i) → ja_At X' 28 (stL o w g ((i + 1 : Nat) : Int)) [] (pH h K (K + 3) w g i)) : ja_At X 28 (stL o w g (i : Int)) [] h := by
  have hoK : o < K := by have := (List.getElem?_eq_some_iff.mp ho).1; omega
  have len : (ja_sh X).length = K + 3 + 2 * i := by rw [ja_Cx_len cx, hK, List.length_append, pcs_len]; simp; omega
  have sK : (ja_sh X)[K]? = some (4, 3) := ja_Cx_at cx 0 (by omega) rfl
  have hnn : (i + 1) * (3 + n) = i * (3 + n) + (3 + n) := by rw [Nat.add_mul, Nat.one_mul]
  have hin : i * (3 + n) + (3 + n) ≤ 9 + 3 * n := by
    rw [← hnn]
    exact Nat.le_trans (Nat.mul_le_mul_right (3 + n) (show i + 1 ≤ 3 by omega)) (by omega)
  refine ja_s_iload_n cx.1 dX9_init_28 rfl rfl (ja_s_iconst cx.1 dX9_init_29 (v := 3) (by decide) (ja_s_icmp_ge cx.1 dX9_init_30 rfl (fun y => absurd y (by omega)) fun _ => ?_))
  refine ja_s_aload_n cx.1 dX9_init_33 rfl rfl (jx_gR cx.1 flX9_11 rfl dX9_init_34 (ja_Cx_old cx ho) hp (ja_s_iload_n cx.1 dX9_init_37 rfl rfl ?_))
  refine jx_new cx jNX9_9 dX9_init_38 len (by omega) (by omega) (by show 9 + i * (3 + n) + 3 ≤ _; omega) hz.1 (ja_k4 (by omega)) (ja_kLo (l := [w, g, (i : Int)]) (by omega)) (hz.2 _ (Nat.le_refl _)) fun X1 cx1 => ?_
  refine ja_s_dup cx1.1 dX9_init_41 rfl (ja_s_iload_n cx1.1 dX9_init_42 rfl rfl (ja_s_iload_n cx1.1 dX9_init_43 rfl rfl ?_))
  have len1 : (ja_sh X1).length = K + 3 + 2 * i + 1 := by rw [ja_Cx_len cx1, hK]; simp [pcs_len]; omega
  refine jx_call (as := [.inl w, .inl g]) (r := K + 3 + 2 * i) (st := [.inr (.inr (some (K + 3 + 2 * i))), .inl (i : Int), .inr (.inr (some K))]) (mc := 1) (ms := n) (ext2 := [(1, n)]) (Q2 := fun h' => h' = (ja_up h.1 (K + 3 + 2 * i) 2 (some (K + 3 + 2 * i + 1)), ja_up (ja_up h.2.1 (K + 3 + 2 * i) 0 w) (K + 3 + 2 * i) 1 g, h.2.2) ∧ ja_Hz (K + 3 + 2 * i + 2) h') cx1 jIX9_24 dX9_init_44 (d' := d + 2) (by omega) rfl (Nat.le_of_ble_eq_true rfl) (by omega) (by show 9 + i * (3 + n) + 3 + n ≤ _; omega) (by rw [len1]; exact ja_k3 (by omega) (by omega)) (by rw [len1]; exact ja_kLo (l := [w, g, (i : Int)]) (by omega)) (gX3_init len1 (by omega) (by rw [ja_Cx_sh cx1, ← List.append_assoc, List.getElem?_append_right (by rw [← ja_Cx_sh cx, len]; exact Nat.le_refl _), ← ja_Cx_sh cx, len, Nat.sub_self]; rfl) hw hg hn (ja_Hz_m hz (by omega)) fun z => ⟨rfl, z⟩) fun X2 h2 hq cx2 => ?_
  obtain ⟨rfl, hz2⟩ := hq
  have sK2 : (ja_sh X2)[K]? = some (4, 3) := ja_Cx_at cx2 0 (by omega) rfl
  have sv : (ja_sh X2)[K + 3 + 2 * i]? = some (0, 3) := by
    rw [ja_Cx_sh cx2, ← List.append_assoc, List.getElem?_append_left (by rw [← ja_Cx_sh cx1, len1]; omega), ← List.append_assoc, List.getElem?_append_right (by rw [← ja_Cx_sh cx, len]; exact Nat.le_refl _), ← ja_Cx_sh cx, len, Nat.sub_self]
    rfl
  refine jx_astP (i := 0) cx2.1 dX9_init_47 sK2 (by omega) (by omega) sv ?_
  refine ja_s_iinc cx2.1 dX9_init_48 (by rw [ja_Cx_nL cx2, hnl]; decide) rfl (ja_s_goto cx2.1 dX9_init_51 rfl ?_)
  have ei : ja_w ((i : Int) + 1) = ((i + 1 : Nat) : Int) := by rw [ja_w_id (by unfold ja_r; omega)]; omega
  rw [ei]
  refine kk X2 (ja_Cx_e cx2 (by simp [pcs]) (by omega) (by show 9 + i * (3 + n) + 3 + n = _; omega)) (pH_z hz2 (by omega))
set_option maxRecDepth 10000 in
theorem gX9_init {l : Launch} {d K o n : Nat} {w g : Int} {sh : ja_S} {h : ja_H} {Q : ja_H → Prop} (hK : sh.length = K) (h1 : K < 800000) (ho : sh[o]? = some (0, 9)) (hw : 4 ≤ w ∧ w ≤ 12) (hg : 4 ≤ g ∧ g ≤ 12) (hn : (n : Int) = w * g) (hz : ja_Hz K h) (q : ja_Hz (K + 9) (teH h o K w g) → Q (teH h o K w g)) : ja_G l (d + 3) mX9_init 9 (18 + 3 * n) sh [.inr (.inr (some o)), .inl w, .inl g] h ([(4, 3), (1, 3), (1, 3)] ++ pcs n 3) Q := by
  refine ja_metG (by decide +kernel) (Nat.le_of_ble_eq_true rfl) rfl rfl ?_
  intro X cx hl hsh hnl ret has hho
  subst hsh
  have hnl : X.2.2.2.2.2.2 = 4 := hnl
  have hoK : o < K := by have := (List.getElem?_eq_some_iff.mp ho).1; omega
  have hL : ja_kL K (ja_pad mX9_init.2.2.1 (ja_en [.inr (.inr (some o)), .inl w, .inl g])) := ja_kLn (l := [w, g]) (m := 1) hoK
  refine ja_s_aload_n cx.1 dX9_init_0 rfl rfl (jx_obj cx.1 jOX9 dX9_init_1 ?_)
  refine ja_s_aload_n cx.1 dX9_init_4 rfl rfl (ja_s_iconst cx.1 dX9_init_5 (v := 3) (by decide) ?_)
  refine jx_newP (z := 3) (st := [.inr (.inr (some o))]) cx jCX9_9 dX9_init_6 hK (by omega) (by decide) (by decide) (by omega) (by show 0 + 3 ≤ _; omega) hz.1 (ja_k1 hoK) hL (hz.2 K (Nat.le_refl K)) fun X1 cx1 => ?_
  refine jx_putR cx1.1 cx1.2.1 flX9_11 rfl rfl dX9_init_9 (ja_Cx_old cx1 ho) ?_
  have hz1 := ja_Hz_R (o := o) (j := 0) (v := K) (ja_Hz_m hz (Nat.le_succ K)) (by omega) (by omega)
  refine jx_arrI (k := K + 1) (z := 3) cx1 dX9_init_12 rfl (fun h2 q => ja_s_iconst cx1.1 dX9_init_13 (by decide) q) dX9_init_14 flX9_17 rfl rfl dX9_init_16 ho (by rw [hK]; rfl) (by omega) (by decide) (by decide) (by simp) (by show 0 + 3 + 3 ≤ _; omega) hz1 (ja_kL_m hL (by omega)) fun X2 cx2 hz2 => ?_
  refine jx_arrI (k := K + 2) (z := 3) cx2 dX9_init_19 rfl (fun h2 q => ja_s_iconst cx2.1 dX9_init_20 (by decide) q) dX9_init_21 flX9_21 rfl rfl dX9_init_23 ho (by rw [hK]; rfl) (by omega) (by decide) (by decide) (by simp) (by show 0 + 3 + 3 + 3 ≤ _; omega) hz2 (ja_kL_m hL (by omega)) fun X3 cx3 hz3 => ?_
  refine ja_s_iconst cx3.1 dX9_init_26 (v := 0) (by decide) (ja_s_istore_n cx3.1 dX9_init_27 rfl (by rw [ja_Cx_nL cx3, hnl]; decide) ?_)
  dsimp only at hz3 ⊢
  have cx3 : ja_Cx X X3 cX9_init RX9 (d + 3) ([(4, 3), (1, 3), (1, 3)] ++ pcs n 0) (3 + 2 * 0) (9 + 0 * (3 + n)) 9 (18 + 3 * n) := ja_Cx_e cx3 rfl rfl (by show 0 + 3 + 3 + 3 = _; omega)
  obtain ⟨h0, e0⟩ : ∃ h0 : ja_H, h0 = (ja_up (ja_up (ja_up h.1 o 0 (some K)) o 1 (some (K + 1))) o 2 (some (K + 2)), h.2.1, h.2.2) := ⟨_, rfl⟩
  rw [← e0] at hz3 ⊢
  have p2 : h0.1 o 0 = some K := by rw [e0]; dsimp only; unfold ja_up; simp
  have pp : ∀ (h' : ja_H) i j, (pH h' K (K + 3) w g i).1 o j = h'.1 o j := fun h' i j => pH_r (by omega) (by omega)
  refine teI (i := 0) hK h1 ho hw hg hn hnl (by decide) cx3 hz3 p2 fun X4 cx4 hz4 => ?_
  refine teI (i := 1) hK h1 ho hw hg hn hnl (by decide) cx4 hz4 (by rw [pp]; exact p2) fun X4 cx4 hz4 => ?_
  refine teI (i := 2) hK h1 ho hw hg hn hnl (by decide) cx4 hz4 (by rw [pp, pp]; exact p2) fun X4 cx4 hz4 => ?_
  rw [show ((2 + 1 : Nat) : Int) = 3 from rfl]
  refine ja_s_iload_n cx4.1 dX9_init_28 rfl rfl (ja_s_iconst cx4.1 dX9_init_29 (v := 3) (by decide) (ja_s_icmp_ge cx4.1 dX9_init_30 rfl (fun _ => ?_) fun y => absurd (by decide) y))
  subst e0
  exact ret X4 (ja_Gr_e cx4.2.2.1 rfl rfl (by show 9 + 3 * (3 + n) = 18 + 3 * n; omega)) _ _ _ dX9_init_54 (q hz4)
