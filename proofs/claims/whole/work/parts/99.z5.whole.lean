/-! the text constants and the statics, as the Statement gives them -/
theorem law_m1 : ∀ i, i < 12 → Cond.exactly (Term.string RX5 (jst_ix.getD i 0)) "java/lang/String" ∈ flatC (Jvm.Cond.and given_1 narrow_1) := by decide +kernel
theorem law_m2 : ∀ i, i < 12 → Cond.eq (.field (Term.string RX5 (jst_ix.getD i 0)) "java/lang/String" "coder" "B") (.int 0) ∈ flatC (Jvm.Cond.and given_1 narrow_1) := by decide +kernel
theorem law_m3 : ∀ i, i < 12 → Cond.arrayOf (.field (Term.string RX5 (jst_ix.getD i 0)) "java/lang/String" "value" "[B") .byte ∈ flatC (Jvm.Cond.and given_1 narrow_1) := by decide +kernel
theorem law_m4 : ∀ i, i < 12 → Cond.eq (.length (.field (Term.string RX5 (jst_ix.getD i 0)) "java/lang/String" "value" "[B")) (.int (Int32.ofNat (jst_len.getD i 0))) ∈ flatC (Jvm.Cond.and given_1 narrow_1) := by decide +kernel
theorem law_m5 : ∀ i, i < 12 → ∀ j, j < jst_len.getD i 0 → Cond.eq (.elem (.field (Term.string RX5 (jst_ix.getD i 0)) "java/lang/String" "value" "[B") (.int (Int32.ofNat j))) (.int ((jst_byt.getD i []).getD j 0)) ∈ flatC (Jvm.Cond.and given_1 narrow_1) := by decide +kernel
theorem law_m6 : ∀ i, i < 12 → ∀ j, j < 12 → i ≠ j → Cond.not (Cond.eq (Term.string RX5 (jst_ix.getD i 0)) (Term.string RX5 (jst_ix.getD j 0))) ∈ flatC (Jvm.Cond.and given_1 narrow_1) ∨ Cond.not (Cond.eq (Term.string RX5 (jst_ix.getD j 0)) (Term.string RX5 (jst_ix.getD i 0))) ∈ flatC (Jvm.Cond.and given_1 narrow_1) := by decide +kernel
theorem law_m7 : Cond.eq (Term.static "java/lang/String" "COMPACT_STRINGS" "Z") (.int 1) ∈ flatC (Jvm.Cond.and given_1 narrow_1) := by decide +kernel
theorem law_m8 : Cond.isRef (Term.static "jdk/internal/util/Preconditions" "SIOOBE_FORMATTER" "Ljava/util/function/BiFunction;") ∈ flatC (Jvm.Cond.and given_1 narrow_1) := by decide +kernel
theorem law_w1 : ∀ i, i < 12 → Cond.stringRef RX5 (jst_ix.getD i 0) (jst_tx.getD i "") ∈ tables_1 := by decide +kernel
theorem law_w2 : Cond.laysStatic "java/lang/String" "COMPACT_STRINGS" "Z" ∈ tables_1 := by decide +kernel
theorem law_w3 : Cond.initialized "java/lang/String" ∈ tables_1 := by decide +kernel
theorem law_w4 : Cond.laysStatic "jdk/internal/util/Preconditions" "SIOOBE_FORMATTER" "Ljava/util/function/BiFunction;" ∈ tables_1 := by decide +kernel
theorem law_w5 : Cond.initialized "jdk/internal/util/Preconditions" ∈ tables_1 := by decide +kernel
theorem law_str {s : Jvm.State} {b : Nat} (hts : ∀ w ∈ lw_tbl, w.before #[Value.ref b] s = true) (hgv : (Jvm.Cond.and given_1 narrow_1).before #[Value.ref b] s = true) : ∃ ad : Nat → Nat, ad 3000000 = b ∧ ja_str (fun q => s.heap.size ≤ q) ad s := by
  have hs := flat_of_before _ hgv
  have ht : ∀ w ∈ tables_1, w.before #[Value.ref b] s = true := fun w hw => hts w (List.mem_append_right _ hw)
  have hA : ∀ a : Nat, a < s.heap.size → ¬ (s.heap.size ≤ a) := fun a ha => Nat.not_le.mpr ha
  obtain ⟨adK, adV, hS, hE⟩ := vk_Sof (args := #[Value.ref b]) (s := s) (N := 12) (tm := fun i => Term.string RX5 (jst_ix.getD i 0)) (len := jst_len) (byt := jst_byt) (A := fun q => s.heap.size ≤ q) (by decide +kernel) (fun i hi => hs _ (law_m1 i hi)) (fun i hi => hs _ (law_m2 i hi)) (fun i hi => hs _ (law_m3 i hi)) (fun i hi => hs _ (law_m4 i hi)) (fun i hi j hj => hs _ (law_m5 i hi j hj)) (fun i j hi hj hn => by
    rcases law_m6 i hi j hj hn with y | y
    · exact Or.inl (hs _ y)
    · exact Or.inr (hs _ y)) hA
  have hZ1 : va_Z "java/lang/String" "COMPACT_STRINGS" "Z" (.int 1) (fun q => s.heap.size ≤ q) s s.heap := va_Zof (ht _ law_w2) (ht _ law_w3) (va_eqt (hs _ law_m7)) hA
  have hZ2 : va_Zq "jdk/internal/util/Preconditions" "SIOOBE_FORMATTER" "Ljava/util/function/BiFunction;" (fun q => s.heap.size ≤ q) s s.heap := va_Zqof (ht _ law_w4) (ht _ law_w5) (hs _ law_m8) hA
  obtain ⟨t0, r, hr, hZ3⟩ : ∃ (t0 : Nat) (r : Option Nat), (∀ k, r = some k → k = 4000000) ∧ va_Z "jdk/internal/util/Preconditions" "SIOOBE_FORMATTER" "Ljava/util/function/BiFunction;" (va_rf (r.map fun _ => t0)) (fun q => s.heap.size ≤ q) s s.heap := by
    rcases hZ2 with y | ⟨t, y⟩
    · exact ⟨0, none, fun k e => (by cases e), y⟩
    · exact ⟨t, some 4000000, fun k e => (by cases e; rfl), y⟩
  obtain ⟨ad, had⟩ : ∃ ad : Nat → Nat, ad = fun k => if k = 3000000 then b else if k = 4000000 then t0 else if k < 2000000 then adK (k - 1000000) else adV (k - 2000000) := ⟨_, rfl⟩
  have e1 : ∀ i, i < 12 → ad (1000000 + i) = adK i := fun i hi => by
    rw [had]
    dsimp only
    rw [if_neg (by omega), if_neg (by omega), if_pos (by omega)]
    rw [show 1000000 + i - 1000000 = i by omega]
  have e2 : ∀ i, i < 12 → ad (2000000 + i) = adV i := fun i hi => by
    rw [had]
    dsimp only
    rw [if_neg (by omega), if_neg (by omega), if_neg (by omega)]
    rw [show 2000000 + i - 2000000 = i by omega]
  have e4 : ad 4000000 = t0 := by
    rw [had]
    dsimp only
    rw [if_neg (by omega), if_pos rfl]
  refine ⟨ad, by rw [had]; dsimp only; rw [if_pos rfl], ⟨fun i hi => ?_, fun i j hi hj e => ?_⟩, fun i hi => ?_, hZ1, r, fun k e => by have := hr k e; omega, ?_⟩
  · dsimp only
    rw [e1 i hi, e2 i hi]
    exact hS.1 i hi
  · dsimp only at e
    rw [e1 i hi, e1 j hj] at e
    exact hS.2 i j hi hj e
  · rw [e1 i hi]
    exact vk_R.of (ht _ (law_w1 i hi)) (hE i hi)
  · have : r.map ad = r.map fun _ => t0 := by
      cases r with
      | none => rfl
      | some k => show some (ad k) = some t0; rw [hr k rfl, e4]
    rw [this]
    exact hZ3
theorem kL_of {n : Nat} {L : ja_L} (h : L.all (fun o => match o with | some (.inr (.inr (some r))) => decide (r < n ∨ 1000000 ≤ r) | _ => true) = true) : ja_kL n L := fun v hv => by
  have := List.all_eq_true.mp h _ hv
  rcases v with z | z | _ | r
  · trivial
  · trivial
  · trivial
  · exact (of_decide_eq_true this : r < n ∨ 1000000 ≤ r)
theorem kS_of {n : Nat} {L : List ja_W} (h : L.all (fun o => match o with | .inr (.inr (some r)) => decide (r < n ∨ 1000000 ≤ r) | _ => true) = true) : ∀ v ∈ L, ja_k n v := fun v hv => by
  have := List.all_eq_true.mp h _ hv
  rcases v with z | z | _ | r
  · trivial
  · trivial
  · trivial
  · exact (of_decide_eq_true this : r < n ∨ 1000000 ≤ r)
set_option maxRecDepth 10000 in
set_option maxHeartbeats 4000000 in
theorem law_walk0 {X0 : ja_X} {L : Nat} {xs : Nat → Int32} (hL : L ≤ 3586) (cx0 : ja_Cy X0 X0 cL_law RL 60 [] 0 0 108 100000) (sc0 : ja_Sc X0 L xs) (sh0 : ja_sh X0 = []) (hnl : X0.2.2.2.2.2.2 = 4) (fin : ∀ X : ja_X, ∀ (ext : ja_S) (sl : Nat), ja_Gr X0 X ext 108 sl → sl ≤ 100000 → ∀ (Lc : ja_L) (h : ja_H), ja_At X 1425 Lc [.inl 1] h) : ja_At X0 0 [some (.inr (.inr (some 3000000))), none, none, none] [] hZ := by
  obtain ⟨w0, hw0⟩ : ∃ w0 : Int, w0 = if 0 < L then (xs 0).toInt else 0 := ⟨_, rfl⟩
  obtain ⟨g0, hg0⟩ : ∃ g0 : Int, g0 = if 1 < L then (xs 1).toInt else 0 := ⟨_, rfl⟩
  obtain ⟨w, ew⟩ : ∃ w : Nat, (w : Int) = max 4 (min 12 w0) := ⟨(max 4 (min 12 w0)).toNat, by omega⟩
  obtain ⟨g, eg⟩ : ∃ g : Nat, (g : Int) = max 4 (min 12 g0) := ⟨(max 4 (min 12 g0)).toNat, by omega⟩
  have hb : 4 ≤ (w : Int) ∧ (w : Int) ≤ 12 ∧ 4 ≤ (g : Int) ∧ (g : Int) ≤ 12 := by omega
  obtain ⟨n, hn⟩ : ∃ n : Nat, (n : Int) = (w : Int) * (g : Int) := ⟨w * g, Int.natCast_mul w g⟩
  have n144 : n ≤ 144 := by
    have e : n = w * g := by have := Int.natCast_mul w g; omega
    have := Nat.mul_le_mul (show w ≤ 12 by omega) (show g ≤ 12 by omega)
    omega
  refine jz_new (k := 0) (st := []) (L := [some (.inr (.inr (some 3000000))), none, none, none]) cx0 jNL_7 dL_law_0 (by rw [sh0]; rfl) (by decide) (by decide) (by show 0 + 11 ≤ 100000; omega) (hZ_z 0).1 (fun v hv => by cases hv) (kL_of (by decide)) ((hZ_z 0).2 0 (Nat.le_refl 0)) fun X1 cx1 => ?_
  have sc1 := ja_Sc_gr sc0 cx1.2.2.1
  have sh1 : ja_sh X1 = [(0, 11)] := by rw [ja_Cy_sh cx1, sh0]; rfl
  refine ja_s_dup cx1.1 dL_law_3 rfl (ja_s_aload_n cx1.1 dL_law_4 rfl rfl (ja_s_iconst cx1.1 dL_law_5 (v := 0) (by decide) ?_))
  refine jz_callS (as := [.inr (.inr (some 3000000)), .inl ((0 : Nat) : Int)]) (st := [.inr (.inr (some 0)), .inr (.inr (some 0))]) (d' := 59) (Q2 := fun r h' => r = some (.inl w0) ∧ hZ = h') cx1.1 sc1 mlL_9 dL_law_6 (by decide) rfl (Nat.le_of_ble_eq_true rfl) (kL_cell (d := 58) (by decide) (by omega) ⟨by rw [hw0], rfl⟩) fun r h' hq => ?_
  obtain ⟨rfl, rfl⟩ := hq
  change ja_At X1 9 _ [.inl w0, .inr (.inr (some 0)), .inr (.inr (some 0))] hZ
  refine ja_s_aload_n cx1.1 dL_law_9 rfl rfl (ja_s_iconst cx1.1 dL_law_10 (v := 1) (by decide) ?_)
  refine jz_callS (as := [.inr (.inr (some 3000000)), .inl ((1 : Nat) : Int)]) (st := [.inl w0, .inr (.inr (some 0)), .inr (.inr (some 0))]) (d' := 59) (Q2 := fun r h' => r = some (.inl g0) ∧ hZ = h') cx1.1 sc1 mlL_9 dL_law_11 (by decide) rfl (Nat.le_of_ble_eq_true rfl) (kL_cell (d := 58) (by decide) (by omega) ⟨by rw [hg0], rfl⟩) fun r h' hq => ?_
  obtain ⟨rfl, rfl⟩ := hq
  change ja_At X1 14 _ [.inl g0, .inl w0, .inr (.inr (some 0)), .inr (.inr (some 0))] hZ
  refine jz_call (as := [.inl w0, .inl g0]) (r := 0) (L := [some (.inr (.inr (some 3000000))), none, none, none]) (st := [.inr (.inr (some 0))]) (mc := 89) (ms := 5633 + 14 * n) (ext2 := ((js_sh n).take 90).drop 1) (Q2 := fun h' => h' = tw17 w g ∧ ja_Hz 90 h') (d' := 59) cx1 jIL_15 dL_law_14 (by decide) rfl (Nat.le_of_ble_eq_true rfl) (by decide) (by show 0 + 11 + (5633 + 14 * n) ≤ 100000; omega) (by rw [sh1]; exact kS_of (by decide)) (by rw [sh1]; exact kL_of (by decide)) (by rw [sh1]; exact gX11_init (d := 55) ew eg hn fun z => ⟨rfl, z⟩) fun X2 h2 hq cx2 => ?_
  obtain ⟨rfl, hz2⟩ := hq
  have cx2 : ja_Cy X0 X2 cL_law RL 60 ((js_sh n).take 90) 90 (5644 + 14 * n) 108 100000 := ja_Cy_e cx2 rfl rfl (by show 0 + 11 + (5633 + 14 * n) = _; omega)
  have sh2 : ja_sh X2 = (js_sh n).take 90 := by rw [ja_Cy_sh cx2, sh0]; rfl
  refine ja_s_astore_n cx2.1 dL_law_17 rfl (by rw [ja_Cy_nL cx2, hnl]; decide) ?_
  change ja_At X2 18 [some (.inr (.inr (some 3000000))), some (.inr (.inr (some 0))), none, none] [] (tw17 w g)
  refine jz_new (k := 90) (st := []) (L := [some (.inr (.inr (some 3000000))), some (.inr (.inr (some 0))), none, none]) cx2 jNL_18 dL_law_18 (by rw [sh2]; rfl) (by decide) (by decide) (by show 5644 + 14 * n + 44 ≤ 100000; omega) hz2.1 (fun v hv => by cases hv) (kL_of (by decide)) (hz2.2 90 (Nat.le_refl 90)) fun X3 cx3 => ?_
  have sc3 := ja_Sc_gr sc0 cx3.2.2.1
  have sh3 : ja_sh X3 = (js_sh n).take 91 := by rw [ja_Cy_sh cx3, sh0]; rfl
  refine ja_s_dup cx3.1 dL_law_21 rfl (ja_s_aload_n cx3.1 dL_law_22 rfl rfl (ja_s_iconst cx3.1 dL_law_23 (v := 0) (by decide) ?_))
  refine jz_callS (as := [.inr (.inr (some 3000000)), .inl ((0 : Nat) : Int)]) (st := [.inr (.inr (some 90)), .inr (.inr (some 90))]) (d' := 59) (Q2 := fun r h' => r = some (.inl w0) ∧ tw17 w g = h') cx3.1 sc3 mlL_9 dL_law_24 (by decide) rfl (Nat.le_of_ble_eq_true rfl) (kL_cell (d := 58) (by decide) (by omega) ⟨by rw [hw0], rfl⟩) fun r h' hq => ?_
  obtain ⟨rfl, rfl⟩ := hq
  change ja_At X3 27 _ [.inl w0, .inr (.inr (some 90)), .inr (.inr (some 90))] (tw17 w g)
  refine ja_s_aload_n cx3.1 dL_law_27 rfl rfl (ja_s_iconst cx3.1 dL_law_28 (v := 1) (by decide) ?_)
  refine jz_callS (as := [.inr (.inr (some 3000000)), .inl ((1 : Nat) : Int)]) (st := [.inl w0, .inr (.inr (some 90)), .inr (.inr (some 90))]) (d' := 59) (Q2 := fun r h' => r = some (.inl g0) ∧ tw17 w g = h') cx3.1 sc3 mlL_9 dL_law_29 (by decide) rfl (Nat.le_of_ble_eq_true rfl) (kL_cell (d := 58) (by decide) (by omega) ⟨by rw [hg0], rfl⟩) fun r h' hq => ?_
  obtain ⟨rfl, rfl⟩ := hq
  change ja_At X3 32 _ [.inl g0, .inl w0, .inr (.inr (some 90)), .inr (.inr (some 90))] (tw17 w g)
  refine jz_call (as := [.inl w0, .inl g0]) (r := 90) (L := [some (.inr (.inr (some 3000000))), some (.inr (.inr (some 0))), none, none]) (st := [.inr (.inr (some 90))]) (mc := 17) (ms := 9852) (ext2 := (js_sh n).drop 91) (Q2 := fun h' => h' = mdH (tw17 w g) w g) (d' := 59) cx3 jIL_20 dL_law_32 (by decide) rfl (Nat.le_of_ble_eq_true rfl) (by decide) (by show 5644 + 14 * n + 44 + 9852 ≤ 100000; omega) (by rw [sh3]; exact kS_of (n := 91) (by decide)) (by rw [sh3]; exact kL_of (n := 91) (by decide)) (by rw [sh3]; exact gX12_init (d := 57) ew eg (ja_Hz_m hz2 (by decide)) fun z => rfl) fun X4 h4 hq cx4 => ?_
  subst hq
  have sc4 := ja_Sc_gr sc0 cx4.2.2.1
  have sh4 : ja_sh X4 = js_sh n := by rw [ja_Cy_sh cx4, sh0]; rfl
  refine ja_s_astore_n cx4.1 dL_law_35 rfl (by rw [ja_Cy_nL cx4, hnl]; decide) ?_
  refine ja_s_iconst cx4.1 dL_law_36 (v := 2) (by decide) (ja_s_istore_n cx4.1 dL_law_37 rfl (by rw [ja_Cy_nL cx4, hnl]; decide) ?_)
  change ja_At X4 38 (lwL 2) [] (mdH (tw17 w g) w g)
  exact law_loop cx4.1 sc4 sh4 hL (by rw [ja_Cy_nL cx4, hnl]) (fin X4 _ _ cx4.2.2.1 (by show 5644 + 14 * n + 44 + 9852 ≤ 100000; omega)) 600 2 _ (by omega) (by omega) (INV_0 hb hn hz2)
