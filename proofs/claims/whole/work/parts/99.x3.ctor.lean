/-! TwoSuns -/
def ja_upR (h : ja_H) (k j : Nat) (v : Option Nat) : ja_H := (ja_up h.1 k j v, h.2.1, h.2.2)
def hZ : ja_H := (fun _ _ => none, fun _ _ => 0, fun _ _ => 0)
theorem hZ_z (k : Nat) : ja_Hz k hZ := ⟨fun _ _ _ e => (by cases e), fun _ _ _ => ⟨rfl, rfl, rfl⟩⟩
abbrev tw0 (_w _g : Int) : ja_H := hZ
def tw1 (w g : Int) : ja_H := ja_upR (stH (tw0 w g) 1 2 w g) 0 0 (some 1)
def tw2 (w g : Int) : ja_H := ja_upR (stH (tw1 w g) 15 16 w g) 0 1 (some 15)
def tw3 (w g : Int) : ja_H := ja_upR (((ja_up (ja_up (ja_up (ja_up (tw2 w g).1 29 0 (some 30)) 29 1 (some 31)) 29 2 (some 32)) 29 3 (some 33)), (tw2 w g).2.1, (tw2 w g).2.2)) 0 2 (some 29)
def tw4 (w g : Int) : ja_H := ja_upR (((ja_up (ja_up (ja_up (ja_up (ja_up (tw3 w g).1 34 0 (some 35)) 34 1 (some 36)) 34 2 (some 37)) 34 3 (some 38)) 34 4 (some 39)), (tw3 w g).2.1, (tw3 w g).2.2)) 0 3 (some 34)
def tw5 (w g : Int) : ja_H := ja_upR (((ja_up (ja_up (ja_up (tw4 w g).1 40 0 (some 41)) 40 1 (some 42)) 40 2 (some 43)), (tw4 w g).2.1, (tw4 w g).2.2)) 0 4 (some 40)
def tw6 (w g : Int) : ja_H := ja_upR (((ja_up (ja_up (tw5 w g).1 44 0 (some 45)) 44 1 (some 46)), (tw5 w g).2.1, (tw5 w g).2.2)) 0 5 (some 44)
def tw7 (w g : Int) : ja_H := ja_upR ((tw6 w g)) 0 6 (some 47)
def tw8 (w g : Int) : ja_H := ja_upR ((ja_up (tw7 w g).1 48 0 (some 49), ja_up (tw7 w g).2.1 48 9 (-1), (tw7 w g).2.2)) 0 7 (some 48)
def tw9 (w g : Int) : ja_H := ja_upR (doH (tw8 w g) 50 51 w g) 0 8 (some 50)
def tw10 (w g : Int) : ja_H := ja_upR (teH (tw9 w g) 55 56 w g) 0 9 (some 55)
def tw11 (w g : Int) : ja_H := ja_upR (tw10 w g) 0 10 (some 65)
def tw12 (w g : Int) : ja_H := ja_upR (((ja_up (ja_up (ja_up (tw11 w g).1 66 0 (some 67)) 66 1 (some 68)) 66 2 (some 69)), (tw11 w g).2.1, (tw11 w g).2.2)) 65 0 (some 66)
def tw13 (w g : Int) : ja_H := ja_upR (((ja_up (ja_up (ja_up (tw12 w g).1 70 0 (some 71)) 70 1 (some 72)) 70 2 (some 73)), (tw12 w g).2.1, (tw12 w g).2.2)) 65 1 (some 70)
def tw14 (w g : Int) : ja_H := ja_upR (((ja_up (ja_up (ja_up (tw13 w g).1 74 0 (some 75)) 74 1 (some 76)) 74 2 (some 77)), (tw13 w g).2.1, (tw13 w g).2.2)) 65 2 (some 74)
def tw15 (w g : Int) : ja_H := ja_upR (((ja_up (ja_up (ja_up (tw14 w g).1 78 0 (some 79)) 78 1 (some 80)) 78 2 (some 81)), (tw14 w g).2.1, (tw14 w g).2.2)) 65 3 (some 78)
def tw16 (w g : Int) : ja_H := ja_upR (((ja_up (ja_up (ja_up (tw15 w g).1 82 0 (some 83)) 82 1 (some 84)) 82 2 (some 85)), (tw15 w g).2.1, (tw15 w g).2.2)) 65 4 (some 82)
def tw17 (w g : Int) : ja_H := ja_upR (((ja_up (ja_up (ja_up (tw16 w g).1 86 0 (some 87)) 86 1 (some 88)) 86 2 (some 89)), (tw16 w g).2.1, (tw16 w g).2.2)) 65 5 (some 86)
set_option maxRecDepth 10000 in
set_option maxHeartbeats 4000000 in
theorem gX11_init {l : Launch} {d n : Nat} {w0 g0 w g : Int} {Q : ja_H → Prop} (ew : w = max 4 (min 12 w0)) (eg : g = max 4 (min 12 g0)) (hn : (n : Int) = w * g) (q : ja_Hz 90 (tw17 w g) → Q (tw17 w g)) : ja_G l (d + 4) mX11_init 89 (5633 + 14 * n) [(0, 11)] [.inr (.inr (some 0)), .inl w0, .inl g0] hZ (((js_sh n).take 90).drop 1) Q := by
  have hw : 4 ≤ w ∧ w ≤ 12 := by omega
  have hg : 4 ≤ g ∧ g ≤ 12 := by omega
  refine ja_metG (by decide +kernel) (Nat.le_of_ble_eq_true rfl) rfl rfl ?_
  intro X0 cx hl hsh hnl ret has hho
  have hnl : X0.2.2.2.2.2.2 = 6 := hnl
  have ho : (ja_sh X0)[0]? = some (0, 11) := by rw [hsh]; rfl
  have hz : ja_Hz 1 (tw0 w g) := hZ_z 1
  refine ja_s_aload_n cx.1 dX11_init_0 rfl rfl (jx_obj cx.1 jOX11 dX11_init_1 ?_)
  refine ja_s_iconst cx.1 dX11_init_4 (v := 4) (by decide) (ja_s_bipush cx.1 dX11_init_5 (v := 12) (by decide) (ja_s_iload_n cx.1 dX11_init_7 rfl rfl ?_))
  refine ja_s_callS (as := [.inl 12, .inl w0]) (st := [.inl 4]) (d' := d + 3) (Q2 := fun r h' => r = some (.inl (min 12 w0)) ∧ hZ = h') cx.1 mlX11_9 dX11_init_8 (by omega) rfl (Nat.le_of_ble_eq_true rfl) (kJ9_min ⟨rfl, rfl⟩) fun r h' hq => ?_
  obtain ⟨rfl, rfl⟩ := hq
  refine ja_s_callS (as := [.inl 4, .inl (min 12 w0)]) (st := []) (d' := d + 3) (Q2 := fun r h' => r = some (.inl w) ∧ hZ = h') cx.1 mlX11_15 dX11_init_11 (by omega) rfl (Nat.le_of_ble_eq_true rfl) (kJ9_max ⟨by rw [ew], rfl⟩) fun r h' hq => ?_
  obtain ⟨rfl, rfl⟩ := hq
  refine ja_s_istore_n (z := w) (st := []) cx.1 dX11_init_14 rfl (by rw [hnl]; decide) ?_
  refine ja_s_iconst cx.1 dX11_init_15 (v := 4) (by decide) (ja_s_bipush cx.1 dX11_init_16 (v := 12) (by decide) (ja_s_iload_n cx.1 dX11_init_18 rfl rfl ?_))
  refine ja_s_callS (as := [.inl 12, .inl g0]) (st := [.inl 4]) (d' := d + 3) (Q2 := fun r h' => r = some (.inl (min 12 g0)) ∧ hZ = h') cx.1 mlX11_9 dX11_init_19 (by omega) rfl (Nat.le_of_ble_eq_true rfl) (kJ9_min ⟨rfl, rfl⟩) fun r h' hq => ?_
  obtain ⟨rfl, rfl⟩ := hq
  refine ja_s_callS (as := [.inl 4, .inl (min 12 g0)]) (st := []) (d' := d + 3) (Q2 := fun r h' => r = some (.inl g) ∧ hZ = h') cx.1 mlX11_15 dX11_init_22 (by omega) rfl (Nat.le_of_ble_eq_true rfl) (kJ9_max ⟨by rw [eg], rfl⟩) fun r h' hq => ?_
  obtain ⟨rfl, rfl⟩ := hq
  refine ja_s_istore (z := g) (st := []) cx.1 dX11_init_25 (by rw [hnl]; decide) ?_
  change ja_At X0 27 [some (.inr (.inr (some 0))), some (.inl w0), some (.inl g0), some (.inl w), some (.inl g), none] [] (tw0 w g)
  have cx : ja_Cx X0 X0 cX11_init RX11 (d + 4) (((js_sh n).take 1).drop 1) 0 (0) 89 (5633 + 14 * n) := cx
  refine ja_s_aload_n cx.1 dX11_init_27 rfl rfl ?_
  refine jx_new (k := 1) (st := [.inr (.inr (some 0))]) (L := [some (.inr (.inr (some 0))), some (.inl w0), some (.inl g0), some (.inl w), some (.inl g), none]) cx jNX11_18 dX11_init_28 (by rw [ja_Cx_len cx, hsh]; rfl) (by decide) (by decide) (by show 0 + 10 ≤ _; omega) hz.1 (ja_k1 (by decide)) (ja_kLn (l := [w0, g0, w, g]) (m := 1) (by decide)) (hz.2 _ (Nat.le_refl _)) fun X cx => ?_
  refine ja_s_dup cx.1 dX11_init_31 rfl ?_
  refine ja_s_iload_n cx.1 dX11_init_32 rfl rfl (ja_s_iload cx.1 dX11_init_33 rfl ?_)
  have len : (ja_sh X).length = 2 := by rw [ja_Cx_len cx, hsh]; rfl
  refine jx_call (as := [.inl w, .inl g]) (r := 1) (L := [some (.inr (.inr (some 0))), some (.inl w0), some (.inl g0), some (.inl w), some (.inl g), none]) (st := [.inr (.inr (some 1)), .inr (.inr (some 0))]) (mc := 13) (ms := 48 + 5 * n) (ext2 := ([(4, 5), (1, 4), (1, 24)] ++ pcs n 5)) (Q2 := fun h' => h' = stH (tw0 w g) 1 2 w g ∧ ja_Hz 15 h') (d' := d + 3) cx jIX11_20 dX11_init_35 (by omega) rfl (Nat.le_of_ble_eq_true rfl) (by decide) (by show 0 + 10 + (48 + 5 * n) ≤ _; omega) (by rw [len]; exact ja_k2 (by decide) (by decide)) (by rw [len]; exact (ja_kLn (l := [w0, g0, w, g]) (m := 1) (by decide))) (gX8_init len (by decide) (ja_Cx_at cx 0 (by rw [hsh]; rfl) rfl) hw hg hn (ja_Hz_m hz (by decide)) fun z => ⟨rfl, z⟩) fun X h1 hq cx => ?_
  obtain ⟨rfl, hz⟩ := hq
  refine jx_putR cx.1 cx.2.1 flX11_23 rfl rfl dX11_init_38 (ja_Cx_old cx ho) ?_
  change ja_At X 41 [some (.inr (.inr (some 0))), some (.inl w0), some (.inl g0), some (.inl w), some (.inl g), none] [] (tw1 w g)
  have hz : ja_Hz 15 (tw1 w g) := ja_Hz_R (o := 0) (j := 0) (v := 1) hz (by decide) (by decide)
  have cx : ja_Cx X0 X cX11_init RX11 (d + 4) (((js_sh n).take 15).drop 1) 14 (58 + 5 * n) 89 (5633 + 14 * n) := ja_Cx_e cx rfl rfl (by show 0 + 10 + (48 + 5 * n) = _; omega)
  refine ja_s_aload_n cx.1 dX11_init_41 rfl rfl ?_
  refine jx_new (k := 15) (st := [.inr (.inr (some 0))]) (L := [some (.inr (.inr (some 0))), some (.inl w0), some (.inl g0), some (.inl w), some (.inl g), none]) cx jNX11_18 dX11_init_42 (by rw [ja_Cx_len cx, hsh]; rfl) (by decide) (by decide) (by show 58 + 5 * n + 10 ≤ _; omega) hz.1 (ja_k1 (by decide)) (ja_kLn (l := [w0, g0, w, g]) (m := 1) (by decide)) (hz.2 _ (Nat.le_refl _)) fun X cx => ?_
  refine ja_s_dup cx.1 dX11_init_45 rfl ?_
  refine ja_s_iload_n cx.1 dX11_init_46 rfl rfl (ja_s_iload cx.1 dX11_init_47 rfl ?_)
  have len : (ja_sh X).length = 16 := by rw [ja_Cx_len cx, hsh]; rfl
  refine jx_call (as := [.inl w, .inl g]) (r := 15) (L := [some (.inr (.inr (some 0))), some (.inl w0), some (.inl g0), some (.inl w), some (.inl g), none]) (st := [.inr (.inr (some 15)), .inr (.inr (some 0))]) (mc := 13) (ms := 48 + 5 * n) (ext2 := ([(4, 5), (1, 4), (1, 24)] ++ pcs n 5)) (Q2 := fun h' => h' = stH (tw1 w g) 15 16 w g ∧ ja_Hz 29 h') (d' := d + 3) cx jIX11_20 dX11_init_49 (by omega) rfl (Nat.le_of_ble_eq_true rfl) (by decide) (by show 58 + 5 * n + 10 + (48 + 5 * n) ≤ _; omega) (by rw [len]; exact ja_k2 (by decide) (by decide)) (by rw [len]; exact (ja_kLn (l := [w0, g0, w, g]) (m := 1) (by decide))) (gX8_init len (by decide) (ja_Cx_at cx 14 (by rw [hsh]; rfl) rfl) hw hg hn (ja_Hz_m hz (by decide)) fun z => ⟨rfl, z⟩) fun X h1 hq cx => ?_
  obtain ⟨rfl, hz⟩ := hq
  refine jx_putR cx.1 cx.2.1 flX11_27 rfl rfl dX11_init_52 (ja_Cx_old cx ho) ?_
  change ja_At X 55 [some (.inr (.inr (some 0))), some (.inl w0), some (.inl g0), some (.inl w), some (.inl g), none] [] (tw2 w g)
  have hz : ja_Hz 29 (tw2 w g) := ja_Hz_R (o := 0) (j := 1) (v := 15) hz (by decide) (by decide)
  have cx : ja_Cx X0 X cX11_init RX11 (d + 4) (((js_sh n).take 29).drop 1) 28 (116 + 10 * n) 89 (5633 + 14 * n) := ja_Cx_e cx rfl rfl (by show 58 + 5 * n + 10 + (48 + 5 * n) = _; omega)
  refine ja_s_aload_n cx.1 dX11_init_55 rfl rfl ?_
  refine jx_new (k := 29) (st := [.inr (.inr (some 0))]) (L := [some (.inr (.inr (some 0))), some (.inl w0), some (.inl g0), some (.inl w), some (.inl g), none]) cx jNX11_30 dX11_init_56 (by rw [ja_Cx_len cx, hsh]; rfl) (by decide) (by decide) (by show 116 + 10 * n + 6 ≤ _; omega) hz.1 (ja_k1 (by decide)) (ja_kLn (l := [w0, g0, w, g]) (m := 1) (by decide)) (hz.2 _ (Nat.le_refl _)) fun X cx => ?_
  refine ja_s_dup cx.1 dX11_init_59 rfl ?_
  have len : (ja_sh X).length = 30 := by rw [ja_Cx_len cx, hsh]; rfl
  refine jx_call (as := []) (r := 29) (L := [some (.inr (.inr (some 0))), some (.inl w0), some (.inl g0), some (.inl w), some (.inl g), none]) (st := [.inr (.inr (some 29)), .inr (.inr (some 0))]) (mc := 4) (ms := 2181) (ext2 := [(1, 726), (1, 726), (1, 726), (1, 3)]) (Q2 := fun h' => h' = ((ja_up (ja_up (ja_up (ja_up (tw2 w g).1 29 0 (some 30)) 29 1 (some 31)) 29 2 (some 32)) 29 3 (some 33)), (tw2 w g).2.1, (tw2 w g).2.2) ∧ ja_Hz 34 h') (d' := d + 3) cx jIX11_32 dX11_init_60 (by omega) rfl (Nat.le_of_ble_eq_true rfl) (by decide) (by show 116 + 10 * n + 6 + (2181) ≤ _; omega) (by rw [len]; exact ja_k2 (by decide) (by decide)) (by rw [len]; exact (ja_kLn (l := [w0, g0, w, g]) (m := 1) (by decide))) (gX7_init len (by decide) (ja_Cx_at cx 28 (by rw [hsh]; rfl) rfl) (ja_Hz_m hz (by decide)) fun z => ⟨rfl, z⟩) fun X h1 hq cx => ?_
  obtain ⟨rfl, hz⟩ := hq
  refine jx_putR cx.1 cx.2.1 flX11_33 rfl rfl dX11_init_63 (ja_Cx_old cx ho) ?_
  change ja_At X 66 [some (.inr (.inr (some 0))), some (.inl w0), some (.inl g0), some (.inl w), some (.inl g), none] [] (tw3 w g)
  have hz : ja_Hz 34 (tw3 w g) := ja_Hz_R (o := 0) (j := 2) (v := 29) hz (by decide) (by decide)
  have cx : ja_Cx X0 X cX11_init RX11 (d + 4) (((js_sh n).take 34).drop 1) 33 (2303 + 10 * n) 89 (5633 + 14 * n) := ja_Cx_e cx rfl rfl (by show 116 + 10 * n + 6 + (2181) = _; omega)
  refine ja_s_aload_n cx.1 dX11_init_66 rfl rfl ?_
  refine jx_new (k := 34) (st := [.inr (.inr (some 0))]) (L := [some (.inr (.inr (some 0))), some (.inl w0), some (.inl g0), some (.inl w), some (.inl g), none]) cx jNX11_37 dX11_init_67 (by rw [ja_Cx_len cx, hsh]; rfl) (by decide) (by decide) (by show 2303 + 10 * n + 8 ≤ _; omega) hz.1 (ja_k1 (by decide)) (ja_kLn (l := [w0, g0, w, g]) (m := 1) (by decide)) (hz.2 _ (Nat.le_refl _)) fun X cx => ?_
  refine ja_s_dup cx.1 dX11_init_70 rfl ?_
  have len : (ja_sh X).length = 35 := by rw [ja_Cx_len cx, hsh]; rfl
  refine jx_call (as := []) (r := 34) (L := [some (.inr (.inr (some 0))), some (.inl w0), some (.inl g0), some (.inl w), some (.inl g), none]) (st := [.inr (.inr (some 34)), .inr (.inr (some 0))]) (mc := 5) (ms := 121) (ext2 := [(1, 10), (1, 10), (1, 10), (1, 10), (1, 81)]) (Q2 := fun h' => h' = ((ja_up (ja_up (ja_up (ja_up (ja_up (tw3 w g).1 34 0 (some 35)) 34 1 (some 36)) 34 2 (some 37)) 34 3 (some 38)) 34 4 (some 39)), (tw3 w g).2.1, (tw3 w g).2.2) ∧ ja_Hz 40 h') (d' := d + 3) cx jIX11_39 dX11_init_71 (by omega) rfl (Nat.le_of_ble_eq_true rfl) (by decide) (by show 2303 + 10 * n + 8 + (121) ≤ _; omega) (by rw [len]; exact ja_k2 (by decide) (by decide)) (by rw [len]; exact (ja_kLn (l := [w0, g0, w, g]) (m := 1) (by decide))) (gX2_init len (by decide) (ja_Cx_at cx 33 (by rw [hsh]; rfl) rfl) (ja_Hz_m hz (by decide)) fun z => ⟨rfl, z⟩) fun X h1 hq cx => ?_
  obtain ⟨rfl, hz⟩ := hq
  refine jx_putR cx.1 cx.2.1 flX11_40 rfl rfl dX11_init_74 (ja_Cx_old cx ho) ?_
  change ja_At X 77 [some (.inr (.inr (some 0))), some (.inl w0), some (.inl g0), some (.inl w), some (.inl g), none] [] (tw4 w g)
  have hz : ja_Hz 40 (tw4 w g) := ja_Hz_R (o := 0) (j := 3) (v := 34) hz (by decide) (by decide)
  have cx : ja_Cx X0 X cX11_init RX11 (d + 4) (((js_sh n).take 40).drop 1) 39 (2432 + 10 * n) 89 (5633 + 14 * n) := ja_Cx_e cx rfl rfl (by show 2303 + 10 * n + 8 + (121) = _; omega)
  refine ja_s_aload_n cx.1 dX11_init_77 rfl rfl ?_
  refine jx_new (k := 40) (st := [.inr (.inr (some 0))]) (L := [some (.inr (.inr (some 0))), some (.inl w0), some (.inl g0), some (.inl w), some (.inl g), none]) cx jNX11_44 dX11_init_78 (by rw [ja_Cx_len cx, hsh]; rfl) (by decide) (by decide) (by show 2432 + 10 * n + 6 ≤ _; omega) hz.1 (ja_k1 (by decide)) (ja_kLn (l := [w0, g0, w, g]) (m := 1) (by decide)) (hz.2 _ (Nat.le_refl _)) fun X cx => ?_
  refine ja_s_dup cx.1 dX11_init_81 rfl ?_
  have len : (ja_sh X).length = 41 := by rw [ja_Cx_len cx, hsh]; rfl
  refine jx_call (as := []) (r := 40) (L := [some (.inr (.inr (some 0))), some (.inl w0), some (.inl g0), some (.inl w), some (.inl g), none]) (st := [.inr (.inr (some 40)), .inr (.inr (some 0))]) (mc := 3) (ms := 17) (ext2 := [(1, 9), (1, 4), (1, 4)]) (Q2 := fun h' => h' = ((ja_up (ja_up (ja_up (tw4 w g).1 40 0 (some 41)) 40 1 (some 42)) 40 2 (some 43)), (tw4 w g).2.1, (tw4 w g).2.2) ∧ ja_Hz 44 h') (d' := d + 3) cx jIX11_46 dX11_init_82 (by omega) rfl (Nat.le_of_ble_eq_true rfl) (by decide) (by show 2432 + 10 * n + 6 + (17) ≤ _; omega) (by rw [len]; exact ja_k2 (by decide) (by decide)) (by rw [len]; exact (ja_kLn (l := [w0, g0, w, g]) (m := 1) (by decide))) (gX0_init len (by decide) (ja_Cx_at cx 39 (by rw [hsh]; rfl) rfl) (ja_Hz_m hz (by decide)) fun z => ⟨rfl, z⟩) fun X h1 hq cx => ?_
  obtain ⟨rfl, hz⟩ := hq
  refine jx_putR cx.1 cx.2.1 flX11_47 rfl rfl dX11_init_85 (ja_Cx_old cx ho) ?_
  change ja_At X 88 [some (.inr (.inr (some 0))), some (.inl w0), some (.inl g0), some (.inl w), some (.inl g), none] [] (tw5 w g)
  have hz : ja_Hz 44 (tw5 w g) := ja_Hz_R (o := 0) (j := 4) (v := 40) hz (by decide) (by decide)
  have cx : ja_Cx X0 X cX11_init RX11 (d + 4) (((js_sh n).take 44).drop 1) 43 (2455 + 10 * n) 89 (5633 + 14 * n) := ja_Cx_e cx rfl rfl (by show 2432 + 10 * n + 6 + (17) = _; omega)
  refine ja_s_aload_n cx.1 dX11_init_88 rfl rfl ?_
  refine jx_new (k := 44) (st := [.inr (.inr (some 0))]) (L := [some (.inr (.inr (some 0))), some (.inl w0), some (.inl g0), some (.inl w), some (.inl g), none]) cx jNX11_51 dX11_init_89 (by rw [ja_Cx_len cx, hsh]; rfl) (by decide) (by decide) (by show 2455 + 10 * n + 4 ≤ _; omega) hz.1 (ja_k1 (by decide)) (ja_kLn (l := [w0, g0, w, g]) (m := 1) (by decide)) (hz.2 _ (Nat.le_refl _)) fun X cx => ?_
  refine ja_s_dup cx.1 dX11_init_92 rfl ?_
  have len : (ja_sh X).length = 45 := by rw [ja_Cx_len cx, hsh]; rfl
  refine jx_call (as := []) (r := 44) (L := [some (.inr (.inr (some 0))), some (.inl w0), some (.inl g0), some (.inl w), some (.inl g), none]) (st := [.inr (.inr (some 44)), .inr (.inr (some 0))]) (mc := 2) (ms := 148) (ext2 := [(2, 144), (1, 4)]) (Q2 := fun h' => h' = ((ja_up (ja_up (tw5 w g).1 44 0 (some 45)) 44 1 (some 46)), (tw5 w g).2.1, (tw5 w g).2.2) ∧ ja_Hz 47 h') (d' := d + 3) cx jIX11_53 dX11_init_93 (by omega) rfl (Nat.le_of_ble_eq_true rfl) (by decide) (by show 2455 + 10 * n + 4 + (148) ≤ _; omega) (by rw [len]; exact ja_k2 (by decide) (by decide)) (by rw [len]; exact (ja_kLn (l := [w0, g0, w, g]) (m := 1) (by decide))) (gX10_init len (by decide) (ja_Cx_at cx 43 (by rw [hsh]; rfl) rfl) (ja_Hz_m hz (by decide)) fun z => ⟨rfl, z⟩) fun X h1 hq cx => ?_
  obtain ⟨rfl, hz⟩ := hq
  refine jx_putR cx.1 cx.2.1 flX11_54 rfl rfl dX11_init_96 (ja_Cx_old cx ho) ?_
  change ja_At X 99 [some (.inr (.inr (some 0))), some (.inl w0), some (.inl g0), some (.inl w), some (.inl g), none] [] (tw6 w g)
  have hz : ja_Hz 47 (tw6 w g) := ja_Hz_R (o := 0) (j := 5) (v := 44) hz (by decide) (by decide)
  have cx : ja_Cx X0 X cX11_init RX11 (d + 4) (((js_sh n).take 47).drop 1) 46 (2607 + 10 * n) 89 (5633 + 14 * n) := ja_Cx_e cx rfl rfl (by show 2455 + 10 * n + 4 + (148) = _; omega)
  refine ja_s_aload_n cx.1 dX11_init_99 rfl rfl ?_
  refine jx_new (k := 47) (st := [.inr (.inr (some 0))]) (L := [some (.inr (.inr (some 0))), some (.inl w0), some (.inl g0), some (.inl w), some (.inl g), none]) cx jNX11_58 dX11_init_100 (by rw [ja_Cx_len cx, hsh]; rfl) (by decide) (by decide) (by show 2607 + 10 * n + 4 ≤ _; omega) hz.1 (ja_k1 (by decide)) (ja_kLn (l := [w0, g0, w, g]) (m := 1) (by decide)) (hz.2 _ (Nat.le_refl _)) fun X cx => ?_
  refine ja_s_dup cx.1 dX11_init_103 rfl ?_
  have len : (ja_sh X).length = 48 := by rw [ja_Cx_len cx, hsh]; rfl
  refine jx_call (as := []) (r := 47) (L := [some (.inr (.inr (some 0))), some (.inl w0), some (.inl g0), some (.inl w), some (.inl g), none]) (st := [.inr (.inr (some 47)), .inr (.inr (some 0))]) (mc := 0) (ms := 0) (ext2 := []) (Q2 := fun h' => h' = (tw6 w g) ∧ ja_Hz 48 h') (d' := d + 3) cx jIX11_60 dX11_init_104 (by omega) rfl (Nat.le_of_ble_eq_true rfl) (by decide) (by show 2607 + 10 * n + 4 + (0) ≤ _; omega) (by rw [len]; exact ja_k2 (by decide) (by decide)) (by rw [len]; exact (ja_kLn (l := [w0, g0, w, g]) (m := 1) (by decide))) (gX6_init ⟨rfl, ja_Hz_m hz (by decide)⟩) fun X h1 hq cx => ?_
  obtain ⟨rfl, hz⟩ := hq
  refine jx_putR cx.1 cx.2.1 flX11_61 rfl rfl dX11_init_107 (ja_Cx_old cx ho) ?_
  change ja_At X 110 [some (.inr (.inr (some 0))), some (.inl w0), some (.inl g0), some (.inl w), some (.inl g), none] [] (tw7 w g)
  have hz : ja_Hz 48 (tw7 w g) := ja_Hz_R (o := 0) (j := 6) (v := 47) hz (by decide) (by decide)
  have cx : ja_Cx X0 X cX11_init RX11 (d + 4) (((js_sh n).take 48).drop 1) 47 (2611 + 10 * n) 89 (5633 + 14 * n) := ja_Cx_e cx rfl rfl (by show 2607 + 10 * n + 4 + (0) = _; omega)
  refine ja_s_aload_n cx.1 dX11_init_110 rfl rfl ?_
  refine jx_new (k := 48) (st := [.inr (.inr (some 0))]) (L := [some (.inr (.inr (some 0))), some (.inl w0), some (.inl g0), some (.inl w), some (.inl g), none]) cx jNX11_65 dX11_init_111 (by rw [ja_Cx_len cx, hsh]; rfl) (by decide) (by decide) (by show 2611 + 10 * n + 10 ≤ _; omega) hz.1 (ja_k1 (by decide)) (ja_kLn (l := [w0, g0, w, g]) (m := 1) (by decide)) (hz.2 _ (Nat.le_refl _)) fun X cx => ?_
  refine ja_s_dup cx.1 dX11_init_114 rfl ?_
  have len : (ja_sh X).length = 49 := by rw [ja_Cx_len cx, hsh]; rfl
  refine jx_call (as := []) (r := 48) (L := [some (.inr (.inr (some 0))), some (.inl w0), some (.inl g0), some (.inl w), some (.inl g), none]) (st := [.inr (.inr (some 48)), .inr (.inr (some 0))]) (mc := 1) (ms := 300) (ext2 := [(1, 300)]) (Q2 := fun h' => h' = (ja_up (tw7 w g).1 48 0 (some 49), ja_up (tw7 w g).2.1 48 9 (-1), (tw7 w g).2.2) ∧ ja_Hz 50 h') (d' := d + 3) cx jIX11_67 dX11_init_115 (by omega) rfl (Nat.le_of_ble_eq_true rfl) (by decide) (by show 2611 + 10 * n + 10 + (300) ≤ _; omega) (by rw [len]; exact ja_k2 (by decide) (by decide)) (by rw [len]; exact (ja_kLn (l := [w0, g0, w, g]) (m := 1) (by decide))) (gX5_init len (by decide) (ja_Cx_at cx 47 (by rw [hsh]; rfl) rfl) (ja_Hz_m hz (by decide)) fun z => ⟨rfl, z⟩) fun X h1 hq cx => ?_
  obtain ⟨rfl, hz⟩ := hq
  refine jx_putR cx.1 cx.2.1 flX11_68 rfl rfl dX11_init_118 (ja_Cx_old cx ho) ?_
  change ja_At X 121 [some (.inr (.inr (some 0))), some (.inl w0), some (.inl g0), some (.inl w), some (.inl g), none] [] (tw8 w g)
  have hz : ja_Hz 50 (tw8 w g) := ja_Hz_R (o := 0) (j := 7) (v := 48) hz (by decide) (by decide)
  have cx : ja_Cx X0 X cX11_init RX11 (d + 4) (((js_sh n).take 50).drop 1) 49 (2921 + 10 * n) 89 (5633 + 14 * n) := ja_Cx_e cx rfl rfl (by show 2611 + 10 * n + 10 + (300) = _; omega)
  refine ja_s_aload_n cx.1 dX11_init_121 rfl rfl ?_
  refine jx_new (k := 50) (st := [.inr (.inr (some 0))]) (L := [some (.inr (.inr (some 0))), some (.inl w0), some (.inl g0), some (.inl w), some (.inl g), none]) cx jNX11_72 dX11_init_122 (by rw [ja_Cx_len cx, hsh]; rfl) (by decide) (by decide) (by show 2921 + 10 * n + 7 ≤ _; omega) hz.1 (ja_k1 (by decide)) (ja_kLn (l := [w0, g0, w, g]) (m := 1) (by decide)) (hz.2 _ (Nat.le_refl _)) fun X cx => ?_
  refine ja_s_dup cx.1 dX11_init_125 rfl ?_
  refine ja_s_iload_n cx.1 dX11_init_126 rfl rfl (ja_s_iload cx.1 dX11_init_127 rfl ?_)
  have len : (ja_sh X).length = 51 := by rw [ja_Cx_len cx, hsh]; rfl
  refine jx_call (as := [.inl w, .inl g]) (r := 50) (L := [some (.inr (.inr (some 0))), some (.inl w0), some (.inl g0), some (.inl w), some (.inl g), none]) (st := [.inr (.inr (some 50)), .inr (.inr (some 0))]) (mc := 4) (ms := 73 + n) (ext2 := [(1, 64), (1, 6), (0, 3), (1, n)]) (Q2 := fun h' => h' = doH (tw8 w g) 50 51 w g ∧ ja_Hz 55 h') (d' := d + 3) cx jIX11_74 dX11_init_129 (by omega) rfl (Nat.le_of_ble_eq_true rfl) (by decide) (by show 2921 + 10 * n + 7 + (73 + n) ≤ _; omega) (by rw [len]; exact ja_k2 (by decide) (by decide)) (by rw [len]; exact (ja_kLn (l := [w0, g0, w, g]) (m := 1) (by decide))) (gX1_init len (by decide) (ja_Cx_at cx 49 (by rw [hsh]; rfl) rfl) hw hg hn (ja_Hz_m hz (by decide)) fun z => ⟨rfl, z⟩) fun X h1 hq cx => ?_
  obtain ⟨rfl, hz⟩ := hq
  refine jx_putR cx.1 cx.2.1 flX11_75 rfl rfl dX11_init_132 (ja_Cx_old cx ho) ?_
  change ja_At X 135 [some (.inr (.inr (some 0))), some (.inl w0), some (.inl g0), some (.inl w), some (.inl g), none] [] (tw9 w g)
  have hz : ja_Hz 55 (tw9 w g) := ja_Hz_R (o := 0) (j := 8) (v := 50) hz (by decide) (by decide)
  have cx : ja_Cx X0 X cX11_init RX11 (d + 4) (((js_sh n).take 55).drop 1) 54 (3001 + 11 * n) 89 (5633 + 14 * n) := ja_Cx_e cx rfl rfl (by show 2921 + 10 * n + 7 + (73 + n) = _; omega)
  refine ja_s_aload_n cx.1 dX11_init_135 rfl rfl ?_
  refine jx_new (k := 55) (st := [.inr (.inr (some 0))]) (L := [some (.inr (.inr (some 0))), some (.inl w0), some (.inl g0), some (.inl w), some (.inl g), none]) cx jNX11_79 dX11_init_136 (by rw [ja_Cx_len cx, hsh]; rfl) (by decide) (by decide) (by show 3001 + 11 * n + 10 ≤ _; omega) hz.1 (ja_k1 (by decide)) (ja_kLn (l := [w0, g0, w, g]) (m := 1) (by decide)) (hz.2 _ (Nat.le_refl _)) fun X cx => ?_
  refine ja_s_dup cx.1 dX11_init_139 rfl ?_
  refine ja_s_iload_n cx.1 dX11_init_140 rfl rfl (ja_s_iload cx.1 dX11_init_141 rfl ?_)
  have len : (ja_sh X).length = 56 := by rw [ja_Cx_len cx, hsh]; rfl
  refine jx_call (as := [.inl w, .inl g]) (r := 55) (L := [some (.inr (.inr (some 0))), some (.inl w0), some (.inl g0), some (.inl w), some (.inl g), none]) (st := [.inr (.inr (some 55)), .inr (.inr (some 0))]) (mc := 9) (ms := 18 + 3 * n) (ext2 := ([(4, 3), (1, 3), (1, 3)] ++ pcs n 3)) (Q2 := fun h' => h' = teH (tw9 w g) 55 56 w g ∧ ja_Hz 65 h') (d' := d + 3) cx jIX11_81 dX11_init_143 (by omega) rfl (Nat.le_of_ble_eq_true rfl) (by decide) (by show 3001 + 11 * n + 10 + (18 + 3 * n) ≤ _; omega) (by rw [len]; exact ja_k2 (by decide) (by decide)) (by rw [len]; exact (ja_kLn (l := [w0, g0, w, g]) (m := 1) (by decide))) (gX9_init len (by decide) (ja_Cx_at cx 54 (by rw [hsh]; rfl) rfl) hw hg hn (ja_Hz_m hz (by decide)) fun z => ⟨rfl, z⟩) fun X h1 hq cx => ?_
  obtain ⟨rfl, hz⟩ := hq
  refine jx_putR cx.1 cx.2.1 flX11_82 rfl rfl dX11_init_146 (ja_Cx_old cx ho) ?_
  change ja_At X 149 [some (.inr (.inr (some 0))), some (.inl w0), some (.inl g0), some (.inl w), some (.inl g), none] [] (tw10 w g)
  have hz : ja_Hz 65 (tw10 w g) := ja_Hz_R (o := 0) (j := 9) (v := 55) hz (by decide) (by decide)
  have cx : ja_Cx X0 X cX11_init RX11 (d + 4) (((js_sh n).take 65).drop 1) 64 (3029 + 14 * n) 89 (5633 + 14 * n) := ja_Cx_e cx rfl rfl (by show 3001 + 11 * n + 10 + (18 + 3 * n) = _; omega)
  refine ja_s_aload_n cx.1 dX11_init_149 rfl rfl (ja_s_bipush cx.1 dX11_init_150 (v := 6) (by decide) ?_)
  refine jx_newG (z := 6) (k := 65) (st := [.inr (.inr (some 0))]) (L := [some (.inr (.inr (some 0))), some (.inl w0), some (.inl g0), some (.inl w), some (.inl g), none]) cx jCX11_86 dX11_init_152 (by rw [ja_Cx_len cx, hsh]; rfl) (by decide) (by decide) (by decide) (by decide) (by show 3029 + 14 * n + 6 ≤ _; omega) hz.1 (ja_k1 (by decide)) (ja_kLn (l := [w0, g0, w, g]) (m := 1) (by decide)) (hz.2 _ (Nat.le_refl _)) fun X cx => ?_
  refine jx_putR cx.1 cx.2.1 flX11_88 rfl rfl dX11_init_155 (ja_Cx_old cx ho) ?_
  change ja_At X 158 [some (.inr (.inr (some 0))), some (.inl w0), some (.inl g0), some (.inl w), some (.inl g), none] [] (tw11 w g)
  have hz : ja_Hz 66 (tw11 w g) := ja_Hz_R (o := 0) (j := 10) (v := 65) (ja_Hz_m hz (by decide)) (by decide) (by decide)
  have cx : ja_Cx X0 X cX11_init RX11 (d + 4) (((js_sh n).take 66).drop 1) 65 (3035 + 14 * n) 89 (5633 + 14 * n) := ja_Cx_e cx rfl rfl (by show 3029 + 14 * n + 6 = _; omega)
  have p10 : (tw11 w g).1 0 10 = some 65 := by show ja_up (tw10 w g).1 0 10 (some 65) 0 10 = _; exact ja_ups
  refine ja_s_iconst cx.1 dX11_init_158 (v := 0) (by decide) (ja_s_istore cx.1 dX11_init_159 (by rw [ja_Cx_nL cx, hnl]; decide) ?_)
  change ja_At X 161 [some (.inr (.inr (some 0))), some (.inl w0), some (.inl g0), some (.inl w), some (.inl g), some (.inl 0)] [] (tw11 w g)
  refine ja_s_iload cx.1 dX11_init_161 rfl (ja_s_bipush cx.1 dX11_init_163 (v := 6) (by decide) (ja_s_icmp_ge cx.1 dX11_init_165 rfl (fun y => absurd y (by decide)) fun _ => ?_))
  refine ja_s_aload_n cx.1 dX11_init_168 rfl rfl (jx_gR cx.1 flX11_88 rfl dX11_init_169 (ja_Cx_old cx ho) p10 (ja_s_iload cx.1 dX11_init_172 rfl ?_))
  refine jx_new (k := 66) (st := [.inl 0, .inr (.inr (some 65))]) (L := [some (.inr (.inr (some 0))), some (.inl w0), some (.inl g0), some (.inl w), some (.inl g), some (.inl 0)]) cx jNX11_86 dX11_init_174 (by rw [ja_Cx_len cx, hsh]; rfl) (by decide) (by decide) (by show 3035 + 14 * n + 5 ≤ _; omega) hz.1 (ja_k4 (by decide)) (ja_kLo (l := [w0, g0, w, g, 0]) (by decide)) (hz.2 _ (Nat.le_refl _)) fun X cx => ?_
  refine ja_s_dup cx.1 dX11_init_177 rfl ?_
  have len : (ja_sh X).length = 67 := by rw [ja_Cx_len cx, hsh]; rfl
  refine jx_call (as := []) (r := 66) (L := [some (.inr (.inr (some 0))), some (.inl w0), some (.inl g0), some (.inl w), some (.inl g), some (.inl 0)]) (st := [.inr (.inr (some 66)), .inl 0, .inr (.inr (some 65))]) (mc := 3) (ms := 428) (ext2 := [(1, 16), (1, 112), (1, 300)]) (Q2 := fun h' => h' = ((ja_up (ja_up (ja_up (tw11 w g).1 66 0 (some 67)) 66 1 (some 68)) 66 2 (some 69)), (tw11 w g).2.1, (tw11 w g).2.2) ∧ ja_Hz 70 h') (d' := d + 3) cx jIX11_92 dX11_init_178 (by omega) rfl (Nat.le_of_ble_eq_true rfl) (by decide) (by show 3035 + 14 * n + 5 + 428 ≤ _; omega) (by rw [len]; exact ja_k3 (by decide) (by decide)) (by rw [len]; exact (ja_kLo (l := [w0, g0, w, g, 0]) (by decide))) (gX4_init len (by decide) (ja_Cx_at cx 65 (by rw [hsh]; rfl) rfl) (ja_Hz_m hz (by decide)) fun z => ⟨rfl, z⟩) fun X h1 hq cx => ?_
  obtain ⟨rfl, hz⟩ := hq
  refine jx_astG (i := 0) cx.1 dX11_init_181 (ja_Cx_at cx 64 (by rw [hsh]; rfl) rfl) (by decide) (by decide) (ja_Cx_at cx 65 (by rw [hsh]; rfl) rfl) ?_
  refine ja_s_iinc cx.1 dX11_init_182 (by rw [ja_Cx_nL cx, hnl]; decide) rfl (ja_s_goto cx.1 dX11_init_185 rfl ?_)
  change ja_At X 161 [some (.inr (.inr (some 0))), some (.inl w0), some (.inl g0), some (.inl w), some (.inl g), some (.inl (ja_w (0 + 1)))] [] (tw12 w g)
  rw [show ja_w (0 + 1) = 1 by decide]
  have hz : ja_Hz 70 (tw12 w g) := ja_Hz_R (o := 65) (j := 0) (v := 66) hz (by decide) (by decide)
  have p10 : (tw12 w g).1 0 10 = some 65 := Eq.trans (show (tw12 w g).1 0 10 = (tw11 w g).1 0 10 from rfl) p10
  have cx : ja_Cx X0 X cX11_init RX11 (d + 4) (((js_sh n).take 70).drop 1) 69 (3468 + 14 * n) 89 (5633 + 14 * n) := ja_Cx_e cx rfl rfl (by show 3035 + 14 * n + 5 + 428 = _; omega)
  refine ja_s_iload cx.1 dX11_init_161 rfl (ja_s_bipush cx.1 dX11_init_163 (v := 6) (by decide) (ja_s_icmp_ge cx.1 dX11_init_165 rfl (fun y => absurd y (by decide)) fun _ => ?_))
  refine ja_s_aload_n cx.1 dX11_init_168 rfl rfl (jx_gR cx.1 flX11_88 rfl dX11_init_169 (ja_Cx_old cx ho) p10 (ja_s_iload cx.1 dX11_init_172 rfl ?_))
  refine jx_new (k := 70) (st := [.inl 1, .inr (.inr (some 65))]) (L := [some (.inr (.inr (some 0))), some (.inl w0), some (.inl g0), some (.inl w), some (.inl g), some (.inl 1)]) cx jNX11_86 dX11_init_174 (by rw [ja_Cx_len cx, hsh]; rfl) (by decide) (by decide) (by show 3468 + 14 * n + 5 ≤ _; omega) hz.1 (ja_k4 (by decide)) (ja_kLo (l := [w0, g0, w, g, 1]) (by decide)) (hz.2 _ (Nat.le_refl _)) fun X cx => ?_
  refine ja_s_dup cx.1 dX11_init_177 rfl ?_
  have len : (ja_sh X).length = 71 := by rw [ja_Cx_len cx, hsh]; rfl
  refine jx_call (as := []) (r := 70) (L := [some (.inr (.inr (some 0))), some (.inl w0), some (.inl g0), some (.inl w), some (.inl g), some (.inl 1)]) (st := [.inr (.inr (some 70)), .inl 1, .inr (.inr (some 65))]) (mc := 3) (ms := 428) (ext2 := [(1, 16), (1, 112), (1, 300)]) (Q2 := fun h' => h' = ((ja_up (ja_up (ja_up (tw12 w g).1 70 0 (some 71)) 70 1 (some 72)) 70 2 (some 73)), (tw12 w g).2.1, (tw12 w g).2.2) ∧ ja_Hz 74 h') (d' := d + 3) cx jIX11_92 dX11_init_178 (by omega) rfl (Nat.le_of_ble_eq_true rfl) (by decide) (by show 3468 + 14 * n + 5 + 428 ≤ _; omega) (by rw [len]; exact ja_k3 (by decide) (by decide)) (by rw [len]; exact (ja_kLo (l := [w0, g0, w, g, 1]) (by decide))) (gX4_init len (by decide) (ja_Cx_at cx 69 (by rw [hsh]; rfl) rfl) (ja_Hz_m hz (by decide)) fun z => ⟨rfl, z⟩) fun X h1 hq cx => ?_
  obtain ⟨rfl, hz⟩ := hq
  refine jx_astG (i := 0) cx.1 dX11_init_181 (ja_Cx_at cx 64 (by rw [hsh]; rfl) rfl) (by decide) (by decide) (ja_Cx_at cx 69 (by rw [hsh]; rfl) rfl) ?_
  refine ja_s_iinc cx.1 dX11_init_182 (by rw [ja_Cx_nL cx, hnl]; decide) rfl (ja_s_goto cx.1 dX11_init_185 rfl ?_)
  change ja_At X 161 [some (.inr (.inr (some 0))), some (.inl w0), some (.inl g0), some (.inl w), some (.inl g), some (.inl (ja_w (1 + 1)))] [] (tw13 w g)
  rw [show ja_w (1 + 1) = 2 by decide]
  have hz : ja_Hz 74 (tw13 w g) := ja_Hz_R (o := 65) (j := 1) (v := 70) hz (by decide) (by decide)
  have p10 : (tw13 w g).1 0 10 = some 65 := Eq.trans (show (tw13 w g).1 0 10 = (tw12 w g).1 0 10 from rfl) p10
  have cx : ja_Cx X0 X cX11_init RX11 (d + 4) (((js_sh n).take 74).drop 1) 73 (3901 + 14 * n) 89 (5633 + 14 * n) := ja_Cx_e cx rfl rfl (by show 3468 + 14 * n + 5 + 428 = _; omega)
  refine ja_s_iload cx.1 dX11_init_161 rfl (ja_s_bipush cx.1 dX11_init_163 (v := 6) (by decide) (ja_s_icmp_ge cx.1 dX11_init_165 rfl (fun y => absurd y (by decide)) fun _ => ?_))
  refine ja_s_aload_n cx.1 dX11_init_168 rfl rfl (jx_gR cx.1 flX11_88 rfl dX11_init_169 (ja_Cx_old cx ho) p10 (ja_s_iload cx.1 dX11_init_172 rfl ?_))
  refine jx_new (k := 74) (st := [.inl 2, .inr (.inr (some 65))]) (L := [some (.inr (.inr (some 0))), some (.inl w0), some (.inl g0), some (.inl w), some (.inl g), some (.inl 2)]) cx jNX11_86 dX11_init_174 (by rw [ja_Cx_len cx, hsh]; rfl) (by decide) (by decide) (by show 3901 + 14 * n + 5 ≤ _; omega) hz.1 (ja_k4 (by decide)) (ja_kLo (l := [w0, g0, w, g, 2]) (by decide)) (hz.2 _ (Nat.le_refl _)) fun X cx => ?_
  refine ja_s_dup cx.1 dX11_init_177 rfl ?_
  have len : (ja_sh X).length = 75 := by rw [ja_Cx_len cx, hsh]; rfl
  refine jx_call (as := []) (r := 74) (L := [some (.inr (.inr (some 0))), some (.inl w0), some (.inl g0), some (.inl w), some (.inl g), some (.inl 2)]) (st := [.inr (.inr (some 74)), .inl 2, .inr (.inr (some 65))]) (mc := 3) (ms := 428) (ext2 := [(1, 16), (1, 112), (1, 300)]) (Q2 := fun h' => h' = ((ja_up (ja_up (ja_up (tw13 w g).1 74 0 (some 75)) 74 1 (some 76)) 74 2 (some 77)), (tw13 w g).2.1, (tw13 w g).2.2) ∧ ja_Hz 78 h') (d' := d + 3) cx jIX11_92 dX11_init_178 (by omega) rfl (Nat.le_of_ble_eq_true rfl) (by decide) (by show 3901 + 14 * n + 5 + 428 ≤ _; omega) (by rw [len]; exact ja_k3 (by decide) (by decide)) (by rw [len]; exact (ja_kLo (l := [w0, g0, w, g, 2]) (by decide))) (gX4_init len (by decide) (ja_Cx_at cx 73 (by rw [hsh]; rfl) rfl) (ja_Hz_m hz (by decide)) fun z => ⟨rfl, z⟩) fun X h1 hq cx => ?_
  obtain ⟨rfl, hz⟩ := hq
  refine jx_astG (i := 0) cx.1 dX11_init_181 (ja_Cx_at cx 64 (by rw [hsh]; rfl) rfl) (by decide) (by decide) (ja_Cx_at cx 73 (by rw [hsh]; rfl) rfl) ?_
  refine ja_s_iinc cx.1 dX11_init_182 (by rw [ja_Cx_nL cx, hnl]; decide) rfl (ja_s_goto cx.1 dX11_init_185 rfl ?_)
  change ja_At X 161 [some (.inr (.inr (some 0))), some (.inl w0), some (.inl g0), some (.inl w), some (.inl g), some (.inl (ja_w (2 + 1)))] [] (tw14 w g)
  rw [show ja_w (2 + 1) = 3 by decide]
  have hz : ja_Hz 78 (tw14 w g) := ja_Hz_R (o := 65) (j := 2) (v := 74) hz (by decide) (by decide)
  have p10 : (tw14 w g).1 0 10 = some 65 := Eq.trans (show (tw14 w g).1 0 10 = (tw13 w g).1 0 10 from rfl) p10
  have cx : ja_Cx X0 X cX11_init RX11 (d + 4) (((js_sh n).take 78).drop 1) 77 (4334 + 14 * n) 89 (5633 + 14 * n) := ja_Cx_e cx rfl rfl (by show 3901 + 14 * n + 5 + 428 = _; omega)
  refine ja_s_iload cx.1 dX11_init_161 rfl (ja_s_bipush cx.1 dX11_init_163 (v := 6) (by decide) (ja_s_icmp_ge cx.1 dX11_init_165 rfl (fun y => absurd y (by decide)) fun _ => ?_))
  refine ja_s_aload_n cx.1 dX11_init_168 rfl rfl (jx_gR cx.1 flX11_88 rfl dX11_init_169 (ja_Cx_old cx ho) p10 (ja_s_iload cx.1 dX11_init_172 rfl ?_))
  refine jx_new (k := 78) (st := [.inl 3, .inr (.inr (some 65))]) (L := [some (.inr (.inr (some 0))), some (.inl w0), some (.inl g0), some (.inl w), some (.inl g), some (.inl 3)]) cx jNX11_86 dX11_init_174 (by rw [ja_Cx_len cx, hsh]; rfl) (by decide) (by decide) (by show 4334 + 14 * n + 5 ≤ _; omega) hz.1 (ja_k4 (by decide)) (ja_kLo (l := [w0, g0, w, g, 3]) (by decide)) (hz.2 _ (Nat.le_refl _)) fun X cx => ?_
  refine ja_s_dup cx.1 dX11_init_177 rfl ?_
  have len : (ja_sh X).length = 79 := by rw [ja_Cx_len cx, hsh]; rfl
  refine jx_call (as := []) (r := 78) (L := [some (.inr (.inr (some 0))), some (.inl w0), some (.inl g0), some (.inl w), some (.inl g), some (.inl 3)]) (st := [.inr (.inr (some 78)), .inl 3, .inr (.inr (some 65))]) (mc := 3) (ms := 428) (ext2 := [(1, 16), (1, 112), (1, 300)]) (Q2 := fun h' => h' = ((ja_up (ja_up (ja_up (tw14 w g).1 78 0 (some 79)) 78 1 (some 80)) 78 2 (some 81)), (tw14 w g).2.1, (tw14 w g).2.2) ∧ ja_Hz 82 h') (d' := d + 3) cx jIX11_92 dX11_init_178 (by omega) rfl (Nat.le_of_ble_eq_true rfl) (by decide) (by show 4334 + 14 * n + 5 + 428 ≤ _; omega) (by rw [len]; exact ja_k3 (by decide) (by decide)) (by rw [len]; exact (ja_kLo (l := [w0, g0, w, g, 3]) (by decide))) (gX4_init len (by decide) (ja_Cx_at cx 77 (by rw [hsh]; rfl) rfl) (ja_Hz_m hz (by decide)) fun z => ⟨rfl, z⟩) fun X h1 hq cx => ?_
  obtain ⟨rfl, hz⟩ := hq
  refine jx_astG (i := 0) cx.1 dX11_init_181 (ja_Cx_at cx 64 (by rw [hsh]; rfl) rfl) (by decide) (by decide) (ja_Cx_at cx 77 (by rw [hsh]; rfl) rfl) ?_
  refine ja_s_iinc cx.1 dX11_init_182 (by rw [ja_Cx_nL cx, hnl]; decide) rfl (ja_s_goto cx.1 dX11_init_185 rfl ?_)
  change ja_At X 161 [some (.inr (.inr (some 0))), some (.inl w0), some (.inl g0), some (.inl w), some (.inl g), some (.inl (ja_w (3 + 1)))] [] (tw15 w g)
  rw [show ja_w (3 + 1) = 4 by decide]
  have hz : ja_Hz 82 (tw15 w g) := ja_Hz_R (o := 65) (j := 3) (v := 78) hz (by decide) (by decide)
  have p10 : (tw15 w g).1 0 10 = some 65 := Eq.trans (show (tw15 w g).1 0 10 = (tw14 w g).1 0 10 from rfl) p10
  have cx : ja_Cx X0 X cX11_init RX11 (d + 4) (((js_sh n).take 82).drop 1) 81 (4767 + 14 * n) 89 (5633 + 14 * n) := ja_Cx_e cx rfl rfl (by show 4334 + 14 * n + 5 + 428 = _; omega)
  refine ja_s_iload cx.1 dX11_init_161 rfl (ja_s_bipush cx.1 dX11_init_163 (v := 6) (by decide) (ja_s_icmp_ge cx.1 dX11_init_165 rfl (fun y => absurd y (by decide)) fun _ => ?_))
  refine ja_s_aload_n cx.1 dX11_init_168 rfl rfl (jx_gR cx.1 flX11_88 rfl dX11_init_169 (ja_Cx_old cx ho) p10 (ja_s_iload cx.1 dX11_init_172 rfl ?_))
  refine jx_new (k := 82) (st := [.inl 4, .inr (.inr (some 65))]) (L := [some (.inr (.inr (some 0))), some (.inl w0), some (.inl g0), some (.inl w), some (.inl g), some (.inl 4)]) cx jNX11_86 dX11_init_174 (by rw [ja_Cx_len cx, hsh]; rfl) (by decide) (by decide) (by show 4767 + 14 * n + 5 ≤ _; omega) hz.1 (ja_k4 (by decide)) (ja_kLo (l := [w0, g0, w, g, 4]) (by decide)) (hz.2 _ (Nat.le_refl _)) fun X cx => ?_
  refine ja_s_dup cx.1 dX11_init_177 rfl ?_
  have len : (ja_sh X).length = 83 := by rw [ja_Cx_len cx, hsh]; rfl
  refine jx_call (as := []) (r := 82) (L := [some (.inr (.inr (some 0))), some (.inl w0), some (.inl g0), some (.inl w), some (.inl g), some (.inl 4)]) (st := [.inr (.inr (some 82)), .inl 4, .inr (.inr (some 65))]) (mc := 3) (ms := 428) (ext2 := [(1, 16), (1, 112), (1, 300)]) (Q2 := fun h' => h' = ((ja_up (ja_up (ja_up (tw15 w g).1 82 0 (some 83)) 82 1 (some 84)) 82 2 (some 85)), (tw15 w g).2.1, (tw15 w g).2.2) ∧ ja_Hz 86 h') (d' := d + 3) cx jIX11_92 dX11_init_178 (by omega) rfl (Nat.le_of_ble_eq_true rfl) (by decide) (by show 4767 + 14 * n + 5 + 428 ≤ _; omega) (by rw [len]; exact ja_k3 (by decide) (by decide)) (by rw [len]; exact (ja_kLo (l := [w0, g0, w, g, 4]) (by decide))) (gX4_init len (by decide) (ja_Cx_at cx 81 (by rw [hsh]; rfl) rfl) (ja_Hz_m hz (by decide)) fun z => ⟨rfl, z⟩) fun X h1 hq cx => ?_
  obtain ⟨rfl, hz⟩ := hq
  refine jx_astG (i := 0) cx.1 dX11_init_181 (ja_Cx_at cx 64 (by rw [hsh]; rfl) rfl) (by decide) (by decide) (ja_Cx_at cx 81 (by rw [hsh]; rfl) rfl) ?_
  refine ja_s_iinc cx.1 dX11_init_182 (by rw [ja_Cx_nL cx, hnl]; decide) rfl (ja_s_goto cx.1 dX11_init_185 rfl ?_)
  change ja_At X 161 [some (.inr (.inr (some 0))), some (.inl w0), some (.inl g0), some (.inl w), some (.inl g), some (.inl (ja_w (4 + 1)))] [] (tw16 w g)
  rw [show ja_w (4 + 1) = 5 by decide]
  have hz : ja_Hz 86 (tw16 w g) := ja_Hz_R (o := 65) (j := 4) (v := 82) hz (by decide) (by decide)
  have p10 : (tw16 w g).1 0 10 = some 65 := Eq.trans (show (tw16 w g).1 0 10 = (tw15 w g).1 0 10 from rfl) p10
  have cx : ja_Cx X0 X cX11_init RX11 (d + 4) (((js_sh n).take 86).drop 1) 85 (5200 + 14 * n) 89 (5633 + 14 * n) := ja_Cx_e cx rfl rfl (by show 4767 + 14 * n + 5 + 428 = _; omega)
  refine ja_s_iload cx.1 dX11_init_161 rfl (ja_s_bipush cx.1 dX11_init_163 (v := 6) (by decide) (ja_s_icmp_ge cx.1 dX11_init_165 rfl (fun y => absurd y (by decide)) fun _ => ?_))
  refine ja_s_aload_n cx.1 dX11_init_168 rfl rfl (jx_gR cx.1 flX11_88 rfl dX11_init_169 (ja_Cx_old cx ho) p10 (ja_s_iload cx.1 dX11_init_172 rfl ?_))
  refine jx_new (k := 86) (st := [.inl 5, .inr (.inr (some 65))]) (L := [some (.inr (.inr (some 0))), some (.inl w0), some (.inl g0), some (.inl w), some (.inl g), some (.inl 5)]) cx jNX11_86 dX11_init_174 (by rw [ja_Cx_len cx, hsh]; rfl) (by decide) (by decide) (by show 5200 + 14 * n + 5 ≤ _; omega) hz.1 (ja_k4 (by decide)) (ja_kLo (l := [w0, g0, w, g, 5]) (by decide)) (hz.2 _ (Nat.le_refl _)) fun X cx => ?_
  refine ja_s_dup cx.1 dX11_init_177 rfl ?_
  have len : (ja_sh X).length = 87 := by rw [ja_Cx_len cx, hsh]; rfl
  refine jx_call (as := []) (r := 86) (L := [some (.inr (.inr (some 0))), some (.inl w0), some (.inl g0), some (.inl w), some (.inl g), some (.inl 5)]) (st := [.inr (.inr (some 86)), .inl 5, .inr (.inr (some 65))]) (mc := 3) (ms := 428) (ext2 := [(1, 16), (1, 112), (1, 300)]) (Q2 := fun h' => h' = ((ja_up (ja_up (ja_up (tw16 w g).1 86 0 (some 87)) 86 1 (some 88)) 86 2 (some 89)), (tw16 w g).2.1, (tw16 w g).2.2) ∧ ja_Hz 90 h') (d' := d + 3) cx jIX11_92 dX11_init_178 (by omega) rfl (Nat.le_of_ble_eq_true rfl) (by decide) (by show 5200 + 14 * n + 5 + 428 ≤ _; omega) (by rw [len]; exact ja_k3 (by decide) (by decide)) (by rw [len]; exact (ja_kLo (l := [w0, g0, w, g, 5]) (by decide))) (gX4_init len (by decide) (ja_Cx_at cx 85 (by rw [hsh]; rfl) rfl) (ja_Hz_m hz (by decide)) fun z => ⟨rfl, z⟩) fun X h1 hq cx => ?_
  obtain ⟨rfl, hz⟩ := hq
  refine jx_astG (i := 0) cx.1 dX11_init_181 (ja_Cx_at cx 64 (by rw [hsh]; rfl) rfl) (by decide) (by decide) (ja_Cx_at cx 85 (by rw [hsh]; rfl) rfl) ?_
  refine ja_s_iinc cx.1 dX11_init_182 (by rw [ja_Cx_nL cx, hnl]; decide) rfl (ja_s_goto cx.1 dX11_init_185 rfl ?_)
  change ja_At X 161 [some (.inr (.inr (some 0))), some (.inl w0), some (.inl g0), some (.inl w), some (.inl g), some (.inl (ja_w (5 + 1)))] [] (tw17 w g)
  rw [show ja_w (5 + 1) = 6 by decide]
  have hz : ja_Hz 90 (tw17 w g) := ja_Hz_R (o := 65) (j := 5) (v := 86) hz (by decide) (by decide)
  have p10 : (tw17 w g).1 0 10 = some 65 := Eq.trans (show (tw17 w g).1 0 10 = (tw16 w g).1 0 10 from rfl) p10
  have cx : ja_Cx X0 X cX11_init RX11 (d + 4) (((js_sh n).take 90).drop 1) 89 (5633 + 14 * n) 89 (5633 + 14 * n) := ja_Cx_e cx rfl rfl (by show 5200 + 14 * n + 5 + 428 = _; omega)
  refine ja_s_iload cx.1 dX11_init_161 rfl (ja_s_bipush cx.1 dX11_init_163 (v := 6) (by decide) (ja_s_icmp_ge cx.1 dX11_init_165 rfl (fun _ => ?_) fun y => absurd (by decide) y))
  exact ret X (ja_Gr_e cx.2.2.1 rfl rfl rfl) _ _ _ dX11_init_188 (q hz)
