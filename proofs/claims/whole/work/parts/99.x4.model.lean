/-! the reference -/
def mdR (R : Nat → Nat → Option Nat) : Nat → Nat → Option Nat := (ja_up (ja_up (ja_up (ja_up (ja_up (ja_up (ja_up (ja_up (ja_up (ja_up (ja_up (ja_up (ja_up (ja_up (ja_up (ja_up (ja_up R 90 2 (some 91)) 90 3 (some 92)) 90 4 (some 93)) 90 5 (some 94)) 90 6 (some 95)) 90 7 (some 96)) 90 15 (some 97)) 90 28 (some 98)) 90 34 (some 99)) 90 36 (some 100)) 90 37 (some 101)) 90 38 (some 102)) 90 39 (some 103)) 90 40 (some 104)) 90 41 (some 105)) 90 42 (some 106)) 90 43 (some 107))
def mdI (I : Nat → Nat → Int) (w g : Int) : Nat → Nat → Int := fil (ja_up (ja_up (ja_up (ja_up (ja_up I 90 17 (-1)) 90 18 (-1)) 90 0 w) 90 1 g) 91 4 90) 91 890 914 50
def mdH (h : ja_H) (w g : Int) : ja_H := (mdR h.1, jm_cpr (mdI h.2.1 w g) 92 91 0 0 920, h.2.2)
theorem mdF {X0 X : ja_X} {d : Nat} {ext : ja_S} {ce sl CE SL : Nat} {w0 g0 : Int} (ho : (ja_sh X0)[90]? = some (0, 12)) (hnl : X0.2.2.2.2.2.2 = 4) (cx : ja_Cx X0 X cX12_init RX12 (d + 2) ext ce sl CE SL) (sK : (ja_sh X)[91]? = some (1, 920)) : ∀ (m i : Nat) (h : ja_H), m + i = 24 → h.1 90 2 = some 91 → ja_At X 241 (stL 90 w0 g0 24) [] (h.1, fil h.2.1 91 (890 + i) 914 50, h.2.2) → ja_At X 217 (stL 90 w0 g0 (i : Int)) [] h := by
  intro m
  induction m with
  | zero =>
    intro i h hi hp kk
    have hi : i = 24 := by omega
    subst hi
    refine ja_s_iload_n cx.1 dX12_init_217 rfl rfl (ja_s_bipush cx.1 dX12_init_218 (v := 24) (by decide) (ja_s_icmp_ge cx.1 dX12_init_220 rfl (fun _ => ?_) fun y => absurd (by omega) y))
    rw [show 890 + 24 = 914 from rfl, fil_e] at kk
    exact kk
  | succ m ih =>
    intro i h hi hp kk
    refine ja_s_iload_n cx.1 dX12_init_217 rfl rfl (ja_s_bipush cx.1 dX12_init_218 (v := 24) (by decide) (ja_s_icmp_ge cx.1 dX12_init_220 rfl (fun y => absurd y (by omega)) fun _ => ?_))
    refine ja_s_aload_n cx.1 dX12_init_223 rfl rfl (jx_gR cx.1 flX12_7 rfl dX12_init_224 (ja_Cx_old cx ho) hp (ja_s_sipush cx.1 dX12_init_227 (v := 890) (by decide) (ja_s_iload_n cx.1 dX12_init_230 rfl rfl (ja_s_iadd cx.1 dX12_init_231 (ja_s_bipush cx.1 dX12_init_232 (v := 50) (by decide) ?_)))))
    have ea : ja_w (890 + (i : Int)) = ((890 + i : Nat) : Int) := by rw [ja_w_id (by unfold ja_r; omega)]; omega
    rw [ea]
    refine ja_s_iast cx.1 dX12_init_234 sK (by omega) (by omega) (ja_s_iinc cx.1 dX12_init_235 (by rw [ja_Cx_nL cx, hnl]; decide) rfl (ja_s_goto cx.1 dX12_init_238 rfl ?_))
    have ei : ja_w ((i : Int) + 1) = ((i + 1 : Nat) : Int) := by rw [ja_w_id (by unfold ja_r; omega)]; omega
    rw [ei, Int.toNat_natCast]
    refine ih (i + 1) (h.1, ja_up h.2.1 91 (890 + i) 50, h.2.2) (by omega) hp ?_
    dsimp only
    rw [show 890 + (i + 1) = 890 + i + 1 by omega, fil_s (by omega)]
    exact kk
theorem mdR_2 {R : Nat → Nat → Option Nat} : mdR R 90 2 = some 91 := rfl
theorem mdR_3 {R : Nat → Nat → Option Nat} : mdR R 90 3 = some 92 := rfl
set_option maxRecDepth 10000 in
set_option maxHeartbeats 4000000 in
theorem gX12_init {l : Launch} {d n : Nat} {w0 g0 w g : Int} {h : ja_H} {Q : ja_H → Prop} (ew : w = max 4 (min 12 w0)) (eg : g = max 4 (min 12 g0)) (hz : ja_Hz 91 h) (q : ja_Hz 108 (mdH h w g) → Q (mdH h w g)) : ja_G l (d + 2) mX12_init 17 9852 ((js_sh n).take 91) [.inr (.inr (some 90)), .inl w0, .inl g0] h ((js_sh n).drop 91) Q := by
  have hw : 4 ≤ w ∧ w ≤ 12 := by omega
  have hg : 4 ≤ g ∧ g ≤ 12 := by omega
  refine ja_metG (by decide +kernel) (Nat.le_of_ble_eq_true rfl) rfl rfl ?_
  intro X0 cx hl hsh hnl ret has hho
  have hnl : X0.2.2.2.2.2.2 = 4 := hnl
  have ho : (ja_sh X0)[90]? = some (0, 12) := by rw [hsh]; rfl
  refine ja_s_aload_n cx.1 dX12_init_0 rfl rfl (jx_obj cx.1 jOX12 dX12_init_1 ?_)
  refine jx_arrI (k := 91) (z := 920) cx dX12_init_4 rfl (fun h2 q => ja_s_sipush cx.1 dX12_init_5 (by decide) q) dX12_init_8 flX12_7 rfl rfl dX12_init_10 ho (by rw [hsh]; rfl) (by decide) (by decide) (by decide) (by decide) (by decide) hz (ja_kLn (l := [w0, g0]) (m := 1) (by decide)) fun X cx hz => ?_
  refine jx_arrI (k := 92) (z := 920) cx dX12_init_13 rfl (fun h2 q => ja_s_sipush cx.1 dX12_init_14 (by decide) q) dX12_init_17 flX12_13 rfl rfl dX12_init_19 ho (by rw [hsh]; rfl) (by decide) (by decide) (by decide) (by decide) (by decide) hz (ja_kLn (l := [w0, g0]) (m := 1) (by decide)) fun X cx hz => ?_
  refine jx_arrI (k := 93) (z := 6000) cx dX12_init_22 rfl (fun h2 q => ja_s_sipush cx.1 dX12_init_23 (by decide) q) dX12_init_26 flX12_16 rfl rfl dX12_init_28 ho (by rw [hsh]; rfl) (by decide) (by decide) (by decide) (by decide) (by decide) hz (ja_kLn (l := [w0, g0]) (m := 1) (by decide)) fun X cx hz => ?_
  refine jx_arrI (k := 94) (z := 726) cx dX12_init_31 rfl (fun h2 q => ja_s_sipush cx.1 dX12_init_32 (by decide) q) dX12_init_35 flX12_19 rfl rfl dX12_init_37 ho (by rw [hsh]; rfl) (by decide) (by decide) (by decide) (by decide) (by decide) hz (ja_kLn (l := [w0, g0]) (m := 1) (by decide)) fun X cx hz => ?_
  refine jx_arrI (k := 95) (z := 3) cx dX12_init_40 rfl (fun h2 q => ja_s_iconst cx.1 dX12_init_41 (by decide) q) dX12_init_42 flX12_22 rfl rfl dX12_init_44 ho (by rw [hsh]; rfl) (by decide) (by decide) (by decide) (by decide) (by decide) hz (ja_kLn (l := [w0, g0]) (m := 1) (by decide)) fun X cx hz => ?_
  refine jx_arrI (k := 96) (z := 4) cx dX12_init_47 rfl (fun h2 q => ja_s_iconst cx.1 dX12_init_48 (by decide) q) dX12_init_49 flX12_25 rfl rfl dX12_init_51 ho (by rw [hsh]; rfl) (by decide) (by decide) (by decide) (by decide) (by decide) hz (ja_kLn (l := [w0, g0]) (m := 1) (by decide)) fun X cx hz => ?_
  refine jx_arrI (k := 97) (z := 300) cx dX12_init_54 rfl (fun h2 q => ja_s_sipush cx.1 dX12_init_55 (by decide) q) dX12_init_58 flX12_28 rfl rfl dX12_init_60 ho (by rw [hsh]; rfl) (by decide) (by decide) (by decide) (by decide) (by decide) hz (ja_kLn (l := [w0, g0]) (m := 1) (by decide)) fun X cx hz => ?_
  refine ja_s_aload_n cx.1 dX12_init_63 rfl rfl (ja_s_iconst cx.1 dX12_init_64 (v := -1) (by decide) (ja_s_putI cx.1 flX12_31 rfl dX12_init_65 (ja_Cx_old cx ho) ?_))
  have hz := ja_Hz_I (o := 90) (j := 17) (z := -1) hz (by decide)
  refine ja_s_aload_n cx.1 dX12_init_68 rfl rfl (ja_s_iconst cx.1 dX12_init_69 (v := -1) (by decide) (ja_s_putI cx.1 flX12_35 rfl dX12_init_70 (ja_Cx_old cx ho) ?_))
  have hz := ja_Hz_I (o := 90) (j := 18) (z := -1) hz (by decide)
  refine jx_arrI (k := 98) (z := 160) cx dX12_init_73 rfl (fun h2 q => ja_s_sipush cx.1 dX12_init_74 (by decide) q) dX12_init_77 flX12_38 rfl rfl dX12_init_79 ho (by rw [hsh]; rfl) (by decide) (by decide) (by decide) (by decide) (by decide) hz (ja_kLn (l := [w0, g0]) (m := 1) (by decide)) fun X cx hz => ?_
  refine jx_arrI (k := 99) (z := 16) cx dX12_init_82 rfl (fun h2 q => ja_s_bipush cx.1 dX12_init_83 (by decide) q) dX12_init_85 flX12_41 rfl rfl dX12_init_87 ho (by rw [hsh]; rfl) (by decide) (by decide) (by decide) (by decide) (by decide) hz (ja_kLn (l := [w0, g0]) (m := 1) (by decide)) fun X cx hz => ?_
  refine jx_arrI (k := 100) (z := 6) cx dX12_init_90 rfl (fun h2 q => ja_s_bipush cx.1 dX12_init_91 (by decide) q) dX12_init_93 flX12_44 rfl rfl dX12_init_95 ho (by rw [hsh]; rfl) (by decide) (by decide) (by decide) (by decide) (by decide) hz (ja_kLn (l := [w0, g0]) (m := 1) (by decide)) fun X cx hz => ?_
  refine jx_arrL (k := 101) (z := 330) cx dX12_init_98 rfl (fun h2 q => ja_s_sipush cx.1 dX12_init_99 (by decide) q) dX12_init_102 flX12_47 rfl rfl dX12_init_104 ho (by rw [hsh]; rfl) (by decide) (by decide) (by decide) (by decide) (by decide) hz (ja_kLn (l := [w0, g0]) (m := 1) (by decide)) fun X cx hz => ?_
  refine jx_arrI (k := 102) (z := 144) cx dX12_init_107 rfl (fun h2 q => ja_s_sipush cx.1 dX12_init_108 (by decide) q) dX12_init_111 flX12_51 rfl rfl dX12_init_113 ho (by rw [hsh]; rfl) (by decide) (by decide) (by decide) (by decide) (by decide) hz (ja_kLn (l := [w0, g0]) (m := 1) (by decide)) fun X cx hz => ?_
  refine jx_arrI (k := 103) (z := 16) cx dX12_init_116 rfl (fun h2 q => ja_s_bipush cx.1 dX12_init_117 (by decide) q) dX12_init_119 flX12_54 rfl rfl dX12_init_121 ho (by rw [hsh]; rfl) (by decide) (by decide) (by decide) (by decide) (by decide) hz (ja_kLn (l := [w0, g0]) (m := 1) (by decide)) fun X cx hz => ?_
  refine jx_arrI (k := 104) (z := 16) cx dX12_init_124 rfl (fun h2 q => ja_s_bipush cx.1 dX12_init_125 (by decide) q) dX12_init_127 flX12_57 rfl rfl dX12_init_129 ho (by rw [hsh]; rfl) (by decide) (by decide) (by decide) (by decide) (by decide) hz (ja_kLn (l := [w0, g0]) (m := 1) (by decide)) fun X cx hz => ?_
  refine jx_arrI (k := 105) (z := 144) cx dX12_init_132 rfl (fun h2 q => ja_s_sipush cx.1 dX12_init_133 (by decide) q) dX12_init_136 flX12_60 rfl rfl dX12_init_138 ho (by rw [hsh]; rfl) (by decide) (by decide) (by decide) (by decide) (by decide) hz (ja_kLn (l := [w0, g0]) (m := 1) (by decide)) fun X cx hz => ?_
  refine jx_arrI (k := 106) (z := 144) cx dX12_init_141 rfl (fun h2 q => ja_s_sipush cx.1 dX12_init_142 (by decide) q) dX12_init_145 flX12_63 rfl rfl dX12_init_147 ho (by rw [hsh]; rfl) (by decide) (by decide) (by decide) (by decide) (by decide) hz (ja_kLn (l := [w0, g0]) (m := 1) (by decide)) fun X cx hz => ?_
  refine jx_arrI (k := 107) (z := 3) cx dX12_init_150 rfl (fun h2 q => ja_s_iconst cx.1 dX12_init_151 (by decide) q) dX12_init_152 flX12_66 rfl rfl dX12_init_154 ho (by rw [hsh]; rfl) (by decide) (by decide) (by decide) (by decide) (by decide) hz (ja_kLn (l := [w0, g0]) (m := 1) (by decide)) fun X cx hz => ?_
  have cx : ja_Cx X0 X cX12_init RX12 (d + 2) ((js_sh n).drop 91) 17 9852 17 9852 := ja_Cx_e cx rfl rfl rfl
  change ja_At X 157 [some (.inr (.inr (some 90))), some (.inl w0), some (.inl g0), none] [] (mdR h.1, ja_up (ja_up h.2.1 90 17 (-1)) 90 18 (-1), h.2.2)
  have hz : ja_Hz 108 (mdR h.1, ja_up (ja_up h.2.1 90 17 (-1)) 90 18 (-1), h.2.2) := hz
  have sx : ja_sh X = js_sh n := by rw [ja_Cx_sh cx, hsh]; rfl
  have p2 := mdR_2 (R := h.1)
  have p3 := mdR_3 (R := h.1)
  obtain ⟨R1, hR1⟩ : ∃ R1, mdR h.1 = R1 := ⟨_, rfl⟩
  rw [hR1] at hz p2 p3 ⊢
  refine ja_s_aload_n cx.1 dX12_init_157 rfl rfl ?_
  suffices k : ja_At X 179 [some (.inr (.inr (some 90))), some (.inl w0), some (.inl g0), none] [.inl w, .inr (.inr (some 90))] (R1, ja_up (ja_up h.2.1 90 17 (-1)) 90 18 (-1), h.2.2) by
    have k : ∀ z, z = w → ja_At X 179 [some (.inr (.inr (some 90))), some (.inl w0), some (.inl g0), none] [.inl z, .inr (.inr (some 90))] (R1, ja_up (ja_up h.2.1 90 17 (-1)) 90 18 (-1), h.2.2) := fun z e => by rw [e]; exact k
    refine ja_s_iload_n cx.1 dX12_init_158 rfl rfl (ja_s_iconst cx.1 dX12_init_159 (v := 4) (by decide) (ja_s_icmp_ge cx.1 dX12_init_160 rfl (fun y => ?_) fun y => ?_))
    · refine ja_s_iload_n cx.1 dX12_init_167 rfl rfl (ja_s_bipush cx.1 dX12_init_168 (v := 12) (by decide) (ja_s_icmp_le cx.1 dX12_init_170 rfl (fun z => ?_) fun z => ?_))
      · refine ja_s_iload_n cx.1 dX12_init_178 rfl rfl ?_
        exact k w0 (by omega)
      · refine ja_s_bipush cx.1 dX12_init_173 (v := 12) (by decide) (ja_s_goto cx.1 dX12_init_175 rfl ?_)
        exact k 12 (by omega)
    · refine ja_s_iconst cx.1 dX12_init_163 (v := 4) (by decide) (ja_s_goto cx.1 dX12_init_164 rfl ?_)
      exact k 4 (by omega)
  refine jx_putI cx.1 cx.2.1 flX12_69 rfl rfl dX12_init_179 (ja_Cx_old cx ho) ?_
  refine ja_s_aload_n cx.1 dX12_init_182 rfl rfl ?_
  suffices k : ja_At X 204 [some (.inr (.inr (some 90))), some (.inl w0), some (.inl g0), none] [.inl g, .inr (.inr (some 90))] (R1, ja_up (ja_up (ja_up h.2.1 90 17 (-1)) 90 18 (-1)) 90 0 w, h.2.2) by
    have k : ∀ z, z = g → ja_At X 204 [some (.inr (.inr (some 90))), some (.inl w0), some (.inl g0), none] [.inl z, .inr (.inr (some 90))] (R1, ja_up (ja_up (ja_up h.2.1 90 17 (-1)) 90 18 (-1)) 90 0 w, h.2.2) := fun z e => by rw [e]; exact k
    refine ja_s_iload_n cx.1 dX12_init_183 rfl rfl (ja_s_iconst cx.1 dX12_init_184 (v := 4) (by decide) (ja_s_icmp_ge cx.1 dX12_init_185 rfl (fun y => ?_) fun y => ?_))
    · refine ja_s_iload_n cx.1 dX12_init_192 rfl rfl (ja_s_bipush cx.1 dX12_init_193 (v := 12) (by decide) (ja_s_icmp_le cx.1 dX12_init_195 rfl (fun z => ?_) fun z => ?_))
      · refine ja_s_iload_n cx.1 dX12_init_203 rfl rfl ?_
        exact k g0 (by omega)
      · refine ja_s_bipush cx.1 dX12_init_198 (v := 12) (by decide) (ja_s_goto cx.1 dX12_init_200 rfl ?_)
        exact k 12 (by omega)
    · refine ja_s_iconst cx.1 dX12_init_188 (v := 4) (by decide) (ja_s_goto cx.1 dX12_init_189 rfl ?_)
      exact k 4 (by omega)
  refine jx_putI cx.1 cx.2.1 flX12_72 rfl rfl dX12_init_204 (ja_Cx_old cx ho) ?_
  refine ja_s_aload_n cx.1 dX12_init_207 rfl rfl (jx_gR cx.1 flX12_7 rfl dX12_init_208 (ja_Cx_old cx ho) p2 (ja_s_iconst cx.1 dX12_init_211 (v := 4) (by decide) (ja_s_bipush cx.1 dX12_init_212 (v := 90) (by decide) ?_)))
  refine ja_s_iast cx.1 dX12_init_214 (by rw [sx]; rfl) (by decide) (by decide) ?_
  refine ja_s_iconst cx.1 dX12_init_215 (v := 0) (by decide) (ja_s_istore_n cx.1 dX12_init_216 rfl (by rw [ja_Cx_nL cx, hnl]; decide) ?_)
  change ja_At X 217 (stL 90 w0 g0 ((0 : Nat) : Int)) [] (R1, ja_up (ja_up (ja_up (ja_up (ja_up h.2.1 90 17 (-1)) 90 18 (-1)) 90 0 w) 90 1 g) 91 4 90, h.2.2)
  refine mdF ho hnl cx (by rw [sx]; rfl) 24 0 _ rfl p2 ?_
  change ja_At X 241 (stL 90 w0 g0 24) [] (R1, mdI h.2.1 w g, h.2.2)
  refine ja_s_aload_n cx.1 dX12_init_241 rfl rfl (jx_gR cx.1 flX12_7 rfl dX12_init_242 (ja_Cx_old cx ho) p2 (ja_s_aload_n cx.1 dX12_init_245 rfl rfl (jx_gR cx.1 flX12_13 rfl dX12_init_246 (ja_Cx_old cx ho) p3 ?_)))
  refine ja_s_callS (as := [.inr (.inr (some 91)), .inr (.inr (some 92))]) (st := []) (d' := d + 1) (Q2 := fun r h' => r = none ∧ (R1, jm_cpr (mdI h.2.1 w g) 92 91 0 0 920, h.2.2) = h') cx.1 mlX12_75 dX12_init_249 (by omega) rfl (Nat.le_of_ble_eq_true rfl) (by rw [sx]; exact kX12_copyRow rfl rfl (by decide) ⟨rfl, rfl⟩) fun r h' hq => ?_
  obtain ⟨rfl, rfl⟩ := hq
  subst hR1
  have hzf : ja_Hz 108 (mdH h w g) := by
    refine ⟨hz.1, fun a ha i => ?_⟩
    have := hz.2 a ha i
    refine ⟨this.1, ?_, this.2.2⟩
    have t2 : h.2.1 a i = 0 := by
      have t := this.2.1
      dsimp only at t
      rw [ja_upn _ _ (by omega), ja_upn _ _ (by omega)] at t
      exact t
    show jm_cpr (mdI h.2.1 w g) 92 91 0 0 920 a i = 0
    unfold jm_cpr
    rw [if_neg (by omega)]
    unfold mdI fil
    rw [if_neg (by omega), ja_upn _ _ (by omega), ja_upn _ _ (by omega), ja_upn _ _ (by omega), ja_upn _ _ (by omega), ja_upn _ _ (by omega)]
    exact t2
  exact ret X (ja_Gr_e cx.2.2.1 rfl rfl rfl) _ _ _ dX12_init_252 (q hzf)
