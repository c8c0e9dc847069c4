/-! what a word stands for -/
def akC (T : Nat → Int) (Ln s : Nat) : Int := if tkW T Ln s 0 = true then 1 else if tkW T Ln s 1 = true then 2 else if tkW T Ln s 2 = true then 3 else if tkW T Ln s 3 = true then 4 else if tkW T Ln s 4 = true then 5 else -1
def nmC (T : Nat → Int) (Ln s : Nat) : Int := if tkW T Ln s 6 = true then 0 else if tkW T Ln s 7 = true then 1 else if tkW T Ln s 8 = true then 2 else if tkW T Ln s 9 = true then 3 else if tkW T Ln s 10 = true then 4 else if tkW T Ln s 11 = true then 5 else -1
theorem akC_b {T : Nat → Int} {Ln s : Nat} : akC T Ln s = -1 ∨ (1 ≤ akC T Ln s ∧ akC T Ln s ≤ 5) := by
  unfold akC
  repeat' split
  all_goals omega
theorem nmC_b {T : Nat → Int} {Ln s : Nat} : nmC T Ln s = -1 ∨ (0 ≤ nmC T Ln s ∧ nmC T Ln s ≤ 5) := by
  unfold nmC
  repeat' split
  all_goals omega
theorem tkW_k {T : Nat → Int} {Ln s i : Nat} (h : ¬ tkK T Ln s = 1) : ¬ tkW T Ln s i = true := by unfold tkW; simp only [decide_eq_true_eq]; exact fun y => h y.1
theorem nmC_k {T : Nat → Int} {Ln s : Nat} (h : ¬ tkK T Ln s = 1) : nmC T Ln s = -1 := by unfold nmC; rw [if_neg (tkW_k h), if_neg (tkW_k h), if_neg (tkW_k h), if_neg (tkW_k h), if_neg (tkW_k h), if_neg (tkW_k h)]
theorem tkM_2 {k : Int} : tkM k = 2 ↔ k = 1 := by unfold tkM; split <;> (try split) <;> omega
set_option maxRecDepth 10000 in
theorem kX5_actKind {l : Launch} {d : Nat} {h : ja_H} {Q : ja_Q} {n Ln s : Nat} {T : Nat → Int} (hG : jG h.1) (hL : h.2.1 48 1 = (Ln : Int)) (hL3 : Ln ≤ 300) (hT : h.2.1 49 = T) (hs : s ≤ Ln) (hk : tkO T Ln s h.2.1) (q : Q (some (.inl (akC T Ln s))) h) : ja_C l (d + 6) mX5_actKind (js_sh n) [.inr (.inr (some (48)))] h Q := by
  unfold akC at q
  refine eX5_actKind _ fun ho => ?_
  unfold bX5_actKind
  refine jb_if_d (jd_b (jy_mI (jr_lr rfl) rfl (jA_r jA_0 jr_st) fun _ => kX5_isWord (i := 0) (by decide) hG hL hL3 hT hs hk)) (fun c1 => ?_) (fun c1 => ?_)
  · rw [if_pos c1] at q
    refine jt_rI jv_ci ?_
    exact q
  · rw [if_neg c1] at q
    refine jb_if_d (jd_b (jy_mI (jr_lr rfl) rfl (jA_r jA_0 jr_st) fun _ => kX5_isWord (i := 1) (by decide) hG hL hL3 hT hs hk)) (fun c2 => ?_) (fun c2 => ?_)
    · rw [if_pos c2] at q
      refine jt_rI jv_ci ?_
      exact q
    · rw [if_neg c2] at q
      refine jb_if_d (jd_b (jy_mI (jr_lr rfl) rfl (jA_r jA_0 jr_st) fun _ => kX5_isWord (i := 2) (by decide) hG hL hL3 hT hs hk)) (fun c3 => ?_) (fun c3 => ?_)
      · rw [if_pos c3] at q
        refine jt_rI jv_ci ?_
        exact q
      · rw [if_neg c3] at q
        refine jb_if_d (jd_b (jy_mI (jr_lr rfl) rfl (jA_r jA_0 jr_st) fun _ => kX5_isWord (i := 3) (by decide) hG hL hL3 hT hs hk)) (fun c4 => ?_) (fun c4 => ?_)
        · rw [if_pos c4] at q
          refine jt_rI jv_ci ?_
          exact q
        · rw [if_neg c4] at q
          refine jt_rI (jv_cv (jd_b (jy_mI (jr_lr rfl) rfl (jA_r jA_0 jr_st) fun _ => kX5_isWord (i := 4) (by decide) hG hL hL3 hT hs hk)) (fun _ => jv_ci) (fun _ => jv_ci)) ?_
          exact q
set_option maxRecDepth 10000 in
theorem kX5_nameOfWord {l : Launch} {d : Nat} {h : ja_H} {Q : ja_Q} {n Ln s : Nat} {T : Nat → Int} (hG : jG h.1) (hL : h.2.1 48 1 = (Ln : Int)) (hL3 : Ln ≤ 300) (hT : h.2.1 49 = T) (hs : s ≤ Ln) (hk : tkO T Ln s h.2.1) (q : Q (some (.inl (nmC T Ln s))) h) : ja_C l (d + 6) mX5_nameOfWord (js_sh n) [.inr (.inr (some (48)))] h Q := by
  unfold nmC at q
  refine eX5_nameOfWord _ fun ho => ?_
  unfold bX5_nameOfWord
  refine jb_if_d (jd_b (jy_mI (jr_lr rfl) rfl (jA_r jA_0 jr_st) fun _ => kX5_isWord (i := 6) (by decide) hG hL hL3 hT hs hk)) (fun c1 => ?_) (fun c1 => ?_)
  · rw [if_pos c1] at q
    refine jt_rI jv_ci ?_
    exact q
  · rw [if_neg c1] at q
    refine jb_if_d (jd_b (jy_mI (jr_lr rfl) rfl (jA_r jA_0 jr_st) fun _ => kX5_isWord (i := 7) (by decide) hG hL hL3 hT hs hk)) (fun c2 => ?_) (fun c2 => ?_)
    · rw [if_pos c2] at q
      refine jt_rI jv_ci ?_
      exact q
    · rw [if_neg c2] at q
      refine jb_if_d (jd_b (jy_mI (jr_lr rfl) rfl (jA_r jA_0 jr_st) fun _ => kX5_isWord (i := 8) (by decide) hG hL hL3 hT hs hk)) (fun c3 => ?_) (fun c3 => ?_)
      · rw [if_pos c3] at q
        refine jt_rI jv_ci ?_
        exact q
      · rw [if_neg c3] at q
        refine jb_if_d (jd_b (jy_mI (jr_lr rfl) rfl (jA_r jA_0 jr_st) fun _ => kX5_isWord (i := 9) (by decide) hG hL hL3 hT hs hk)) (fun c4 => ?_) (fun c4 => ?_)
        · rw [if_pos c4] at q
          refine jt_rI jv_ci ?_
          exact q
        · rw [if_neg c4] at q
          refine jb_if_d (jd_b (jy_mI (jr_lr rfl) rfl (jA_r jA_0 jr_st) fun _ => kX5_isWord (i := 10) (by decide) hG hL hL3 hT hs hk)) (fun c5 => ?_) (fun c5 => ?_)
          · rw [if_pos c5] at q
            refine jt_rI jv_ci ?_
            exact q
          · rw [if_neg c5] at q
            refine jt_rI (jv_cv (jd_b (jy_mI (jr_lr rfl) rfl (jA_r jA_0 jr_st) fun _ => kX5_isWord (i := 11) (by decide) hG hL hL3 hT hs hk)) (fun _ => jv_ci) (fun _ => jv_ci)) ?_
            exact q
theorem kX12_w3 {l : Launch} {d : Nat} {sh : ja_S} {h : ja_H} {Q : ja_Q} {a b c : Nat} (hb : a < 256 ∧ b < 256 ∧ c < 256) (q : Q (some (.inr (.inl (((a * 256 + b) * 256 + c : Nat) : Int)))) h) : ja_C l (d + 1) mX12_w3 sh [.inl (a : Int), .inl (b : Int), .inl (c : Int)] h Q := by
  refine eX12_w3 _ _ _ fun _ _ _ _ => ?_
  unfold bX12_w3
  exact jt_rL (jv_is (jv_orL (jv_shlL (jv_is (jv_orL (jv_shlL (jv_li rfl) jv_ci) (jv_li rfl)) (ja_pack (by omega) hb.2.1)) jv_ci) (jv_li rfl)) (ja_pack (by omega) hb.2.2)) q
theorem kX12_w4 {l : Launch} {d : Nat} {sh : ja_S} {h : ja_H} {Q : ja_Q} {a b c e : Nat} (hb : (a < 256 ∧ b < 256 ∧ c < 256) ∧ e < 256) (q : Q (some (.inr (.inl ((((a * 256 + b) * 256 + c) * 256 + e : Nat) : Int)))) h) : ja_C l (d + 2) mX12_w4 sh [.inl (a : Int), .inl (b : Int), .inl (c : Int), .inl (e : Int)] h Q := by
  refine eX12_w4 _ _ _ _ fun _ _ _ _ _ => ?_
  unfold bX12_w4
  exact jt_rL (jv_is (jv_orL (jv_shlL (jy_sL (jA_i (jA_i (jA_i jA_0 (jv_li rfl)) (jv_li rfl)) (jv_li rfl)) fun _ => kX12_w3 hb.1) jv_ci) (jv_li rfl)) (ja_pack (by omega) hb.2)) q
theorem kX12_w5 {l : Launch} {d : Nat} {sh : ja_S} {h : ja_H} {Q : ja_Q} {a b c e f : Nat} (hb : (a < 256 ∧ b < 256 ∧ c < 256) ∧ e < 256 ∧ f < 256) (q : Q (some (.inr (.inl (((((a * 256 + b) * 256 + c) * 256 + e) * 256 + f : Nat) : Int)))) h) : ja_C l (d + 2) mX12_w5 sh [.inl (a : Int), .inl (b : Int), .inl (c : Int), .inl (e : Int), .inl (f : Int)] h Q := by
  refine eX12_w5 _ _ _ _ _ fun _ _ _ _ _ _ => ?_
  unfold bX12_w5
  exact jt_rL (jv_is (jv_orL (jv_shlL (jv_is (jv_orL (jv_shlL (jy_sL (jA_i (jA_i (jA_i jA_0 (jv_li rfl)) (jv_li rfl)) (jv_li rfl)) fun _ => kX12_w3 hb.1) jv_ci) (jv_li rfl)) (ja_pack (by omega) hb.2.1)) jv_ci) (jv_li rfl)) (ja_pack (by omega) hb.2.2)) q
theorem kX12_w6 {l : Launch} {d : Nat} {sh : ja_S} {h : ja_H} {Q : ja_Q} {a b c e f g : Nat} (hb : ((a < 256 ∧ b < 256 ∧ c < 256) ∧ e < 256 ∧ f < 256) ∧ g < 256) (q : Q (some (.inr (.inl ((((((a * 256 + b) * 256 + c) * 256 + e) * 256 + f) * 256 + g : Nat) : Int)))) h) : ja_C l (d + 3) mX12_w6 sh [.inl (a : Int), .inl (b : Int), .inl (c : Int), .inl (e : Int), .inl (f : Int), .inl (g : Int)] h Q := by
  refine eX12_w6 _ _ _ _ _ _ fun _ _ _ _ _ _ _ => ?_
  unfold bX12_w6
  exact jt_rL (jv_is (jv_orL (jv_shlL (jy_sL (jA_i (jA_i (jA_i (jA_i (jA_i jA_0 (jv_li rfl)) (jv_li rfl)) (jv_li rfl)) (jv_li rfl)) (jv_li rfl)) fun _ => kX12_w5 hb.1) jv_ci) (jv_li rfl)) (ja_pack (by omega) hb.2)) q
theorem tkP_w {T : Nat → Int} {Ln s i : Nat} {f g : Nat → Nat → Int} {c : Int} (hk : tkP T Ln s f g) (hi : i < 12) (hc : c = ((jst_n i : Nat) : Int)) (k1 : tkK T Ln s = 1) : g 90 23 = c ↔ tkW T Ln s i = true := by
  rw [hk.2.2.2.2 k1, hc]; exact tkW_n hi k1
theorem tkP_v {T : Nat → Int} {Ln s i : Nat} {f g : Nat → Nat → Int} {c : Int} (hk : tkP T Ln s f g) (hi : i < 12) (hc : c = ((jst_n i : Nat) : Int)) : (tkM (tkK T Ln s) = 2 ∧ g 90 23 = c) ↔ tkW T Ln s i = true := by
  rw [tkM_2]
  constructor
  · intro y; exact (tkP_w hk hi hc y.1).mp y.2
  · intro y
    have k1 : tkK T Ln s = 1 := by
      by_cases z : tkK T Ln s = 1
      · exact z
      · exact absurd y (tkW_k z)
    exact ⟨k1, (tkP_w hk hi hc k1).mpr y⟩
def akM (T : Nat → Int) (Ln s : Nat) : Int := if tkW T Ln s 0 = true then 0 else if tkW T Ln s 1 = true then 1 else if tkW T Ln s 2 = true then 2 else if tkW T Ln s 3 = true then 3 else if tkW T Ln s 4 = true then 4 else -1
theorem akM_C {T : Nat → Int} {Ln s : Nat} : (akC T Ln s = -1 ∧ akM T Ln s = -1) ∨ (0 ≤ akM T Ln s ∧ akC T Ln s = akM T Ln s + 1) := by
  unfold akC akM
  repeat' split
  all_goals omega
set_option maxRecDepth 10000 in
theorem kX12_isWord {l : Launch} {d : Nat} {h : ja_H} {Q : ja_Q} {i : Nat} {c : Int} {n Ln s : Nat} {T : Nat → Int} (hk : tkP T Ln s h.2.1 h.2.2) (hi : i < 12) (hc : c = ((jst_n i : Nat) : Int)) (q : Q (some (.inl (if tkW T Ln s i = true then 1 else 0))) h) : ja_C l (d + 1) mX12_isWord (js_sh n) [.inr (.inr (some (90))), .inr (.inl (c))] h Q := by
  refine eX12_isWord _ _ fun r_w ho => ?_
  unfold bX12_isWord
  refine jt_rZ (φ := tkW T Ln s i = true) (jv_is (jv_cb (jd_eq (jd_and (jd_eqI (jv_gF (jr_lr rfl) rfl hk.2.2.1) jv_ci) (fun _ => (jd_eqL (jv_gL (jr_lr rfl) rfl) (jv_ll rfl)))) (tkP_v hk hi hc))) (by rfl)) ?_
  exact q
set_option maxRecDepth 10000 in
theorem kX12_kindOf {l : Launch} {d : Nat} {h : ja_H} {Q : ja_Q} {n Ln s : Nat} {T : Nat → Int} (hk : tkP T Ln s h.2.1 h.2.2) (q : Q (some (.inl (akM T Ln s))) h) : ja_C l (d + 4) mX12_kindOf (js_sh n) [.inr (.inr (some (90)))] h Q := by
  unfold akM at q
  refine eX12_kindOf _ fun ho => ?_
  unfold bX12_kindOf
  refine jb_if_d (jd_b (jy_mI (jr_lr rfl) rfl (jA_l jA_0 (jy_sL (jA_i (jA_i (jA_i (jA_i (jA_i jA_0 jv_ci) jv_ci) jv_ci) jv_ci) jv_ci) fun _ => kX12_w5 (a := 112) (b := 97) (c := 115) (e := 116) (f := 101) ⟨⟨by decide, by decide, by decide⟩, by decide, by decide⟩)) fun _ => kX12_isWord (i := 0) hk (by decide) (by decide +kernel))) (fun c1 => ?_) (fun c1 => ?_)
  · rw [if_pos c1] at q
    refine jt_rI jv_ci ?_
    exact q
  · rw [if_neg c1] at q
    refine jb_if_d (jd_b (jy_mI (jr_lr rfl) rfl (jA_l jA_0 (jy_sL (jA_i (jA_i (jA_i (jA_i (jA_i jA_0 jv_ci) jv_ci) jv_ci) jv_ci) jv_ci) fun _ => kX12_w5 (a := 112) (b := 97) (c := 105) (e := 110) (f := 116) ⟨⟨by decide, by decide, by decide⟩, by decide, by decide⟩)) fun _ => kX12_isWord (i := 1) hk (by decide) (by decide +kernel))) (fun c2 => ?_) (fun c2 => ?_)
    · rw [if_pos c2] at q
      refine jt_rI jv_ci ?_
      exact q
    · rw [if_neg c2] at q
      refine jb_if_d (jd_b (jy_mI (jr_lr rfl) rfl (jA_l jA_0 (jy_sL (jA_i (jA_i (jA_i (jA_i jA_0 jv_ci) jv_ci) jv_ci) jv_ci) fun _ => kX12_w4 (a := 107) (b := 101) (c := 101) (e := 112) ⟨⟨by decide, by decide, by decide⟩, by decide⟩)) fun _ => kX12_isWord (i := 2) hk (by decide) (by decide +kernel))) (fun c3 => ?_) (fun c3 => ?_)
      · rw [if_pos c3] at q
        refine jt_rI jv_ci ?_
        exact q
      · rw [if_neg c3] at q
        refine jt_rI (jv_cv (jd_b (jy_mI (jr_lr rfl) rfl (jA_l jA_0 (jy_sL (jA_i (jA_i (jA_i (jA_i jA_0 jv_ci) jv_ci) jv_ci) jv_ci) fun _ => kX12_w4 (a := 102) (b := 108) (c := 105) (e := 112) ⟨⟨by decide, by decide, by decide⟩, by decide⟩)) fun _ => kX12_isWord (i := 3) hk (by decide) (by decide +kernel))) (fun _ => jv_ci) (fun _ => jv_cv (jd_b (jy_mI (jr_lr rfl) rfl (jA_l jA_0 (jy_sL (jA_i (jA_i (jA_i (jA_i (jA_i (jA_i jA_0 jv_ci) jv_ci) jv_ci) jv_ci) jv_ci) jv_ci) fun _ => kX12_w6 (a := 114) (b := 101) (c := 112) (e := 101) (f := 97) (g := 116) ⟨⟨⟨by decide, by decide, by decide⟩, by decide, by decide⟩, by decide⟩)) fun _ => kX12_isWord (i := 4) hk (by decide) (by decide +kernel))) (fun _ => jv_ci) (fun _ => jv_ci))) ?_
        exact q
set_option maxRecDepth 10000 in
theorem kX12_nameOf {l : Launch} {d : Nat} {h : ja_H} {Q : ja_Q} {n Ln s : Nat} {T : Nat → Int} (hk : tkP T Ln s h.2.1 h.2.2) (q : Q (some (.inl (nmC T Ln s))) h) : ja_C l (d + 4) mX12_nameOf (js_sh n) [.inr (.inr (some (90)))] h Q := by
  refine eX12_nameOf _ fun ho => ?_
  unfold bX12_nameOf
  refine jb_if_d (jd_ne (jv_gF (jr_lr rfl) rfl hk.2.2.1) jv_ci) (fun c1 => ?_) (fun c1 => ?_)
  · rw [nmC_k (fun y => c1 (tkM_2.mpr y))] at q
    refine jt_rI jv_ci ?_
    exact q
  · have k1 := tkM_2.mp (Classical.not_not.mp c1)
    unfold nmC at q
    refine jb_if_d (jd_eq (jd_eqL (jv_gL (jr_lr rfl) rfl) (jy_sL (jA_i (jA_i (jA_i (jA_i (jA_i jA_0 jv_ci) jv_ci) jv_ci) jv_ci) jv_ci) fun _ => kX12_w5 (a := 108) (b := 105) (c := 103) (e := 104) (f := 116) ⟨⟨by decide, by decide, by decide⟩, by decide, by decide⟩)) (tkP_w (i := 6) hk (by decide) (by decide +kernel) k1)) (fun c2 => ?_) (fun c2 => ?_)
    · rw [if_pos c2] at q
      refine jt_rI jv_ci ?_
      exact q
    · rw [if_neg c2] at q
      refine jb_if_d (jd_eq (jd_eqL (jv_gL (jr_lr rfl) rfl) jv_ci) (tkP_w (i := 7) hk (by decide) (by decide +kernel) k1)) (fun c3 => ?_) (fun c3 => ?_)
      · rw [if_pos c3] at q
        refine jt_rI jv_ci ?_
        exact q
      · rw [if_neg c3] at q
        refine jb_if_d (jd_eq (jd_eqL (jv_gL (jr_lr rfl) rfl) jv_ci) (tkP_w (i := 8) hk (by decide) (by decide +kernel) k1)) (fun c4 => ?_) (fun c4 => ?_)
        · rw [if_pos c4] at q
          refine jt_rI jv_ci ?_
          exact q
        · rw [if_neg c4] at q
          refine jb_if_d (jd_eq (jd_eqL (jv_gL (jr_lr rfl) rfl) (jy_sL (jA_i (jA_i (jA_i (jA_i jA_0 jv_ci) jv_ci) jv_ci) jv_ci) fun _ => kX12_w4 (a := 108) (b := 101) (c := 102) (e := 116) ⟨⟨by decide, by decide, by decide⟩, by decide⟩)) (tkP_w (i := 9) hk (by decide) (by decide +kernel) k1)) (fun c5 => ?_) (fun c5 => ?_)
          · rw [if_pos c5] at q
            refine jt_rI jv_ci ?_
            exact q
          · rw [if_neg c5] at q
            refine jt_rI (jv_cv (jd_eq (jd_eqL (jv_gL (jr_lr rfl) rfl) jv_ci) (tkP_w (i := 10) hk (by decide) (by decide +kernel) k1)) (fun _ => jv_ci) (fun _ => jv_cv (jd_eq (jd_eqL (jv_gL (jr_lr rfl) rfl) (jy_sL (jA_i (jA_i (jA_i (jA_i (jA_i jA_0 jv_ci) jv_ci) jv_ci) jv_ci) jv_ci) fun _ => kX12_w5 (a := 114) (b := 111) (c := 117) (e := 110) (f := 100) ⟨⟨by decide, by decide, by decide⟩, by decide, by decide⟩)) (tkP_w (i := 11) hk (by decide) (by decide +kernel) k1)) (fun _ => jv_ci) (fun _ => jv_ci))) ?_
            exact q
