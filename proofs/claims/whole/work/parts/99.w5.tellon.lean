section JTL
variable {l : Launch} {n k ko T : Nat} {p w g : Int} {A : Nat → Nat} {K N C : Nat → Nat → Int} {Dp : Nat → Nat → Nat} {px : Int → LT} {gl : LT}
set_option maxRecDepth 10000 in
theorem kX9_tell0 (hc : tC k ko T p A K N C Dp px) : jTl l n k ko T p w g A K N C px gl 0 := by
  intro D dn c lt h Q hs hl h8 h9 hd _ hb hD q
  obtain ⟨d, rfl⟩ : ∃ d, D = d + 3 := ⟨D - 3, by omega⟩
  obtain ⟨⟨hG, r3, r4, r5, r6, r7⟩, hW, hT, hP, b1, b2, b3⟩ := id hs
  obtain ⟨hp, hk, ⟨qq, hq4, hko⟩, hT6, _⟩ := id hc
  have pk : jp w g n k h := jp_k hG hW hp hk
  have po : jp w g n ko h := jp_k (p := (qq : Int)) hG hW (by omega) (by omega)
  have e0 : ∀ b : Bool, b = okS (DD A K N C px p w g) T gl 0 0 lt → (lt = gl ↔ b = true) := fun b hb => by
    rw [hb]
    exact (okS_iff (D := DD A K N C px p w g) (T := T) (n := 0) (c := 0) (gl := gl) (lt := lt)).symm
  refine eX9_tell _ _ fun _ ho => ?_
  unfold bX9_tell
  refine jb_if_d (φ := True) (jd_eq (jd_or (jd_ge (jv_li rfl) (jv_gF (jr_lr rfl) rfl h8)) (fun _ => jd_ge (jv_li rfl) jv_ci)) (by simp)) (fun _ => ?_) (fun y => absurd trivial y)
  refine jx_m (jr_lr rfl) rfl jA_0 (kX9_judge hG r3 r4 pk po h9 (by simp at hb; omega) (fun e => ⟨rfl, ?_⟩) (fun e => ⟨rfl, ?_⟩))
  · have e1 : okS (DD A K N C px p w g) T gl 0 0 lt = true := (e0 _ rfl).mp (by rw [← b1, ← b2]; exact e)
    have c1 : cnt (fun x => okS (DD A K N C px p w g) T gl 0 x lt) (T ^ 0) = 1 := by simp [cnt, e1]
    have u58 : jdU h.2.1 c 58 = if c = 0 then ja_cp h.2.1 57 0 58 0 3 58 else h.2.1 58 := by
      unfold jdU
      funext j
      rw [ja_upO (by omega)]
      split <;> rfl
    have uo : ∀ a j, a ≠ 58 → (a ≠ 55 ∨ j ≠ 9) → jdU h.2.1 c a j = h.2.1 a j := fun a j h1 h2 => by
      unfold jdU
      rw [ja_upO h2]
      split
      · exact ja_cpO h1
      · rfl
    have fr : fT k dn h.2.1 (jdU h.2.1 c) := by
      refine ⟨fun a ha => ?_, fun j hj => uo _ _ (by omega) (by omega), fun j hj => uo _ _ (by omega) (by omega), fun i hi => funext fun j => uo _ _ (by omega) (by omega)⟩
      simp only [List.mem_cons, List.not_mem_nil, or_false] at ha
      exact funext fun j => uo _ _ (by omega) (by omega)
    refine q h.1 _ fr (tS_mk hs hc fr.1 hG (fun _ _ => rfl) ?_ (Or.inr rfl)) ?_ ⟨fun hh => ?_, fun hh => ?_⟩
    · rw [← b1]
      exact jpx_w (h := h) (funext fun j => uo _ _ (by omega) (by omega))
    · rw [c1]
      unfold jdU
      rw [ja_upE rfl rfl]
      omega
    · rw [u58, if_pos hh.1]
      exact ⟨fun j hj => ja_cpE (by omega), fun j hj => absurd hj (by omega)⟩
    · rw [u58, if_neg (fun y => hh ⟨y, by rw [c1]; decide⟩)]
  · have e1 : okS (DD A K N C px p w g) T gl 0 0 lt = false := by
      cases z : okS (DD A K N C px p w g) T gl 0 0 lt with
      | false => rfl
      | true => exact absurd (by rw [b1, b2]; exact (e0 _ rfl).mpr z) e
    have c1 : cnt (fun x => okS (DD A K N C px p w g) T gl 0 x lt) (T ^ 0) = 0 := by simp [cnt, e1]
    refine q h.1 h.2.1 fT_rf hs ?_ ⟨fun hh => absurd hh.2 (by omega), fun _ => rfl⟩
    rw [c1]
    exact h9
set_option maxRecDepth 10000 in
theorem kX9_tellOn {r : Nat} (hc : tC k ko T p A K N C Dp px) (ih : jTl l n k ko T p w g A K N C px gl r) {D dn c i : Nat} {lt : LT} {h : ja_H} {Q : ja_Q} (hs : tS n k ko T p w g A K N C px gl lt h) (hl : l99 lt) (h8 : h.2.1 55 8 = ((dn + (r + 1) : Nat) : Int)) (h9 : h.2.1 55 9 = (c : Int)) (hd : dn + (r + 1) ≤ 3) (hne : ko ≠ k) (hi : i < T) (hb : c + T ^ r ≤ 900) (hD : 26 + 2 * r ≤ D)
    (q : ∀ R u, fT k (dn + 1) h.2.1 u → tS n k ko T p w g A K N C px gl (DD A K N C px p w g i lt) (R, u, h.2.2) → u 55 9 = ((c + cnt (fun x => okS (DD A K N C px p w g) T gl r x (DD A K N C px p w g i lt)) (T ^ r) : Nat) : Int) → fsA c (T ^ r) (fun x => okS (DD A K N C px p w g) T gl r x (DD A K N C px p w g i lt)) T r (dn + 1) (h.2.1 57) (h.2.1 58) (u 58) → Q none (R, u, h.2.2)) : ja_C l D mX9_tellOn (js_sh n) [.inr (.inr (some 55)), .inl (i : Int), .inl (dn : Int)] h Q := by
  obtain ⟨d, rfl⟩ : ∃ d, D = d + 24 := ⟨D - 24, by omega⟩
  obtain ⟨⟨hG, r3, r4, r5, r6, r7⟩, hW, hT, hP, b1, b2, b3⟩ := id hs
  obtain ⟨hp, hk, ⟨qq, hq4, hko⟩, hT6, hw, hpl, hp0⟩ := id hc
  obtain ⟨g1, g2, g3, g4⟩ := hP i hi
  have hlr : ∀ r : Int, 0 ≤ r → r ≤ 4 → l99 (jpx h w g (5 + 2 * r.toNat)) := fun r h0 h4 => by
    by_cases z : r = p
    · rw [z, ← hk, b1]; exact hl
    · rw [b3 r h0 h4 z]; exact hpl r
  refine eX9_tellOn _ _ _ fun _ _ ho => ?_
  unfold bX9_tellOn
  refine jb_if_d (φ := True) (jd_eq (jd_b (jy_sI (jA_i (jA_i (jA_i jA_0 (jv_li rfl)) jv_ci) (jv_w (jv_sub (jv_len (jr_g (jr_lr rfl) rfl r6) rfl (by decide)) jv_ci) (by unfold ja_r; omega))) fun _ => kX11_within)) (by simp; omega)) (fun _ => ?_) (fun y => absurd trivial y)
  refine jx_mP (jr_g (jr_lr rfl) rfl r7) rfl (jA_r (jA_r (jA_r jA_0 (jr_is (q' := some (66 + 4 * i)) (jr_aG (jr_g (jr_lr rfl) rfl r6) (jv_li rfl) rfl (by omega) (by omega)) (by rw [Int.toNat_natCast]; exact jG_65 (n := n) hG (by omega)))) (jr_g (jr_lr rfl) rfl r3)) (jr_g (jr_lr rfl) rfl r5)) (kX1_perform (t := i) hG hW hp hk (by omega) rfl (hw i hi) g1 g2 g3 g4 hlr fun s u pxx e1 e2 fr e3 l9 s3 => ⟨_, rfl, fun _ => ?_⟩)
  have es : s.1 = DD A K N C px p w g i lt := by
    rw [e2, b1]
    unfold DD
    rw [doT_c (px' := px) (fun r hr => ?_)]
    rw [e1]
    dsimp only
    by_cases z : 0 ≤ r ∧ r ≤ 4
    · rw [if_pos z, b3 r z.1 z.2 hr]
    · rw [if_neg z, hp0 r z]
  have fr1 : fT k (dn + 1) h.2.1 u := fT_D fr (by omega) (by omega)
  have hG1 : jG (dR h.1 (66 + 4 * i) k) := jG_50 (jG_50 (jG_50 hG (by decide)) (by decide)) (by decide)
  have h55 : ∀ j, 3 ≤ j → dR h.1 (66 + 4 * i) k 55 j = h.1 55 j := fun j _ => by unfold dR ja_up; simp
  have hs1 := tS_mk (e := h.2.2) hs hc fr1.1 hG1 h55 (e3.trans es) (Or.inl hne)
  rw [es] at l9
  have u57 : u 57 = h.2.1 57 := fr.1 57 (by simp; omega)
  have u58 : u 58 = h.2.1 58 := fr.1 58 (by simp; omega)
  have u55 : u 55 = h.2.1 55 := fr.1 55 (by simp; omega)
  refine jx_m (jr_lr rfl) rfl (jA_i jA_0 (jv_is (x' := ((dn + 1 : Nat) : Int)) (jv_w (jv_add (jv_li rfl) jv_ci) (by unfold ja_r; omega)) (by omega))) (ih hs1 l9 (by show u 55 8 = _; rw [u55, h8]; omega) (by show u 55 9 = _; rw [u55, h9]) (by omega) (Or.inr hne) hb (by omega) fun R u2 fr2 hs2 hc2 hf2 => ⟨rfl, ?_⟩)
  have hf2 : fsA c (T ^ r) (fun x => okS (DD A K N C px p w g) T gl r x (DD A K N C px p w g i lt)) T r (dn + 1) (u 57) (u 58) (u2 58) := hf2
  rw [u57, u58] at hf2
  exact q R u2 (fT_tr fr1 fr2) hs2 hc2 hf2
set_option maxRecDepth 10000 in
theorem kX9_tellS {r : Nat} (hc : tC k ko T p A K N C Dp px) (ih : jTl l n k ko T p w g A K N C px gl r) : jTl l n k ko T p w g A K N C px gl (r + 1) := by
  intro D dn c lt h Q hs hl h8 h9 hd hne hb hD q
  have hne : ko ≠ k := by omega
  obtain ⟨d, rfl⟩ : ∃ d, D = d + 27 := ⟨D - 27, by omega⟩
  obtain ⟨⟨hG, r3, r4, r5, r6, r7⟩, hW, hT, hP, b1, b2, b3⟩ := id hs
  obtain ⟨hp, hk, ⟨qq, hq4, hko⟩, hT6, hw, hpl, hp0⟩ := id hc
  have pk : jp w g n k h := jp_k hG hW hp hk
  have pb : jp w g n (59 + 2 * dn) h := jp_b hG hW (by omega)
  have eT : T ^ (r + 1) = T * T ^ r := by rw [Nat.pow_succ, Nat.mul_comm]
  obtain ⟨PP, hPP⟩ : ∃ PP, PP = fun x => okS (DD A K N C px p w g) T gl (r + 1) x lt := ⟨_, rfl⟩
  rw [eT] at hb q
  rw [← hPP] at q
  refine eX9_tell _ _ fun _ ho => ?_
  unfold bX9_tell
  refine jb_if_d (φ := False) (jd_eq (jd_or (jd_ge (jv_li rfl) (jv_gF (jr_lr rfl) rfl h8)) (fun _ => jd_ge (jv_li rfl) jv_ci)) (by simp; omega)) (fun y => y.elim) (fun _ => ?_)
  refine jt_sR (q := some (59 + 2 * dn)) (jr_is (jr_aP (jr_g (jr_lr rfl) rfl (by exact jG_at (k := 55) (j := 0) (r := 56) hG rfl)) (jv_li rfl) rfl (by omega) (by omega)) (by rw [Int.toNat_natCast]; exact jG_56 hG (by omega))) ?_
  refine jb_if_d (φ := False) (jd_eq (jd_isn (jr_lr rfl)) (by simp)) (fun y => y.elim) (fun _ => ?_)
  refine jx_m (jr_lr rfl) pb.1 (jA_r jA_0 (jr_g (jr_lr rfl) rfl r3)) (kX3_become pb pk ⟨rfl, ?_⟩)
  have lb1 : jpx (h.1, ja_cp h.2.1 (k + 1) 0 (59 + 2 * dn + 1) 0 n, h.2.2) w g (59 + 2 * dn) = lt := by rw [← b1]; exact jpx_cp pb
  obtain ⟨f1, hf1⟩ : ∃ f1, ja_cp h.2.1 (k + 1) 0 (59 + 2 * dn + 1) 0 n = f1 := ⟨_, rfl⟩
  rw [hf1] at lb1 ⊢
  have c1 : ∀ a, a ≠ 59 + 2 * dn + 1 → f1 a = h.2.1 a := fun a ha => by rw [← hf1]; exact ja_cpF ha
  have fr1 : fT k dn h.2.1 f1 := by
    refine ⟨fun a ha => ?_, fun j _ => congrFun (c1 55 (by omega)) j, fun j _ => congrFun (c1 57 (by omega)) j, fun i hi => c1 _ (by omega)⟩
    simp only [List.mem_cons, List.not_mem_nil, or_false] at ha
    exact c1 a (by omega)
  have lk1 : jpx (h.1, f1, h.2.2) w g k = lt := by rw [← b1]; exact jpx_w (h := h) (c1 _ (by omega))
  refine jt_sI jv_ci ?_
  refine jb_forc T (fun (i : Nat) L' h' => ∃ (v_i : Int) (R : Nat → Nat → Option Nat) (u : Nat → Nat → Int), L' = [some (.inr (.inr (some 55))), some (.inl (dn : Int)), some (.inr (.inr (some (59 + 2 * dn)))), some (.inl v_i)] ∧ v_i = (i : Int) ∧ (R, u, h.2.2) = h' ∧ fT k dn h.2.1 u ∧ tS n k ko T p w g A K N C px gl lt (R, u, h.2.2) ∧ jpx (R, u, h.2.2) w g (59 + 2 * dn) = lt ∧ u 55 9 = ((c + cnt PP (i * T ^ r) : Nat) : Int) ∧ fsA c (i * T ^ r) PP T (r + 1) dn (h.2.1 57) (h.2.1 58) (u 58)) ⟨_, h.1, f1, rfl, rfl, rfl, fr1, tS_mk hs hc fr1.1 hG (fun _ _ => rfl) lk1 (Or.inl hne), lb1, ?_, ?_⟩ ?_ ?_ ?_
  · rw [Nat.zero_mul, c1 55 (by omega), h9]
    simp [cnt]
  · rw [Nat.zero_mul, c1 58 (by omega)]
    exact fsA_0
  · rintro i h_i _ _ ⟨v_i, R, u, rfl, rfl, rfl, fr, hs2, lb2, u9, hf⟩
    obtain ⟨⟨hG2, s3, s4, s5, s6, s7⟩, hW2, hT2, _⟩ := id hs2
    exact jd_eq (jd_lt (jv_li rfl) (jy_sI (jA_i (jA_i jA_0 (jv_gF (jr_g (jr_lr rfl) rfl s5) rfl hT2)) (jv_len (jr_g (jr_lr rfl) rfl s6) rfl (by decide))) fun _ => kJ9_min)) (by omega)
  · rintro i h_i _ _ ⟨v_i, R, u, rfl, rfl, rfl, fr, hs2, lb2, u9, hf⟩
    obtain ⟨⟨hG2, s3, s4, s5, s6, s7⟩, hW2, hT2, hP2, b12, b22, b32⟩ := id hs2
    have bd : c + cnt PP (i * T ^ r) + T ^ r ≤ 900 := by
      have := cnt_le (P := PP) (i * T ^ r)
      have h2 : (i + 1) * T ^ r ≤ T * T ^ r := Nat.mul_le_mul_right _ h_i
      rw [Nat.add_mul, Nat.one_mul] at h2
      omega
    refine jt_wI (jr_g (jr_lr rfl) rfl (by exact jG_at (k := 55) (j := 1) (r := 57) hG2 rfl)) rfl (jv_li rfl) (jv_li rfl) (by omega) (by omega) ?_
    rw [Int.toNat_natCast]
    dsimp only
    obtain ⟨u1, hu1⟩ : ∃ u1, ja_up u 57 dn (i : Int) = u1 := ⟨_, rfl⟩
    rw [hu1]
    have o1 : ∀ a, a ≠ 57 → u1 a = u a := fun a ha => by rw [← hu1]; funext j; exact ja_upO (Or.inl ha)
    have o57 : ∀ j, j ≠ dn → u1 57 j = u 57 j := fun j hj => by rw [← hu1]; exact ja_upO (Or.inr hj)
    have v57 : u1 57 dn = (i : Int) := by rw [← hu1]; exact ja_upE rfl rfl
    have fr2 : fT k dn u u1 := by
      refine ⟨fun a ha => ?_, fun j _ => congrFun (o1 55 (by omega)) j, fun j hj => o57 j (by omega), fun i hi => o1 _ (by omega)⟩
      simp only [List.mem_cons, List.not_mem_nil, or_false] at ha
      exact o1 a (by omega)
    have hs3 : tS n k ko T p w g A K N C px gl lt (R, u1, h.2.2) := tS_mk (h := (R, u, h.2.2)) hs2 hc fr2.1 hG2 (fun _ _ => rfl) (by rw [← b12]; exact jpx_w (h := (R, u, h.2.2)) (o1 _ (by omega))) (Or.inl hne)
    refine jx_m (jr_lr rfl) rfl (jA_i (jA_i jA_0 (jv_li rfl)) (jv_li rfl)) (kX9_tellOn (h := (R, u1, h.2.2)) (c := c + cnt PP (i * T ^ r)) hc ih hs3 hl (by show u1 55 8 = _; rw [o1 55 (by omega), fr.2.1 8 (by omega), h8]) (by show u1 55 9 = _; rw [o1 55 (by omega), u9]) hd hne h_i bd (by omega) fun R2 u2 fr3 hs4 c4 hf4 => ⟨rfl, ?_⟩)
    dsimp only at fr3 hs4 c4 hf4 ⊢
    obtain ⟨⟨hG4, t3, t4, t5, t6, t7⟩, hW4, hT4, hP4, b14, b24, b34⟩ := id hs4
    have pk4 : jp w g n k (R2, u2, h.2.2) := jp_k hG4 hW4 hp hk
    have pb4 : jp w g n (59 + 2 * dn) (R2, u2, h.2.2) := jp_b hG4 hW4 (by omega)
    refine jx_m (jr_g (jr_lr rfl) rfl t3) pk4.1 (jA_r jA_0 (jr_lr rfl)) (kX3_become pk4 pb4 ⟨rfl, ?_⟩)
    have lb4 : jpx (R2, u2, h.2.2) w g (59 + 2 * dn) = lt := by
      rw [← lb2]
      refine jpx_w (h := (R, u, h.2.2)) ?_
      have := fr3.2.2.2 dn (by omega)
      rw [show 59 + 2 * dn + 1 = 60 + 2 * dn by omega]
      exact this.trans (o1 _ (by omega))
    have lk4 : jpx (R2, ja_cp u2 (59 + 2 * dn + 1) 0 (k + 1) 0 n, h.2.2) w g k = lt := by rw [← lb4]; exact jpx_cp (h := (R2, u2, h.2.2)) pk4
    dsimp only
    obtain ⟨u3, hu3⟩ : ∃ u3, ja_cp u2 (59 + 2 * dn + 1) 0 (k + 1) 0 n = u3 := ⟨_, rfl⟩
    rw [hu3] at lk4 ⊢
    have o3 : ∀ a, a ≠ k + 1 → u3 a = u2 a := fun a ha => by rw [← hu3]; exact ja_cpF ha
    have fr4 : fT k dn u2 u3 := by
      refine ⟨fun a ha => ?_, fun j _ => congrFun (o3 55 (by omega)) j, fun j hj => congrFun (o3 57 (by omega)) j, fun i hi => o3 _ (by omega)⟩
      simp only [List.mem_cons, List.not_mem_nil, or_false] at ha
      exact o3 a (by omega)
    have fr5 : fT k dn h.2.1 u3 := fT_tr fr (fT_tr fr2 (fT_tr (fT_m fr3 (by omega)) fr4))
    refine jt_inc rfl (by unfold ja_r; omega) ⟨_, R2, u3, rfl, by omega, rfl, fr5, tS_mk (h := (R2, u2, h.2.2)) hs4 hc fr4.1 hG4 (fun _ _ => rfl) lk4 (Or.inl hne), ?_, ?_, ?_⟩
    · rw [← lb4]
      exact jpx_w (h := (R2, u2, h.2.2)) (o3 _ (by omega))
    · rw [o3 55 (by omega), c4, hPP, cnt_t, Nat.add_assoc]
    · rw [o3 58 (by omega), hPP]
      rw [hPP] at hf hf4
      refine fsA_s hf (tl1 := u1 57) ?_ (fun j hj => (o57 j (by omega)).trans (fr.2.2.1 j hj)) v57
      rw [← o1 58 (by omega)]
      exact hf4
  · rintro _ _ ⟨v_i, R, u, rfl, rfl, rfl, fr, hs2, lb2, u9, hf⟩
    exact q R u fr hs2 u9 hf
theorem kX9_tells (hc : tC k ko T p A K N C Dp px) : ∀ r, jTl l n k ko T p w g A K N C px gl r
  | 0 => kX9_tell0 hc
  | r + 1 => kX9_tellS hc (kX9_tells hc r)
end JTL
