def tMe (k mx bx bY c : Nat) : Prop := (c % mx < bx + 4 ∧ bx < c % mx + k) ∧ c / mx < bY + 4 ∧ bY < c / mx + k
def tIn (T : Nat → Nat → Prop) (k mx all q r bx bY : Nat) : Prop := ∃ a b, tD T all q r a b ∧ (tMe k mx bx bY a ∨ tMe k mx bx bY b)
theorem tTo_iff {k mx my all bx bY : Nat} {T : Nat → Nat → Prop} {f : Nat → Nat → Int} (hm : mx ≤ 11) (hy : my ≤ 11) (ha : mx * my = all) (h : tKc mx T all all (all + 1) f) : tTo k f bx bY ↔ tIn T k mx all all (all + 1) bx bY := by
  have lim : ∀ c, c < all → c % mx < 12 ∧ c / mx < 12 := fun c hc => by
    have h0 : 0 < mx := by
      rcases Nat.eq_zero_or_pos mx with z | z
      · rw [z, Nat.zero_mul] at ha; omega
      · exact z
    have := Nat.mod_lt c h0
    have : c / mx < my := by rw [Nat.div_lt_iff_lt_mul h0, Nat.mul_comm, ha]; exact hc
    omega
  constructor
  · rintro ⟨X, Y, ⟨h1, h2⟩, h3, h4, h5⟩
    obtain ⟨a, b, d, e⟩ := (h X Y h1 h2).2.mp h5
    refine ⟨a, b, d, ?_⟩
    rcases e with ⟨rfl, rfl⟩ | ⟨rfl, rfl⟩
    · left; unfold tMe; omega
    · right; unfold tMe; omega
  · rintro ⟨a, b, d, e⟩
    obtain ⟨-, d2, d3, -⟩ := id d
    have la := lim a (by omega)
    have lb := lim b d3
    rcases e with e | e
    · unfold tMe at e
      exact ⟨a % mx, a / mx, la, by omega, by omega, (h _ _ la.1 la.2).2.mpr ⟨a, b, d, Or.inl ⟨rfl, rfl⟩⟩⟩
    · unfold tMe at e
      exact ⟨b % mx, b / mx, lb, by omega, by omega, (h _ _ lb.1 lb.2).2.mpr ⟨a, b, d, Or.inr ⟨rfl, rfl⟩⟩⟩
def syC (p b k t w g : Int) : Prop := (0 ≤ p ∧ p ≤ 4) ∧ ((2 ≤ k ∧ k ≤ 6) ∧ 0 ≤ t ∧ t ≤ 9) ∧ 0 ≤ b ∧ b < w / 4 * (g / 4)
noncomputable def syF (T : Nat → Nat → Prop) (k mx all bx bY : Nat) (o : Prop) : Int := if pv (tIn T k mx all all (all + 1) bx bY) ≠ 0 then 2 else pv o
set_option maxRecDepth 10000 in
theorem kX11_say {l : Launch} {d : Nat} {h : ja_H} {Q : ja_Q} {n : Nat} {p b k t w g : Int} {lt : Int → Int → Int} (hG : jG h.1) (hW : jW w g n h.2.1) (hlt : 0 ≤ p ∧ p ≤ 4 → jpx h w g (5 + 2 * p.toNat) = lt) (hb : ∀ x y, 0 ≤ lt x y ∧ lt x y ≤ 99) (hrg : 0 ≤ p ∧ p ≤ 4 → rg_ok (jp_lt h w (5 + 2 * p.toNat)) w g) (q1 : syC p b k t w g → ∀ f, jfr [40, 41, 44, 45, 46] h.2.1 f → Q (some (.inl (syF (TWq lt k.toNat (w - k + 1).toNat t) k.toNat (w - k + 1).toNat ((w - k + 1).toNat * (g - k + 1).toNat) (4 * (b % (w / 4))).toNat (4 * (b / (w / 4))).toNat (od (rb (jp_lt h w (5 + 2 * p.toNat)) w b) (md (fun b => rb (jp_lt h w (5 + 2 * p.toNat)) w (b : Nat)) (w / 4 * (g / 4)).toNat (w / 4 * (g / 4)).toNat) 3)))) (h.1, f, h.2.2)) (q2 : ¬ syC p b k t w g → ∀ f, jfr [40, 41] h.2.1 f → Q (some (.inl (-1))) (h.1, f, h.2.2)) : ja_C l (d + 6) mX11_say (js_sh n) [.inr (.inr (some (0))), .inl (p), .inl (b), .inl (k), .inl (t)] h Q := by
  have hs := jS1_of hG hW
  have wr := jW_r hW
  have hB := jB_of (n := n) hG
  refine eX11_say _ _ _ _ _ fun r_picture r_block r_k r_t ho => ?_
  unfold bX11_say
  unfold ja_r at r_picture r_block r_k r_t
  refine jt_sR (jr_m1 (jr_g (jr_lr rfl) rfl (jG_at hG rfl)) rfl (jv_li rfl) fun _ => kX8_picture hs) ?_
  by_cases c : 0 ≤ p ∧ p ≤ 4
  case neg =>
    rw [jS_pn.mpr c]
    exact jb_if_p (jr_lr rfl _ (by rw [if_pos rfl]; exact jt_rI jv_ci (q2 (fun w => c w.1) h.2.1 (jfr_rf _ _))))
  have hp := jS_now hs c
  rw [jS_e c]
  have hlt := hlt c
  have ho2 := hrg c
  have hn : 5 + 2 * p.toNat ∉ [44, 45, 46] ∧ 5 + 2 * p.toNat + 1 ∉ [44, 45, 46] := by constructor <;> (simp <;> omega)
  refine jb_if_d (φ := ¬ ((2 ≤ k ∧ k ≤ 6) ∧ 0 ≤ t ∧ t ≤ 9)) (jd_eq (jd_or (jd_isn (jr_lr rfl)) fun _ => jd_not (jd_b (jy_sI (jA_i (jA_i jA_0 (jv_li rfl)) (jv_li rfl)) fun _ => kX11_isPiece))) (by simp)) (fun z => ?_) (fun z => ?_)
  · exact jt_rI jv_ci (q2 (fun w => z w.2.1) h.2.1 (jfr_rf _ _))
  have z := Classical.not_not.mp z
  obtain ⟨z2, z3⟩ := id z
  obtain ⟨p1, p2, p3, p4, p5, p6, p7, p8, p9, p10⟩ := id hp
  have kn := bk_n ⟨p7, p8⟩ ⟨p9, p10⟩
  refine jx_m (jr_g (jr_lr rfl) (by first | rfl | assumption) (by first | rfl | assumption | exact jG_at hG rfl | exact jG_90 hG rfl)) (by first | rfl | assumption) (jA_r jA_0 (jr_lr rfl)) (kX0_measure hB hp (by omega) ho2 fun f hf => ⟨rfl, ?_⟩)
  obtain ⟨f1, f2, f3, f4, f5⟩ := hf
  have fr : jfr [40, 41] h.2.1 f := fun j hj => f1 j (by intro e; subst e; simp at hj) (by intro e; subst e; simp at hj)
  refine jb_if_d (φ := ¬ (0 ≤ b ∧ b < w / 4 * (g / 4))) (jd_eq (jd_not (jd_b (jy_sI (jA_i (jA_i (jA_i jA_0 (jv_li rfl)) jv_ci) (jv_w (jv_sub (jv_gF (jr_g (jr_lr rfl) rfl (jG_at hG rfl)) rfl f3) jv_ci) (by first | (unfold ja_r; omega) | (unfold ja_rl; omega) | omega | assumption))) fun _ => kX11_within))) (by omega)) (fun c1 => ?_) (fun c1 => ?_)
  · refine jt_rI jv_ci ?_
    exact q2 (fun w => c1 w.2.2) f fr
  · have z4 := Classical.not_not.mp c1
    have q := q1 ⟨c, z, z4⟩
    obtain ⟨k0, rfl⟩ : ∃ k0 : Nat, k = (k0 : Int) := ⟨k.toNat, by omega⟩
    obtain ⟨mx, hmx⟩ : ∃ mx : Nat, mx = (w - (k0 : Int) + 1).toNat := ⟨_, rfl⟩
    obtain ⟨my, hmy⟩ : ∃ my : Nat, my = (g - (k0 : Int) + 1).toNat := ⟨_, rfl⟩
    obtain ⟨all, hall⟩ : ∃ all : Nat, mx * my = all := ⟨_, rfl⟩
    obtain ⟨T, hT⟩ : ∃ T : Nat → Nat → Prop, TWq lt k0 mx t = T := ⟨_, rfl⟩
    rw [Int.toNat_natCast, ← hmx, ← hmy, hall, hT] at q
    generalize hN : (w / 4 * (g / 4)).toNat = m at q f5
    have hnm : w / 4 * (g / 4) = (m : Int) := by omega
    rw [hnm] at f3
    generalize hr : (fun b : Nat => rb (jp_lt h w (5 + 2 * p.toNat)) w (b : Nat)) = r at q f5
    have hbn : ((b.toNat : Nat) : Int) = b := by omega
    have hrq : r b.toNat = rb (jp_lt h w (5 + 2 * p.toNat)) w b := by rw [← hr]; dsimp only; rw [hbn]
    rw [← hrq] at q
    have hfr : ∀ b : Nat, b < m → f 41 b = r b := fun b hb => by rw [f4 b (by omega), ← hr]
    have hrb : ∀ b : Nat, b < m → 0 ≤ r b ∧ r b ≤ 9504 := fun b hb => by rw [← hr]; exact rb_b ho2 ⟨p7, p8⟩ ⟨p9, p10⟩ (by omega)
    have hmb := md_b hrb m (Nat.le_refl m)
    have hpf : jp w g n (5 + 2 * p.toNat) (h.1, f, h.2.2) := jp_up hp (fr _ (by simp <;> omega))
    have hltf : jpx (h.1, f, h.2.2) w g (5 + 2 * p.toNat) = lt := by rw [jpx_fr (fr _ (by simp <;> omega))]; exact hlt
    refine jx_m (jr_g (jr_lr rfl) (by first | rfl | assumption) (by first | rfl | assumption | exact jG_at hG rfl | exact jG_90 hG rfl)) (by first | rfl | assumption) (jA_i (jA_i (jA_r jA_0 (jr_lr rfl)) (jv_li rfl)) (jv_li rfl)) (kX10_search (h := (h.1, f, h.2.2)) (lt := lt) hG hpf hn hltf hb (by omega) hmx hmy hT hall fun f6 fr6 ft => ⟨rfl, ?_⟩)
    have q := q f6 (jfr_tr (jfr_sub fr (by decide)) (jfr_sub fr6 (by decide)))
    have e40 : f6 40 = f 40 := fr6 40 (by decide)
    have e41 : f6 41 = f 41 := fr6 41 (by decide)
    have g3 : f6 40 3 = w / 4 := by rw [e40]; exact f2
    have g4 : f6 40 4 = (m : Nat) := by rw [e40]; exact f3
    have g5 : f6 40 5 = md r m m := by rw [e40]; exact f5
    have hB2 : jB n (h.1, f6, h.2.2) := hB
    have w4 : 0 < w / 4 ∧ w / 4 ≤ 3 := by omega
    have kb := bk_b ⟨p7, p8⟩ ⟨p9, p10⟩ (b := b) (by omega)
    obtain ⟨bx, hbx⟩ : ∃ bx : Nat, (bx : Int) = 4 * (b % (w / 4)) := ⟨(4 * (b % (w / 4))).toNat, by omega⟩
    obtain ⟨bY, hbY⟩ : ∃ bY : Nat, (bY : Int) = 4 * (b / (w / 4)) := ⟨(4 * (b / (w / 4))).toNat, by omega⟩
    rw [← hbx, ← hbY, Int.toNat_natCast, Int.toNat_natCast] at q
    have eto := tTo_iff (k := k0) (bx := bx) (bY := bY) (f := f6) (show mx ≤ 11 by omega) (show my ≤ 11 by omega) hall ft.2.1
    unfold syF at q
    refine jb_if_d (φ := tIn T k0 mx all all (all + 1) bx bY) (jd_eq (jd_bt (jy_mI (jr_g (jr_lr rfl) rfl (jG_at hG rfl)) rfl (jA_i (jA_i jA_0 (jv_is (x' := (bx : Int)) (jy_mI (jr_g (jr_lr rfl) rfl (jG_at hG rfl)) rfl (jA_i jA_0 (jv_li rfl)) fun _ => kX0_leftOf (h := (h.1, f6, h.2.2)) g3 w4 (by omega)) hbx.symm)) (jv_is (x' := (bY : Int)) (jy_mI (jr_g (jr_lr rfl) rfl (jG_at hG rfl)) rfl (jA_i jA_0 (jv_li rfl)) fun _ => kX0_topOf (h := (h.1, f6, h.2.2)) g3 w4 (by omega)) hbY.symm)) fun _ => pv_of (kX10_touch (h := (h.1, f6, h.2.2)) hG ft.2.2 (by omega) (by omega) (by omega) (fun X Y hX hY => (ft.2.1 X Y hX hY).1)))) (by rw [pv_ne]; exact eto)) (fun c2 => ?_) (fun c2 => ?_)
    · rw [if_pos (pv_ne.mpr c2)] at q
      refine jt_rI jv_ci ?_
      exact q
    · rw [if_neg (fun w => c2 (pv_ne.mp w))] at q
      refine jt_rI (x := pv (od (r b.toNat) (md r m m) 3)) (jv_is (jv_cv (jd_b (jy_mI (jr_g (jr_lr rfl) rfl (jG_at hG rfl)) rfl (jA_i (jA_i jA_0 (jv_li rfl)) jv_ci) fun _ => kX0_isOdd (h := (h.1, f6, h.2.2)) hB2 g4 (by omega) g5 hmb (by omega) (show f6 41 b.toNat = r b.toNat by rw [e41]; exact hfr b.toNat (by omega)) (hrb b.toNat (by omega)) (by omega))) (fun _ => jv_ci) (fun _ => jv_ci)) (by by_cases y : od (r b.toNat) (md r m m) 3; rw [if_pos y, pv_t y]; rw [if_neg y, pv_f y])) ?_
      exact q
