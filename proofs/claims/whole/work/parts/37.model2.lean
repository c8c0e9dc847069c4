/-! the reference: copyRow, image, back, about -/
theorem jt_sw {e : ja_EI} {s : Int → ja_T} {L : ja_L} {h : ja_H} {z : Int} {N B C : ja_P} {R : ja_Q} (p : jv e L h z) (q : s z N N C R L h) : jb_sw e s N B C R L h := ⟨N, fun _ _ q => q, p _ q⟩
theorem jt_ex0 {L : ja_L} {h : ja_H} {l : Launch} {d : Nat} {sh : ja_S} {M : ja_M} {r1 r2 : ja_ER} {x y : Option Nat} {N B C : ja_P} {R : ja_Q} (p : jr r1 L h x) (q : jr r2 L h y) (c : ja_C l d M sh [.inr (.inr x), .inr (.inr y)] h (fun r h' => r = none ∧ N L h')) : jb_ex (jb_ca l d sh M (jb_ar (jb_ar jb_a0 r1) r2)) N B C R L h := p _ (q _ c)
set_option maxRecDepth 10000 in
theorem kX12_copyRow {l : Launch} {d n a b : Nat} {h : ja_H} {Q : ja_Q} (ha : (js_sh n)[a]? = some (1, 920)) (hb : (js_sh n)[b]? = some (1, 920)) (hab : b ≠ a) (q : Q none (h.1, jm_cpr h.2.1 b a 0 0 920, h.2.2)) : ja_C l (d + 1) mX12_copyRow (js_sh n) [.inr (.inr (some a)), .inr (.inr (some b))] h Q := by
  refine eX12_copyRow _ _ fun _ => ?_
  unfold bX12_copyRow
  refine jt_sI jv_ci ?_
  refine jb_forc 920 (fun i L' h' => L' = [some (.inr (.inr (some a))), some (.inr (.inr (some b))), some (.inl ((i : Nat)))] ∧ h' = (h.1, jm_cpr h.2.1 b a 0 0 i, h.2.2)) ⟨rfl, by rw [jm_cpr_0]⟩ ?_ ?_ ?_
  · rintro i hi _ _ ⟨rfl, rfl⟩
    exact jd_eq (jd_lt (jv_li rfl) jv_ci) (by omega)
  · rintro i hi _ _ ⟨rfl, rfl⟩
    refine jt_wI (jr_lr rfl) hb (jv_li rfl) (jv_aI (jr_lr rfl) (jv_li rfl) ha (by omega) (by omega)) (by omega) (by omega) (jt_inc rfl (by first | omega | (unfold ja_r; omega) | (unfold ja_rl; omega) | assumption) ⟨rfl, ?_⟩)
    have e1 : ((i : Nat) : Int).toNat = 0 + i := by omega
    show (h.1, ja_up (jm_cpr h.2.1 b a 0 0 i) b ((i : Nat) : Int).toNat (jm_cpr h.2.1 b a 0 0 i a ((i : Nat) : Int).toNat), h.2.2) = _
    rw [e1, jm_cpr_s (Or.inl hab)]
  · rintro _ _ ⟨rfl, rfl⟩
    exact q
theorem kX12_image {l : Launch} {d n : Nat} {w g : Int} {h : ja_H} {Q : ja_Q} (hm : jm w g h) (q : Q (some (.inl (h.2.1 91 3))) (h.1, jm_cpr h.2.1 92 91 0 0 920, h.2.2)) : ja_C l (d + 2) mX12_image (js_sh n) [.inr (.inr (some 90))] h Q := by
  obtain ⟨m1, m2, m3, m4, m5, m6, m7⟩ := id hm
  have ma : h.1 90 2 = some 91 := by rw [m1]; rfl
  have mi : h.1 90 3 = some 92 := by rw [m1]; rfl
  refine eX12_image _ fun _ => ?_
  unfold bX12_image
  refine jt_ex0 (jr_g (jr_lr rfl) rfl ma) (jr_g (jr_lr rfl) rfl mi) (kX12_copyRow rfl rfl (by decide) ⟨rfl, ?_⟩)
  exact jt_rI (jv_is (jv_aI (k := 91) (n := 920) (jr_g (jr_lr rfl) rfl ma) jv_ci rfl (by decide) (by decide)) (by simp [jm_cpr])) q
theorem kX12_back {l : Launch} {d n : Nat} {w g : Int} {h : ja_H} {Q : ja_Q} (hm : jm w g h) (q : Q (some (.inl (h.2.1 92 3))) (h.1, jm_cpr h.2.1 91 92 0 0 920, h.2.2)) : ja_C l (d + 2) mX12_back (js_sh n) [.inr (.inr (some 90))] h Q := by
  obtain ⟨m1, m2, m3, m4, m5, m6, m7⟩ := id hm
  have ma : h.1 90 2 = some 91 := by rw [m1]; rfl
  have mi : h.1 90 3 = some 92 := by rw [m1]; rfl
  refine eX12_back _ fun _ => ?_
  unfold bX12_back
  refine jt_ex0 (jr_g (jr_lr rfl) rfl mi) (jr_g (jr_lr rfl) rfl ma) (kX12_copyRow rfl rfl (by decide) ⟨rfl, ?_⟩)
  exact jt_rI (jv_is (jv_aI (k := 91) (n := 920) (jr_g (jr_lr rfl) rfl ma) jv_ci rfl (by decide) (by decide)) (by simp [jm_cpr])) q
