theorem kX1_does {l : Launch} {n P k A : Nat} {p w g : Int} {K N C : Nat → Int} {px : Int → LT} {Dp : Nat → Nat} (hp : 0 ≤ p ∧ p ≤ 4) (hk : k = 5 + 2 * p.toNat) (hP : 66 ≤ P ∧ P ≤ 86) (hw : wfP A K N C Dp) (hpl : ∀ r, l99 (px r)) : ∀ kf, jPA l n P k A p w g K N C px Dp kf ∧ jPB l n P k A p w g K N C px Dp kf := by
  intro kf
  induction kf using Nat.strongRecOn with
  | _ kf ih =>
    cases kf with
    | zero => exact ⟨fun _ _ _ _ _ _ _ _ hf => absurd hf (by omega), fun _ _ _ _ _ _ _ hf => absurd hf (by omega)⟩
    | succ kf => exact ⟨kX1_performActs hp hk hP hw hpl fun j hj => (ih j (by omega)).2, kX1_repeat hp hk hP hw fun j hj => (ih j (by omega)).1⟩
/-- a text done to a picture: its light, how many acts -/
def doT (px : Int → LT) (p : Int) (A : Nat) (K N C : Nat → Int) (w g : Int) (lt : LT) : dSt := pf (a1 px p K N C w g) K N (11 * A + 1) 0 0 A 0 (lt, 0)
theorem jG_50 {R : Nat → Nat → Option Nat} {j : Nat} {v : Option Nat} (hG : jG R) (hj : 3 ≤ j) : jG (ja_up R 50 j v) := by
  refine ⟨fun k i r e => ?_, ?_⟩
  · have : ¬ (k = 50 ∧ i = j) := by
      rintro ⟨rfl, rfl⟩
      match i, hj, e with
      | i + 3, _, e => exact absurd (show (none : Option Nat) = some r from e) (by simp)
    unfold ja_up
    rw [if_neg this]
    exact hG.1 k i r e
  · funext i
    unfold ja_up
    rw [if_neg (by omega), hG.2]
def dR (R : Nat → Nat → Option Nat) (P k : Nat) : Nat → Nat → Option Nat := ja_up (ja_up (ja_up R 50 3 (some P)) 50 4 (some k)) 50 5 (some 1)
set_option maxRecDepth 10000 in
theorem kX1_perform {l : Launch} {d n t k A : Nat} {p w g : Int} {K N C : Nat → Int} {Dp : Nat → Nat} {P : Nat} {h : ja_H} {Q : ja_Q} (hG : jG h.1) (hW : jW w g n h.2.1) (hp : 0 ≤ p ∧ p ≤ 4) (hk : k = 5 + 2 * p.toNat) (ht : t < 6) (hPt : P = 66 + 4 * t) (hw : wfP A K N C Dp) (c3 : h.2.1 P 3 = (A : Int)) (c4 : h.2.1 (P + 1) = K) (c5 : h.2.1 (P + 2) = N) (c6 : h.2.1 (P + 3) = C) (hl : ∀ r : Int, 0 ≤ r → r ≤ 4 → l99 (jpx h w g (5 + 2 * r.toNat)))
    (q : ∀ s u px, px = (fun r : Int => if 0 ≤ r ∧ r ≤ 4 then jpx h w g (5 + 2 * r.toNat) else fun _ _ => 0) → s = doT px p A K N C w g (jpx h w g k) → fD k h.2.1 u → jpx (dR h.1 P k, u, h.2.2) w g k = s.1 → l99 s.1 → s.2 ≤ 300 → Q (some (.inl (s.2 : Int))) (dR h.1 P k, u, h.2.2)) : ja_C l (d + 23) mX1_perform (js_sh n) [.inr (.inr (some 50)), .inr (.inr (some P)), .inr (.inr (some k)), .inr (.inr (some 1))] h Q := by
  have hA := hw.1
  refine eX1_perform _ _ _ _ fun ho => ?_
  unfold bX1_perform
  refine jb_if_d (φ := False) (jd_eq (jd_or (jd_or (jd_isn (jr_lr rfl)) (fun _ => jd_isn (jr_lr rfl))) (fun _ => jd_isn (jr_lr rfl))) (by simp)) (fun c => c.elim) (fun _ => ?_)
  refine jt_pR (jr_lr rfl) rfl (jr_lr rfl) ?_
  refine jt_pR (jr_lr rfl) rfl (jr_lr rfl) ?_
  refine jt_pR (jr_lr rfl) rfl (jr_lr rfl) ?_
  refine jt_pI (jr_lr rfl) rfl jv_ci ?_
  dsimp only
  have hG1 : jG (dR h.1 P k) := jG_50 (jG_50 (jG_50 hG (by decide)) (by decide)) (by decide)
  have r3 : dR h.1 P k 50 3 = some P := by unfold dR ja_up; simp
  have r4 : dR h.1 P k 50 4 = some k := by unfold dR ja_up; simp
  have r5 : dR h.1 P k 50 5 = some 1 := by unfold dR ja_up; simp
  rw [show ja_up (ja_up (ja_up h.1 50 3 (some P)) 50 4 (some k)) 50 5 (some 1) = dR h.1 P k from rfl]
  generalize dR h.1 P k = R1 at q hG1 r3 r4 r5 ⊢
  have hg1 : jPg n P R1 := by rw [hPt]; exact jPg_of hG1 ht
  obtain ⟨f1, hf1⟩ : ∃ f1, ja_up h.2.1 50 6 0 = f1 := ⟨_, rfl⟩
  have o1 : ∀ c, c ≠ 50 → f1 c = h.2.1 c := fun c hc => by rw [← hf1]; funext j; exact ja_upO (Or.inl hc)
  have v6 : f1 50 6 = ((0 : Nat) : Int) := by rw [← hf1, ja_upE rfl rfl]; rfl
  have fr1 : fD k h.2.1 f1 := by rw [← hf1]; exact ⟨jfr_up (jfr_rf _ _) (by simp), fun j hj => ja_upO (by omega)⟩
  have e3 : f1 P 3 = (A : Int) := by rw [o1 P (by omega)]; exact c3
  have jx : ∀ c, c + 1 ≠ 50 → jpx (R1, f1, h.2.2) w g c = jpx h w g c := fun c hc => by
    funext x y
    unfold jpx jp_lt
    dsimp only
    rw [o1 _ hc]
  rw [hf1]
  obtain ⟨px, hpx⟩ : ∃ px, px = (fun r : Int => if 0 ≤ r ∧ r ≤ 4 then jpx h w g (5 + 2 * r.toNat) else fun _ _ => 0) := ⟨_, rfl⟩
  have hpl : ∀ r, l99 (px r) := fun r => by
    rw [hpx]
    dsimp only
    split
    · rename_i y; exact hl r y.1 y.2
    · exact fun _ _ => ⟨Int.le_refl 0, show (0 : Int) ≤ 99 by decide⟩
  have hlk : l99 (jpx h w g k) := by rw [hk]; exact hl p hp.1 hp.2
  have hd : dS n P k p w g K N C px (jpx h w g k) 0 (R1, f1, h.2.2) := by
    refine ⟨⟨hG1, hg1, r3, r4, r5⟩, jW_fr hW (fun j _ => congrFun (o1 90 (by decide)) j) (fun j _ => congrFun (o1 1 (by decide)) j) (fun c hc => o1 c (by rintro rfl; revert hc; decide)), ⟨(o1 _ (by omega)).trans c4, (o1 _ (by omega)).trans c5, (o1 _ (by omega)).trans c6⟩, v6, jx k (by omega), fun r h0 h4 hr => ?_⟩
    rw [jx _ (by omega), hpx]
    dsimp only
    rw [if_pos ⟨h0, h4⟩]
  have ih : jPA l n P k A p w g K N C px Dp (11 * A + 1) := (kX1_does hp hk (by omega) hw hpl _).1
  refine jx_m (jr_lr rfl) rfl (jA_i (jA_i (jA_i (jA_i jA_0 jv_ci) (jv_gF (jr_g (jr_lr rfl) rfl r3) hg1.1 e3)) jv_ci) jv_ci) (ih (nx := 0) (bh := A) (nst := 0) (r := 0) (h := (R1, f1, h.2.2)) hd hlk (by omega) (by omega) (fun b h1 h2 => ⟨by omega, fun y => ((hw.2 b h2).2.2.2.2.2 y).2.1.2⟩) (by omega) (by omega) (by omega) (by omega) (by omega) (fun s u es fr hd2 hl2 hs2 => ⟨rfl, ?_⟩))
  have g6 : u 50 6 = (s.2 : Int) := hd2.2.2.2.1
  refine jt_rI (jv_gF (jr_lr rfl) rfl g6) ?_
  exact q s u px hpx es (fD_tr fr1 fr) hd2.2.2.2.2.1 hl2 hs2
