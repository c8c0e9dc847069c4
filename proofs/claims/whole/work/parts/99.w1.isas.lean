/-! two pictures alike -/
theorem jpx_all {h : ja_H} {w g : Int} {n k ko : Nat} (hp : jp w g n k h) : jpx h w g k = jpx h w g ko ↔ ∀ j, j < n → h.2.1 (k + 1) j = h.2.1 (ko + 1) j := by
  obtain ⟨_, _, _, _, _, hn, hw4, hw12, hg4, hg12⟩ := hp
  constructor
  · intro e j hj
    have e2 := congrFun (congrFun e ((j : Int) % w)) ((j : Int) / w)
    have m1 := Int.emod_nonneg (j : Int) (show w ≠ 0 by omega)
    have m2 := Int.emod_lt_of_pos (j : Int) (show 0 < w by omega)
    have m3 := Int.mul_ediv_add_emod (j : Int) w
    have m4 : 0 ≤ (j : Int) / w := Int.ediv_nonneg (by omega) (by omega)
    have m5 : (j : Int) / w < g := by
      rw [Int.ediv_lt_iff_lt_mul (by omega)]
      have : w * g = g * w := Int.mul_comm _ _
      omega
    unfold jpx jp_lt at e2
    rw [if_pos ⟨⟨m1, m2⟩, m4, m5⟩, if_pos ⟨⟨m1, m2⟩, m4, m5⟩] at e2
    have e3 : ((j : Int) / w * w + (j : Int) % w).toNat = j := by
      have : (j : Int) / w * w = w * ((j : Int) / w) := Int.mul_comm _ _
      omega
    rw [e3] at e2
    exact e2
  · intro e
    funext x y
    unfold jpx jp_lt
    by_cases z : (0 ≤ x ∧ x < w) ∧ 0 ≤ y ∧ y < g
    · rw [if_pos z, if_pos z]
      have ix := jp_ix ⟨hw4, hw12⟩ ⟨hg4, hg12⟩ z.1 z.2
      exact e _ (by omega)
    · rw [if_neg z, if_neg z]
set_option maxRecDepth 10000 in
theorem kX3_isAs {l : Launch} {d : Nat} {h : ja_H} {Q : ja_Q} {n k ko : Nat} {w g : Int} (hp : jp w g n k h) (hq : jp w g n ko h) (q1 : jpx h w g k = jpx h w g ko → Q (some (.inl 1)) h) (q0 : jpx h w g k ≠ jpx h w g ko → Q (some (.inl 0)) h) : ja_C l (d + 1) mX3_isAs (js_sh n) [.inr (.inr (some (k))), .inr (.inr (some (ko)))] h Q := by
  have hn : n < 2147483648 := by
    obtain ⟨_, _, _, _, _, hn, hw4, hw12, hg4, hg12⟩ := id hp
    have := (jp_ix ⟨hw4, hw12⟩ ⟨hg4, hg12⟩ (x := 0) (y := 0) (by omega) (by omega)).2.2
    omega
  refine eX3_isAs _ _ fun ho => ?_
  unfold bX3_isAs
  refine jb_if_d (φ := False) (jd_eq (jd_or (jd_isn (jr_lr rfl)) (fun _ => jd_ne (jv_len (jr_g (jr_lr rfl) hq.1 hq.2.2.1) hq.2.1 hn) (jv_len (jr_g (jr_lr rfl) hp.1 hp.2.2.1) hp.2.1 hn))) (by simp)) (fun c1 => ?_) (fun c1 => ?_)
  · exact c1.elim
  · refine jt_sI jv_ci ?_
    refine jb_forc (n) (fun (c : Nat) L' h' => ∃ (v_i : Int), L' = [some (.inr (.inr (some (k)))), some (.inr (.inr (some (ko)))), some (.inl (v_i))] ∧ v_i = (c : Int) ∧ h = h' ∧ (∀ j, j < c → h.2.1 (k + 1) j = h.2.1 (ko + 1) j)) ⟨_, rfl, (by first | rfl | omega | (simp; done) | (simp; omega)), rfl, (by exact fun j hj => absurd hj (by omega))⟩ ?_ ?_ ?_
    · rintro c h_c _ _ ⟨v_i0, rfl, rfl, rfl, xk⟩
      exact jd_eq (jd_lt (jv_li rfl) (jv_len (jr_g (jr_lr rfl) hp.1 hp.2.2.1) hp.2.1 hn)) (by omega)
    · rintro c h_c _ _ ⟨v_i0, rfl, rfl, rfl, xk⟩
      refine jb_if_d (φ := h.2.1 (k + 1) c ≠ h.2.1 (ko + 1) c) (jd_eq (jd_ne (jv_aI (jr_g (jr_lr rfl) hp.1 hp.2.2.1) (jv_li rfl) hp.2.1 (by omega) (by omega)) (jv_aI (jr_g (jr_lr rfl) hq.1 hq.2.2.1) (jv_li rfl) hq.2.1 (by omega) (by omega))) (by rfl)) (fun c2 => ?_) (fun c2 => ?_)
      · refine jv_ci _ ⟨Or.inl rfl, ?_⟩
        exact q0 fun y => c2 ((jpx_all hp).mp y c h_c)
      · exact jt_inc rfl (by first | (unfold ja_r; omega) | (unfold ja_rl; omega) | omega | assumption) ⟨_, rfl, (by first | rfl | omega | (simp; done) | (simp; omega)), rfl, (by 
              intro j hj
              by_cases z : j = c
              · subst z; exact Classical.not_not.mp c2
              · exact xk j (by omega))⟩
    · rintro _ _ ⟨v_i0, rfl, rfl, rfl, xk⟩
      refine jv_ci _ ⟨Or.inr rfl, ?_⟩
      exact q1 ((jpx_all hp).mpr xk)
/-! stories: the texts by the digits of a number -/
def sq (D : Nat → LT → LT) (T : Nat) : Nat → Nat → LT → LT
  | 0, _, lt => lt
  | n + 1, c, lt => sq D T n (c % T ^ n) (D (c / T ^ n) lt)
noncomputable def okS (D : Nat → LT → LT) (T : Nat) (gl : LT) (n c : Nat) (lt : LT) : Bool := @decide (sq D T n c lt = gl) (Classical.propDecidable _)
/-- how many of the numbers below m are such, and the least -/
def cnt (P : Nat → Bool) : Nat → Nat
  | 0 => 0
  | m + 1 => cnt P m + (if P m = true then 1 else 0)
def lst (P : Nat → Bool) : Nat → Nat
  | 0 => 0
  | m + 1 => if cnt P m > 0 then lst P m else m
theorem cnt_0 {P : Nat → Bool} : ∀ m, cnt P m = 0 ↔ ∀ c, c < m → P c = false
  | 0 => ⟨fun _ c hc => absurd hc (by omega), fun _ => rfl⟩
  | m + 1 => by
    have ih := cnt_0 (P := P) m
    simp only [cnt]
    constructor
    · intro h c hc
      by_cases z : c = m
      · subst z
        cases e : P c with
        | false => rfl
        | true => rw [e] at h; simp at h
      · exact ih.mp (by omega) c (by omega)
    · intro h
      rw [ih.mpr (fun c hc => h c (by omega)), h m (by omega)]
      rfl
theorem lst_s {P : Nat → Bool} : ∀ m, cnt P m > 0 → lst P m < m ∧ P (lst P m) = true ∧ ∀ c, c < lst P m → P c = false
  | 0, h => absurd h (by simp [cnt])
  | m + 1, h => by
    simp only [lst]
    by_cases z : cnt P m > 0
    · rw [if_pos z]
      have ih := lst_s (P := P) m z
      exact ⟨by omega, ih.2⟩
    · rw [if_neg z]
      have z0 : cnt P m = 0 := by omega
      refine ⟨by omega, ?_, fun c hc => (cnt_0 m).mp z0 c hc⟩
      simp only [cnt, z0] at h
      cases e : P m with
      | false => rw [e] at h; simp at h
      | true => rfl
