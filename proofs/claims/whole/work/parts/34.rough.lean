/-! roughness: what both reckon -/
def rg_row (lt : Int → Int → Int) (x y j : Int) : Nat → Int
  | 0 => 0
  | k + 1 => rg_row lt x y j k + (if 0 < k then ((lt (x + k) j - lt (x + k - 1) j).natAbs : Int) else 0) + (if y < j then ((lt (x + k) j - lt (x + k) (j - 1)).natAbs : Int) else 0)
def rg (lt : Int → Int → Int) (x y : Int) (u : Nat) : Nat → Int
  | 0 => 0
  | m + 1 => rg lt x y u m + rg_row lt x y (y + m) u
def rg_ok (lt : Int → Int → Int) (w g : Int) : Prop := ∀ x y, 0 ≤ x → x < w → 0 ≤ y → y < g → 0 ≤ lt x y ∧ lt x y ≤ 99
theorem rg_row_b {lt : Int → Int → Int} {w g x y j : Int} (ho : rg_ok lt w g) (hx : 0 ≤ x) (hy : 0 ≤ y) (hj : y ≤ j ∧ j < g) : ∀ k : Nat, x + k ≤ w → 0 ≤ rg_row lt x y j k ∧ rg_row lt x y j k ≤ 198 * k
  | 0, _ => by simp [rg_row]
  | k + 1, h => by
    have ih := rg_row_b ho hx hy hj k (by omega)
    have b1 := ho (x + k) j (by omega) (by omega) (by omega) (by omega)
    have b2 : 0 < k → 0 ≤ lt (x + k - 1) j ∧ lt (x + k - 1) j ≤ 99 := fun _ => ho (x + k - 1) j (by omega) (by omega) (by omega) (by omega)
    have b3 : y < j → 0 ≤ lt (x + k) (j - 1) ∧ lt (x + k) (j - 1) ≤ 99 := fun _ => ho (x + k) (j - 1) (by omega) (by omega) (by omega) (by omega)
    simp only [rg_row]
    split <;> split <;> omega
theorem rg_b {lt : Int → Int → Int} {w g x y : Int} {u : Nat} (ho : rg_ok lt w g) (hx : 0 ≤ x) (hy : 0 ≤ y) (hu : x + u ≤ w) (hw : w ≤ 12) : ∀ m : Nat, y + m ≤ g → 0 ≤ rg lt x y u m ∧ rg lt x y u m ≤ 2376 * m
  | 0, _ => by simp [rg]
  | m + 1, h => by
    have ih := rg_b (u := u) ho hx hy hu hw m (by omega)
    have b := rg_row_b ho hx hy (j := y + m) (by omega) u hu
    simp only [rg]
    omega
theorem rg_row_c {lt lt' : Int → Int → Int} {w g x y j : Int} (he : ∀ x y, 0 ≤ x → x < w → 0 ≤ y → y < g → lt x y = lt' x y) (hx : 0 ≤ x) (hy : 0 ≤ y) (hj : y ≤ j ∧ j < g) : ∀ k : Nat, x + k ≤ w → rg_row lt x y j k = rg_row lt' x y j k
  | 0, _ => rfl
  | k + 1, h => by
    have ih := rg_row_c he hx hy hj k (by omega)
    have b1 := he (x + k) j (by omega) (by omega) (by omega) (by omega)
    have b2 : 0 < k → lt (x + k - 1) j = lt' (x + k - 1) j := fun _ => he (x + k - 1) j (by omega) (by omega) (by omega) (by omega)
    have b3 : y < j → lt (x + k) (j - 1) = lt' (x + k) (j - 1) := fun _ => he (x + k) (j - 1) (by omega) (by omega) (by omega) (by omega)
    simp only [rg_row, ih, b1]
    split <;> split <;> simp_all
theorem rg_c {lt lt' : Int → Int → Int} {w g x y : Int} {u : Nat} (he : ∀ x y, 0 ≤ x → x < w → 0 ≤ y → y < g → lt x y = lt' x y) (hx : 0 ≤ x) (hy : 0 ≤ y) (hu : x + u ≤ w) : ∀ m : Nat, y + m ≤ g → rg lt x y u m = rg lt' x y u m
  | 0, _ => rfl
  | m + 1, h => by
    simp only [rg]
    rw [rg_c he hx hy hu m (by omega), rg_row_c he hx hy (j := y + m) (by omega) u hu]
set_option maxRecDepth 10000 in
theorem kX12_roughOf {l : Launch} {d n : Nat} {p x y u v w g : Int} {h : ja_H} {Q : ja_Q} (hm : jm w g h) (hp : 0 ≤ p ∧ p ≤ 4) (ho : rg_ok (jm_lt h p) w g) (hx : 0 ≤ x) (hy : 0 ≤ y) (hu : 0 ≤ u ∧ x + u ≤ w) (hv : 0 ≤ v ∧ y + v ≤ g) (q : Q (some (.inl (rg (jm_lt h p) x y u.toNat v.toNat))) h) : ja_C l (d + 3) mX12_roughOf (js_sh n) [.inr (.inr (some 90)), .inl p, .inl x, .inl y, .inl u, .inl v] h Q := by
  obtain ⟨m1, m2, m3, m4, m5, m6, m7⟩ := id hm
  refine eX12_roughOf _ _ _ _ _ _ fun r1 r2 r3 r4 r5 _ => ?_
  unfold bX12_roughOf
  refine jt_sI jv_ci (jt_sI (jv_li rfl) ?_)
  refine jb_forc v.toNat (fun m L' h' => (∃ o, L' = [some (.inr (.inr (some 90))), some (.inl p), some (.inl x), some (.inl y), some (.inl u), some (.inl v), some (.inl (rg (jm_lt h p) x y u.toNat m)), some (.inl (y + (m : Nat))), o]) ∧ h = h') ⟨⟨none, by simp [rg, ja_set, ja_cl, ja_lg]⟩, rfl⟩ ?_ ?_ ?_
  · rintro m hm2 _ _ ⟨⟨o, rfl⟩, rfl⟩
    exact jd_eq (jd_lt (jv_li rfl) (jv_w (jv_add (jv_li rfl) (jv_li rfl)) (by first | omega | (unfold ja_r; omega) | (unfold ja_rl; omega) | assumption))) (by omega)
  · rintro m hm2 _ _ ⟨⟨o, rfl⟩, rfl⟩
    have b0 := rg_b (u := u.toNat) ho hx hy (by omega) m5 m (by omega)
    refine jt_sI (jv_li rfl) ?_
    refine jb_forc u.toNat (fun k L' h'' => L' = [some (.inr (.inr (some 90))), some (.inl p), some (.inl x), some (.inl y), some (.inl u), some (.inl v), some (.inl (rg (jm_lt h p) x y u.toNat m + rg_row (jm_lt h p) x y (y + (m : Nat)) k)), some (.inl (y + (m : Nat))), some (.inl (x + (k : Nat)))] ∧ h = h'') ⟨by simp [rg_row, ja_set, ja_cl, ja_lg], rfl⟩ ?_ ?_ ?_
    · rintro k hk _ _ ⟨rfl, rfl⟩
      exact jd_eq (jd_lt (jv_li rfl) (jv_w (jv_add (jv_li rfl) (jv_li rfl)) (by first | omega | (unfold ja_r; omega) | (unfold ja_rl; omega) | assumption))) (by omega)
    · rintro k hk _ _ ⟨rfl, rfl⟩
      have b1 := rg_row_b ho hx hy (j := y + m) (by omega) k (by omega)
      have b2 := ho (x + k) (y + m) (by omega) (by omega) (by omega) (by omega)
      have b3 : 0 < k → 0 ≤ jm_lt h p (x + k - 1) (y + m) ∧ jm_lt h p (x + k - 1) (y + m) ≤ 99 := fun _ => ho (x + k - 1) (y + m) (by omega) (by omega) (by omega) (by omega)
      have b4 : 0 < m → 0 ≤ jm_lt h p (x + k) (y + m - 1) ∧ jm_lt h p (x + k) (y + m - 1) ≤ 99 := fun _ => ho (x + k) (y + m - 1) (by omega) (by omega) (by omega) (by omega)
      refine jb_if_j (φ := 0 < k) (fun L' h'' => L' = [some (.inr (.inr (some 90))), some (.inl p), some (.inl x), some (.inl y), some (.inl u), some (.inl v), some (.inl (rg (jm_lt h p) x y u.toNat m + (rg_row (jm_lt h p) x y (y + (m : Nat)) k + (if 0 < k then ((jm_lt h p (x + k) (y + m) - jm_lt h p (x + k - 1) (y + m)).natAbs : Int) else 0)))), some (.inl (y + (m : Nat))), some (.inl (x + (k : Nat)))] ∧ h = h'') (jd_eq (jd_gt (jv_li rfl) (jv_li rfl)) (by omega)) (fun c => ?_) (fun c => ?_) ?_
      · have b3 := b3 c
        rw [if_pos c]
        exact jt_sI (jv_w (jv_add (jv_li rfl) (jv_c1 (jv_w (jv_sub (jv_m3 (jr_lr rfl) (by first | rfl | assumption) (jv_li rfl) (jv_li rfl) (jv_li rfl) fun _ => kX12_lightAt hm (by first | omega | (unfold ja_r; omega) | (unfold ja_rl; omega) | assumption) (by first | omega | (unfold ja_r; omega) | (unfold ja_rl; omega) | assumption) (by first | omega | (unfold ja_r; omega) | (unfold ja_rl; omega) | assumption)) (jv_m3 (jr_lr rfl) (by first | rfl | assumption) (jv_li rfl) (jv_w (jv_sub (jv_li rfl) jv_ci) (by first | omega | (unfold ja_r; omega) | (unfold ja_rl; omega) | assumption)) (jv_li rfl) fun _ => kX12_lightAt hm (by first | omega | (unfold ja_r; omega) | (unfold ja_rl; omega) | assumption) (by first | omega | (unfold ja_r; omega) | (unfold ja_rl; omega) | assumption) (by first | omega | (unfold ja_r; omega) | (unfold ja_rl; omega) | assumption))) (by first | omega | (unfold ja_r; omega) | (unfold ja_rl; omega) | assumption)) fun _ => kX12_abs (by first | omega | (unfold ja_r; omega) | (unfold ja_rl; omega) | assumption))) (by first | omega | (unfold ja_r; omega) | (unfold ja_rl; omega) | assumption)) ⟨by simp [ja_set, ja_cl, ja_lg, Int.add_assoc], rfl⟩
      · rw [if_neg c]; exact ⟨by simp, rfl⟩
      · rintro _ _ ⟨rfl, rfl⟩
        have b5 : (0 : Int) ≤ (if 0 < k then ((jm_lt h p (x + k) (y + m) - jm_lt h p (x + k - 1) (y + m)).natAbs : Int) else 0) ∧ (if 0 < k then ((jm_lt h p (x + k) (y + m) - jm_lt h p (x + k - 1) (y + m)).natAbs : Int) else 0) ≤ 99 := by
          split
          · have := b3 (by assumption); omega
          · omega
        refine jb_if_j (φ := 0 < m) (fun L' h'' => L' = [some (.inr (.inr (some 90))), some (.inl p), some (.inl x), some (.inl y), some (.inl u), some (.inl v), some (.inl (rg (jm_lt h p) x y u.toNat m + rg_row (jm_lt h p) x y (y + (m : Nat)) (k + 1))), some (.inl (y + (m : Nat))), some (.inl (x + (k : Nat)))] ∧ h = h'') (jd_eq (jd_gt (jv_li rfl) (jv_li rfl)) (by omega)) (fun c => ?_) (fun c => ?_) ?_
        · have b4 := b4 c
          refine jt_sI (jv_w (jv_add (jv_li rfl) (jv_c1 (jv_w (jv_sub (jv_m3 (jr_lr rfl) (by first | rfl | assumption) (jv_li rfl) (jv_li rfl) (jv_li rfl) fun _ => kX12_lightAt hm (by first | omega | (unfold ja_r; omega) | (unfold ja_rl; omega) | assumption) (by first | omega | (unfold ja_r; omega) | (unfold ja_rl; omega) | assumption) (by first | omega | (unfold ja_r; omega) | (unfold ja_rl; omega) | assumption)) (jv_m3 (jr_lr rfl) (by first | rfl | assumption) (jv_li rfl) (jv_li rfl) (jv_w (jv_sub (jv_li rfl) jv_ci) (by first | omega | (unfold ja_r; omega) | (unfold ja_rl; omega) | assumption)) fun _ => kX12_lightAt hm (by first | omega | (unfold ja_r; omega) | (unfold ja_rl; omega) | assumption) (by first | omega | (unfold ja_r; omega) | (unfold ja_rl; omega) | assumption) (by first | omega | (unfold ja_r; omega) | (unfold ja_rl; omega) | assumption))) (by first | omega | (unfold ja_r; omega) | (unfold ja_rl; omega) | assumption)) fun _ => kX12_abs (by first | omega | (unfold ja_r; omega) | (unfold ja_rl; omega) | assumption))) (by first | omega | (unfold ja_r; omega) | (unfold ja_rl; omega) | assumption)) ⟨?_, rfl⟩
          simp only [rg_row]
          rw [if_pos (show y < y + (m : Int) by omega)]
          simp [ja_set, ja_cl, ja_lg, Int.add_assoc]
        · refine ⟨?_, rfl⟩
          simp only [rg_row]
          rw [if_neg (show ¬ y < y + (m : Int) by omega)]
          simp
        · rintro _ _ ⟨rfl, rfl⟩
          exact jt_inc rfl (by first | omega | (unfold ja_r; omega) | (unfold ja_rl; omega) | assumption) ⟨by simp [ja_set, ja_cl, ja_lg, Int.add_assoc], rfl⟩
    · rintro _ _ ⟨rfl, rfl⟩
      exact jt_inc rfl (by first | omega | (unfold ja_r; omega) | (unfold ja_rl; omega) | assumption) ⟨⟨some (.inl (x + (u.toNat : Int))), by simp [ja_set, ja_cl, ja_lg, rg, Int.add_assoc]⟩, rfl⟩
  · rintro _ _ ⟨⟨o, rfl⟩, rfl⟩
    exact jt_rI (jv_li rfl) q
set_option maxRecDepth 10000 in
theorem kX3_roughness {l : Launch} {d n k0 : Nat} {x y u v w g : Int} {h : ja_H} {Q : ja_Q} (hp : jp w g n k0 h) (ho : rg_ok (jp_lt h w k0) w g) (hx : 0 ≤ x) (hy : 0 ≤ y) (hu : 0 ≤ u ∧ x + u ≤ w) (hv : 0 ≤ v ∧ y + v ≤ g) (q : Q (some (.inl (rg (jp_lt h w k0) x y u.toNat v.toNat))) h) : ja_C l (d + 2) mX3_roughness (js_sh n) [.inr (.inr (some k0)), .inl x, .inl y, .inl u, .inl v] h Q := by
  obtain ⟨m1, m2, m3, m4, m5, m6, m7, m8, m9, m10⟩ := id hp
  refine eX3_roughness _ _ _ _ _ fun r1 r2 r3 r4 _ => ?_
  unfold bX3_roughness
  refine jt_sI jv_ci (jt_sI (jv_li rfl) ?_)
  refine jb_forc v.toNat (fun m L' h' => (∃ o o2, L' = [some (.inr (.inr (some k0))), some (.inl x), some (.inl y), some (.inl u), some (.inl v), some (.inl (rg (jp_lt h w k0) x y u.toNat m)), some (.inl (y + (m : Nat))), o, o2]) ∧ h = h') ⟨⟨none, none, by simp [rg, ja_set, ja_cl, ja_lg]⟩, rfl⟩ ?_ ?_ ?_
  · rintro m hm2 _ _ ⟨⟨o, o2, rfl⟩, rfl⟩
    exact jd_eq (jd_lt (jv_li rfl) (jv_w (jv_add (jv_li rfl) (jv_li rfl)) (by first | omega | (unfold ja_r; omega) | (unfold ja_rl; omega) | assumption))) (by omega)
  · rintro m hm2 _ _ ⟨⟨o, o2, rfl⟩, rfl⟩
    have b0 := rg_b (u := u.toNat) ho hx hy (by omega) m8 m (by omega)
    refine jt_sI (jv_li rfl) ?_
    refine jb_forc u.toNat (fun k L' h'' => (∃ o, L' = [some (.inr (.inr (some k0))), some (.inl x), some (.inl y), some (.inl u), some (.inl v), some (.inl (rg (jp_lt h w k0) x y u.toNat m + rg_row (jp_lt h w k0) x y (y + (m : Nat)) k)), some (.inl (y + (m : Nat))), some (.inl (x + (k : Nat))), o]) ∧ h = h'') ⟨⟨o2, by simp [rg_row, ja_set, ja_cl, ja_lg]⟩, rfl⟩ ?_ ?_ ?_
    · rintro k hk _ _ ⟨⟨o, rfl⟩, rfl⟩
      exact jd_eq (jd_lt (jv_li rfl) (jv_w (jv_add (jv_li rfl) (jv_li rfl)) (by first | omega | (unfold ja_r; omega) | (unfold ja_rl; omega) | assumption))) (by omega)
    · rintro k hk _ _ ⟨⟨o, rfl⟩, rfl⟩
      have b1 := rg_row_b ho hx hy (j := y + m) (by omega) k (by omega)
      have b2 := ho (x + k) (y + m) (by omega) (by omega) (by omega) (by omega)
      have b3 : 0 < k → 0 ≤ jp_lt h w k0 (x + k - 1) (y + m) ∧ jp_lt h w k0 (x + k - 1) (y + m) ≤ 99 := fun _ => ho (x + k - 1) (y + m) (by omega) (by omega) (by omega) (by omega)
      have b4 : 0 < m → 0 ≤ jp_lt h w k0 (x + k) (y + m - 1) ∧ jp_lt h w k0 (x + k) (y + m - 1) ≤ 99 := fun _ => ho (x + k) (y + m - 1) (by omega) (by omega) (by omega) (by omega)
      refine jt_sI (jv_m2 (jr_lr rfl) (by first | rfl | assumption) (jv_li rfl) (jv_li rfl) fun _ => kX3_getI hp (by first | omega | (unfold ja_r; omega) | (unfold ja_rl; omega) | assumption) (by first | omega | (unfold ja_r; omega) | (unfold ja_rl; omega) | assumption)) ?_
      refine jb_if_j (φ := 0 < k) (fun L' h'' => L' = [some (.inr (.inr (some k0))), some (.inl x), some (.inl y), some (.inl u), some (.inl v), some (.inl (rg (jp_lt h w k0) x y u.toNat m + (rg_row (jp_lt h w k0) x y (y + (m : Nat)) k + (if 0 < k then ((jp_lt h w k0 (x + k) (y + m) - jp_lt h w k0 (x + k - 1) (y + m)).natAbs : Int) else 0)))), some (.inl (y + (m : Nat))), some (.inl (x + (k : Nat))), some (.inl (jp_lt h w k0 (x + k) (y + m)))] ∧ h = h'') (jd_eq (jd_gt (jv_li rfl) (jv_li rfl)) (by omega)) (fun c => ?_) (fun c => ?_) ?_
      · have b3 := b3 c
        rw [if_pos c]
        exact jt_sI (jv_w (jv_add (jv_li rfl) (jv_c1 (jv_w (jv_sub (jv_li rfl) (jv_m2 (jr_lr rfl) (by first | rfl | assumption) (jv_w (jv_sub (jv_li rfl) jv_ci) (by first | omega | (unfold ja_r; omega) | (unfold ja_rl; omega) | assumption)) (jv_li rfl) fun _ => kX3_getI hp (by first | omega | (unfold ja_r; omega) | (unfold ja_rl; omega) | assumption) (by first | omega | (unfold ja_r; omega) | (unfold ja_rl; omega) | assumption))) (by first | omega | (unfold ja_r; omega) | (unfold ja_rl; omega) | assumption)) fun _ => kJ9_abs (by first | omega | (unfold ja_r; omega) | (unfold ja_rl; omega) | assumption))) (by first | omega | (unfold ja_r; omega) | (unfold ja_rl; omega) | assumption)) ⟨by simp [ja_set, ja_cl, ja_lg, Int.add_assoc], rfl⟩
      · rw [if_neg c]; exact ⟨by simp [ja_set, ja_cl, ja_lg], rfl⟩
      · rintro _ _ ⟨rfl, rfl⟩
        have b5 : (0 : Int) ≤ (if 0 < k then ((jp_lt h w k0 (x + k) (y + m) - jp_lt h w k0 (x + k - 1) (y + m)).natAbs : Int) else 0) ∧ (if 0 < k then ((jp_lt h w k0 (x + k) (y + m) - jp_lt h w k0 (x + k - 1) (y + m)).natAbs : Int) else 0) ≤ 99 := by
          split
          · have := b3 (by assumption); omega
          · omega
        refine jb_if_j (φ := 0 < m) (fun L' h'' => L' = [some (.inr (.inr (some k0))), some (.inl x), some (.inl y), some (.inl u), some (.inl v), some (.inl (rg (jp_lt h w k0) x y u.toNat m + rg_row (jp_lt h w k0) x y (y + (m : Nat)) (k + 1))), some (.inl (y + (m : Nat))), some (.inl (x + (k : Nat))), some (.inl (jp_lt h w k0 (x + k) (y + m)))] ∧ h = h'') (jd_eq (jd_gt (jv_li rfl) (jv_li rfl)) (by omega)) (fun c => ?_) (fun c => ?_) ?_
        · have b4 := b4 c
          refine jt_sI (jv_w (jv_add (jv_li rfl) (jv_c1 (jv_w (jv_sub (jv_li rfl) (jv_m2 (jr_lr rfl) (by first | rfl | assumption) (jv_li rfl) (jv_w (jv_sub (jv_li rfl) jv_ci) (by first | omega | (unfold ja_r; omega) | (unfold ja_rl; omega) | assumption)) fun _ => kX3_getI hp (by first | omega | (unfold ja_r; omega) | (unfold ja_rl; omega) | assumption) (by first | omega | (unfold ja_r; omega) | (unfold ja_rl; omega) | assumption))) (by first | omega | (unfold ja_r; omega) | (unfold ja_rl; omega) | assumption)) fun _ => kJ9_abs (by first | omega | (unfold ja_r; omega) | (unfold ja_rl; omega) | assumption))) (by first | omega | (unfold ja_r; omega) | (unfold ja_rl; omega) | assumption)) ⟨?_, rfl⟩
          simp only [rg_row]
          rw [if_pos (show y < y + (m : Int) by omega)]
          simp [ja_set, ja_cl, ja_lg, Int.add_assoc]
        · refine ⟨?_, rfl⟩
          simp only [rg_row]
          rw [if_neg (show ¬ y < y + (m : Int) by omega)]
          simp
        · rintro _ _ ⟨rfl, rfl⟩
          exact jt_inc rfl (by first | omega | (unfold ja_r; omega) | (unfold ja_rl; omega) | assumption) ⟨⟨_, by simp [ja_set, ja_cl, ja_lg, Int.add_assoc]; rfl⟩, rfl⟩
    · rintro _ _ ⟨⟨o, rfl⟩, rfl⟩
      exact jt_inc rfl (by first | omega | (unfold ja_r; omega) | (unfold ja_rl; omega) | assumption) ⟨⟨some (.inl (x + (u.toNat : Int))), o, by simp [ja_set, ja_cl, ja_lg, rg, Int.add_assoc]⟩, rfl⟩
  · rintro _ _ ⟨⟨o, o2, rfl⟩, rfl⟩
    exact jt_rI (jv_li rfl) q
