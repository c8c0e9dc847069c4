/-! calls that change nothing that is asked for later -/
section JV1
variable {l : Launch} {d w g n : Nat} {h : ja_H}
theorem vv_at {p x y : Int} (hI : INV w g n h) : jPr l (d + 47) mX11_at mX12_at w g n [.inl p, .inl x, .inl y] h := by
  have hG := hI.1
  have hW := hI.2.1
  unfold jPr
  refine kX11_at (jT_of hG) (jS1_of hG hW) ⟨_, rfl, ?_⟩
  refine kX12_at (jm_of hG hW) ⟨?_, hI⟩
  by_cases c : (0 ≤ p ∧ p ≤ 4) ∧ (0 ≤ x ∧ x < (w : Int)) ∧ 0 ≤ y ∧ y < (g : Int)
  · rw [if_pos c, if_pos c, (INV_pt hI c.1 c.2.1 c.2.2).1]
  · rw [if_neg c, if_neg c]
theorem iSg_M {v : Int} {s t : Nat} {f : Nat → Nat → Int} (hs : iSg 91 f) (h0 : f 91 0 = (s : Int)) (h1 : f 91 1 = (t : Int)) (hs2 : s ≤ 12) (ht2 : t ≤ 8) (hv : jtd s t v) : ∀ q, q < 726 → ja_land (f 30 q) v = lvN (f 91) v (q : Int) s t := fun q hq => by
  refine jbt_ext (ja_land_r _ _) (lvN_r _ _ _ _ _) fun k hk => ?_
  rw [jbt_and, lvN_b _ _ _ s hs2 t ht2 k]
  cases e : jbt v k with
  | false => simp
  | true =>
    rcases hv k hk e with z | z
    · have := (hs.1 k (by omega)).2 q hq
      rw [this]
      have e2 : ¬ (12 ≤ k ∧ k < 12 + t) := by omega
      simp [z, e2]
    · obtain ⟨j, rfl⟩ : ∃ j, k = 12 + j := ⟨k - 12, by omega⟩
      have := (hs.2 j (by omega)).2 q hq
      rw [this]
      have e2 : ¬ (12 + j < s) := by omega
      have e3 : (12 ≤ 12 + j ∧ 12 + j < 12 + t) := by omega
      simp [e2, e3]
theorem iSg_1 {s : Nat} {f : Nat → Nat → Int} (hs : iSg 91 f) (h0 : f 91 0 = (s : Int)) : ∀ k, k < s → shOk (f 91) k := fun k hk => (hs.1 k (by omega)).1
theorem iSg_2 {t : Nat} {f : Nat → Nat → Int} (hs : iSg 91 f) (h1 : f 91 1 = (t : Int)) : ∀ k, k < t → 0 ≤ f 91 (820 + k) ∧ f 91 (820 + k) ≤ 7 := fun k hk => (hs.2 k (by omega)).1
theorem INV_c {u v : Nat → Nat → Int} {S : List Nat} (hI : INV w g n h) (fr : jfr S h.2.1 u) (hS : ∀ c ∈ S, c ∈ SCR ∧ c ≠ 90) : INV w g n (h.1, u, v) := INV_s hI hI.1 (jfr_sub fr fun c hc => (hS c hc).1) (fun j _ => congrFun (fr 90 fun y => (hS 90 y).2 rfl) j) (fun j _ _ => congrFun (fr 90 fun y => (hS 90 y).2 rfl) j)
theorem vv_lamps {v i : Int} (hI : INV w g n h) : jPr l (d + 47) mX11_lamps mX12_lamps w g n [.inl v, .inl i] h := by
  have hG := hI.1
  obtain ⟨s, hs, hs', hs2⟩ := INV_n hI (j := 0) (by decide)
  obtain ⟨t, ht, ht', ht2⟩ := INV_n hI (j := 1) (by decide)
  have sg := hI.2.2.2.2.2.1.1
  unfold jPr
  refine kX11_lamps hG hs' ht' hs2 ht2 ⟨_, rfl, ?_⟩
  refine kX12_lamps hG rfl hs ht hs2 ht2 (iSg_1 sg hs) (iSg_2 sg ht) (fun c f fr => ⟨?_, INV_c hI fr (by decide)⟩) (fun c => ⟨?_, hI⟩)
  · rw [if_pos c, lmF_c (iSg_M sg hs ht hs2 ht2 c.1)]
  · rw [if_neg c]
theorem vv_fight {v i : Int} (hI : INV w g n h) : jPr l (d + 47) mX11_fight mX12_fight w g n [.inl v, .inl i] h := by
  have hG := hI.1
  obtain ⟨s, hs, hs', hs2⟩ := INV_n hI (j := 0) (by decide)
  obtain ⟨t, ht, ht', ht2⟩ := INV_n hI (j := 1) (by decide)
  have sg := hI.2.2.2.2.2.1.1
  unfold jPr
  refine kX11_fight hG hs' ht' hs2 ht2 ⟨_, rfl, ?_⟩
  refine kX12_fight hG rfl hs ht hs2 ht2 (iSg_1 sg hs) (iSg_2 sg ht) (fun c f fr => ⟨?_, INV_c hI fr (by decide)⟩) (fun c => ⟨?_, hI⟩)
  · rw [if_pos c, ftF_c (iSg_M sg hs ht hs2 ht2 c.1)]
  · rw [if_neg c]
theorem vv_suns {v i : Int} (hI : INV w g n h) : jPr l (d + 47) mX11_suns mX12_suns w g n [.inl v, .inl i] h := by
  have hG := hI.1
  obtain ⟨s, hs, hs', hs2⟩ := INV_n hI (j := 0) (by decide)
  obtain ⟨t, ht, ht', ht2⟩ := INV_n hI (j := 1) (by decide)
  have sg := hI.2.2.2.2.2.1.1
  unfold jPr
  refine kX11_suns hG hs' ht' hs2 ht2 (fun c f z fr hz => ⟨_, rfl, ?_⟩) (fun c => ⟨_, rfl, ?_⟩)
  · have hI2 : INV w g n (h.1, f, h.2.2) := INV_c hI fr (by decide)
    have f91 : f 91 = h.2.1 91 := fr 91 (by decide)
    have sg2 := hI2.2.2.2.2.2.1.1
    have hz := suO_c (iSg_M sg hs ht hs2 ht2 c.1) hz
    refine kX12_suns (h := (h.1, f, h.2.2)) hG f91 hs ht hs2 ht2 (iSg_1 sg hs) (iSg_2 sg ht) (fun c2 f2 z2 fr2 hz2 => ⟨?_, INV_c (h := (h.1, f, h.2.2)) hI2 fr2 (by decide)⟩) (fun c2 => ⟨?_, hI2⟩)
    · rw [suO_u c.2 hz2 hz]
    · have hi3 : 3 ≤ i := by
        rcases Classical.em (i ≤ 2) with y | y
        · exact absurd ⟨c.1, c.2, y⟩ c2
        · omega
      rw [suO_3 hi3 hz]
  · refine kX12_suns hG rfl hs ht hs2 ht2 (iSg_1 sg hs) (iSg_2 sg ht) (fun c2 => absurd ⟨c2.1, c2.2.1⟩ c) (fun c2 => ⟨rfl, hI⟩)
theorem vv_meet {a b : Int} (hI : INV w g n h) : jPr l (d + 47) mX11_meet mX12_meet w g n [.inl a, .inl b] h := by
  have hG := hI.1
  obtain ⟨m, hm, hm', hm2⟩ := INV_n hI (j := 2) (by decide)
  have ln := hI.2.2.2.2.2.2.1.1
  have e : ∀ k, k < m → h.2.1 35 k = aX (h.2.1 91) k ∧ h.2.1 36 k = aY (h.2.1 91) k ∧ h.2.1 37 k = aU (h.2.1 91) k ∧ h.2.1 38 k = aV (h.2.1 91) k := fun k hk => (ln k (by omega)).1
  unfold jPr
  refine kX11_meet hG hm' rfl rfl rfl rfl hm2 (fun k hk => ?_) (fun c f fr => ⟨_, rfl, ?_⟩) (fun c => ⟨_, rfl, ?_⟩)
  · obtain ⟨e1, e2, e3, e4⟩ := e k hk
    rw [e1, e2, e3, e4]
    exact (ln k (by omega)).2
  · have hI2 : INV w g n (h.1, f, h.2.2) := INV_c hI fr (by decide)
    have f91 : f 91 = h.2.1 91 := fr 91 (by decide)
    refine kX12_meet (h := (h.1, f, h.2.2)) hG f91 hm hm2 (fun k hk => (ln k (by omega)).2) (fun c2 => ⟨?_, hI2⟩) (fun c2 => absurd c c2)
    rw [mtF_c e]
  · exact kX12_meet hG rfl hm hm2 (fun k hk => (ln k (by omega)).2) (fun c2 => absurd c2 c) (fun c2 => ⟨rfl, hI⟩)
theorem vv_rough {p x y u v : Int} (hI : INV w g n h) : jPr l (d + 47) mX11_rough mX12_rough w g n [.inl p, .inl x, .inl y, .inl u, .inl v] h := by
  have hG := hI.1
  have hW := hI.2.1
  unfold jPr
  refine kX11_rough (jT_of hG) (jS1_of hG hW) (fun c => (INV_rg hI c).1) ⟨_, rfl, ?_⟩
  refine kX12_rough (jm_of hG hW) (fun c => (INV_rg hI c).2) ⟨?_, hI⟩
  by_cases c : (0 ≤ p ∧ p ≤ 4) ∧ ((0 ≤ x ∧ x < (w : Int)) ∧ 0 ≤ y ∧ y < (g : Int)) ∧ (1 ≤ u ∧ u ≤ (w : Int) - x) ∧ 1 ≤ v ∧ v ≤ (g : Int) - y
  · rw [if_pos c, if_pos c]
    rw [rg_c (w := w) (g := g) (lt := jp_lt h w (5 + 2 * p.toNat)) (lt' := jm_lt h p) (fun x y x0 x1 y0 y1 => (INV_pt hI c.1 ⟨x0, x1⟩ ⟨y0, y1⟩).1) (by omega) (by omega) (by omega) _ (by omega)]
  · rw [if_neg c, if_neg c]
theorem INV_rb {p : Int} (hI : INV w g n h) (hp : 0 ≤ p ∧ p ≤ 4) {b : Int} (hb : 0 ≤ b ∧ b < (w : Int) / 4 * ((g : Int) / 4)) : rb (jp_lt h w (5 + 2 * p.toNat)) w b = rb (jm_lt h p) w b := by
  have bb := INV_b hI
  exact rb_c (g := g) (fun x y x0 x1 y0 y1 => (INV_pt hI hp ⟨x0, x1⟩ ⟨y0, y1⟩).1) ⟨bb.1, bb.2.1⟩ bb.2.2 hb
theorem nb_e (hI : INV w g n h) {b : Nat} (hb : b < ((w : Int) / 4 * ((g : Int) / 4)).toNat) : 0 ≤ (b : Int) ∧ (b : Int) < (w : Int) / 4 * ((g : Int) / 4) := by
  omega
theorem jm_lt_c {u v : Nat → Nat → Int} {p : Int} (e : u 91 = h.2.1 91) : jm_lt (h.1, u, v) p = jm_lt h p := by
  funext x y
  unfold jm_lt
  show u 91 _ = _
  rw [e]
theorem vv_grain {p t v : Int} (hI : INV w g n h) : jPr l (d + 47) mX11_grain mX12_grain w g n [.inl p, .inl t, .inl v] h := by
  have hG := hI.1
  have hW := hI.2.1
  have bb := INV_b hI
  unfold jPr
  refine kX11_grain (jT_of hG) (jB_of hG) (jS1_of hG hW) bb (fun c => (INV_rg hI c).1) (fun c f hf => ⟨_, rfl, ?_⟩) (fun c => ⟨_, rfl, ?_⟩)
  · have fr : jfr [40, 41] h.2.1 f := fun k hk => by
      simp only [List.mem_cons, List.not_mem_nil, or_false] at hk
      exact hf k (by omega) (by omega)
    have hI2 : INV w g n (h.1, f, h.2.2) := INV_c hI fr (by decide)
    have f91 : f 91 = h.2.1 91 := fr 91 (by decide)
    refine kX12_grain (h := (h.1, f, h.2.2)) (jm_of hG hI2.2.1) (fun c => (INV_rg hI2 c).2) ⟨?_, hI2⟩
    rw [if_pos c, jm_lt_c f91]
    rw [grS_c (fun b hb => INV_rb hI c.1 (nb_e hI hb))]
  · refine kX12_grain (jm_of hG hW) (fun c => (INV_rg hI c).2) ⟨?_, hI⟩
    rw [if_neg c]
theorem jmx_c {u v : Nat → Nat → Int} {p : Int} (e : u 91 = h.2.1 91) : jmx (h.1, u, v) w g p = jmx h w g p := jmx_w e
theorem vv_squares {p x y u v e : Int} (hI : INV w g n h) (he : e = 0 ∨ e = 1) : jPr l (d + 47) mX11_squares mX12_squares w g n [.inl p, .inl x, .inl y, .inl u, .inl v, .inl e] h := by
  have hG := hI.1
  have hW := hI.2.1
  obtain ⟨lt, hlt⟩ : ∃ lt, lt = if 0 ≤ p ∧ p ≤ 4 then jmx h w g p else fun _ _ => 0 := ⟨_, rfl⟩
  have hp1 : 0 ≤ p ∧ p ≤ 4 → jmx h w g p = lt := fun c => by rw [hlt, if_pos c]
  have hb : ∀ x y, 0 ≤ lt x y ∧ lt x y ≤ 99 := fun x y => by
    rw [hlt]
    split
    · rename_i c; exact (INV_lt hI c).2 x y
    · exact ⟨Int.le_refl 0, show (0 : Int) ≤ 99 by decide⟩
  unfold jPr
  refine kX11_squares hG hW he (fun c => (INV_lt hI c).1.trans (hp1 c)) hb (fun c f fr => ⟨_, rfl, ?_⟩) (fun c => ⟨_, rfl, ?_⟩)
  · have hI2 : INV w g n (h.1, f, h.2.2) := INV_c hI fr (by decide)
    have f91 : f 91 = h.2.1 91 := fr 91 (by decide)
    exact kX12_squares (h := (h.1, f, h.2.2)) hG hI2.2.1 (fun c => by rw [jmx_c f91]; exact hp1 c) hb (fun c2 => ⟨rfl, hI2⟩) (fun c2 => absurd c c2)
  · exact kX12_squares hG hW hp1 hb (fun c2 => absurd c2 c) (fun c2 => ⟨rfl, hI⟩)
theorem vv_twice {p k t v : Int} (hI : INV w g n h) : jPr l (d + 47) mX11_twice mX12_twice w g n [.inl p, .inl k, .inl t, .inl v] h := by
  have hG := hI.1
  have hW := hI.2.1
  obtain ⟨lt, hlt⟩ : ∃ lt, lt = if 0 ≤ p ∧ p ≤ 4 then jmx h w g p else fun _ _ => 0 := ⟨_, rfl⟩
  have hp1 : 0 ≤ p ∧ p ≤ 4 → jmx h w g p = lt := fun c => by rw [hlt, if_pos c]
  have hb : ∀ x y, 0 ≤ lt x y ∧ lt x y ≤ 99 := fun x y => by
    rw [hlt]
    split
    · rename_i c; exact (INV_lt hI c).2 x y
    · exact ⟨Int.le_refl 0, show (0 : Int) ≤ 99 by decide⟩
  have bx := hI.2.2.2.2.2.2.2.2.2.2.1
  have b8 : h.2.1 90 8 = (((h.2.1 90 8).toNat : Nat) : Int) := by have := bx.1; omega
  have b9 : h.2.1 90 9 = (((h.2.1 90 9).toNat : Nat) : Int) := by have := bx.2; omega
  have c8 : (h.2.1 90 8).toNat ≤ 8 := by have := bx.1; omega
  have c9 : (h.2.1 90 9).toNat ≤ 8 := by have := bx.2; omega
  have fin : ∀ {h2 : ja_H} {f : Nat → Nat → Int}, INV w g n h2 → jfT h2.2.1 f → INV w g n (h2.1, f, h2.2.2) := fun {h2 f} hI2 ff => INV_s hI2 hI2.1 (jfr_sub ff.1 (by decide)) (fun j hj => ff.2 j (by omega)) (fun j j1 j2 => ff.2 j (by omega))
  unfold jPr
  refine kX11_twice hG hW (fun c => (INV_lt hI c).1.trans (hp1 c)) hb (fun c f z fr hz => ⟨_, rfl, ?_⟩) (fun c => ⟨_, rfl, ?_⟩)
  · have hI2 : INV w g n (h.1, f, h.2.2) := INV_c hI fr (by decide)
    have f91 : f 91 = h.2.1 91 := fr 91 (by decide)
    have f90 : f 90 = h.2.1 90 := fr 90 (by decide)
    refine kX12_twice (h := (h.1, f, h.2.2)) hG hI2.2.1 (fun c => by rw [jmx_c f91]; exact hp1 c) hb (by show f 90 8 = _; rw [f90]; exact b8) (by show f 90 9 = _; rw [f90]; exact b9) c8 c9 (fun c2 f2 z2 ff hz2 => ⟨?_, fin hI2 ff⟩) (fun c2 => absurd c c2)
    rw [tcO_u hz2 hz]
  · exact kX12_twice hG hW hp1 hb b8 b9 c8 c9 (fun c2 => absurd c2 c) (fun c2 => ⟨rfl, hI⟩)
theorem vv_two {p r v : Int} (hI : INV w g n h) : jPr l (d + 47) mX11_two mX12_two w g n [.inl p, .inl r, .inl v] h := by
  have hG := hI.1
  have hW := hI.2.1
  obtain ⟨LF, hLF⟩ : ∃ LF : Int → Int → Int → Int, LF = fun p => if 0 ≤ p ∧ p ≤ 4 then jmx h w g p else fun _ _ => 0 := ⟨_, rfl⟩
  have hp1 : ∀ p, 0 ≤ p ∧ p ≤ 4 → jmx h w g p = LF p := fun p c => by rw [hLF]; dsimp only; rw [if_pos c]
  have hb : ∀ p x y, 0 ≤ LF p x y ∧ LF p x y ≤ 99 := fun p x y => by
    rw [hLF]
    dsimp only
    split
    · rename_i c; exact (INV_lt hI c).2 x y
    · exact ⟨Int.le_refl 0, show (0 : Int) ≤ 99 by decide⟩
  unfold jPr
  refine kX11_two hG hW (fun c => (INV_lt hI c).1.trans (hp1 p c)) (fun c => (INV_lt hI c).1.trans (hp1 r c)) (hb p) (hb r) (fun c f fr => ⟨_, rfl, ?_⟩) (fun c => ⟨_, rfl, ?_⟩)
  · have hI2 : INV w g n (h.1, f, h.2.2) := INV_c hI fr (by decide)
    have f91 : f 91 = h.2.1 91 := fr 91 (by decide)
    exact kX12_two (h := (h.1, f, h.2.2)) hG hI2.2.1 (fun c => by rw [jmx_c f91]; exact hp1 p c) (fun c => by rw [jmx_c f91]; exact hp1 r c) (hb p) (hb r) (fun c2 f2 ff => ⟨rfl, INV_s hI2 hG (jfr_sub ff.1 (by decide)) (fun j hj => ff.2 j (by omega)) (fun j j1 j2 => ff.2 j (by omega))⟩) (fun c2 => absurd c c2)
  · exact kX12_two hG hW (hp1 p) (hp1 r) (hb p) (hb r) (fun c2 => absurd c2 c) (fun c2 => ⟨rfl, hI⟩)
theorem vv_fault {v : Int} (hI : INV w g n h) : jPr l (d + 47) mX11_fault mX12_fault w g n [.inl v] h := by
  have hG := hI.1
  have hW := hI.2.1
  have ft := hI.2.2.2.2.2.2.2.2.2.1
  unfold jPr
  refine kX11_fault (jT_of hG) ⟨_, rfl, ?_⟩
  refine kX12_fault (jm_of hG hW) ⟨?_, hI⟩
  rcases ft with ⟨a1, a2, a3⟩ | ⟨a1, a2, a3⟩
  · rw [a1, a2, a3, if_pos (Or.inl rfl)]
    by_cases z : v = 0
    · rw [if_pos z]
    · rw [if_neg z]
      by_cases z2 : v = 1
      · rw [if_pos z2]
      · rw [if_neg z2]
  · rw [a1, a2, a3]
    by_cases z : v = 0
    · rw [if_pos z, if_neg (by omega), if_pos z]
    · rw [if_neg z]
      by_cases z2 : v = 1
      · rw [if_pos z2, if_neg (by omega), if_neg z]
      · rw [if_neg z2, if_pos (by omega)]
theorem vv_odds {m y b : Int} (hI : INV w g n h) : jPr l (d + 47) mX11_odds mX12_odds w g n [.inl m, .inl y, .inl b] h := by
  have hG := hI.1
  obtain ⟨m1, m2⟩ := hI.2.2.2.2.1.1
  have cc := hI.2.2.2.1.1
  have e5 : h.2.1 1 5 = h.2.1 91 4 := cc.1.1
  have eW : ∀ m, m < 4 → h.2.1 3 m = h.2.1 91 (880 + m) := fun m hm => (m1 m hm).1
  have eH : ∀ m, m < 4 → ∀ k, k < 6 → h.2.1 4 (6 * m + k) = h.2.1 91 (890 + 6 * m + k) := fun m hm k hk => by
    have := (m2 (6 * m + k) (by omega)).1
    rw [show 890 + 6 * m + k = 890 + (6 * m + k) by omega]
    exact this
  have ok : ∀ m, m < 4 → hbo (h.2.1 91 (880 + m)) (h.2.1 91 4) (fun k => h.2.1 91 (890 + 6 * m + k)) := fun m hm => ⟨(m1 m hm).2, cc.2.1, fun j hj => by
    have := (m2 (6 * m + j) (by omega)).2
    dsimp only
    rw [show 890 + 6 * m + j = 890 + (6 * m + j) by omega]
    exact this⟩
  obtain ⟨CC, hCC⟩ : ∃ CC : Nat → Int, CC = fun m => chn (h.2.1 91 (880 + m)) (fun k => h.2.1 91 (890 + 6 * m + k)) (h.2.1 91 4) y.toNat b 6 := ⟨_, rfl⟩
  unfold jPr
  refine kX11_odds (C := CC) hG e5 (fun m hm => ?_) (fun m hm => ?_) (fun c => ⟨_, rfl, ?_⟩) (fun c => ⟨_, rfl, ?_⟩)
  · have := ok m hm
    rw [eW m hm]
    exact ⟨this.1, this.2.1, fun j hj => by dsimp only; rw [eH m hm j hj]; exact this.2.2 j hj⟩
  · rw [hCC, eW m hm]
    exact (chn_c 6 (fun j hj => eH m hm j hj)).symm
  · exact kX12_odds (C := CC) hG rfl rfl ok (fun m _ => by rw [hCC]) (fun _ => ⟨rfl, hI⟩) (fun c2 => absurd c c2)
  · exact kX12_odds (C := CC) hG rfl rfl ok (fun m _ => by rw [hCC]) (fun c2 => absurd c2 c) (fun _ => ⟨rfl, hI⟩)
theorem vv_say {p b k t : Int} (hI : INV w g n h) : jPr l (d + 47) mX11_say mX12_say w g n [.inl p, .inl b, .inl k, .inl t] h := by
  have hG := hI.1
  have hW := hI.2.1
  have bb := INV_b hI
  obtain ⟨lt, hlt⟩ : ∃ lt, lt = if 0 ≤ p ∧ p ≤ 4 then jmx h w g p else fun _ _ => 0 := ⟨_, rfl⟩
  have hp1 : 0 ≤ p ∧ p ≤ 4 → jmx h w g p = lt := fun c => by rw [hlt, if_pos c]
  have hb : ∀ x y, 0 ≤ lt x y ∧ lt x y ≤ 99 := fun x y => by
    rw [hlt]
    split
    · rename_i c; exact (INV_lt hI c).2 x y
    · exact ⟨Int.le_refl 0, show (0 : Int) ≤ 99 by decide⟩
  unfold jPr
  refine kX11_say hG hW (fun c => (INV_lt hI c).1.trans (hp1 c)) hb (fun c => (INV_rg hI c).1) (fun c f fr => ⟨_, rfl, ?_⟩) (fun c f fr => ⟨_, rfl, ?_⟩)
  · have hI2 : INV w g n (h.1, f, h.2.2) := INV_c hI fr (by decide)
    have f91 : f 91 = h.2.1 91 := fr 91 (by decide)
    refine kX12_say (h := (h.1, f, h.2.2)) hG hI2.2.1 (fun c => by rw [jmx_c f91]; exact hp1 c) hb (fun c => (INV_rg hI2 c).2) (fun c2 f2 ff b8 => ⟨?_, ?_⟩) (fun c2 => absurd c c2)
    · rw [jm_lt_c f91, INV_rb hI c.1 c.2.2, md_c (fun b hb => INV_rb hI c.1 (nb_e hI hb)) _ (Nat.le_refl _)]
    · have ff : jfY f f2 := ff
      have o : ∀ j, j < 8 ∨ 10 < j → f2 90 j = f 90 j := ff.2
      have hI3 : INV w g n (h.1, ja_up (ja_up f2 90 8 (f 90 8)) 90 9 (f 90 9), h.2.2) := INV_s hI2 hG (jfr_up (jfr_up (jfr_sub ff.1 (by decide)) (by decide)) (by decide)) (fun j hj => ?_) (fun j j1 j2 => ?_)
      · obtain ⟨q1, q2, ⟨l1, l2⟩, ⟨c1, c2⟩, ⟨m1, m2⟩, ⟨s1, s2⟩, ⟨n1, n2⟩, tx, tp, ft, bx, le⟩ := hI3
        have oo : ∀ c, c ≠ 90 → f2 c = ja_up (ja_up f2 90 8 (f 90 8)) 90 9 (f 90 9) c := fun c hc => by funext j; rw [ja_upO (Or.inl hc), ja_upO (Or.inl hc)]
        have o9 : ∀ j, j ≠ 8 → j ≠ 9 → f2 90 j = ja_up (ja_up f2 90 8 (f 90 8)) 90 9 (f 90 9) 90 j := fun j h8 h9 => by rw [ja_upO (Or.inr h9), ja_upO (Or.inr h8)]
        exact ⟨hG, jW_fr q2 (fun j hj => o9 j (by omega) (by omega)) (fun j _ => congrFun (oo 1 (by decide)) j) (fun c hc => oo c (by rintro rfl; revert hc; decide)), ⟨iL_c l1 (fun p hp => oo _ (by omega)) (oo _ (by decide)), iL_c l2 (fun p hp => oo _ (by omega)) (oo _ (by decide))⟩, ⟨iC_c c1 (fun j _ _ => congrFun (oo _ (by decide)) j) (fun j _ => congrFun (oo _ (by decide)) j), iC_c c2 (fun j _ _ => congrFun (oo _ (by decide)) j) (fun j _ => congrFun (oo _ (by decide)) j)⟩, ⟨iM_c m1 (oo _ (by decide)) (oo _ (by decide)) (fun j _ => congrFun (oo _ (by decide)) j), iM_c m2 (oo _ (by decide)) (oo _ (by decide)) (fun j _ => congrFun (oo _ (by decide)) j)⟩, ⟨iSg_c s1 c1.2.2.1 c1.2.2.2.1 (congrFun (oo _ (by decide)) _) (congrFun (oo _ (by decide)) _) (fun j _ _ => congrFun (oo _ (by decide)) j) (fun q _ k _ => by show jbt (f2 30 q) k = _; rw [oo 30 (by decide)]), iSg_c s2 c2.2.2.1 c2.2.2.2.1 (congrFun (oo _ (by decide)) _) (congrFun (oo _ (by decide)) _) (fun j _ _ => congrFun (oo _ (by decide)) j) (fun q _ k _ => by show jbt (f2 30 q) k = _; rw [oo 30 (by decide)])⟩, ⟨iLn_c n1 c1.2.2.2.2.1 (congrFun (oo _ (by decide)) _) (fun j _ _ => congrFun (oo _ (by decide)) j) (fun k _ => ⟨congrFun (oo 35 (by decide)) k, congrFun (oo 36 (by decide)) k, congrFun (oo 37 (by decide)) k, congrFun (oo 38 (by decide)) k⟩), iLn_c n2 c2.2.2.2.2.1 (congrFun (oo _ (by decide)) _) (fun j _ _ => congrFun (oo _ (by decide)) j) (fun k _ => ⟨congrFun (oo 35 (by decide)) k, congrFun (oo 36 (by decide)) k, congrFun (oo 37 (by decide)) k, congrFun (oo 38 (by decide)) k⟩)⟩, iTx_c tx c1.2.2.2.2.2.2 (by show f2 91 3 ≤ _; rw [oo 91 (by decide)]; exact Int.le_refl _) (fun c q1 q2 => oo c (by omega)) (oo 93 (by decide)), iTp_c tp (congrFun (oo 48 (by decide)) 1) (o9 16 (by decide) (by decide)) (oo 49 (by decide)) (oo 97 (by decide)), iFt_c ft (congrFun (oo 48 (by decide)) _) (congrFun (oo 48 (by decide)) _) (congrFun (oo 48 (by decide)) _) (o9 17 (by decide) (by decide)) (o9 18 (by decide) (by decide)), ⟨b8.1, b8.2⟩, iLe_c le (fun j _ => congrFun (oo 91 (by decide)) j) (fun j _ => congrFun (oo 92 (by decide)) j)⟩
      · show ja_up (ja_up f2 90 8 (f 90 8)) 90 9 (f 90 9) 90 j = f 90 j
        by_cases z9 : j = 9
        · rw [z9, ja_upE rfl rfl]
        · rw [ja_upO (Or.inr z9)]
          by_cases z8 : j = 8
          · rw [z8, ja_upE rfl rfl]
          · rw [ja_upO (Or.inr z8)]; exact o j (by omega)
      · show ja_up (ja_up f2 90 8 (f 90 8)) 90 9 (f 90 9) 90 j = f 90 j
        rw [ja_upO (by omega), ja_upO (by omega)]
        exact o j (by omega)
  · have hI2 : INV w g n (h.1, f, h.2.2) := INV_c hI fr (by decide)
    have f91 : f 91 = h.2.1 91 := fr 91 (by decide)
    exact kX12_say (h := (h.1, f, h.2.2)) hG hI2.2.1 (fun c => by rw [jmx_c f91]; exact hp1 c) hb (fun c => (INV_rg hI2 c).2) (fun c2 => absurd c2 c) (fun c2 => ⟨rfl, hI2⟩)
theorem vv_about {v : Int} (hI : INV w g n h) : jPr l (d + 47) mX11_about mX12_about w g n [.inl v] h := by
  have hG := hI.1
  have hW := hI.2.1
  obtain ⟨⟨a1, a2, a3, a4, a5⟩, _⟩ := hI.2.2.2.1.1
  obtain ⟨L, _, t1, t2, _⟩ := hI.2.2.2.2.2.2.2.2.1
  obtain ⟨_, w0, w1, w2, w3, _⟩ := id hW
  have mw := hI.2.2.2.2.1.1.1
  unfold jPr
  refine kX11_about (jT_of hG) (jS1_of hG hW) ⟨_, rfl, ?_⟩
  refine kX12_about (jm_of hG hW) ⟨?_, hI⟩
  unfold abS jc_ab jm_ab
  dsimp only
  rw [a1, a2, a3, a4, a5, t1, t2, w0, w1, w2, w3]
  by_cases z : 10 ≤ v ∧ v ≤ 13
  · rw [if_pos z, if_pos z, (mw (v - 10).toNat (by omega)).1]
  · rw [if_neg z, if_neg z]
end JV1
