/-! the references that never change -/
def jg_0 : Nat → Option Nat
  | 0 => some 1
  | 1 => some 15
  | 2 => some 29
  | 3 => some 34
  | 4 => some 40
  | 5 => some 44
  | 6 => some 47
  | 7 => some 48
  | 8 => some 50
  | 9 => some 55
  | 10 => some 65
  | _ => none
def jg_1 : Nat → Option Nat
  | 2 => some 2
  | 3 => some 3
  | 4 => some 4
  | _ => none
def jg_2 : Nat → Option Nat
  | 0 => some 5
  | 1 => some 7
  | 2 => some 9
  | 3 => some 11
  | 4 => some 13
  | _ => none
def jg_5 : Nat → Option Nat
  | 2 => some 6
  | _ => none
def jg_7 : Nat → Option Nat
  | 2 => some 8
  | _ => none
def jg_9 : Nat → Option Nat
  | 2 => some 10
  | _ => none
def jg_11 : Nat → Option Nat
  | 2 => some 12
  | _ => none
def jg_13 : Nat → Option Nat
  | 2 => some 14
  | _ => none
def jg_15 : Nat → Option Nat
  | 2 => some 16
  | 3 => some 17
  | 4 => some 18
  | _ => none
def jg_16 : Nat → Option Nat
  | 0 => some 19
  | 1 => some 21
  | 2 => some 23
  | 3 => some 25
  | 4 => some 27
  | _ => none
def jg_19 : Nat → Option Nat
  | 2 => some 20
  | _ => none
def jg_21 : Nat → Option Nat
  | 2 => some 22
  | _ => none
def jg_23 : Nat → Option Nat
  | 2 => some 24
  | _ => none
def jg_25 : Nat → Option Nat
  | 2 => some 26
  | _ => none
def jg_27 : Nat → Option Nat
  | 2 => some 28
  | _ => none
def jg_29 : Nat → Option Nat
  | 0 => some 30
  | 1 => some 31
  | 2 => some 32
  | 3 => some 33
  | _ => none
def jg_34 : Nat → Option Nat
  | 0 => some 35
  | 1 => some 36
  | 2 => some 37
  | 3 => some 38
  | 4 => some 39
  | _ => none
def jg_40 : Nat → Option Nat
  | 0 => some 41
  | 1 => some 42
  | 2 => some 43
  | _ => none
def jg_44 : Nat → Option Nat
  | 0 => some 45
  | 1 => some 46
  | _ => none
def jg_48 : Nat → Option Nat
  | 0 => some 49
  | _ => none
def jg_50 : Nat → Option Nat
  | 0 => some 53
  | 1 => some 51
  | 2 => some 52
  | _ => none
def jg_53 : Nat → Option Nat
  | 2 => some 54
  | _ => none
def jg_55 : Nat → Option Nat
  | 0 => some 56
  | 1 => some 57
  | 2 => some 58
  | _ => none
def jg_56 : Nat → Option Nat
  | 0 => some 59
  | 1 => some 61
  | 2 => some 63
  | _ => none
def jg_59 : Nat → Option Nat
  | 2 => some 60
  | _ => none
def jg_61 : Nat → Option Nat
  | 2 => some 62
  | _ => none
def jg_63 : Nat → Option Nat
  | 2 => some 64
  | _ => none
def jg_65 : Nat → Option Nat
  | 0 => some 66
  | 1 => some 70
  | 2 => some 74
  | 3 => some 78
  | 4 => some 82
  | 5 => some 86
  | _ => none
def jg_66 : Nat → Option Nat
  | 0 => some 67
  | 1 => some 68
  | 2 => some 69
  | _ => none
def jg_70 : Nat → Option Nat
  | 0 => some 71
  | 1 => some 72
  | 2 => some 73
  | _ => none
def jg_74 : Nat → Option Nat
  | 0 => some 75
  | 1 => some 76
  | 2 => some 77
  | _ => none
def jg_78 : Nat → Option Nat
  | 0 => some 79
  | 1 => some 80
  | 2 => some 81
  | _ => none
def jg_82 : Nat → Option Nat
  | 0 => some 83
  | 1 => some 84
  | 2 => some 85
  | _ => none
def jg_86 : Nat → Option Nat
  | 0 => some 87
  | 1 => some 88
  | 2 => some 89
  | _ => none
def jg : Nat → Nat → Option Nat
  | 0 => jg_0
  | 1 => jg_1
  | 2 => jg_2
  | 5 => jg_5
  | 7 => jg_7
  | 9 => jg_9
  | 11 => jg_11
  | 13 => jg_13
  | 15 => jg_15
  | 16 => jg_16
  | 19 => jg_19
  | 21 => jg_21
  | 23 => jg_23
  | 25 => jg_25
  | 27 => jg_27
  | 29 => jg_29
  | 34 => jg_34
  | 40 => jg_40
  | 44 => jg_44
  | 48 => jg_48
  | 50 => jg_50
  | 53 => jg_53
  | 55 => jg_55
  | 56 => jg_56
  | 59 => jg_59
  | 61 => jg_61
  | 63 => jg_63
  | 65 => jg_65
  | 66 => jg_66
  | 70 => jg_70
  | 74 => jg_74
  | 78 => jg_78
  | 82 => jg_82
  | 86 => jg_86
  | _ => fun _ => none
def jG (R : Nat → Nat → Option Nat) : Prop := (∀ k j r, jg k j = some r → R k j = some r) ∧ R 90 = jm_ref
theorem jG_at {R : Nat → Nat → Option Nat} (hG : jG R) {k j r : Nat} (e : jg k j = some r) : R k j = some r := hG.1 k j r e
def jW (w g : Int) (n : Nat) (I : Nat → Nat → Int) : Prop := ((n : Int) = w * g ∧ 4 ≤ w ∧ w ≤ 12 ∧ 4 ≤ g ∧ g ≤ 12) ∧ I 90 0 = w ∧ I 90 1 = g ∧ I 1 0 = w ∧ I 1 1 = g ∧ ∀ k ∈ ([5, 7, 9, 11, 13, 19, 21, 23, 25, 27, 53, 59, 61, 63] : List Nat), I k 0 = w ∧ I k 1 = g
theorem jW_r {w g : Int} {n : Nat} {I : Nat → Nat → Int} (hW : jW w g n I) : (n : Int) = w * g ∧ 4 ≤ w ∧ w ≤ 12 ∧ 4 ≤ g ∧ g ≤ 12 := hW.1
theorem jW_w {w g : Int} {n : Nat} {I : Nat → Nat → Int} (hW : jW w g n I) : I 90 0 = w := hW.2.1
theorem jW_g {w g : Int} {n : Nat} {I : Nat → Nat → Int} (hW : jW w g n I) : I 90 1 = g := hW.2.2.1
theorem jW_fr {w g : Int} {n : Nat} {I J : Nat → Nat → Int} (hW : jW w g n I) (h90 : ∀ j, j < 2 → J 90 j = I 90 j) (h1 : ∀ j, j < 2 → J 1 j = I 1 j) (hp : ∀ k ∈ ([5, 7, 9, 11, 13, 19, 21, 23, 25, 27, 53, 59, 61, 63] : List Nat), J k = I k) : jW w g n J := by
  obtain ⟨a, b, c, d, e, f⟩ := hW
  exact ⟨a, (h90 0 (by decide)).trans b, (h90 1 (by decide)).trans c, (h1 0 (by decide)).trans d, (h1 1 (by decide)).trans e, fun k hk => by rw [hp k hk]; exact f k hk⟩
theorem jm_of {w g : Int} {n : Nat} {h : ja_H} (hG : jG h.1) (hW : jW w g n h.2.1) : jm w g h := ⟨hG.2, hW.2.1, hW.2.2.1, hW.1.2⟩
theorem jp_of {w g : Int} {n k : Nat} {h : ja_H} (hG : jG h.1) (hW : jW w g n h.2.1) (hk : k ∈ ([5, 7, 9, 11, 13, 19, 21, 23, 25, 27, 53, 59, 61, 63] : List Nat)) : jp w g n k h := by
  have hp := hW.2.2.2.2.2 k hk
  have q : (js_sh n)[k]? = some (0, 3) ∧ (js_sh n)[k + 1]? = some (1, n) ∧ h.1 k 2 = some (k + 1) := by
    simp only [List.mem_cons, List.not_mem_nil, or_false] at hk
    rcases hk with rfl | rfl | rfl | rfl | rfl | rfl | rfl | rfl | rfl | rfl | rfl | rfl | rfl | rfl <;> exact ⟨rfl, rfl, jG_at hG rfl⟩
  exact ⟨q.1, q.2.1, q.2.2, hp.1, hp.2, hW.1.1, hW.1.2⟩
theorem jS1_of {w g : Int} {n : Nat} {h : ja_H} (hG : jG h.1) (hW : jW w g n h.2.1) : jS w g n 1 h := by
  refine ⟨⟨rfl, rfl, rfl, rfl⟩, ⟨jG_at hG rfl, jG_at hG rfl, jG_at hG rfl⟩, fun i hi => ?_⟩
  match i, hi with
  | 0, _ => exact ⟨jG_at hG rfl, jp_of hG hW (by decide)⟩
  | 1, _ => exact ⟨jG_at hG rfl, jp_of hG hW (by decide)⟩
  | 2, _ => exact ⟨jG_at hG rfl, jp_of hG hW (by decide)⟩
  | 3, _ => exact ⟨jG_at hG rfl, jp_of hG hW (by decide)⟩
  | 4, _ => exact ⟨jG_at hG rfl, jp_of hG hW (by decide)⟩
theorem jS15_of {w g : Int} {n : Nat} {h : ja_H} (hG : jG h.1) (hW : jW w g n h.2.1) : jS w g n 15 h := by
  refine ⟨⟨rfl, rfl, rfl, rfl⟩, ⟨jG_at hG rfl, jG_at hG rfl, jG_at hG rfl⟩, fun i hi => ?_⟩
  match i, hi with
  | 0, _ => exact ⟨jG_at hG rfl, jp_of hG hW (by decide)⟩
  | 1, _ => exact ⟨jG_at hG rfl, jp_of hG hW (by decide)⟩
  | 2, _ => exact ⟨jG_at hG rfl, jp_of hG hW (by decide)⟩
  | 3, _ => exact ⟨jG_at hG rfl, jp_of hG hW (by decide)⟩
  | 4, _ => exact ⟨jG_at hG rfl, jp_of hG hW (by decide)⟩
theorem jT_of {h : ja_H} (hG : jG h.1) : jT h := ⟨jG_at hG rfl, jG_at hG rfl, jG_at hG rfl, jG_at hG rfl, jG_at hG rfl, jG_at hG rfl, jG_at hG rfl, jG_at hG rfl, jG_at hG rfl, jG_at hG rfl, jG_at hG rfl⟩
theorem jB_of {n : Nat} {h : ja_H} (hG : jG h.1) : jB n h := ⟨jG_at hG rfl, jG_at hG rfl, jG_at hG rfl⟩
/-- the light of a picture, 0 beyond it: the class's, the reference's -/
def jpx (h : ja_H) (w g : Int) (k : Nat) (x y : Int) : Int := if (0 ≤ x ∧ x < w) ∧ 0 ≤ y ∧ y < g then jp_lt h w k x y else 0
def jmx (h : ja_H) (w g p : Int) (x y : Int) : Int := if (0 ≤ x ∧ x < w) ∧ 0 ≤ y ∧ y < g then jm_lt h p x y else 0
theorem kX3_getX {l : Launch} {d n k : Nat} {x y w g : Int} {h : ja_H} {Q : ja_Q} (hp : jp w g n k h) (q : Q (some (.inl (jpx h w g k x y))) h) : ja_C l (d + 1) mX3_get (js_sh n) [.inr (.inr (some k)), .inl x, .inl y] h Q := kX3_get hp q
theorem kX12_lightX {l : Launch} {d n : Nat} {p x y w g : Int} {h : ja_H} {Q : ja_Q} (hG : jG h.1) (hW : jW w g n h.2.1) (hp : 0 ≤ p ∧ p ≤ 4) (hx : 0 ≤ x ∧ x < w) (hy : 0 ≤ y ∧ y < g) (q : Q (some (.inl (jmx h w g p x y))) h) : ja_C l (d + 2) mX12_lightAt (js_sh n) [.inr (.inr (some 90)), .inl p, .inl x, .inl y] h Q := by
  have r := jW_r hW
  refine kX12_lightAt (jm_of hG hW) hp (by omega) (by omega) ?_
  unfold jmx at q
  rw [if_pos ⟨hx, hy⟩] at q
  exact q
/-- a loop with a measure -/
theorem jb_whl {c : ja_EC} {b : ja_T} {N B C : ja_P} {R : ja_Q} {L : ja_L} {h : ja_H} (I : Nat → ja_P) (h0 : ∃ m, I m L h)
    (hs : ∀ m L h, I m L h → c (b (fun L' h' => ∃ m', m' < m ∧ I m' L' h') N (fun L' h' => ∃ m', m' < m ∧ I m' L' h') R) N L h) : jb_lp c b jb_sk N B C R L h := by
  refine ⟨I, h0, ?_⟩
  intro m L h hI
  exact ⟨_, _, _, hs m L h hI, fun _ _ q => q, fun L h w => w, fun _ _ q => q⟩
/-- nothing changes but in the cells of S -/
def jfr (S : List Nat) (I J : Nat → Nat → Int) : Prop := ∀ k, k ∉ S → J k = I k
theorem jfr_rf (S : List Nat) (I : Nat → Nat → Int) : jfr S I I := fun _ _ => rfl
theorem jfr_tr {S : List Nat} {I J K : Nat → Nat → Int} (a : jfr S I J) (b : jfr S J K) : jfr S I K := fun k hk => (b k hk).trans (a k hk)
theorem jfr_up {S : List Nat} {I J : Nat → Nat → Int} {k j : Nat} {v : Int} (a : jfr S I J) (hk : k ∈ S) : jfr S I (ja_up J k j v) := fun i hi => by
  have : i ≠ k := fun e => hi (e ▸ hk)
  funext b
  rw [ja_upn _ _ this]
  exact congrFun (a i hi) b
theorem jfr_sub {S T : List Nat} {I J : Nat → Nat → Int} (a : jfr S I J) (h : ∀ k ∈ S, k ∈ T) : jfr T I J := fun k hk => a k fun q => hk (h k q)
theorem ja_upO {f : Nat → Nat → Int} {k j a b : Nat} {v : Int} (h : a ≠ k ∨ b ≠ j) : ja_up f k j v a b = f a b := by
  unfold ja_up; rw [if_neg]; omega
theorem ja_upE {f : Nat → Nat → Int} {k j a b : Nat} {v : Int} (h1 : a = k) (h2 : b = j) : ja_up f k j v a b = v := by
  unfold ja_up; rw [if_pos ⟨h1, h2⟩]
