/-! A SMALL LOGIC over the machine's W: values as whole numbers, the cells of the world by their numbers. -/
abbrev ja_W : Type := Int ⊕ (Int ⊕ Option Nat)
abbrev ja_L : Type := List (Option ja_W)
abbrev ja_H : Type := (Nat → Nat → Option Nat) × (Nat → Nat → Int) × (Nat → Nat → Int)
abbrev ja_P : Type := ja_L → ja_H → Prop
abbrev ja_S : Type := List (Nat × Nat)
def ja_r (z : Int) : Prop := -2147483648 ≤ z ∧ z < 2147483648
def ja_rl (z : Int) : Prop := -9223372036854775808 ≤ z ∧ z < 9223372036854775808
def ja_w (z : Int) : Int := z.bmod 4294967296
def ja_wl (z : Int) : Int := z.bmod 18446744073709551616
theorem ja_w_id {z : Int} (h : ja_r z) : ja_w z = z := by
  unfold ja_w ja_r at *; rw [Int.bmod_def]; omega
theorem ja_wl_id {z : Int} (h : ja_rl z) : ja_wl z = z := by
  unfold ja_wl ja_rl at *; rw [Int.bmod_def]; omega
theorem ja_w_r (z : Int) : ja_r (ja_w z) := by
  unfold ja_w ja_r; rw [Int.bmod_def]; omega
theorem ja_wl_r (z : Int) : ja_rl (ja_wl z) := by
  unfold ja_wl ja_rl; rw [Int.bmod_def]; omega
theorem ja_toI {z : Int} (h : ja_r z) : (Int32.ofInt z).toInt = z := by
  rw [Int32.toInt_ofInt]; exact ja_w_id h
theorem ja_toL {z : Int} (h : ja_rl z) : (Int64.ofInt z).toInt = z := by
  rw [Int64.toInt_ofInt]; exact ja_wl_id h
theorem ja_of (x : Int32) : Int32.ofInt x.toInt = x := Int32.ofInt_toInt x
theorem ja_ofL (x : Int64) : Int64.ofInt x.toInt = x := Int64.ofInt_toInt x
theorem ja_rI (x : Int32) : ja_r x.toInt := ⟨Int32.le_toInt x, Int32.toInt_lt x⟩
theorem ja_rL (x : Int64) : ja_rl x.toInt := ⟨Int64.le_toInt x, Int64.toInt_lt x⟩
def ja_c (ad : Nat → Nat) : ja_W → Value
  | .inl z => .int (Int32.ofInt z)
  | .inr (.inl z) => .long (Int64.ofInt z)
  | .inr (.inr r) => va_rf (r.map ad)
def ja_ok : ja_W → Prop
  | .inl z => ja_r z
  | .inr (.inl z) => ja_rl z
  | .inr (.inr _) => True
def ja_ho (h : ja_H) : Prop := (∀ k j, ja_r (h.2.1 k j)) ∧ (∀ k j, ja_rl (h.2.2 k j))
def ja_lg : ja_W → Bool
  | .inr (.inl _) => true
  | _ => false
def ja_cat : List ja_W → Nat
  | [] => 0
  | v :: r => (if ja_lg v then 2 else 1) + ja_cat r
theorem ja_cat_c (ad : Nat → Nat) (v : ja_W) : (ja_c ad v).category = if ja_lg v then 2 else 1 := by
  rcases v with z | z | r
  · rfl
  · rfl
  · cases r <;> rfl
theorem ja_cat_sum (ad : Nat → Nat) : ∀ st : List ja_W, ((st.map (ja_c ad)).map fun v => v.category).sum = ja_cat st
  | [] => rfl
  | v :: r => by
    have h := ja_cat_sum ad r
    simp only [List.map_cons, List.sum_cons, ja_cat] at *
    rw [h, ja_cat_c]
theorem ja_cat_app (a b : List ja_W) : ja_cat (a ++ b) = ja_cat a + ja_cat b := by
  induction a with
  | nil => simp [ja_cat]
  | cons v r ih => simp only [List.cons_append, ja_cat, ih]; omega
/-! the locals -/
def ja_cl : Option ja_W → Option ja_W
  | some (.inr (.inl _)) => none
  | x => x
def ja_set : ja_L → Nat → ja_W → ja_L
  | [], _, _ => []
  | _ :: r, 0, v => some v :: (if ja_lg v then r.set 0 none else r)
  | x :: r, 1, v => ja_cl x :: ja_set r 0 v
  | x :: r, n + 2, v => x :: ja_set r (n + 1) v
def ja_get : ja_L → Nat → Option ja_W
  | [], _ => none
  | x :: _, 0 => x
  | _ :: r, n + 1 => ja_get r n
theorem ja_get_eq : ∀ (L : ja_L) (i : Nat), ja_get L i = (L[i]?).join
  | [], _ => rfl
  | x :: r, 0 => by simp [ja_get]
  | x :: r, n + 1 => by simp [ja_get, ja_get_eq r n]
def ja_ls (ad : Nat → Nat) : Nat → ja_L → List (Nat × Value)
  | _, [] => []
  | i, none :: r => ja_ls ad (i + 1) r
  | i, some v :: r => (i, ja_c ad v) :: ja_ls ad (i + 1) r
theorem ja_ls_mem (ad : Nat → Nat) : ∀ (L : ja_L) (i j : Nat) (v : Value), (j, v) ∈ ja_ls ad i L ↔ ∃ w, i ≤ j ∧ ja_get L (j - i) = some w ∧ v = ja_c ad w
  | [], i, j, v => by simp [ja_ls, ja_get]
  | x :: r, i, j, v => by
    have ih := ja_ls_mem ad r (i + 1) j v
    have key : (∃ w, i + 1 ≤ j ∧ ja_get r (j - (i + 1)) = some w ∧ v = ja_c ad w) ↔ ∃ w, i + 1 ≤ j ∧ ja_get (x :: r) (j - i) = some w ∧ v = ja_c ad w := by
      constructor
      · rintro ⟨w, h1, h2, h3⟩
        refine ⟨w, h1, ?_, h3⟩
        have e : j - i = (j - (i + 1)) + 1 := by omega
        rw [e]; exact h2
      · rintro ⟨w, h1, h2, h3⟩
        refine ⟨w, h1, ?_, h3⟩
        have e : j - i = (j - (i + 1)) + 1 := by omega
        rw [e] at h2; exact h2
    rw [key] at ih
    cases x with
    | none =>
      show (j, v) ∈ ja_ls ad (i + 1) r ↔ _
      rw [ih]
      constructor
      · rintro ⟨w, h1, h2, h3⟩; exact ⟨w, by omega, h2, h3⟩
      · rintro ⟨w, h1, h2, h3⟩
        rcases Nat.lt_or_ge i j with q | q
        · exact ⟨w, q, h2, h3⟩
        · have e : j - i = 0 := by omega
          rw [e] at h2; cases h2
    | some u =>
      show (j, v) ∈ (i, ja_c ad u) :: ja_ls ad (i + 1) r ↔ _
      rw [List.mem_cons, ih]
      constructor
      · rintro (h | ⟨w, h1, h2, h3⟩)
        · cases h; exact ⟨u, Nat.le_refl _, by rw [Nat.sub_self]; rfl, rfl⟩
        · exact ⟨w, by omega, h2, h3⟩
      · rintro ⟨w, h1, h2, h3⟩
        rcases Nat.lt_or_ge i j with q | q
        · exact Or.inr ⟨w, q, h2, h3⟩
        · have e : j = i := by omega
          subst e
          rw [Nat.sub_self] at h2
          cases h2
          exact Or.inl (by rw [h3])
theorem ja_ls_at {ad : Nat → Nat} {L : ja_L} {i : Nat} {w : ja_W} (h : ja_get L i = some w) : (i, ja_c ad w) ∈ ja_ls ad 0 L := (ja_ls_mem ad L 0 i _).mpr ⟨w, Nat.zero_le _, h, rfl⟩
theorem ja_get_set : ∀ (L : ja_L) (i j : Nat) (v w : ja_W), ja_get (ja_set L i v) j = some w → (j = i ∧ w = v) ∨ (j ≠ i ∧ ja_get L j = some w ∧ ¬ (j + 1 = i ∧ ja_lg w = true) ∧ ¬ (ja_lg v = true ∧ j = i + 1))
  | [], _, _, _, _, h => by simp [ja_set, ja_get] at h
  | x :: r, 0, 0, v, w, h => by
    simp only [ja_set, ja_get] at h
    exact Or.inl ⟨rfl, (Option.some.inj h).symm⟩
  | x :: r, 0, j + 1, v, w, h => by
    simp only [ja_set, ja_get] at h
    refine Or.inr ⟨by omega, ?_⟩
    by_cases hv : ja_lg v = true
    · rw [if_pos hv] at h
      cases r with
      | nil => simp [ja_get] at h
      | cons y t =>
        cases j with
        | zero => simp [ja_get] at h
        | succ j => exact ⟨h, by omega, by omega⟩
    · rw [if_neg hv] at h
      exact ⟨h, by omega, fun q => hv q.1⟩
  | x :: r, 1, 0, v, w, h => by
    simp only [ja_set, ja_get] at h
    refine Or.inr ⟨by omega, ?_, ?_, by omega⟩
    · rcases x with _ | (z | z | q) <;> simp [ja_cl] at h <;> simp [ja_get, h]
    · rintro ⟨-, hw⟩
      rcases x with _ | (z | z | q) <;> simp [ja_cl] at h <;> subst h <;> simp [ja_lg] at hw
  | x :: r, 1, j + 1, v, w, h => by
    simp only [ja_set, ja_get] at h
    rcases ja_get_set r 0 j v w h with ⟨a, b⟩ | ⟨a, b, c, d⟩
    · exact Or.inl ⟨by omega, b⟩
    · exact Or.inr ⟨by omega, b, by omega, fun q => d ⟨q.1, by omega⟩⟩
  | x :: r, n + 2, 0, v, w, h => by
    simp only [ja_set, ja_get] at h
    exact Or.inr ⟨by omega, h, by omega, by omega⟩
  | x :: r, n + 2, j + 1, v, w, h => by
    simp only [ja_set, ja_get] at h
    rcases ja_get_set r (n + 1) j v w h with ⟨a, b⟩ | ⟨a, b, c, d⟩
    · exact Or.inl ⟨by omega, b⟩
    · exact Or.inr ⟨by omega, b, fun q => c ⟨by omega, q.2⟩, fun q => d ⟨q.1, by omega⟩⟩
def ja_en : List ja_W → ja_L
  | [] => []
  | v :: r => if ja_lg v then some v :: none :: ja_en r else some v :: ja_en r
/-! the cells -/
def ja_ty : Nat → Nat → FieldType
  | 0 => tyX0 | 1 => tyX1 | 2 => tyX2 | 3 => tyX3 | 4 => tyX4 | 5 => tyX5 | 6 => tyX6 | 7 => tyX7 | 8 => tyX8 | 9 => tyX9 | 10 => tyX10 | 11 => tyX11 | _ => tyX12
def ja_n : Nat → Nat
  | 0 => 6 | 1 => 7 | 2 => 8 | 3 => 3 | 4 => 5 | 5 => 10 | 6 => 4 | 7 => 6 | 8 => 10 | 9 => 10 | 10 => 4 | 11 => 11 | _ => 44
def ja_fv (ad : Nat → Nat) (h : ja_H) (k j : Nat) : FieldType → Value
  | .long => .long (Int64.ofInt (h.2.2 k j))
  | .object _ => va_rf ((h.1 k j).map ad)
  | .array _ => va_rf ((h.1 k j).map ad)
  | _ => .int (Int32.ofInt (h.2.1 k j))
def ja_cel (cy : Nat → ClassId) (ad : Nat → Nat) (h : ja_H) (k : Nat) : Nat × Nat → va_E
  | (0, ci) => .inr (ci, (List.range (ja_n ci)).map fun j => ja_fv ad h k j (ja_ty ci j))
  | (1, n) => .inl (cy 1, n, .inl fun j => Int32.ofInt (h.2.1 k j))
  | (2, n) => .inl (cy 2, n, .inl fun j => Int32.ofInt (h.2.1 k j))
  | (3, n) => .inl (cy 3, n, .inr (.inl fun j => Int64.ofInt (h.2.2 k j)))
  | (t, n) => .inl (cy t, n, .inr (.inr (.inr (.inr fun j => (h.1 k j).map ad))))
def ja_wld (cy : Nat → ClassId) (ad : Nat → Nat) (sh : ja_S) (h : ja_H) : va_W := sh.mapIdx fun k q => (ad k, ja_cel cy ad h k q)
theorem ja_wld_at {cy : Nat → ClassId} {ad : Nat → Nat} {sh : ja_S} {h : ja_H} {k : Nat} {q : Nat × Nat} (hk : sh[k]? = some q) : (ja_wld cy ad sh h)[k]? = some (ad k, ja_cel cy ad h k q) := by
  simp [ja_wld, hk]
theorem ja_wld_set {cy : Nat → ClassId} {ad : Nat → Nat} {sh : ja_S} {h h' : ja_H} {k : Nat} {q : Nat × Nat} {e : va_E} (hk : sh[k]? = some q) (he : ja_cel cy ad h' k q = e) (hne : ∀ j q, j ≠ k → ja_cel cy ad h' j q = ja_cel cy ad h j q) : (ja_wld cy ad sh h).set k (ad k, e) = ja_wld cy ad sh h' := by
  apply List.ext_getElem?
  intro j
  by_cases hj : j = k
  · subst hj
    have hl : j < sh.length := (List.getElem?_eq_some_iff.mp hk).1
    rw [List.getElem?_set_self (by simpa [ja_wld] using hl), ja_wld_at hk, he]
  · rw [List.getElem?_set_ne (fun q => hj q.symm)]
    simp only [ja_wld, List.getElem?_mapIdx]
    cases sh[j]? with
    | none => rfl
    | some q => simp only [Option.map_some, hne j q hj]
def ja_up {α : Type} (f : Nat → Nat → α) (k j : Nat) (v : α) : Nat → Nat → α := fun a b => if a = k ∧ b = j then v else f a b
theorem ja_cel_In {cy : Nat → ClassId} {ad : Nat → Nat} {h : ja_H} {f : Nat → Nat → Int} {k : Nat} (hf : ∀ a b, a ≠ k → f a b = h.2.1 a b) : ∀ j q, j ≠ k → ja_cel cy ad (h.1, f, h.2.2) j q = ja_cel cy ad h j q := by
  intro j q hj
  have e : f j = h.2.1 j := funext fun b => hf j b hj
  obtain ⟨t, n⟩ := q
  match t with
  | 0 => simp only [ja_cel]; congr 2; apply List.map_congr_left; intro i _; unfold ja_fv; simp only [e]
  | 1 => simp only [ja_cel, e]
  | 2 => simp only [ja_cel, e]
  | 3 => simp only [ja_cel]
  | _ + 4 => simp only [ja_cel]
theorem ja_cel_Lg {cy : Nat → ClassId} {ad : Nat → Nat} {h : ja_H} {f : Nat → Nat → Int} {k : Nat} (hf : ∀ a b, a ≠ k → f a b = h.2.2 a b) : ∀ j q, j ≠ k → ja_cel cy ad (h.1, h.2.1, f) j q = ja_cel cy ad h j q := by
  intro j q hj
  have e : f j = h.2.2 j := funext fun b => hf j b hj
  obtain ⟨t, n⟩ := q
  match t with
  | 0 => simp only [ja_cel]; congr 2; apply List.map_congr_left; intro i _; unfold ja_fv; simp only [e]
  | 1 => simp only [ja_cel]
  | 2 => simp only [ja_cel]
  | 3 => simp only [ja_cel, e]
  | _ + 4 => simp only [ja_cel]
theorem ja_cel_Rf {cy : Nat → ClassId} {ad : Nat → Nat} {h : ja_H} {f : Nat → Nat → Option Nat} {k : Nat} (hf : ∀ a b, a ≠ k → f a b = h.1 a b) : ∀ j q, j ≠ k → ja_cel cy ad (f, h.2.1, h.2.2) j q = ja_cel cy ad h j q := by
  intro j q hj
  have e : f j = h.1 j := funext fun b => hf j b hj
  obtain ⟨t, n⟩ := q
  match t with
  | 0 => simp only [ja_cel]; congr 2; apply List.map_congr_left; intro i _; unfold ja_fv; simp only [e]
  | 1 => simp only [ja_cel]
  | 2 => simp only [ja_cel]
  | 3 => simp only [ja_cel]
  | _ + 4 => simp only [ja_cel, e]
def ja_tys (cy : Nat → ClassId) : List (ClassId × FieldType) := [(cy 1, .int), (cy 2, .boolean), (cy 3, .long), (cy 4, .object "TwoSuns$Picture"), (cy 5, .object "TwoSuns$Program")]
/-- the words of the tables that a callee may take over -/
def ja_tbl : List Cond := lw_tbl.filter goodWord
theorem ja_in_lw {w : Cond} (h : w ∈ ja_tbl) : w ∈ lw_tbl := (List.mem_filter.mp h).1
theorem ja_of_lw {w : Cond} (h : w ∈ lw_tbl) (hg : goodWord w = true) : w ∈ ja_tbl := List.mem_filter.mpr ⟨h, hg⟩
/-! the state of a walk: ((p, l, e, R, s, m, args, below, meth, c, cells, slots, Q), D, cy, ad, sh, A, nL) -/
abbrev ja_X : Type := (Program × Launch × Env × Room × Jvm.State × MethodId × Array Value × List Frame × Method × Code × Nat × Nat × (Jvm.State → Prop)) × va_G × (Nat → ClassId) × (Nat → Nat) × ja_S × (Nat → Prop) × Nat
abbrev ja_sh (X : ja_X) : ja_S := X.2.2.2.2.1
abbrev ja_l (X : ja_X) : Launch := X.1.2.1
def ja_At : ja_X → Nat → ja_L → List ja_W → ja_H → Prop
  | ((p, l, e, R, s, m, args, below, meth, c, cells, slots, Q), D, cy, ad, sh, A, nL), pc, L, st, h =>
    ∀ (ls : Array Slot) (vs : List Value) (H : Heap) (locs : List Loc), lv_has ls nL (ja_ls ad 0 L) → vs = st.map (ja_c ad) → (∀ v ∈ st, ja_ok v) → (∀ i v, ja_get L i = some v → ja_ok v) → ja_ho h →
      va_P D vwCl (ja_wld cy ad sh h) H → va_D A (ja_wld cy ad sh h) → va_S A s.heap H locs → W p l e R s m args below meth c H locs cells slots Q (F0 m pc ls vs)
/-- calls of the nest's private statics: these words aren't taken over by a callee's list, so they go with the state -/
def ja_nst (U : Jvm.State) : Prop := ∀ (a : String) (i : Nat) (x : MethodName) (g : String), Cond.methodLinkNest a i x g ∈ lw_tbl → va_Nw (.methodLinkNest a i x g) U
theorem ja_nst_warm {s U : Jvm.State} (hW : s.WarmedH U.vm) (h : ja_nst s) : ja_nst U := fun a i x g q => va_Nw.warmM hW (h a i x g q)
theorem ja_nst_same {u U : Jvm.State} (hv : u.vm = U.vm) (h : ja_nst u) : ja_nst U := fun a i x g q => va_Nw.same rfl hv (h a i x g q)
/-! the text constants: number i is the cell 1000000 + i, its bytes 2000000 + i -/
def jst_tx : List String := ["paste", "paint", "keep", "flip", "repeat", "to", "light", "x", "y", "left", "up", "round"]
def jst_ix : List Nat := [125, 131, 133, 135, 137, 143, 185, 187, 189, 191, 193, 195]
def jst_len : List Nat := [5, 5, 4, 4, 6, 2, 5, 1, 1, 4, 2, 5]
def jst_byt : List (List Int32) := [[112, 97, 115, 116, 101], [112, 97, 105, 110, 116], [107, 101, 101, 112], [102, 108, 105, 112], [114, 101, 112, 101, 97, 116], [116, 111], [108, 105, 103, 104, 116], [120], [121], [108, 101, 102, 116], [117, 112], [114, 111, 117, 110, 100]]
def ja_str (A : Nat → Prop) (ad : Nat → Nat) (U : Jvm.State) : Prop := vk_S 12 jst_len jst_byt (fun i => ad (1000000 + i)) (fun i => ad (2000000 + i)) A U U.heap ∧ (∀ i, i < 12 → vk_R RX5 (jst_ix.getD i 0) (jst_tx.getD i "") (ad (1000000 + i)) U) ∧ va_Z "java/lang/String" "COMPACT_STRINGS" "Z" (.int 1) A U U.heap ∧ ∃ r : Option Nat, (∀ k, r = some k → 1000000 ≤ k) ∧ va_Z "jdk/internal/util/Preconditions" "SIOOBE_FORMATTER" "Ljava/util/function/BiFunction;" (va_rf (r.map ad)) A U U.heap
theorem ja_str_call {A A' : Nat → Prop} {ad : Nat → Nat} {s U : Jvm.State} {H : Heap} {locs : List Loc} (h : ja_str A ad s) (hS : va_S A s.heap H locs) (hA : ∀ q, A' q → A q) (hU : U.heap = H) (hW : s.WarmedH U.vm) : ja_str A' ad U := by
  obtain ⟨h1, h2, h3, r, hr, h4⟩ := h
  subst hU
  exact ⟨((h1.moved hW.alike).kept hS.2.1).narrow hA, fun i hi => (h2 i hi).warm hW, ((h3.moved hW.alike).kept hS.2.1).narrow hA, r, hr, ((h4.moved hW.alike).kept hS.2.1).narrow hA⟩
theorem ja_str_same {A : Nat → Prop} {ad : Nat → Nat} {u U : Jvm.State} (h : ja_str A ad u) (hv : U.vm = u.vm) (hH : U.heap = u.heap) : ja_str A ad U := by
  obtain ⟨h1, h2, h3, r, hr, h4⟩ := h
  have ha : u.vm.Alike U.vm := by rw [hv]; exact Vm.Alike.refl _
  unfold ja_str
  rw [hH]
  exact ⟨h1.moved ha, fun i hi => (h2 i hi).same hv, h3.moved ha, r, hr, h4.moved ha⟩
def ja_Ok : ja_X → ByteArray → String → Nat → Prop
  | ((p, l, e, R, s, m, args, below, meth, c, cells, slots, Q), D, cy, ad, sh, A, nL), cc, own, d =>
    p.tables.exec = Jvm.exec ∧ c.code = cc ∧ c.maxLocals = nL ∧ s.vm.findClass own = some m.cls ∧ (∀ w ∈ ja_tbl, w.before args s = true) ∧ va_K D vwCl (ja_tys cy) s ∧ (∀ q, s.heap.size ≤ q → A q) ∧ d ≤ R.frames ∧ 64 * d ≤ R.locals ∧ cells ≤ R.cells ∧ slots ≤ R.slots ∧ ja_nst s ∧ ja_str A ad s
