/-! what a piece of a program asks of the state ahead of it (jb_), and that the machine keeps it (jc_) -/
abbrev ja_EI : Type := (Int → ja_P) → ja_P
abbrev ja_ER : Type := (Option Nat → ja_P) → ja_P
abbrev ja_EC : Type := ja_P → ja_P → ja_P
abbrev ja_Q : Type := Option ja_W → ja_H → Prop
abbrev ja_T : Type := ja_P → ja_P → ja_P → ja_Q → ja_P
abbrev ja_EA : Type := (List ja_W → ja_P) → ja_P
abbrev ja_EX : Type := (Option ja_W → ja_P) → ja_P
def ja_Rz (X : ja_X) (st : List ja_W) (pc : Nat) (K : ja_P) : Prop := ∀ L h, K L h → ja_At X pc L st h
def ja_Rs (X : ja_X) (st : List ja_W) : List Nat → ja_P → Prop
  | [], _ => True
  | p :: r, K => ja_Rz X st p K ∧ ja_Rs X st r K
theorem ja_Rz_mono {X : ja_X} {st : List ja_W} {pc : Nat} {K K' : ja_P} (h : ja_Rz X st pc K) (hk : ∀ L h, K' L h → K L h) : ja_Rz X st pc K' := fun L g q => h L g (hk L g q)
theorem ja_Rs_mono {X : ja_X} {st : List ja_W} {K K' : ja_P} (hk : ∀ L h, K' L h → K L h) : ∀ {ps : List Nat}, ja_Rs X st ps K → ja_Rs X st ps K'
  | [], _ => trivial
  | _ :: _, h => ⟨ja_Rz_mono h.1 hk, ja_Rs_mono hk h.2⟩
def ja_OI (X : ja_X) (k pc pc' : Nat) (E : ja_EI) : Prop := ∀ st, ja_cat st ≤ k → ∀ K : Int → ja_P, (∀ z L h, K z L h → ja_At X pc' L (.inl z :: st) h) → ja_Rz X st pc (E K)
def ja_OL (X : ja_X) (k pc pc' : Nat) (E : ja_EI) : Prop := ∀ st, ja_cat st ≤ k → ∀ K : Int → ja_P, (∀ z L h, K z L h → ja_At X pc' L (.inr (.inl z) :: st) h) → ja_Rz X st pc (E K)
def ja_OR (X : ja_X) (k pc pc' : Nat) (E : ja_ER) : Prop := ∀ st, ja_cat st ≤ k → ∀ K : Option Nat → ja_P, (∀ z L h, K z L h → ja_At X pc' L (.inr (.inr z) :: st) h) → ja_Rz X st pc (E K)
def ja_OA (X : ja_X) (k pc pc' c n : Nat) (E : ja_EA) : Prop := ∀ st, ja_cat st ≤ k → ∀ K : List ja_W → ja_P, (∀ vs L h, ja_cat vs = c → vs.length = n → K vs L h → ja_At X pc' L (vs.reverse ++ st) h) → ja_Rz X st pc (E K)
def ja_OX (X : ja_X) (k pc pc' : Nat) (E : ja_EX) : Prop := ∀ st, ja_cat st ≤ k → ∀ K : Option ja_W → ja_P, (∀ r L h, K r L h → ja_At X pc' L (r.toList ++ st) h) → ja_Rz X st pc (E K)
theorem ja_At_I {X : ja_X} {pc : Nat} {L : ja_L} {z : Int} {st : List ja_W} {h : ja_H} (k : ja_r z → ja_At X pc L (.inl z :: st) h) : ja_At X pc L (.inl z :: st) h := by
  obtain ⟨⟨p, l, e, R, s, m, args, below, meth, c, cells, slots, Q⟩, D, cy, ad, sh, A, nL⟩ := X
  intro ls vs H locs hl hv hs
  exact k (ja_oh hs) ls vs H locs hl hv hs
theorem ja_At_L {X : ja_X} {pc : Nat} {L : ja_L} {z : Int} {st : List ja_W} {h : ja_H} (k : ja_rl z → ja_At X pc L (.inr (.inl z) :: st) h) : ja_At X pc L (.inr (.inl z) :: st) h := by
  obtain ⟨⟨p, l, e, R, s, m, args, below, meth, c, cells, slots, Q⟩, D, cy, ad, sh, A, nL⟩ := X
  intro ls vs H locs hl hv hs
  exact k (ja_oh hs) ls vs H locs hl hv hs
theorem ja_cat_I {st : List ja_W} {k : Nat} {z : Int} (h : ja_cat st ≤ k) : ja_cat (.inl z :: st) ≤ k + 1 := by show 1 + ja_cat st ≤ k + 1; omega
theorem ja_cat_L {st : List ja_W} {k : Nat} {z : Int} (h : ja_cat st ≤ k) : ja_cat (.inr (.inl z) :: st) ≤ k + 2 := by show 2 + ja_cat st ≤ k + 2; omega
theorem ja_cat_R {st : List ja_W} {k : Nat} {z : Option Nat} (h : ja_cat st ≤ k) : ja_cat (.inr (.inr z) :: st) ≤ k + 1 := by show 1 + ja_cat st ≤ k + 1; omega
theorem ja_cat_A {st vs : List ja_W} {k c : Nat} (h : ja_cat st ≤ k) (hv : ja_cat vs = c) : ja_cat (vs.reverse ++ st) ≤ k + c := by
  have e : ∀ vs : List ja_W, ja_cat vs.reverse = ja_cat vs := by
    intro vs
    induction vs with
    | nil => rfl
    | cons v r ih => rw [List.reverse_cons, ja_cat_app, ih]; simp only [ja_cat]; omega
  rw [ja_cat_app, e, hv]; omega
section JBC
variable {X : ja_X} {cc : ByteArray} {own : String} {d d' k pc p1 p2 p3 idx : Nat}
def jb_ci (n : Int) : ja_EI := fun K => K n
def jb_li (i : Nat) : ja_EI := fun K L h => match ja_get L i with
  | some (.inl z) => K z L h
  | _ => False
def jb_ll (i : Nat) : ja_EI := fun K L h => match ja_get L i with
  | some (.inr (.inl z)) => K z L h
  | _ => False
def jb_lr (i : Nat) : ja_ER := fun K L h => match ja_get L i with
  | some (.inr (.inr z)) => K z L h
  | _ => False
def jb_nu : ja_ER := fun K => K none

theorem jc_iconst {n v : Int} (ok : ja_Ok X cc own d) (dg : decode cc pc = .ok (.iconst n, 1)) (hv : (Int32.ofInt n).toInt = v) : ja_OI X k pc (pc + 1) (jb_ci v) := fun st hst K hK L h q => ja_s_iconst ok dg hv (hK _ _ _ q)
theorem jc_bipush {n v : Int} (ok : ja_Ok X cc own d) (dg : decode cc pc = .ok (.bipush n, 2)) (hv : ((Int8.ofInt n).toInt32).toInt = v) : ja_OI X k pc (pc + 2) (jb_ci v) := fun st hst K hK L h q => ja_s_bipush ok dg hv (hK _ _ _ q)
theorem jc_sipush {n v : Int} (ok : ja_Ok X cc own d) (dg : decode cc pc = .ok (.sipush n, 3)) (hv : ((Int16.ofInt n).toInt32).toInt = v) : ja_OI X k pc (pc + 3) (jb_ci v) := fun st hst K hK L h q => ja_s_sipush ok dg hv (hK _ _ _ q)
theorem jc_ldc {v : Int} (ok : ja_Ok X cc own d) (hw : Cond.constant own idx (Int32.ofInt v) ∈ ja_tbl) (hv : ja_r v) (dg : decode cc pc = .ok (.ldc idx, 2)) : ja_OI X k pc (pc + 2) (jb_ci v) := fun st hst K hK L h q => ja_s_ldc ok hw hv dg (hK _ _ _ q)
theorem jc_ldcw {v : Int} (ok : ja_Ok X cc own d) (hw : Cond.constant own idx (Int32.ofInt v) ∈ ja_tbl) (hv : ja_r v) (dg : decode cc pc = .ok (.ldc_w idx, 3)) : ja_OI X k pc (pc + 3) (jb_ci v) := fun st hst K hK L h q => ja_s_ldcw ok hw hv dg (hK _ _ _ q)
theorem jc_ldc2 {v : Int} (ok : ja_Ok X cc own d) (hw : Cond.constantLong own idx (Int64.ofInt v) ∈ ja_tbl) (hv : ja_rl v) (dg : decode cc pc = .ok (.ldc2_w idx, 3)) : ja_OL X k pc (pc + 3) (jb_ci v) := fun st hst K hK L h q => ja_s_ldc2 ok hw hv dg (hK _ _ _ q)
theorem jc_lconst {n : Fin 2} {v : Int} (ok : ja_Ok X cc own d) (dg : decode cc pc = .ok (.lconst n, 1)) (hv : (Int64.ofNat (n : Nat)).toInt = v) : ja_OL X k pc (pc + 1) (jb_ci v) := fun st hst K hK L h q => ja_s_lconst ok dg hv (hK _ _ _ q)
theorem jc_null (ok : ja_Ok X cc own d) (dg : decode cc pc = .ok (.aconst_null, 1)) : ja_OR X k pc (pc + 1) jb_nu := fun st hst K hK L h q => ja_s_null ok dg (hK _ _ _ q)
theorem jc_iload_n {n : Fin 4} {i : Nat} (ok : ja_Ok X cc own d) (dg : decode cc pc = .ok (.iload_n n, 1)) (hi : (n : Nat) = i) : ja_OI X k pc (pc + 1) (jb_li i) := by
  intro st hst K hK L h q
  unfold jb_li at q
  split at q
  · exact ja_s_iload_n ok dg hi (by assumption) (hK _ _ _ q)
  · exact q.elim
theorem jc_iload {i : Nat} (ok : ja_Ok X cc own d) (dg : decode cc pc = .ok (.iload i, 2)) : ja_OI X k pc (pc + 2) (jb_li i) := by
  intro st hst K hK L h q
  unfold jb_li at q
  split at q
  · exact ja_s_iload ok dg (by assumption) (hK _ _ _ q)
  · exact q.elim
theorem jc_lload_n {n : Fin 4} {i : Nat} (ok : ja_Ok X cc own d) (dg : decode cc pc = .ok (.lload_n n, 1)) (hi : (n : Nat) = i) : ja_OL X k pc (pc + 1) (jb_ll i) := by
  intro st hst K hK L h q
  unfold jb_ll at q
  split at q
  · exact ja_s_lload_n ok dg hi (by assumption) (hK _ _ _ q)
  · exact q.elim
theorem jc_lload {i : Nat} (ok : ja_Ok X cc own d) (dg : decode cc pc = .ok (.lload i, 2)) : ja_OL X k pc (pc + 2) (jb_ll i) := by
  intro st hst K hK L h q
  unfold jb_ll at q
  split at q
  · exact ja_s_lload ok dg (by assumption) (hK _ _ _ q)
  · exact q.elim
theorem jc_aload_n {n : Fin 4} {i : Nat} (ok : ja_Ok X cc own d) (dg : decode cc pc = .ok (.aload_n n, 1)) (hi : (n : Nat) = i) : ja_OR X k pc (pc + 1) (jb_lr i) := by
  intro st hst K hK L h q
  unfold jb_lr at q
  split at q
  · exact ja_s_aload_n ok dg hi (by assumption) (hK _ _ _ q)
  · exact q.elim
theorem jc_aload {i : Nat} (ok : ja_Ok X cc own d) (dg : decode cc pc = .ok (.aload i, 2)) : ja_OR X k pc (pc + 2) (jb_lr i) := by
  intro st hst K hK L h q
  unfold jb_lr at q
  split at q
  · exact ja_s_aload ok dg (by assumption) (hK _ _ _ q)
  · exact q.elim
def jb_add (a b : ja_EI) : ja_EI := fun K => a fun x => b fun y L h => K (ja_w (x + y)) L h
theorem jc_add {a b : ja_EI} (ok : ja_Ok X cc own d) (ha : ja_OI X k pc p1 a) (hb : ja_OI X (k + 1) p1 p2 b) (dg : decode cc p2 = .ok (.iadd, 1)) : ja_OI X k pc (p2 + 1) (jb_add a b) := fun st hst K hK => ha st hst _ fun _ => hb _ (ja_cat_I hst) _ fun _ _ _ q => ja_s_iadd ok dg (hK _ _ _ q)
def jb_sub (a b : ja_EI) : ja_EI := fun K => a fun x => b fun y L h => K (ja_w (x - y)) L h
theorem jc_sub {a b : ja_EI} (ok : ja_Ok X cc own d) (ha : ja_OI X k pc p1 a) (hb : ja_OI X (k + 1) p1 p2 b) (dg : decode cc p2 = .ok (.isub, 1)) : ja_OI X k pc (p2 + 1) (jb_sub a b) := fun st hst K hK => ha st hst _ fun _ => hb _ (ja_cat_I hst) _ fun _ _ _ q => ja_s_isub ok dg (hK _ _ _ q)
def jb_mul (a b : ja_EI) : ja_EI := fun K => a fun x => b fun y L h => K (ja_w (x * y)) L h
theorem jc_mul {a b : ja_EI} (ok : ja_Ok X cc own d) (ha : ja_OI X k pc p1 a) (hb : ja_OI X (k + 1) p1 p2 b) (dg : decode cc p2 = .ok (.imul, 1)) : ja_OI X k pc (p2 + 1) (jb_mul a b) := fun st hst K hK => ha st hst _ fun _ => hb _ (ja_cat_I hst) _ fun _ _ _ q => ja_s_imul ok dg (hK _ _ _ q)
def jb_div (a b : ja_EI) : ja_EI := fun K => a fun x => b fun y L h => y ≠ 0 ∧ K (ja_w (x.tdiv y)) L h
theorem jc_div {a b : ja_EI} (ok : ja_Ok X cc own d) (ha : ja_OI X k pc p1 a) (hb : ja_OI X (k + 1) p1 p2 b) (dg : decode cc p2 = .ok (.idiv, 1)) : ja_OI X k pc (p2 + 1) (jb_div a b) := fun st hst K hK => ha st hst _ fun _ => hb _ (ja_cat_I hst) _ fun _ _ _ q => ja_s_idiv ok dg q.1 (hK _ _ _ q.2)
def jb_rem (a b : ja_EI) : ja_EI := fun K => a fun x => b fun y L h => y ≠ 0 ∧ K (x.tmod y) L h
theorem jc_rem {a b : ja_EI} (ok : ja_Ok X cc own d) (ha : ja_OI X k pc p1 a) (hb : ja_OI X (k + 1) p1 p2 b) (dg : decode cc p2 = .ok (.irem, 1)) : ja_OI X k pc (p2 + 1) (jb_rem a b) := fun st hst K hK => ha st hst _ fun _ => hb _ (ja_cat_I hst) _ fun _ _ _ q => ja_s_irem ok dg q.1 (hK _ _ _ q.2)
def jb_iand (a b : ja_EI) : ja_EI := fun K => a fun x => b fun y L h => K (ja_land x y) L h
theorem jc_iand {a b : ja_EI} (ok : ja_Ok X cc own d) (ha : ja_OI X k pc p1 a) (hb : ja_OI X (k + 1) p1 p2 b) (dg : decode cc p2 = .ok (.iand, 1)) : ja_OI X k pc (p2 + 1) (jb_iand a b) := fun st hst K hK => ha st hst _ fun _ => hb _ (ja_cat_I hst) _ fun _ _ _ q => ja_s_iand ok dg (hK _ _ _ q)
def jb_ior (a b : ja_EI) : ja_EI := fun K => a fun x => b fun y L h => K (ja_lor x y) L h
theorem jc_ior {a b : ja_EI} (ok : ja_Ok X cc own d) (ha : ja_OI X k pc p1 a) (hb : ja_OI X (k + 1) p1 p2 b) (dg : decode cc p2 = .ok (.ior, 1)) : ja_OI X k pc (p2 + 1) (jb_ior a b) := fun st hst K hK => ha st hst _ fun _ => hb _ (ja_cat_I hst) _ fun _ _ _ q => ja_s_ior ok dg (hK _ _ _ q)
def jb_ixor (a b : ja_EI) : ja_EI := fun K => a fun x => b fun y L h => K (ja_lxor x y) L h
theorem jc_ixor {a b : ja_EI} (ok : ja_Ok X cc own d) (ha : ja_OI X k pc p1 a) (hb : ja_OI X (k + 1) p1 p2 b) (dg : decode cc p2 = .ok (.ixor, 1)) : ja_OI X k pc (p2 + 1) (jb_ixor a b) := fun st hst K hK => ha st hst _ fun _ => hb _ (ja_cat_I hst) _ fun _ _ _ q => ja_s_ixor ok dg (hK _ _ _ q)
def jb_shl (a b : ja_EI) : ja_EI := fun K => a fun x => b fun y L h => K (ja_shl x y) L h
theorem jc_shl {a b : ja_EI} (ok : ja_Ok X cc own d) (ha : ja_OI X k pc p1 a) (hb : ja_OI X (k + 1) p1 p2 b) (dg : decode cc p2 = .ok (.ishl, 1)) : ja_OI X k pc (p2 + 1) (jb_shl a b) := fun st hst K hK => ha st hst _ fun _ => hb _ (ja_cat_I hst) _ fun _ _ _ q => ja_s_ishl ok dg (hK _ _ _ q)
def jb_shr (a b : ja_EI) : ja_EI := fun K => a fun x => b fun y L h => K (ja_shr x y) L h
theorem jc_shr {a b : ja_EI} (ok : ja_Ok X cc own d) (ha : ja_OI X k pc p1 a) (hb : ja_OI X (k + 1) p1 p2 b) (dg : decode cc p2 = .ok (.ishr, 1)) : ja_OI X k pc (p2 + 1) (jb_shr a b) := fun st hst K hK => ha st hst _ fun _ => hb _ (ja_cat_I hst) _ fun _ _ _ q => ja_s_ishr ok dg (hK _ _ _ q)
def jb_ushr (a b : ja_EI) : ja_EI := fun K => a fun x => b fun y L h => K (ja_ushr x y) L h
theorem jc_ushr {a b : ja_EI} (ok : ja_Ok X cc own d) (ha : ja_OI X k pc p1 a) (hb : ja_OI X (k + 1) p1 p2 b) (dg : decode cc p2 = .ok (.iushr, 1)) : ja_OI X k pc (p2 + 1) (jb_ushr a b) := fun st hst K hK => ha st hst _ fun _ => hb _ (ja_cat_I hst) _ fun _ _ _ q => ja_s_iushr ok dg (hK _ _ _ q)
def jb_addL (a b : ja_EI) : ja_EI := fun K => a fun x => b fun y L h => K (ja_wl (x + y)) L h
theorem jc_addL {a b : ja_EI} (ok : ja_Ok X cc own d) (ha : ja_OL X k pc p1 a) (hb : ja_OL X (k + 2) p1 p2 b) (dg : decode cc p2 = .ok (.ladd, 1)) : ja_OL X k pc (p2 + 1) (jb_addL a b) := fun st hst K hK => ha st hst _ fun _ => hb _ (ja_cat_L hst) _ fun _ _ _ q => ja_s_ladd ok dg (hK _ _ _ q)
def jb_subL (a b : ja_EI) : ja_EI := fun K => a fun x => b fun y L h => K (ja_wl (x - y)) L h
theorem jc_subL {a b : ja_EI} (ok : ja_Ok X cc own d) (ha : ja_OL X k pc p1 a) (hb : ja_OL X (k + 2) p1 p2 b) (dg : decode cc p2 = .ok (.lsub, 1)) : ja_OL X k pc (p2 + 1) (jb_subL a b) := fun st hst K hK => ha st hst _ fun _ => hb _ (ja_cat_L hst) _ fun _ _ _ q => ja_s_lsub ok dg (hK _ _ _ q)
def jb_mulL (a b : ja_EI) : ja_EI := fun K => a fun x => b fun y L h => K (ja_wl (x * y)) L h
theorem jc_mulL {a b : ja_EI} (ok : ja_Ok X cc own d) (ha : ja_OL X k pc p1 a) (hb : ja_OL X (k + 2) p1 p2 b) (dg : decode cc p2 = .ok (.lmul, 1)) : ja_OL X k pc (p2 + 1) (jb_mulL a b) := fun st hst K hK => ha st hst _ fun _ => hb _ (ja_cat_L hst) _ fun _ _ _ q => ja_s_lmul ok dg (hK _ _ _ q)
def jb_divL (a b : ja_EI) : ja_EI := fun K => a fun x => b fun y L h => y ≠ 0 ∧ K (ja_wl (x.tdiv y)) L h
theorem jc_divL {a b : ja_EI} (ok : ja_Ok X cc own d) (ha : ja_OL X k pc p1 a) (hb : ja_OL X (k + 2) p1 p2 b) (dg : decode cc p2 = .ok (.ldiv, 1)) : ja_OL X k pc (p2 + 1) (jb_divL a b) := fun st hst K hK => ha st hst _ fun _ => hb _ (ja_cat_L hst) _ fun _ _ _ q => ja_s_ldiv ok dg q.1 (hK _ _ _ q.2)
def jb_remL (a b : ja_EI) : ja_EI := fun K => a fun x => b fun y L h => y ≠ 0 ∧ K (x.tmod y) L h
theorem jc_remL {a b : ja_EI} (ok : ja_Ok X cc own d) (ha : ja_OL X k pc p1 a) (hb : ja_OL X (k + 2) p1 p2 b) (dg : decode cc p2 = .ok (.lrem, 1)) : ja_OL X k pc (p2 + 1) (jb_remL a b) := fun st hst K hK => ha st hst _ fun _ => hb _ (ja_cat_L hst) _ fun _ _ _ q => ja_s_lrem ok dg q.1 (hK _ _ _ q.2)
def jb_andL (a b : ja_EI) : ja_EI := fun K => a fun x => b fun y L h => K (ja_andL x y) L h
theorem jc_andL {a b : ja_EI} (ok : ja_Ok X cc own d) (ha : ja_OL X k pc p1 a) (hb : ja_OL X (k + 2) p1 p2 b) (dg : decode cc p2 = .ok (.land, 1)) : ja_OL X k pc (p2 + 1) (jb_andL a b) := fun st hst K hK => ha st hst _ fun _ => hb _ (ja_cat_L hst) _ fun _ _ _ q => ja_s_land ok dg (hK _ _ _ q)
def jb_orL (a b : ja_EI) : ja_EI := fun K => a fun x => b fun y L h => K (ja_orL x y) L h
theorem jc_orL {a b : ja_EI} (ok : ja_Ok X cc own d) (ha : ja_OL X k pc p1 a) (hb : ja_OL X (k + 2) p1 p2 b) (dg : decode cc p2 = .ok (.lor, 1)) : ja_OL X k pc (p2 + 1) (jb_orL a b) := fun st hst K hK => ha st hst _ fun _ => hb _ (ja_cat_L hst) _ fun _ _ _ q => ja_s_lor ok dg (hK _ _ _ q)
def jb_shlL (a b : ja_EI) : ja_EI := fun K => a fun x => b fun y L h => K (ja_shlL x y) L h
theorem jc_shlL {a b : ja_EI} (ok : ja_Ok X cc own d) (ha : ja_OL X k pc p1 a) (hb : ja_OI X (k + 2) p1 p2 b) (dg : decode cc p2 = .ok (.lshl, 1)) : ja_OL X k pc (p2 + 1) (jb_shlL a b) := fun st hst K hK => ha st hst _ fun _ => hb _ (ja_cat_L hst) _ fun _ _ _ q => ja_s_lshl ok dg (hK _ _ _ q)
def jb_neg (a : ja_EI) : ja_EI := fun K => a fun x => K (ja_w (-x))
theorem jc_neg {a : ja_EI} (ok : ja_Ok X cc own d) (ha : ja_OI X k pc p1 a) (dg : decode cc p1 = .ok (.ineg, 1)) : ja_OI X k pc (p1 + 1) (jb_neg a) := fun st hst K hK => ha st hst _ fun _ _ _ q => ja_s_ineg ok dg (hK _ _ _ q)
def jb_negL (a : ja_EI) : ja_EI := fun K => a fun x => K (ja_wl (-x))
theorem jc_negL {a : ja_EI} (ok : ja_Ok X cc own d) (ha : ja_OL X k pc p1 a) (dg : decode cc p1 = .ok (.lneg, 1)) : ja_OL X k pc (p1 + 1) (jb_negL a) := fun st hst K hK => ha st hst _ fun _ _ _ q => ja_s_lneg ok dg (hK _ _ _ q)
theorem jc_i2l {a : ja_EI} (ok : ja_Ok X cc own d) (ha : ja_OI X k pc p1 a) (dg : decode cc p1 = .ok (.i2l, 1)) : ja_OL X k pc (p1 + 1) a := fun st hst K hK => ha st hst _ fun _ _ _ q => ja_s_i2l ok dg (hK _ _ _ q)
def jb_l2i (a : ja_EI) : ja_EI := fun K => a fun x => K (ja_w x)
theorem jc_l2i {a : ja_EI} (ok : ja_Ok X cc own d) (ha : ja_OL X k pc p1 a) (dg : decode cc p1 = .ok (.l2i, 1)) : ja_OI X k pc (p1 + 1) (jb_l2i a) := fun st hst K hK => ha st hst _ fun _ _ _ q => ja_s_l2i ok dg (hK _ _ _ q)
def jb_lc (a b : ja_EI) : ja_EI := fun K => a fun x => b fun y L h => K (ja_sg x y) L h
theorem jc_lc {a b : ja_EI} (ok : ja_Ok X cc own d) (ha : ja_OL X k pc p1 a) (hb : ja_OL X (k + 2) p1 p2 b) (dg : decode cc p2 = .ok (.lcmp, 1)) : ja_OI X k pc (p2 + 1) (jb_lc a b) := fun st hst K hK => ha st hst _ fun _ => hb _ (ja_cat_L hst) _ fun _ _ _ q => ja_s_lcmp ok dg (hK _ _ _ q)
def jb_gI (sh : ja_S) (ci j : Nat) (r : ja_ER) : ja_EI := fun K => r fun q L h => ∃ k0, q = some k0 ∧ sh[k0]? = some (0, ci) ∧ (ja_r (h.2.1 k0 j) → K (h.2.1 k0 j) L h)
theorem jc_gI {ci j : Nat} {ty : FieldType} {fin : Bool} {r : ja_ER} (ok : ja_Ok X cc own d) (hr : ja_OR X k pc p1 r) (hF : ja_F own idx ci j ty fin) (hty : ja_isI ty = true) (dg : decode cc p1 = .ok (.getfield idx, 3)) : ja_OI X k pc (p1 + 3) (jb_gI (ja_sh X) ci j r) := fun st hst K hK => hr st hst _ fun _ _ _ ⟨_, q1, q2, q3⟩ => by
  subst q1
  exact ja_s_getI ok hF hty dg q2 (ja_At_I fun z => hK _ _ _ (q3 z))
def jb_gL (sh : ja_S) (ci j : Nat) (r : ja_ER) : ja_EI := fun K => r fun q L h => ∃ k0, q = some k0 ∧ sh[k0]? = some (0, ci) ∧ (ja_rl (h.2.2 k0 j) → K (h.2.2 k0 j) L h)
theorem jc_gL {ci j : Nat} {ty : FieldType} {fin : Bool} {r : ja_ER} (ok : ja_Ok X cc own d) (hr : ja_OR X k pc p1 r) (hF : ja_F own idx ci j ty fin) (hty : ty = .long) (dg : decode cc p1 = .ok (.getfield idx, 3)) : ja_OL X k pc (p1 + 3) (jb_gL (ja_sh X) ci j r) := fun st hst K hK => hr st hst _ fun _ _ _ ⟨_, q1, q2, q3⟩ => by
  subst q1
  exact ja_s_getL ok hF hty dg q2 (ja_At_L fun z => hK _ _ _ (q3 z))
def jb_gR (sh : ja_S) (ci j : Nat) (r : ja_ER) : ja_ER := fun K => r fun q L h => ∃ k0, q = some k0 ∧ sh[k0]? = some (0, ci) ∧ (K (h.1 k0 j) L h)
theorem jc_gR {ci j : Nat} {ty : FieldType} {fin : Bool} {r : ja_ER} (ok : ja_Ok X cc own d) (hr : ja_OR X k pc p1 r) (hF : ja_F own idx ci j ty fin) (hty : ja_isR ty = true) (dg : decode cc p1 = .ok (.getfield idx, 3)) : ja_OR X k pc (p1 + 3) (jb_gR (ja_sh X) ci j r) := fun st hst K hK => hr st hst _ fun _ _ _ ⟨_, q1, q2, q3⟩ => by
  subst q1
  exact ja_s_getR ok hF hty dg q2 (hK _ _ _ q3)
def jb_aI (sh : ja_S) (r : ja_ER) (i : ja_EI) : ja_EI := fun K => r fun q => i fun z L h => ∃ k0 n0, q = some k0 ∧ sh[k0]? = some (1, n0) ∧ 0 ≤ z ∧ z < (n0 : Nat) ∧ (ja_r (h.2.1 k0 z.toNat) → K (h.2.1 k0 z.toNat) L h)
theorem jc_aI {r : ja_ER} {i : ja_EI} (ok : ja_Ok X cc own d) (hr : ja_OR X k pc p1 r) (hi : ja_OI X (k + 1) p1 p2 i) (dg : decode cc p2 = .ok (.iaload, 1)) : ja_OI X k pc (p2 + 1) (jb_aI (ja_sh X) r i) := fun st hst K hK => hr st hst _ fun _ => hi _ (ja_cat_R hst) _ fun _ _ _ ⟨_, _, q1, q2, q3, q4, q5⟩ => by
  subst q1
  exact ja_s_iald ok dg q2 q3 q4 (ja_At_I fun z => hK _ _ _ (q5 z))
def jb_aZ (sh : ja_S) (r : ja_ER) (i : ja_EI) : ja_EI := fun K => r fun q => i fun z L h => ∃ k0 n0, q = some k0 ∧ sh[k0]? = some (2, n0) ∧ 0 ≤ z ∧ z < (n0 : Nat) ∧ (ja_r (h.2.1 k0 z.toNat) → K (h.2.1 k0 z.toNat) L h)
theorem jc_aZ {r : ja_ER} {i : ja_EI} (ok : ja_Ok X cc own d) (hr : ja_OR X k pc p1 r) (hi : ja_OI X (k + 1) p1 p2 i) (dg : decode cc p2 = .ok (.baload, 1)) : ja_OI X k pc (p2 + 1) (jb_aZ (ja_sh X) r i) := fun st hst K hK => hr st hst _ fun _ => hi _ (ja_cat_R hst) _ fun _ _ _ ⟨_, _, q1, q2, q3, q4, q5⟩ => by
  subst q1
  exact ja_s_zald ok dg q2 q3 q4 (ja_At_I fun z => hK _ _ _ (q5 z))
def jb_aL (sh : ja_S) (r : ja_ER) (i : ja_EI) : ja_EI := fun K => r fun q => i fun z L h => ∃ k0 n0, q = some k0 ∧ sh[k0]? = some (3, n0) ∧ 0 ≤ z ∧ z < (n0 : Nat) ∧ (ja_rl (h.2.2 k0 z.toNat) → K (h.2.2 k0 z.toNat) L h)
theorem jc_aL {r : ja_ER} {i : ja_EI} (ok : ja_Ok X cc own d) (hr : ja_OR X k pc p1 r) (hi : ja_OI X (k + 1) p1 p2 i) (dg : decode cc p2 = .ok (.laload, 1)) : ja_OL X k pc (p2 + 1) (jb_aL (ja_sh X) r i) := fun st hst K hK => hr st hst _ fun _ => hi _ (ja_cat_R hst) _ fun _ _ _ ⟨_, _, q1, q2, q3, q4, q5⟩ => by
  subst q1
  exact ja_s_lald ok dg q2 q3 q4 (ja_At_L fun z => hK _ _ _ (q5 z))
def jb_aP (sh : ja_S) (r : ja_ER) (i : ja_EI) : ja_ER := fun K => r fun q => i fun z L h => ∃ k0 n0, q = some k0 ∧ sh[k0]? = some (4, n0) ∧ 0 ≤ z ∧ z < (n0 : Nat) ∧ (K (h.1 k0 z.toNat) L h)
theorem jc_aP {r : ja_ER} {i : ja_EI} (ok : ja_Ok X cc own d) (hr : ja_OR X k pc p1 r) (hi : ja_OI X (k + 1) p1 p2 i) (dg : decode cc p2 = .ok (.aaload, 1)) : ja_OR X k pc (p2 + 1) (jb_aP (ja_sh X) r i) := fun st hst K hK => hr st hst _ fun _ => hi _ (ja_cat_R hst) _ fun _ _ _ ⟨_, _, q1, q2, q3, q4, q5⟩ => by
  subst q1
  exact ja_s_aaldP ok dg q2 q3 q4 (hK _ _ _ q5)
def jb_aG (sh : ja_S) (r : ja_ER) (i : ja_EI) : ja_ER := fun K => r fun q => i fun z L h => ∃ k0 n0, q = some k0 ∧ sh[k0]? = some (5, n0) ∧ 0 ≤ z ∧ z < (n0 : Nat) ∧ (K (h.1 k0 z.toNat) L h)
theorem jc_aG {r : ja_ER} {i : ja_EI} (ok : ja_Ok X cc own d) (hr : ja_OR X k pc p1 r) (hi : ja_OI X (k + 1) p1 p2 i) (dg : decode cc p2 = .ok (.aaload, 1)) : ja_OR X k pc (p2 + 1) (jb_aG (ja_sh X) r i) := fun st hst K hK => hr st hst _ fun _ => hi _ (ja_cat_R hst) _ fun _ _ _ ⟨_, _, q1, q2, q3, q4, q5⟩ => by
  subst q1
  exact ja_s_aaldG ok dg q2 q3 q4 (hK _ _ _ q5)
def jb_len (t : Nat) (sh : ja_S) (r : ja_ER) : ja_EI := fun K => r fun q L h => ∃ k0 n0, q = some k0 ∧ sh[k0]? = some (t, n0) ∧ n0 < 2147483648 ∧ K (n0 : Nat) L h
theorem jc_len1 {r : ja_ER} (ok : ja_Ok X cc own d) (hr : ja_OR X k pc p1 r) (dg : decode cc p1 = .ok (.arraylength, 1)) : ja_OI X k pc (p1 + 1) (jb_len 1 (ja_sh X) r) := fun st hst K hK => hr st hst _ fun _ _ _ ⟨_, _, q1, q2, q3, q4⟩ => by
  subst q1
  exact ja_s_alen1 ok dg q2 q3 (hK _ _ _ q4)
theorem jc_len2 {r : ja_ER} (ok : ja_Ok X cc own d) (hr : ja_OR X k pc p1 r) (dg : decode cc p1 = .ok (.arraylength, 1)) : ja_OI X k pc (p1 + 1) (jb_len 2 (ja_sh X) r) := fun st hst K hK => hr st hst _ fun _ _ _ ⟨_, _, q1, q2, q3, q4⟩ => by
  subst q1
  exact ja_s_alen2 ok dg q2 q3 (hK _ _ _ q4)
theorem jc_len3 {r : ja_ER} (ok : ja_Ok X cc own d) (hr : ja_OR X k pc p1 r) (dg : decode cc p1 = .ok (.arraylength, 1)) : ja_OI X k pc (p1 + 1) (jb_len 3 (ja_sh X) r) := fun st hst K hK => hr st hst _ fun _ _ _ ⟨_, _, q1, q2, q3, q4⟩ => by
  subst q1
  exact ja_s_alen3 ok dg q2 q3 (hK _ _ _ q4)
theorem jc_len4 {r : ja_ER} (ok : ja_Ok X cc own d) (hr : ja_OR X k pc p1 r) (dg : decode cc p1 = .ok (.arraylength, 1)) : ja_OI X k pc (p1 + 1) (jb_len 4 (ja_sh X) r) := fun st hst K hK => hr st hst _ fun _ _ _ ⟨_, _, q1, q2, q3, q4⟩ => by
  subst q1
  exact ja_s_alen4 ok dg q2 q3 (hK _ _ _ q4)
theorem jc_len5 {r : ja_ER} (ok : ja_Ok X cc own d) (hr : ja_OR X k pc p1 r) (dg : decode cc p1 = .ok (.arraylength, 1)) : ja_OI X k pc (p1 + 1) (jb_len 5 (ja_sh X) r) := fun st hst K hK => hr st hst _ fun _ _ _ ⟨_, _, q1, q2, q3, q4⟩ => by
  subst q1
  exact ja_s_alen5 ok dg q2 q3 (hK _ _ _ q4)
def jb_eq (a b : ja_EI) : ja_EC := fun T F => a fun x => b fun y L h => if x = y then T L h else F L h
theorem jc_eq_t {a b : ja_EI} {st : List ja_W} {T F : ja_P} {off : Int} {tgt : Nat} (ok : ja_Ok X cc own d) (ha : ja_OI X k pc p1 a) (hb : ja_OI X (k + 1) p1 p2 b) (dg : decode cc p2 = .ok (.if_icmp .eq off, 3)) (ht : (p2 : Int) + off = (tgt : Int)) (hst : ja_cat st ≤ k) (hT : ja_Rz X st (tgt) T) (hF : ja_Rz X st (p2 + 3) F) : ja_Rz X st pc (jb_eq a b T F) := ha st hst _ fun _ => hb _ (ja_cat_I hst) _ fun _ _ _ q => ja_s_icmp_eq ok dg ht (fun w => hT _ _ (by first | (rw [if_pos (by omega)] at q; exact q) | exact (if_pos (by omega)).mp q)) (fun w => hF _ _ (by rw [if_neg (by omega)] at q; exact q))
theorem jc_eq0_t {a : ja_EI} {st : List ja_W} {T F : ja_P} {off : Int} {tgt : Nat} (ok : ja_Ok X cc own d) (ha : ja_OI X k pc p1 a) (dg : decode cc p1 = .ok (.ifCond .eq off, 3)) (ht : (p1 : Int) + off = (tgt : Int)) (hst : ja_cat st ≤ k) (hT : ja_Rz X st (tgt) T) (hF : ja_Rz X st (p1 + 3) F) : ja_Rz X st pc (jb_eq a (jb_ci 0) T F) := ha st hst _ fun _ _ _ q => by
  simp only [jb_ci] at q
  exact ja_s_if_eq ok dg ht (fun w => hT _ _ (by first | (rw [if_pos (by omega)] at q; exact q) | exact (if_pos (by omega)).mp q)) (fun w => hF _ _ (by rw [if_neg (by omega)] at q; exact q))
theorem jc_eq_f {a b : ja_EI} {st : List ja_W} {T F : ja_P} {off : Int} {tgt : Nat} (ok : ja_Ok X cc own d) (ha : ja_OI X k pc p1 a) (hb : ja_OI X (k + 1) p1 p2 b) (dg : decode cc p2 = .ok (.if_icmp .ne off, 3)) (ht : (p2 : Int) + off = (tgt : Int)) (hst : ja_cat st ≤ k) (hT : ja_Rz X st (p2 + 3) T) (hF : ja_Rz X st (tgt) F) : ja_Rz X st pc (jb_eq a b T F) := ha st hst _ fun _ => hb _ (ja_cat_I hst) _ fun _ _ _ q => ja_s_icmp_ne ok dg ht (fun w => hF _ _ (by rw [if_neg (by omega)] at q; exact q)) (fun w => hT _ _ (by first | (rw [if_pos (by omega)] at q; exact q) | exact (if_pos (by omega)).mp q))
theorem jc_eq0_f {a : ja_EI} {st : List ja_W} {T F : ja_P} {off : Int} {tgt : Nat} (ok : ja_Ok X cc own d) (ha : ja_OI X k pc p1 a) (dg : decode cc p1 = .ok (.ifCond .ne off, 3)) (ht : (p1 : Int) + off = (tgt : Int)) (hst : ja_cat st ≤ k) (hT : ja_Rz X st (p1 + 3) T) (hF : ja_Rz X st (tgt) F) : ja_Rz X st pc (jb_eq a (jb_ci 0) T F) := ha st hst _ fun _ _ _ q => by
  simp only [jb_ci] at q
  exact ja_s_if_ne ok dg ht (fun w => hF _ _ (by rw [if_neg (by omega)] at q; exact q)) (fun w => hT _ _ (by first | (rw [if_pos (by omega)] at q; exact q) | exact (if_pos (by omega)).mp q))
def jb_ne (a b : ja_EI) : ja_EC := fun T F => a fun x => b fun y L h => if x = y then F L h else T L h
theorem jc_ne_t {a b : ja_EI} {st : List ja_W} {T F : ja_P} {off : Int} {tgt : Nat} (ok : ja_Ok X cc own d) (ha : ja_OI X k pc p1 a) (hb : ja_OI X (k + 1) p1 p2 b) (dg : decode cc p2 = .ok (.if_icmp .ne off, 3)) (ht : (p2 : Int) + off = (tgt : Int)) (hst : ja_cat st ≤ k) (hT : ja_Rz X st (tgt) T) (hF : ja_Rz X st (p2 + 3) F) : ja_Rz X st pc (jb_ne a b T F) := ha st hst _ fun _ => hb _ (ja_cat_I hst) _ fun _ _ _ q => ja_s_icmp_ne ok dg ht (fun w => hT _ _ (by rw [if_neg (by omega)] at q; exact q)) (fun w => hF _ _ (by first | (rw [if_pos (by omega)] at q; exact q) | exact (if_pos (by omega)).mp q))
theorem jc_ne0_t {a : ja_EI} {st : List ja_W} {T F : ja_P} {off : Int} {tgt : Nat} (ok : ja_Ok X cc own d) (ha : ja_OI X k pc p1 a) (dg : decode cc p1 = .ok (.ifCond .ne off, 3)) (ht : (p1 : Int) + off = (tgt : Int)) (hst : ja_cat st ≤ k) (hT : ja_Rz X st (tgt) T) (hF : ja_Rz X st (p1 + 3) F) : ja_Rz X st pc (jb_ne a (jb_ci 0) T F) := ha st hst _ fun _ _ _ q => by
  simp only [jb_ci] at q
  exact ja_s_if_ne ok dg ht (fun w => hT _ _ (by rw [if_neg (by omega)] at q; exact q)) (fun w => hF _ _ (by first | (rw [if_pos (by omega)] at q; exact q) | exact (if_pos (by omega)).mp q))
theorem jc_ne_f {a b : ja_EI} {st : List ja_W} {T F : ja_P} {off : Int} {tgt : Nat} (ok : ja_Ok X cc own d) (ha : ja_OI X k pc p1 a) (hb : ja_OI X (k + 1) p1 p2 b) (dg : decode cc p2 = .ok (.if_icmp .eq off, 3)) (ht : (p2 : Int) + off = (tgt : Int)) (hst : ja_cat st ≤ k) (hT : ja_Rz X st (p2 + 3) T) (hF : ja_Rz X st (tgt) F) : ja_Rz X st pc (jb_ne a b T F) := ha st hst _ fun _ => hb _ (ja_cat_I hst) _ fun _ _ _ q => ja_s_icmp_eq ok dg ht (fun w => hF _ _ (by first | (rw [if_pos (by omega)] at q; exact q) | exact (if_pos (by omega)).mp q)) (fun w => hT _ _ (by rw [if_neg (by omega)] at q; exact q))
theorem jc_ne0_f {a : ja_EI} {st : List ja_W} {T F : ja_P} {off : Int} {tgt : Nat} (ok : ja_Ok X cc own d) (ha : ja_OI X k pc p1 a) (dg : decode cc p1 = .ok (.ifCond .eq off, 3)) (ht : (p1 : Int) + off = (tgt : Int)) (hst : ja_cat st ≤ k) (hT : ja_Rz X st (p1 + 3) T) (hF : ja_Rz X st (tgt) F) : ja_Rz X st pc (jb_ne a (jb_ci 0) T F) := ha st hst _ fun _ _ _ q => by
  simp only [jb_ci] at q
  exact ja_s_if_eq ok dg ht (fun w => hF _ _ (by first | (rw [if_pos (by omega)] at q; exact q) | exact (if_pos (by omega)).mp q)) (fun w => hT _ _ (by rw [if_neg (by omega)] at q; exact q))
def jb_lt (a b : ja_EI) : ja_EC := fun T F => a fun x => b fun y L h => if x < y then T L h else F L h
theorem jc_lt_t {a b : ja_EI} {st : List ja_W} {T F : ja_P} {off : Int} {tgt : Nat} (ok : ja_Ok X cc own d) (ha : ja_OI X k pc p1 a) (hb : ja_OI X (k + 1) p1 p2 b) (dg : decode cc p2 = .ok (.if_icmp .lt off, 3)) (ht : (p2 : Int) + off = (tgt : Int)) (hst : ja_cat st ≤ k) (hT : ja_Rz X st (tgt) T) (hF : ja_Rz X st (p2 + 3) F) : ja_Rz X st pc (jb_lt a b T F) := ha st hst _ fun _ => hb _ (ja_cat_I hst) _ fun _ _ _ q => ja_s_icmp_lt ok dg ht (fun w => hT _ _ (by first | (rw [if_pos (by omega)] at q; exact q) | exact (if_pos (by omega)).mp q)) (fun w => hF _ _ (by rw [if_neg (by omega)] at q; exact q))
theorem jc_lt0_t {a : ja_EI} {st : List ja_W} {T F : ja_P} {off : Int} {tgt : Nat} (ok : ja_Ok X cc own d) (ha : ja_OI X k pc p1 a) (dg : decode cc p1 = .ok (.ifCond .lt off, 3)) (ht : (p1 : Int) + off = (tgt : Int)) (hst : ja_cat st ≤ k) (hT : ja_Rz X st (tgt) T) (hF : ja_Rz X st (p1 + 3) F) : ja_Rz X st pc (jb_lt a (jb_ci 0) T F) := ha st hst _ fun _ _ _ q => by
  simp only [jb_ci] at q
  exact ja_s_if_lt ok dg ht (fun w => hT _ _ (by first | (rw [if_pos (by omega)] at q; exact q) | exact (if_pos (by omega)).mp q)) (fun w => hF _ _ (by rw [if_neg (by omega)] at q; exact q))
theorem jc_lt_f {a b : ja_EI} {st : List ja_W} {T F : ja_P} {off : Int} {tgt : Nat} (ok : ja_Ok X cc own d) (ha : ja_OI X k pc p1 a) (hb : ja_OI X (k + 1) p1 p2 b) (dg : decode cc p2 = .ok (.if_icmp .ge off, 3)) (ht : (p2 : Int) + off = (tgt : Int)) (hst : ja_cat st ≤ k) (hT : ja_Rz X st (p2 + 3) T) (hF : ja_Rz X st (tgt) F) : ja_Rz X st pc (jb_lt a b T F) := ha st hst _ fun _ => hb _ (ja_cat_I hst) _ fun _ _ _ q => ja_s_icmp_ge ok dg ht (fun w => hF _ _ (by rw [if_neg (by omega)] at q; exact q)) (fun w => hT _ _ (by first | (rw [if_pos (by omega)] at q; exact q) | exact (if_pos (by omega)).mp q))
theorem jc_lt0_f {a : ja_EI} {st : List ja_W} {T F : ja_P} {off : Int} {tgt : Nat} (ok : ja_Ok X cc own d) (ha : ja_OI X k pc p1 a) (dg : decode cc p1 = .ok (.ifCond .ge off, 3)) (ht : (p1 : Int) + off = (tgt : Int)) (hst : ja_cat st ≤ k) (hT : ja_Rz X st (p1 + 3) T) (hF : ja_Rz X st (tgt) F) : ja_Rz X st pc (jb_lt a (jb_ci 0) T F) := ha st hst _ fun _ _ _ q => by
  simp only [jb_ci] at q
  exact ja_s_if_ge ok dg ht (fun w => hF _ _ (by rw [if_neg (by omega)] at q; exact q)) (fun w => hT _ _ (by first | (rw [if_pos (by omega)] at q; exact q) | exact (if_pos (by omega)).mp q))
def jb_ge (a b : ja_EI) : ja_EC := fun T F => a fun x => b fun y L h => if x < y then F L h else T L h
theorem jc_ge_t {a b : ja_EI} {st : List ja_W} {T F : ja_P} {off : Int} {tgt : Nat} (ok : ja_Ok X cc own d) (ha : ja_OI X k pc p1 a) (hb : ja_OI X (k + 1) p1 p2 b) (dg : decode cc p2 = .ok (.if_icmp .ge off, 3)) (ht : (p2 : Int) + off = (tgt : Int)) (hst : ja_cat st ≤ k) (hT : ja_Rz X st (tgt) T) (hF : ja_Rz X st (p2 + 3) F) : ja_Rz X st pc (jb_ge a b T F) := ha st hst _ fun _ => hb _ (ja_cat_I hst) _ fun _ _ _ q => ja_s_icmp_ge ok dg ht (fun w => hT _ _ (by rw [if_neg (by omega)] at q; exact q)) (fun w => hF _ _ (by first | (rw [if_pos (by omega)] at q; exact q) | exact (if_pos (by omega)).mp q))
theorem jc_ge0_t {a : ja_EI} {st : List ja_W} {T F : ja_P} {off : Int} {tgt : Nat} (ok : ja_Ok X cc own d) (ha : ja_OI X k pc p1 a) (dg : decode cc p1 = .ok (.ifCond .ge off, 3)) (ht : (p1 : Int) + off = (tgt : Int)) (hst : ja_cat st ≤ k) (hT : ja_Rz X st (tgt) T) (hF : ja_Rz X st (p1 + 3) F) : ja_Rz X st pc (jb_ge a (jb_ci 0) T F) := ha st hst _ fun _ _ _ q => by
  simp only [jb_ci] at q
  exact ja_s_if_ge ok dg ht (fun w => hT _ _ (by rw [if_neg (by omega)] at q; exact q)) (fun w => hF _ _ (by first | (rw [if_pos (by omega)] at q; exact q) | exact (if_pos (by omega)).mp q))
theorem jc_ge_f {a b : ja_EI} {st : List ja_W} {T F : ja_P} {off : Int} {tgt : Nat} (ok : ja_Ok X cc own d) (ha : ja_OI X k pc p1 a) (hb : ja_OI X (k + 1) p1 p2 b) (dg : decode cc p2 = .ok (.if_icmp .lt off, 3)) (ht : (p2 : Int) + off = (tgt : Int)) (hst : ja_cat st ≤ k) (hT : ja_Rz X st (p2 + 3) T) (hF : ja_Rz X st (tgt) F) : ja_Rz X st pc (jb_ge a b T F) := ha st hst _ fun _ => hb _ (ja_cat_I hst) _ fun _ _ _ q => ja_s_icmp_lt ok dg ht (fun w => hF _ _ (by first | (rw [if_pos (by omega)] at q; exact q) | exact (if_pos (by omega)).mp q)) (fun w => hT _ _ (by rw [if_neg (by omega)] at q; exact q))
theorem jc_ge0_f {a : ja_EI} {st : List ja_W} {T F : ja_P} {off : Int} {tgt : Nat} (ok : ja_Ok X cc own d) (ha : ja_OI X k pc p1 a) (dg : decode cc p1 = .ok (.ifCond .lt off, 3)) (ht : (p1 : Int) + off = (tgt : Int)) (hst : ja_cat st ≤ k) (hT : ja_Rz X st (p1 + 3) T) (hF : ja_Rz X st (tgt) F) : ja_Rz X st pc (jb_ge a (jb_ci 0) T F) := ha st hst _ fun _ _ _ q => by
  simp only [jb_ci] at q
  exact ja_s_if_lt ok dg ht (fun w => hF _ _ (by first | (rw [if_pos (by omega)] at q; exact q) | exact (if_pos (by omega)).mp q)) (fun w => hT _ _ (by rw [if_neg (by omega)] at q; exact q))
def jb_gt (a b : ja_EI) : ja_EC := fun T F => a fun x => b fun y L h => if y < x then T L h else F L h
theorem jc_gt_t {a b : ja_EI} {st : List ja_W} {T F : ja_P} {off : Int} {tgt : Nat} (ok : ja_Ok X cc own d) (ha : ja_OI X k pc p1 a) (hb : ja_OI X (k + 1) p1 p2 b) (dg : decode cc p2 = .ok (.if_icmp .gt off, 3)) (ht : (p2 : Int) + off = (tgt : Int)) (hst : ja_cat st ≤ k) (hT : ja_Rz X st (tgt) T) (hF : ja_Rz X st (p2 + 3) F) : ja_Rz X st pc (jb_gt a b T F) := ha st hst _ fun _ => hb _ (ja_cat_I hst) _ fun _ _ _ q => ja_s_icmp_gt ok dg ht (fun w => hT _ _ (by first | (rw [if_pos (by omega)] at q; exact q) | exact (if_pos (by omega)).mp q)) (fun w => hF _ _ (by rw [if_neg (by omega)] at q; exact q))
theorem jc_gt0_t {a : ja_EI} {st : List ja_W} {T F : ja_P} {off : Int} {tgt : Nat} (ok : ja_Ok X cc own d) (ha : ja_OI X k pc p1 a) (dg : decode cc p1 = .ok (.ifCond .gt off, 3)) (ht : (p1 : Int) + off = (tgt : Int)) (hst : ja_cat st ≤ k) (hT : ja_Rz X st (tgt) T) (hF : ja_Rz X st (p1 + 3) F) : ja_Rz X st pc (jb_gt a (jb_ci 0) T F) := ha st hst _ fun _ _ _ q => by
  simp only [jb_ci] at q
  exact ja_s_if_gt ok dg ht (fun w => hT _ _ (by first | (rw [if_pos (by omega)] at q; exact q) | exact (if_pos (by omega)).mp q)) (fun w => hF _ _ (by rw [if_neg (by omega)] at q; exact q))
theorem jc_gt_f {a b : ja_EI} {st : List ja_W} {T F : ja_P} {off : Int} {tgt : Nat} (ok : ja_Ok X cc own d) (ha : ja_OI X k pc p1 a) (hb : ja_OI X (k + 1) p1 p2 b) (dg : decode cc p2 = .ok (.if_icmp .le off, 3)) (ht : (p2 : Int) + off = (tgt : Int)) (hst : ja_cat st ≤ k) (hT : ja_Rz X st (p2 + 3) T) (hF : ja_Rz X st (tgt) F) : ja_Rz X st pc (jb_gt a b T F) := ha st hst _ fun _ => hb _ (ja_cat_I hst) _ fun _ _ _ q => ja_s_icmp_le ok dg ht (fun w => hF _ _ (by rw [if_neg (by omega)] at q; exact q)) (fun w => hT _ _ (by first | (rw [if_pos (by omega)] at q; exact q) | exact (if_pos (by omega)).mp q))
theorem jc_gt0_f {a : ja_EI} {st : List ja_W} {T F : ja_P} {off : Int} {tgt : Nat} (ok : ja_Ok X cc own d) (ha : ja_OI X k pc p1 a) (dg : decode cc p1 = .ok (.ifCond .le off, 3)) (ht : (p1 : Int) + off = (tgt : Int)) (hst : ja_cat st ≤ k) (hT : ja_Rz X st (p1 + 3) T) (hF : ja_Rz X st (tgt) F) : ja_Rz X st pc (jb_gt a (jb_ci 0) T F) := ha st hst _ fun _ _ _ q => by
  simp only [jb_ci] at q
  exact ja_s_if_le ok dg ht (fun w => hF _ _ (by rw [if_neg (by omega)] at q; exact q)) (fun w => hT _ _ (by first | (rw [if_pos (by omega)] at q; exact q) | exact (if_pos (by omega)).mp q))
def jb_le (a b : ja_EI) : ja_EC := fun T F => a fun x => b fun y L h => if y < x then F L h else T L h
theorem jc_le_t {a b : ja_EI} {st : List ja_W} {T F : ja_P} {off : Int} {tgt : Nat} (ok : ja_Ok X cc own d) (ha : ja_OI X k pc p1 a) (hb : ja_OI X (k + 1) p1 p2 b) (dg : decode cc p2 = .ok (.if_icmp .le off, 3)) (ht : (p2 : Int) + off = (tgt : Int)) (hst : ja_cat st ≤ k) (hT : ja_Rz X st (tgt) T) (hF : ja_Rz X st (p2 + 3) F) : ja_Rz X st pc (jb_le a b T F) := ha st hst _ fun _ => hb _ (ja_cat_I hst) _ fun _ _ _ q => ja_s_icmp_le ok dg ht (fun w => hT _ _ (by rw [if_neg (by omega)] at q; exact q)) (fun w => hF _ _ (by first | (rw [if_pos (by omega)] at q; exact q) | exact (if_pos (by omega)).mp q))
theorem jc_le0_t {a : ja_EI} {st : List ja_W} {T F : ja_P} {off : Int} {tgt : Nat} (ok : ja_Ok X cc own d) (ha : ja_OI X k pc p1 a) (dg : decode cc p1 = .ok (.ifCond .le off, 3)) (ht : (p1 : Int) + off = (tgt : Int)) (hst : ja_cat st ≤ k) (hT : ja_Rz X st (tgt) T) (hF : ja_Rz X st (p1 + 3) F) : ja_Rz X st pc (jb_le a (jb_ci 0) T F) := ha st hst _ fun _ _ _ q => by
  simp only [jb_ci] at q
  exact ja_s_if_le ok dg ht (fun w => hT _ _ (by rw [if_neg (by omega)] at q; exact q)) (fun w => hF _ _ (by first | (rw [if_pos (by omega)] at q; exact q) | exact (if_pos (by omega)).mp q))
theorem jc_le_f {a b : ja_EI} {st : List ja_W} {T F : ja_P} {off : Int} {tgt : Nat} (ok : ja_Ok X cc own d) (ha : ja_OI X k pc p1 a) (hb : ja_OI X (k + 1) p1 p2 b) (dg : decode cc p2 = .ok (.if_icmp .gt off, 3)) (ht : (p2 : Int) + off = (tgt : Int)) (hst : ja_cat st ≤ k) (hT : ja_Rz X st (p2 + 3) T) (hF : ja_Rz X st (tgt) F) : ja_Rz X st pc (jb_le a b T F) := ha st hst _ fun _ => hb _ (ja_cat_I hst) _ fun _ _ _ q => ja_s_icmp_gt ok dg ht (fun w => hF _ _ (by first | (rw [if_pos (by omega)] at q; exact q) | exact (if_pos (by omega)).mp q)) (fun w => hT _ _ (by rw [if_neg (by omega)] at q; exact q))
theorem jc_le0_f {a : ja_EI} {st : List ja_W} {T F : ja_P} {off : Int} {tgt : Nat} (ok : ja_Ok X cc own d) (ha : ja_OI X k pc p1 a) (dg : decode cc p1 = .ok (.ifCond .gt off, 3)) (ht : (p1 : Int) + off = (tgt : Int)) (hst : ja_cat st ≤ k) (hT : ja_Rz X st (p1 + 3) T) (hF : ja_Rz X st (tgt) F) : ja_Rz X st pc (jb_le a (jb_ci 0) T F) := ha st hst _ fun _ _ _ q => by
  simp only [jb_ci] at q
  exact ja_s_if_gt ok dg ht (fun w => hF _ _ (by first | (rw [if_pos (by omega)] at q; exact q) | exact (if_pos (by omega)).mp q)) (fun w => hT _ _ (by rw [if_neg (by omega)] at q; exact q))
def jb_bt (e : ja_EI) : ja_EC := fun T F => e fun z L h => if z = 0 then F L h else T L h
theorem jc_bt_t {a : ja_EI} {st : List ja_W} {T F : ja_P} {off : Int} {tgt : Nat} (ok : ja_Ok X cc own d) (ha : ja_OI X k pc p1 a) (dg : decode cc p1 = .ok (.ifCond .ne off, 3)) (ht : (p1 : Int) + off = (tgt : Int)) (hst : ja_cat st ≤ k) (hT : ja_Rz X st tgt T) (hF : ja_Rz X st (p1 + 3) F) : ja_Rz X st pc (jb_bt a T F) := ha st hst _ fun _ _ _ q => ja_s_if_ne ok dg ht (fun w => hT _ _ (by rw [if_neg w] at q; exact q)) (fun w => hF _ _ (by rw [if_pos w] at q; exact q))
theorem jc_bt_f {a : ja_EI} {st : List ja_W} {T F : ja_P} {off : Int} {tgt : Nat} (ok : ja_Ok X cc own d) (ha : ja_OI X k pc p1 a) (dg : decode cc p1 = .ok (.ifCond .eq off, 3)) (ht : (p1 : Int) + off = (tgt : Int)) (hst : ja_cat st ≤ k) (hT : ja_Rz X st (p1 + 3) T) (hF : ja_Rz X st tgt F) : ja_Rz X st pc (jb_bt a T F) := ha st hst _ fun _ _ _ q => ja_s_if_eq ok dg ht (fun w => hF _ _ (by rw [if_pos w] at q; exact q)) (fun w => hT _ _ (by rw [if_neg w] at q; exact q))
def jb_isn (r : ja_ER) : ja_EC := fun T F => r fun q L h => if q = none then T L h else F L h
theorem jc_isn_t {r : ja_ER} {st : List ja_W} {T F : ja_P} {off : Int} {tgt : Nat} (ok : ja_Ok X cc own d) (hr : ja_OR X k pc p1 r) (dg : decode cc p1 = .ok (.ifnull off, 3)) (ht : (p1 : Int) + off = (tgt : Int)) (hst : ja_cat st ≤ k) (hT : ja_Rz X st tgt T) (hF : ja_Rz X st (p1 + 3) F) : ja_Rz X st pc (jb_isn r T F) := hr st hst _ fun _ _ _ q => ja_s_ifnull ok dg ht (fun w => hT _ _ (by rw [if_pos w] at q; exact q)) (fun w => hF _ _ (by rw [if_neg w] at q; exact q))
theorem jc_isn_f {r : ja_ER} {st : List ja_W} {T F : ja_P} {off : Int} {tgt : Nat} (ok : ja_Ok X cc own d) (hr : ja_OR X k pc p1 r) (dg : decode cc p1 = .ok (.ifnonnull off, 3)) (ht : (p1 : Int) + off = (tgt : Int)) (hst : ja_cat st ≤ k) (hT : ja_Rz X st (p1 + 3) T) (hF : ja_Rz X st tgt F) : ja_Rz X st pc (jb_isn r T F) := hr st hst _ fun _ _ _ q => ja_s_ifnonnull ok dg ht (fun w => hF _ _ (by rw [if_neg w] at q; exact q)) (fun w => hT _ _ (by rw [if_pos w] at q; exact q))
abbrev jb_and (a b : ja_EC) : ja_EC := fun T F => a (b T F) F
abbrev jb_or (a b : ja_EC) : ja_EC := fun T F => a T (b T F)
abbrev jb_not (a : ja_EC) : ja_EC := fun T F => a F T
/-- a value by a condition -/
def jb_cv (c : ja_EC) (a b : ja_EI) : ja_EI := fun K L h => ∃ P : Int → ja_P, c (a P) (b P) L h ∧ ∀ z L h, P z L h → K z L h
def jb_cr (c : ja_EC) (a b : ja_ER) : ja_ER := fun K L h => ∃ P : Option Nat → ja_P, c (a P) (b P) L h ∧ ∀ z L h, P z L h → K z L h
theorem jc_cvI {c : ja_EC} {a b : ja_EI} {pe : Nat} (hc : ∀ st, ja_cat st ≤ k → ∀ P : Int → ja_P, (∀ z L h, P z L h → ja_At X pe L (.inl z :: st) h) → ja_Rz X st pc (c (a P) (b P))) : ja_OI X k pc pe (jb_cv c a b) := fun st hst K hK L h ⟨P, q1, q2⟩ => hc st hst P (fun z L h q => hK z L h (q2 z L h q)) L h q1
theorem jc_cvL {c : ja_EC} {a b : ja_EI} {pe : Nat} (hc : ∀ st, ja_cat st ≤ k → ∀ P : Int → ja_P, (∀ z L h, P z L h → ja_At X pe L (.inr (.inl z) :: st) h) → ja_Rz X st pc (c (a P) (b P))) : ja_OL X k pc pe (jb_cv c a b) := fun st hst K hK L h ⟨P, q1, q2⟩ => hc st hst P (fun z L h q => hK z L h (q2 z L h q)) L h q1
theorem jc_cvR {c : ja_EC} {a b : ja_ER} {pe : Nat} (hc : ∀ st, ja_cat st ≤ k → ∀ P : Option Nat → ja_P, (∀ z L h, P z L h → ja_At X pe L (.inr (.inr z) :: st) h) → ja_Rz X st pc (c (a P) (b P))) : ja_OR X k pc pe (jb_cr c a b) := fun st hst K hK L h ⟨P, q1, q2⟩ => hc st hst P (fun z L h q => hK z L h (q2 z L h q)) L h q1
theorem jc_goI {st : List ja_W} {K : Int → ja_P} {off : Int} {tgt : Nat} (ok : ja_Ok X cc own d) (dg : decode cc pc = .ok (.goto off, 3)) (ht : (pc : Int) + off = (tgt : Int)) (hK : ∀ z L h, K z L h → ja_At X tgt L (.inl z :: st) h) : ∀ z L h, K z L h → ja_At X pc L (.inl z :: st) h := fun z L h q => ja_s_goto ok dg ht (hK z L h q)
theorem jc_goL {st : List ja_W} {K : Int → ja_P} {off : Int} {tgt : Nat} (ok : ja_Ok X cc own d) (dg : decode cc pc = .ok (.goto off, 3)) (ht : (pc : Int) + off = (tgt : Int)) (hK : ∀ z L h, K z L h → ja_At X tgt L (.inr (.inl z) :: st) h) : ∀ z L h, K z L h → ja_At X pc L (.inr (.inl z) :: st) h := fun z L h q => ja_s_goto ok dg ht (hK z L h q)
theorem jc_goR {st : List ja_W} {K : Option Nat → ja_P} {off : Int} {tgt : Nat} (ok : ja_Ok X cc own d) (dg : decode cc pc = .ok (.goto off, 3)) (ht : (pc : Int) + off = (tgt : Int)) (hK : ∀ z L h, K z L h → ja_At X tgt L (.inr (.inr z) :: st) h) : ∀ z L h, K z L h → ja_At X pc L (.inr (.inr z) :: st) h := fun z L h q => ja_s_goto ok dg ht (hK z L h q)
theorem jc_go {st : List ja_W} {K : ja_P} {off : Int} {tgt : Nat} (ok : ja_Ok X cc own d) (dg : decode cc pc = .ok (.goto off, 3)) (ht : (pc : Int) + off = (tgt : Int)) (hK : ja_Rz X st tgt K) : ja_Rz X st pc K := fun L h q => ja_s_goto ok dg ht (hK L h q)
/-- arguments -/
def jb_a0 : ja_EA := fun K => K []
def jb_ai (A : ja_EA) (e : ja_EI) : ja_EA := fun K => A fun vs => e fun z => K (vs ++ [.inl z])
def jb_al (A : ja_EA) (e : ja_EI) : ja_EA := fun K => A fun vs => e fun z => K (vs ++ [.inr (.inl z)])
def jb_ar (A : ja_EA) (e : ja_ER) : ja_EA := fun K => A fun vs => e fun z => K (vs ++ [.inr (.inr z)])
theorem jc_a0 : ja_OA X k pc pc 0 0 jb_a0 := fun st hst K hK L h q => hK [] L h rfl rfl q
theorem ja_catn {vs : List ja_W} {c : Nat} {v : ja_W} (h : ja_cat vs = c) : ja_cat (vs ++ [v]) = c + ja_cat [v] := by rw [ja_cat_app, h]
theorem jc_ai {A : ja_EA} {e : ja_EI} {c n : Nat} (hA : ja_OA X k pc p1 c n A) (he : ja_OI X (k + c) p1 p2 e) : ja_OA X k pc p2 (c + 1) (n + 1) (jb_ai A e) := fun st hst K hK => hA st hst _ fun vs _ _ h1 h2 => he _ (ja_cat_A hst h1) _ (fun z L h q => by
  have := hK (vs ++ [.inl z]) L h (ja_catn h1) (by simp [h2]) q
  simpa using this) _ _
theorem jc_al {A : ja_EA} {e : ja_EI} {c n : Nat} (hA : ja_OA X k pc p1 c n A) (he : ja_OL X (k + c) p1 p2 e) : ja_OA X k pc p2 (c + 2) (n + 1) (jb_al A e) := fun st hst K hK => hA st hst _ fun vs _ _ h1 h2 => he _ (ja_cat_A hst h1) _ (fun z L h q => by
  have := hK (vs ++ [.inr (.inl z)]) L h (ja_catn h1) (by simp [h2]) q
  simpa using this) _ _
theorem jc_ar {A : ja_EA} {e : ja_ER} {c n : Nat} (hA : ja_OA X k pc p1 c n A) (he : ja_OR X (k + c) p1 p2 e) : ja_OA X k pc p2 (c + 1) (n + 1) (jb_ar A e) := fun st hst K hK => hA st hst _ fun vs _ _ h1 h2 => he _ (ja_cat_A hst h1) _ (fun z L h q => by
  have := hK (vs ++ [.inr (.inr z)]) L h (ja_catn h1) (by simp [h2]) q
  simpa using this) _ _
/-- calls -/
def jb_ca (l : Launch) (d : Nat) (sh : ja_S) (M : ja_M) (A : ja_EA) : ja_EX := fun K => A fun vs L h => ja_C l d M sh vs h fun r h' => K r L h'
def jb_cm (l : Launch) (d : Nat) (sh : ja_S) (ci : Nat) (M : ja_M) (r : ja_ER) (A : ja_EA) : ja_EX := fun K => r fun q => A fun vs L h => ∃ k0, q = some k0 ∧ sh[k0]? = some (0, ci) ∧ ja_C l d M sh (.inr (.inr (some k0)) :: vs) h fun r h' => K r L h'
theorem jc_caS {M : ja_M} {A : ja_EA} {c n : Nat} (ok : ja_Ok X cc own (d + 1)) (hA : ja_OA X k pc p1 c n A) (hk : ja_LS own idx M n) (dg : decode cc p1 = .ok (.invokestatic idx, 3)) (h8 : k ≤ 8) : ja_OX X k pc (p1 + 3) (jb_ca (ja_l X) d (ja_sh X) M A) := fun st hst K hK => hA st hst _ fun vs L _ _ h2 q => ja_s_callS ok hk dg (Nat.le_refl _) h2 (Nat.le_trans hst h8) q fun r h' q => hK r L h' q
theorem jc_caN {M : ja_M} {A : ja_EA} {c n : Nat} {host : String} (ok : ja_Ok X cc own (d + 1)) (hA : ja_OA X k pc p1 c n A) (hk : ja_LN own idx host M n) (dg : decode cc p1 = .ok (.invokestatic idx, 3)) (h8 : k ≤ 8) : ja_OX X k pc (p1 + 3) (jb_ca (ja_l X) d (ja_sh X) M A) := fun st hst K hK => hA st hst _ fun vs L _ _ h2 q => ja_s_callN ok hk dg (Nat.le_refl _) h2 (Nat.le_trans hst h8) q fun r h' q => hK r L h' q
theorem jc_cm {M : ja_M} {r : ja_ER} {A : ja_EA} {c n ci : Nat} (ok : ja_Ok X cc own (d + 1)) (hr : ja_OR X k pc p1 r) (hA : ja_OA X (k + 1) p1 p2 c n A) (hk : ja_LV own idx ci M n) (dg : decode cc p2 = .ok (.invokevirtual idx, 3)) (h8 : k ≤ 8) : ja_OX X k pc (p2 + 3) (jb_cm (ja_l X) d (ja_sh X) ci M r A) := fun st hst K hK => hr st hst _ fun _ => hA _ (ja_cat_R hst) _ fun vs L _ _ h2 ⟨_, q1, q2, q3⟩ => by
  subst q1
  exact ja_s_callV ok hk dg (Nat.le_refl _) h2 (Nat.le_trans hst h8) q2 q3 fun r h' q => hK r L h' q
def jb_xI (x : ja_EX) : ja_EI := fun K => x fun r L h => ∃ z, r = some (.inl z) ∧ (ja_r z → K z L h)
def jb_xL (x : ja_EX) : ja_EI := fun K => x fun r L h => ∃ z, r = some (.inr (.inl z)) ∧ (ja_rl z → K z L h)
def jb_xR (x : ja_EX) : ja_ER := fun K => x fun r L h => ∃ z, r = some (.inr (.inr z)) ∧ K z L h
theorem jc_xI {x : ja_EX} (hx : ja_OX X k pc p1 x) : ja_OI X k pc p1 (jb_xI x) := fun st hst K hK => hx st hst _ fun _ _ _ ⟨_, q1, q2⟩ => by
  subst q1
  exact ja_At_I fun z => hK _ _ _ (q2 z)
theorem jc_xL {x : ja_EX} (hx : ja_OX X k pc p1 x) : ja_OL X k pc p1 (jb_xL x) := fun st hst K hK => hx st hst _ fun _ _ _ ⟨_, q1, q2⟩ => by
  subst q1
  exact ja_At_L fun z => hK _ _ _ (q2 z)
theorem jc_xR {x : ja_EX} (hx : ja_OX X k pc p1 x) : ja_OR X k pc p1 (jb_xR x) := fun st hst K hK => hx st hst _ fun _ _ _ ⟨_, q1, q2⟩ => by
  subst q1
  exact hK _ _ _ q2
/-! statements -/
variable {N B C : ja_P} {R : ja_Q}
theorem ja_c0 : ja_cat [] ≤ 0 := Nat.le_refl 0
def jb_sI (i : Nat) (e : ja_EI) : ja_T := fun N _ _ _ => e fun z L h => N (ja_set L i (.inl z)) h
theorem jc_istore_n {e : ja_EI} {n : Fin 4} {i : Nat} (ok : ja_Ok X cc own d) (he : ja_OI X 0 pc p1 e) (dg : decode cc p1 = .ok (.istore_n n, 1)) (hi : (n : Nat) = i) (hn : i < X.2.2.2.2.2.2) (hN : ja_Rz X [] (p1 + 1) N) : ja_Rz X [] pc (jb_sI i e N B C R) := he [] ja_c0 _ fun _ _ _ q => ja_s_istore_n ok dg hi hn (hN _ _ q)
theorem jc_istore {e : ja_EI} {i : Nat} (ok : ja_Ok X cc own d) (he : ja_OI X 0 pc p1 e) (dg : decode cc p1 = .ok (.istore i, 2)) (hn : i < X.2.2.2.2.2.2) (hN : ja_Rz X [] (p1 + 2) N) : ja_Rz X [] pc (jb_sI i e N B C R) := he [] ja_c0 _ fun _ _ _ q => ja_s_istore ok dg hn (hN _ _ q)
def jb_sL (i : Nat) (e : ja_EI) : ja_T := fun N _ _ _ => e fun z L h => N (ja_set L i (.inr (.inl z))) h
theorem jc_lstore_n {e : ja_EI} {n : Fin 4} {i : Nat} (ok : ja_Ok X cc own d) (he : ja_OL X 0 pc p1 e) (dg : decode cc p1 = .ok (.lstore_n n, 1)) (hi : (n : Nat) = i) (hn : i + 1 < X.2.2.2.2.2.2) (hN : ja_Rz X [] (p1 + 1) N) : ja_Rz X [] pc (jb_sL i e N B C R) := he [] ja_c0 _ fun _ _ _ q => ja_s_lstore_n ok dg hi hn (hN _ _ q)
theorem jc_lstore {e : ja_EI} {i : Nat} (ok : ja_Ok X cc own d) (he : ja_OL X 0 pc p1 e) (dg : decode cc p1 = .ok (.lstore i, 2)) (hn : i + 1 < X.2.2.2.2.2.2) (hN : ja_Rz X [] (p1 + 2) N) : ja_Rz X [] pc (jb_sL i e N B C R) := he [] ja_c0 _ fun _ _ _ q => ja_s_lstore ok dg hn (hN _ _ q)
def jb_sR (i : Nat) (e : ja_ER) : ja_T := fun N _ _ _ => e fun z L h => N (ja_set L i (.inr (.inr z))) h
theorem jc_astore_n {e : ja_ER} {n : Fin 4} {i : Nat} (ok : ja_Ok X cc own d) (he : ja_OR X 0 pc p1 e) (dg : decode cc p1 = .ok (.astore_n n, 1)) (hi : (n : Nat) = i) (hn : i < X.2.2.2.2.2.2) (hN : ja_Rz X [] (p1 + 1) N) : ja_Rz X [] pc (jb_sR i e N B C R) := he [] ja_c0 _ fun _ _ _ q => ja_s_astore_n ok dg hi hn (hN _ _ q)
theorem jc_astore {e : ja_ER} {i : Nat} (ok : ja_Ok X cc own d) (he : ja_OR X 0 pc p1 e) (dg : decode cc p1 = .ok (.astore i, 2)) (hn : i < X.2.2.2.2.2.2) (hN : ja_Rz X [] (p1 + 2) N) : ja_Rz X [] pc (jb_sR i e N B C R) := he [] ja_c0 _ fun _ _ _ q => ja_s_astore ok dg hn (hN _ _ q)
def jb_inc (i : Nat) (n : Int) : ja_T := fun N _ _ _ L h => match ja_get L i with
  | some (.inl z) => N (ja_set L i (.inl (ja_w (z + n)))) h
  | _ => False
theorem jc_iinc {i : Nat} {n : Int} (ok : ja_Ok X cc own d) (dg : decode cc pc = .ok (.iinc i n, 3)) (hn : i < X.2.2.2.2.2.2) (hN : ja_Rz X [] (pc + 3) N) : ja_Rz X [] pc (jb_inc i n N B C R) := by
  intro L h q
  unfold jb_inc at q
  split at q
  · exact ja_s_iinc ok dg hn (by assumption) (hN _ _ q)
  · exact q.elim
def jb_pI (sh : ja_S) (ci j : Nat) (r : ja_ER) (e : ja_EI) : ja_T := fun N _ _ _ => r fun q => e fun z L h => ∃ k0, q = some k0 ∧ sh[k0]? = some (0, ci) ∧ N L (h.1, ja_up h.2.1 k0 j z, h.2.2)
theorem jc_pI {r : ja_ER} {e : ja_EI} {ci j : Nat} {ty : FieldType} (ok : ja_Ok X cc own d) (hr : ja_OR X 0 pc p1 r) (he : ja_OI X 1 p1 p2 e) (hF : ja_F own idx ci j ty false) (hty : ty = .int) (dg : decode cc p2 = .ok (.putfield idx, 3)) (hN : ja_Rz X [] (p2 + 3) N) : ja_Rz X [] pc (jb_pI (ja_sh X) ci j r e N B C R) := hr [] ja_c0 _ fun _ => he _ (ja_cat_R ja_c0) _ fun _ _ _ ⟨_, q1, q2, q3⟩ => by
  subst q1
  exact ja_s_putI ok hF hty dg q2 (hN _ _ q3)
def jb_pZ (sh : ja_S) (ci j : Nat) (r : ja_ER) (e : ja_EI) : ja_T := fun N _ _ _ => r fun q => e fun z L h => ∃ k0, q = some k0 ∧ sh[k0]? = some (0, ci) ∧ (z = 0 ∨ z = 1) ∧ N L (h.1, ja_up h.2.1 k0 j z, h.2.2)
theorem jc_pZ {r : ja_ER} {e : ja_EI} {ci j : Nat} {ty : FieldType} (ok : ja_Ok X cc own d) (hr : ja_OR X 0 pc p1 r) (he : ja_OI X 1 p1 p2 e) (hF : ja_F own idx ci j ty false) (hty : ty = .boolean) (dg : decode cc p2 = .ok (.putfield idx, 3)) (hN : ja_Rz X [] (p2 + 3) N) : ja_Rz X [] pc (jb_pZ (ja_sh X) ci j r e N B C R) := hr [] ja_c0 _ fun _ => he _ (ja_cat_R ja_c0) _ fun _ _ _ ⟨_, q1, q2, q4, q3⟩ => by
  subst q1
  exact ja_s_putZ ok hF hty q4 dg q2 (hN _ _ q3)
def jb_pL (sh : ja_S) (ci j : Nat) (r : ja_ER) (e : ja_EI) : ja_T := fun N _ _ _ => r fun q => e fun z L h => ∃ k0, q = some k0 ∧ sh[k0]? = some (0, ci) ∧ N L (h.1, h.2.1, ja_up h.2.2 k0 j z)
theorem jc_pL {r : ja_ER} {e : ja_EI} {ci j : Nat} {ty : FieldType} (ok : ja_Ok X cc own d) (hr : ja_OR X 0 pc p1 r) (he : ja_OL X 1 p1 p2 e) (hF : ja_F own idx ci j ty false) (hty : ty = .long) (dg : decode cc p2 = .ok (.putfield idx, 3)) (hN : ja_Rz X [] (p2 + 3) N) : ja_Rz X [] pc (jb_pL (ja_sh X) ci j r e N B C R) := hr [] ja_c0 _ fun _ => he _ (ja_cat_R ja_c0) _ fun _ _ _ ⟨_, q1, q2, q3⟩ => by
  subst q1
  exact ja_s_putL ok hF hty dg q2 (hN _ _ q3)
def jb_pR (sh : ja_S) (ci j : Nat) (r : ja_ER) (e : ja_ER) : ja_T := fun N _ _ _ => r fun q => e fun z L h => ∃ k0, q = some k0 ∧ sh[k0]? = some (0, ci) ∧ N L (ja_up h.1 k0 j z, h.2.1, h.2.2)
theorem jc_pR {r : ja_ER} {e : ja_ER} {ci j : Nat} {ty : FieldType} (ok : ja_Ok X cc own d) (hr : ja_OR X 0 pc p1 r) (he : ja_OR X 1 p1 p2 e) (hF : ja_F own idx ci j ty false) (hty : ja_isR ty = true) (dg : decode cc p2 = .ok (.putfield idx, 3)) (hN : ja_Rz X [] (p2 + 3) N) : ja_Rz X [] pc (jb_pR (ja_sh X) ci j r e N B C R) := hr [] ja_c0 _ fun _ => he _ (ja_cat_R ja_c0) _ fun _ _ _ ⟨_, q1, q2, q3⟩ => by
  subst q1
  exact ja_s_putR ok hF hty dg q2 (hN _ _ q3)
def jb_wI (sh : ja_S) (r : ja_ER) (i e : ja_EI) : ja_T := fun N _ _ _ => r fun q => i fun z => e fun v L h => ∃ k0 n0, q = some k0 ∧ sh[k0]? = some (1, n0) ∧ 0 ≤ z ∧ z < (n0 : Nat) ∧ N L (h.1, ja_up h.2.1 k0 z.toNat v, h.2.2)
theorem jc_wI {r : ja_ER} {i e : ja_EI} (ok : ja_Ok X cc own d) (hr : ja_OR X 0 pc p1 r) (hi : ja_OI X 1 p1 p2 i) (he : ja_OI X 2 p2 p3 e) (dg : decode cc p3 = .ok (.iastore, 1)) (hN : ja_Rz X [] (p3 + 1) N) : ja_Rz X [] pc (jb_wI (ja_sh X) r i e N B C R) := hr [] ja_c0 _ fun _ => hi _ (ja_cat_R ja_c0) _ fun _ => he _ (ja_cat_I (ja_cat_R ja_c0)) _ fun _ _ _ ⟨_, _, q1, q2, q3, q4, q5⟩ => by
  subst q1
  exact ja_s_iast ok dg q2 q3 q4 (hN _ _ q5)
def jb_wZ (sh : ja_S) (r : ja_ER) (i e : ja_EI) : ja_T := fun N _ _ _ => r fun q => i fun z => e fun v L h => ∃ k0 n0, q = some k0 ∧ sh[k0]? = some (2, n0) ∧ 0 ≤ z ∧ z < (n0 : Nat) ∧ (v = 0 ∨ v = 1) ∧ N L (h.1, ja_up h.2.1 k0 z.toNat v, h.2.2)
theorem jc_wZ {r : ja_ER} {i e : ja_EI} (ok : ja_Ok X cc own d) (hr : ja_OR X 0 pc p1 r) (hi : ja_OI X 1 p1 p2 i) (he : ja_OI X 2 p2 p3 e) (dg : decode cc p3 = .ok (.bastore, 1)) (hN : ja_Rz X [] (p3 + 1) N) : ja_Rz X [] pc (jb_wZ (ja_sh X) r i e N B C R) := hr [] ja_c0 _ fun _ => hi _ (ja_cat_R ja_c0) _ fun _ => he _ (ja_cat_I (ja_cat_R ja_c0)) _ fun _ _ _ ⟨_, _, q1, q2, q3, q4, q6, q5⟩ => by
  subst q1
  exact ja_s_zast ok dg q2 q3 q4 q6 (hN _ _ q5)
def jb_wL (sh : ja_S) (r : ja_ER) (i e : ja_EI) : ja_T := fun N _ _ _ => r fun q => i fun z => e fun v L h => ∃ k0 n0, q = some k0 ∧ sh[k0]? = some (3, n0) ∧ 0 ≤ z ∧ z < (n0 : Nat) ∧ N L (h.1, h.2.1, ja_up h.2.2 k0 z.toNat v)
theorem jc_wL {r : ja_ER} {i e : ja_EI} (ok : ja_Ok X cc own d) (hr : ja_OR X 0 pc p1 r) (hi : ja_OI X 1 p1 p2 i) (he : ja_OL X 2 p2 p3 e) (dg : decode cc p3 = .ok (.lastore, 1)) (hN : ja_Rz X [] (p3 + 1) N) : ja_Rz X [] pc (jb_wL (ja_sh X) r i e N B C R) := hr [] ja_c0 _ fun _ => hi _ (ja_cat_R ja_c0) _ fun _ => he _ (ja_cat_I (ja_cat_R ja_c0)) _ fun _ _ _ ⟨_, _, q1, q2, q3, q4, q5⟩ => by
  subst q1
  exact ja_s_last ok dg q2 q3 q4 (hN _ _ q5)
def jb_uF (sh : ja_S) (ci j : Nat) (r : ja_ER) (g : Int → ja_EI) : ja_T := fun N _ _ _ => r fun q L h => ∃ k0, q = some k0 ∧ sh[k0]? = some (0, ci) ∧ (ja_r (h.2.1 k0 j) → g (h.2.1 k0 j) (fun z L h => N L (h.1, ja_up h.2.1 k0 j z, h.2.2)) L h)
theorem jc_uF {r : ja_ER} {e : ja_EI} {ci j : Nat} {ty : FieldType} {f : Int → Int → Int} {p4 : Nat} (ok : ja_Ok X cc own d) (hr : ja_OR X 0 pc p1 r) (dd : decode cc p1 = .ok (.dup, 1)) (hF : ja_F own idx ci j ty false) (hty : ty = .int) (dg : decode cc (p1 + 1) = .ok (.getfield idx, 3)) (he : ja_OI X 2 (p1 + 4) p2 e)
    (hf : ∀ (x y : Int) (L : ja_L) (st : List ja_W) (h : ja_H), ja_At X p4 L (.inl (f x y) :: st) h → ja_At X p2 L (.inl y :: .inl x :: st) h) (dp : decode cc p4 = .ok (.putfield idx, 3)) (hN : ja_Rz X [] (p4 + 3) N) : ja_Rz X [] pc (jb_uF (ja_sh X) ci j r (fun x K => e fun y => K (f x y)) N B C R) := hr [] ja_c0 _ fun _ L h ⟨k0, q1, q2, q3⟩ => by
  subst q1
  refine ja_s_dup ok dd rfl (ja_s_getI ok hF (by subst hty; rfl) dg q2 (ja_At_I fun z => ?_))
  exact he [.inl (h.2.1 k0 j), .inr (.inr (some k0))] (Nat.le_refl 2) _ (fun y L h q => hf _ _ _ _ _ (ja_s_putI ok hF hty dp q2 (hN _ _ q))) _ _ (q3 z)
def jb_uA (sh : ja_S) (r : ja_ER) (i : ja_EI) (g : Int → ja_EI) : ja_T := fun N _ _ _ => r fun q => i fun z L h => ∃ k0 n0, q = some k0 ∧ sh[k0]? = some (1, n0) ∧ 0 ≤ z ∧ z < (n0 : Nat) ∧ (ja_r (h.2.1 k0 z.toNat) → g (h.2.1 k0 z.toNat) (fun v L h => N L (h.1, ja_up h.2.1 k0 z.toNat v, h.2.2)) L h)
theorem jc_uA {r : ja_ER} {i e : ja_EI} {f : Int → Int → Int} {p4 : Nat} (ok : ja_Ok X cc own d) (hr : ja_OR X 0 pc p1 r) (hi : ja_OI X 1 p1 p2 i) (dd : decode cc p2 = .ok (.dup2, 1)) (dg : decode cc (p2 + 1) = .ok (.iaload, 1)) (he : ja_OI X 3 (p2 + 2) p3 e)
    (hf : ∀ (x y : Int) (L : ja_L) (st : List ja_W) (h : ja_H), ja_At X p4 L (.inl (f x y) :: st) h → ja_At X p3 L (.inl y :: .inl x :: st) h) (dp : decode cc p4 = .ok (.iastore, 1)) (hN : ja_Rz X [] (p4 + 1) N) : ja_Rz X [] pc (jb_uA (ja_sh X) r i (fun x K => e fun y => K (f x y)) N B C R) := hr [] ja_c0 _ fun _ => hi _ (ja_cat_R ja_c0) _ fun z L h ⟨k0, n0, q1, q2, q3, q4, q5⟩ => by
  subst q1
  refine ja_s_dup2 ok dd rfl rfl (ja_s_iald ok dg q2 q3 q4 (ja_At_I fun w => ?_))
  exact he [.inl (h.2.1 k0 z.toNat), .inl z, .inr (.inr (some k0))] (Nat.le_refl 3) _ (fun y L h q => hf _ _ _ _ _ (ja_s_iast ok dp q2 q3 q4 (hN _ _ q))) _ _ (q5 w)
def jb_ex (x : ja_EX) : ja_T := fun N _ _ _ => x fun r L h => r = none ∧ N L h
theorem jc_ex {x : ja_EX} (hx : ja_OX X 0 pc p1 x) (hN : ja_Rz X [] p1 N) : ja_Rz X [] pc (jb_ex x N B C R) := hx [] ja_c0 _ fun _ L h ⟨q1, q2⟩ => by
  subst q1
  exact hN L h q2
def jb_po (x : ja_EI) : ja_T := fun N _ _ _ => x fun _ L h => N L h
theorem jc_po {x : ja_EI} (ok : ja_Ok X cc own d) (hx : ja_OI X 0 pc p1 x) (dg : decode cc p1 = .ok (.pop, 1)) (hN : ja_Rz X [] (p1 + 1) N) : ja_Rz X [] pc (jb_po x N B C R) := hx [] ja_c0 _ fun _ L h q => ja_s_pop ok dg rfl (hN L h q)
def jb_rI (e : ja_EI) : ja_T := fun _ _ _ R => e fun z _ h => R (some (.inl z)) h
def jb_rZ (e : ja_EI) : ja_T := fun _ _ _ R => e fun z _ h => (z = 0 ∨ z = 1) ∧ R (some (.inl z)) h
def jb_rL (e : ja_EI) : ja_T := fun _ _ _ R => e fun z _ h => R (some (.inr (.inl z))) h
def jb_rR (e : ja_ER) : ja_T := fun _ _ _ R => e fun z _ h => R (some (.inr (.inr z))) h
def jb_rV : ja_T := fun _ _ _ R _ h => R none h
theorem jc_rI {e : ja_EI} (he : ja_OI X 0 pc p1 e) (hR : ja_RI X cc R) (dg : decode cc p1 = .ok (.ireturn, 1)) : ja_Rz X [] pc (jb_rI e N B C R) := he [] ja_c0 _ fun _ _ _ q => hR _ _ _ _ dg q
theorem jc_rZ {e : ja_EI} (he : ja_OI X 0 pc p1 e) (hR : ja_RZ X cc R) (dg : decode cc p1 = .ok (.ireturn, 1)) : ja_Rz X [] pc (jb_rZ e N B C R) := he [] ja_c0 _ fun _ _ _ q => hR _ _ _ _ dg q.1 q.2
theorem jc_rL {e : ja_EI} (he : ja_OL X 0 pc p1 e) (hR : ja_RL X cc R) (dg : decode cc p1 = .ok (.lreturn, 1)) : ja_Rz X [] pc (jb_rL e N B C R) := he [] ja_c0 _ fun _ _ _ q => hR _ _ _ _ dg q
theorem jc_rR {e : ja_ER} (he : ja_OR X 0 pc p1 e) (hR : ja_RR X cc R) (dg : decode cc p1 = .ok (.areturn, 1)) : ja_Rz X [] pc (jb_rR e N B C R) := he [] ja_c0 _ fun _ _ _ q => hR _ _ _ _ dg q
theorem jc_rV (hR : ja_RV X cc R) (dg : decode cc pc = .ok (.return_, 1)) : ja_Rz X [] pc (jb_rV N B C R) := fun L h q => hR _ _ _ dg q
abbrev jb_sk : ja_T := fun N _ _ _ => N
abbrev jb_br : ja_T := fun _ B _ _ => B
abbrev jb_cn : ja_T := fun _ _ C _ => C
abbrev jb_sq (s1 s2 : ja_T) : ja_T := fun N B C R => s1 (s2 N B C R) B C R
def jb_if (c : ja_EC) (s1 s2 : ja_T) : ja_T := fun N B C R L h => ∃ T F N' : ja_P, c T F L h ∧ (∀ L h, T L h → s1 N' B C R L h) ∧ (∀ L h, F L h → s2 N' B C R L h) ∧ (∀ L h, N' L h → N L h)
theorem jb_if_p {c : ja_EC} {s1 s2 : ja_T} {L : ja_L} {h : ja_H} (q : c (s1 N B C R) (s2 N B C R) L h) : jb_if c s1 s2 N B C R L h := ⟨_, _, N, q, fun _ _ q => q, fun _ _ q => q, fun _ _ q => q⟩
theorem jc_if {c : ja_EC} {s1 s2 : ja_T} (tl fl : List Nat) (hc : ∀ T F : ja_P, ja_Rs X [] tl T → ja_Rs X [] fl F → ja_Rz X [] pc (c T F)) (h1 : ∀ N' : ja_P, (∀ L h, N' L h → N L h) → ja_Rs X [] tl (s1 N' B C R)) (h2 : ∀ N' : ja_P, (∀ L h, N' L h → N L h) → ja_Rs X [] fl (s2 N' B C R)) : ja_Rz X [] pc (jb_if c s1 s2 N B C R) := fun L h ⟨_, _, N', q1, q2, q3, q4⟩ => hc _ _ (ja_Rs_mono q2 (h1 N' q4)) (ja_Rs_mono q3 (h2 N' q4)) L h q1
def jb_lp (c : ja_EC) (b u : ja_T) : ja_T := fun N _ _ R L h => ∃ I : Nat → ja_P, (∃ n, I n L h) ∧ ∀ n L h, I n L h → ∃ T F N' : ja_P, c T F L h ∧ (∀ L h, T L h → b N' N N' R L h) ∧ (∀ L h, N' L h → u (fun L h => ∃ m, m < n ∧ I m L h) N N R L h) ∧ (∀ L h, F L h → N L h)
theorem jc_lp {c : ja_EC} {b u : ja_T} (tl fl ul : List Nat) (hc : ∀ T F : ja_P, ja_Rs X [] tl T → ja_Rs X [] fl F → ja_Rz X [] pc (c T F)) (hb : ∀ N' : ja_P, ja_Rs X [] ul N' → ja_Rs X [] tl (b N' N N' R)) (hu : ∀ M : ja_P, ja_Rz X [] pc M → ja_Rs X [] ul (u M N N R)) (hN : ja_Rs X [] fl N) : ja_Rz X [] pc (jb_lp c b u N B C R) := by
  intro L h ⟨I, ⟨n, hI⟩, hs⟩
  induction n using Nat.strongRecOn generalizing L h with
  | ind n ih =>
    obtain ⟨T, F, N', q1, q2, q3, q4⟩ := hs n L h hI
    have hM : ja_Rz X [] pc (fun L h => ∃ m, m < n ∧ I m L h) := fun L h ⟨m, hm, hI⟩ => ih m hm L h hI
    exact hc T F (ja_Rs_mono q2 (hb N' (ja_Rs_mono q3 (hu _ hM)))) (ja_Rs_mono q4 hN) L h q1
theorem jc_ckI {c : ja_EC} {a b : ja_EI} {st : List ja_W} {K : Int → ja_P} (hc : ∀ P : Int → ja_P, (∀ z L h, P z L h → K z L h) → ja_Rz X st pc (c (a P) (b P))) : ja_Rz X st pc (jb_cv c a b K) := fun L h ⟨P, q1, q2⟩ => hc P q2 L h q1
theorem jc_ckL {c : ja_EC} {a b : ja_EI} {st : List ja_W} {K : Int → ja_P} (hc : ∀ P : Int → ja_P, (∀ z L h, P z L h → K z L h) → ja_Rz X st pc (c (a P) (b P))) : ja_Rz X st pc (jb_cv c a b K) := fun L h ⟨P, q1, q2⟩ => hc P q2 L h q1
theorem jc_ckR {c : ja_EC} {a b : ja_ER} {st : List ja_W} {K : Option Nat → ja_P} (hc : ∀ P : Option Nat → ja_P, (∀ z L h, P z L h → K z L h) → ja_Rz X st pc (c (a P) (b P))) : ja_Rz X st pc (jb_cr c a b K) := fun L h ⟨P, q1, q2⟩ => hc P q2 L h q1
theorem ja_seq {s1 s2 : ja_T} (ps : List Nat) (h2 : ja_Rs X [] ps (s2 N B C R)) (h1 : ja_Rs X [] ps (s2 N B C R) → ja_Rz X [] pc (s1 (s2 N B C R) B C R)) : ja_Rz X [] pc (jb_sq s1 s2 N B C R) := h1 h2
def jb_sw (e : ja_EI) (s : Int → ja_T) : ja_T := fun N _ C R L h => ∃ N' : ja_P, (∀ L h, N' L h → N L h) ∧ e (fun z L h => s z N' N' C R L h) L h
end JBC
