/-! tools for contracts -/
theorem jb_cv_p {c : ja_EC} {a b : ja_EI} {K : Int → ja_P} {L : ja_L} {h : ja_H} (q : c (a K) (b K) L h) : jb_cv c a b K L h := ⟨K, q, fun _ _ _ q => q⟩
theorem jb_cr_p {c : ja_EC} {a b : ja_ER} {K : Option Nat → ja_P} {L : ja_L} {h : ja_H} (q : c (a K) (b K) L h) : jb_cr c a b K L h := ⟨K, q, fun _ _ _ q => q⟩
/-- the loop with a counter in local k that goes up by s -/
theorem jb_for {c : ja_EC} {b : ja_T} {k : Nat} {s : Int} {N B C : ja_P} {R : ja_Q} {L : ja_L} {h : ja_H} (n : Nat) (I : Nat → ja_P) (h0 : I 0 L h)
    (hs : ∀ i, i < n → ∀ L h, I i L h → c (b (jb_inc k s (I (i + 1)) N N R) N (jb_inc k s (I (i + 1)) N N R) R) (fun _ _ => False) L h)
    (he : ∀ L h, I n L h → c (fun _ _ => False) N L h) : jb_lp c b (jb_inc k s) N B C R L h := by
  refine ⟨fun m L h => ∃ i, i ≤ n ∧ m = n - i ∧ I i L h, ⟨n, 0, Nat.zero_le n, rfl, h0⟩, ?_⟩
  rintro m L h ⟨i, hi, rfl, hI⟩
  rcases Nat.lt_or_eq_of_le hi with q | rfl
  · refine ⟨_, _, _, hs i q L h hI, fun _ _ q => q, fun L h w => ?_, fun _ _ q => q.elim⟩
    unfold jb_inc at w ⊢
    split at w
    · exact ⟨n - (i + 1), by omega, i + 1, q, rfl, w⟩
    · exact w
  · exact ⟨_, _, fun _ _ => False, he L h hI, fun _ _ q => q.elim, fun _ _ q => q.elim, fun _ _ q => q⟩
/-- the loop without an update -/
theorem jb_while {c : ja_EC} {b : ja_T} {N B C : ja_P} {R : ja_Q} {L : ja_L} {h : ja_H} (μ : ja_L → ja_H → Nat) (I : ja_P) (h0 : I L h)
    (hs : ∀ L h, I L h → c (b (fun L' h' => I L' h' ∧ μ L' h' < μ L h) N (fun L' h' => I L' h' ∧ μ L' h' < μ L h) R) N L h) : jb_lp c b jb_sk N B C R L h := by
  refine ⟨fun m L h => m = μ L h ∧ I L h, ⟨_, rfl, h0⟩, ?_⟩
  rintro m L h ⟨rfl, hI⟩
  exact ⟨_, _, _, hs L h hI, fun _ _ q => q, fun L h w => ⟨_, w.2, rfl, w.1⟩, fun _ _ q => q⟩
theorem ja_upI {f : Nat → Nat → Int} {k j a b : Nat} {v : Int} : ja_up f k j v a b = if a = k ∧ b = j then v else f a b := rfl
/-- a condition without effects -/
def jd (c : ja_EC) (L : ja_L) (h : ja_H) (φ : Prop) : Prop := ∀ T F : ja_P, (φ → T L h) → (¬ φ → F L h) → c T F L h
def jv (e : ja_EI) (L : ja_L) (h : ja_H) (v : Int) : Prop := ∀ K : Int → ja_P, K v L h → e K L h
def jr (e : ja_ER) (L : ja_L) (h : ja_H) (v : Option Nat) : Prop := ∀ K : Option Nat → ja_P, K v L h → e K L h
section JD
variable {L : ja_L} {h : ja_H} {φ ψ : Prop} {a b : ja_EC} {e f : ja_EI} {r : ja_ER} {x y : Int}
theorem jd_and (p : jd a L h φ) (q : φ → jd b L h ψ) : jd (jb_and a b) L h (φ ∧ ψ) := fun T F t f => p _ _ (fun u => q u _ _ (fun v => t ⟨u, v⟩) (fun v => f fun w => v w.2)) (fun u => f fun w => u w.1)
theorem jd_or (p : jd a L h φ) (q : ¬ φ → jd b L h ψ) : jd (jb_or a b) L h (φ ∨ ψ) := fun T F t f => p _ _ (fun u => t (Or.inl u)) (fun u => q u _ _ (fun v => t (Or.inr v)) (fun v => f fun w => w.elim u v))
theorem jd_not (p : jd a L h φ) : jd (jb_not a) L h (¬ φ) := fun T F t f => p _ _ (fun u => f fun w => w u) (fun u => t u)
theorem jd_eq {φ' : Prop} (p : jd a L h φ) (q : φ ↔ φ') : jd a L h φ' := fun T F t f => p _ _ (fun u => t (q.mp u)) (fun u => f fun w => u (q.mpr w))
theorem jd_lt (p : jv e L h x) (q : jv f L h y) : jd (jb_lt e f) L h (x < y) := fun T F t w => p _ (q _ (by by_cases u : x < y <;> simp [u, t, w]))
theorem jd_ge (p : jv e L h x) (q : jv f L h y) : jd (jb_ge e f) L h (y ≤ x) := fun T F t w => p _ (q _ (by by_cases u : x < y <;> simp [u]; exact w (by omega); exact t (by omega)))
theorem jd_gt (p : jv e L h x) (q : jv f L h y) : jd (jb_gt e f) L h (y < x) := fun T F t w => p _ (q _ (by by_cases u : y < x <;> simp [u, t, w]))
theorem jd_le (p : jv e L h x) (q : jv f L h y) : jd (jb_le e f) L h (x ≤ y) := fun T F t w => p _ (q _ (by by_cases u : y < x <;> simp [u]; exact w (by omega); exact t (by omega)))
theorem jd_eqI (p : jv e L h x) (q : jv f L h y) : jd (jb_eq e f) L h (x = y) := fun T F t w => p _ (q _ (by by_cases u : x = y <;> simp [u, t, w]))
theorem jd_ne (p : jv e L h x) (q : jv f L h y) : jd (jb_ne e f) L h (x ≠ y) := fun T F t w => p _ (q _ (by by_cases u : x = y <;> simp [u]; exact w (fun z => z u); exact t u))
theorem jd_bt (p : jv e L h x) : jd (jb_bt e) L h (x ≠ 0) := fun T F t w => p _ (by by_cases u : x = 0 <;> simp [u]; exact w (fun z => z u); exact t u)
theorem jd_b [Decidable φ] (p : jv e L h (if φ then 1 else 0)) : jd (jb_bt e) L h φ := jd_eq (jd_bt p) (by by_cases u : φ <;> simp [u])
theorem jd_isn {q : Option Nat} (p : jr r L h q) : jd (jb_isn r) L h (q = none) := fun T F t w => p _ (by by_cases u : q = none <;> simp [u, t, w])
theorem jv_ci {n : Int} : jv (jb_ci n) L h n := fun _ q => q
theorem jv_li {i : Nat} (hg : ja_get L i = some (.inl x)) : jv (jb_li i) L h x := fun K q => by unfold jb_li; rw [hg]; exact q
theorem jr_lr {i : Nat} {q : Option Nat} (hg : ja_get L i = some (.inr (.inr q))) : jr (jb_lr i) L h q := fun K w => by unfold jb_lr; rw [hg]; exact w
theorem jv_add (p : jv e L h x) (q : jv f L h y) : jv (jb_add e f) L h (ja_w (x + y)) := fun _ w => p _ (q _ w)
theorem jv_sub (p : jv e L h x) (q : jv f L h y) : jv (jb_sub e f) L h (ja_w (x - y)) := fun _ w => p _ (q _ w)
theorem jv_mul (p : jv e L h x) (q : jv f L h y) : jv (jb_mul e f) L h (ja_w (x * y)) := fun _ w => p _ (q _ w)
theorem jv_neg (p : jv e L h x) : jv (jb_neg e) L h (ja_w (-x)) := fun _ w => p _ w
theorem jv_div (p : jv e L h x) (q : jv f L h y) (hy : y ≠ 0) : jv (jb_div e f) L h (ja_w (x.tdiv y)) := fun _ w => p _ (q _ ⟨hy, w⟩)
theorem jv_rem (p : jv e L h x) (q : jv f L h y) (hy : y ≠ 0) : jv (jb_rem e f) L h (x.tmod y) := fun _ w => p _ (q _ ⟨hy, w⟩)
theorem jv_and (p : jv e L h x) (q : jv f L h y) : jv (jb_iand e f) L h (ja_land x y) := fun _ w => p _ (q _ w)
theorem jv_or (p : jv e L h x) (q : jv f L h y) : jv (jb_ior e f) L h (ja_lor x y) := fun _ w => p _ (q _ w)
theorem jv_xor (p : jv e L h x) (q : jv f L h y) : jv (jb_ixor e f) L h (ja_lxor x y) := fun _ w => p _ (q _ w)
theorem jv_shl (p : jv e L h x) (q : jv f L h y) : jv (jb_shl e f) L h (ja_shl x y) := fun _ w => p _ (q _ w)
theorem jv_shr (p : jv e L h x) (q : jv f L h y) : jv (jb_shr e f) L h (ja_shr x y) := fun _ w => p _ (q _ w)
theorem jv_ushr (p : jv e L h x) (q : jv f L h y) : jv (jb_ushr e f) L h (ja_ushr x y) := fun _ w => p _ (q _ w)
theorem jv_ll {i : Nat} (hg : ja_get L i = some (.inr (.inl x))) : jv (jb_ll i) L h x := fun K q => by unfold jb_ll; rw [hg]; exact q
theorem jv_addL (p : jv e L h x) (q : jv f L h y) : jv (jb_addL e f) L h (ja_wl (x + y)) := fun _ w => p _ (q _ w)
theorem jv_subL (p : jv e L h x) (q : jv f L h y) : jv (jb_subL e f) L h (ja_wl (x - y)) := fun _ w => p _ (q _ w)
theorem jv_mulL (p : jv e L h x) (q : jv f L h y) : jv (jb_mulL e f) L h (ja_wl (x * y)) := fun _ w => p _ (q _ w)
theorem jv_divL (p : jv e L h x) (q : jv f L h y) (hy : y ≠ 0) : jv (jb_divL e f) L h (ja_wl (x.tdiv y)) := fun _ w => p _ (q _ ⟨hy, w⟩)
theorem jv_remL (p : jv e L h x) (q : jv f L h y) (hy : y ≠ 0) : jv (jb_remL e f) L h (x.tmod y) := fun _ w => p _ (q _ ⟨hy, w⟩)
theorem jv_l2i (p : jv e L h x) : jv (jb_l2i e) L h (ja_w x) := fun _ w => p _ w
theorem jv_lc (p : jv e L h x) (q : jv f L h y) : jv (jb_lc e f) L h (ja_sg x y) := fun _ w => p _ (q _ w)
theorem jd_ltL (p : jv e L h x) (q : jv f L h y) : jd (jb_lt (jb_lc e f) (jb_ci 0)) L h (x < y) := jd_eq (jd_lt (jv_lc p q) jv_ci) (by unfold ja_sg; split <;> (try split) <;> omega)
theorem jd_gtL (p : jv e L h x) (q : jv f L h y) : jd (jb_gt (jb_lc e f) (jb_ci 0)) L h (y < x) := jd_eq (jd_gt (jv_lc p q) jv_ci) (by unfold ja_sg; split <;> (try split) <;> omega)
theorem jd_eqL (p : jv e L h x) (q : jv f L h y) : jd (jb_eq (jb_lc e f) (jb_ci 0)) L h (x = y) := jd_eq (jd_eqI (jv_lc p q) jv_ci) (by unfold ja_sg; split <;> (try split) <;> omega)
theorem jd_leL (p : jv e L h x) (q : jv f L h y) : jd (jb_le (jb_lc e f) (jb_ci 0)) L h (x ≤ y) := jd_eq (jd_le (jv_lc p q) jv_ci) (by unfold ja_sg; split <;> (try split) <;> omega)
theorem jd_geL (p : jv e L h x) (q : jv f L h y) : jd (jb_ge (jb_lc e f) (jb_ci 0)) L h (y ≤ x) := jd_eq (jd_ge (jv_lc p q) jv_ci) (by unfold ja_sg; split <;> (try split) <;> omega)
theorem jv_is {x' : Int} (p : jv e L h x) (q : x = x') : jv e L h x' := q ▸ p
theorem jv_w {z : Int} (p : jv e L h (ja_w z)) (hr : ja_r z) : jv e L h z := jv_is p (ja_w_id hr)
theorem jv_gI {sh : ja_S} {ci j k : Nat} (p : jr r L h (some k)) (hk : sh[k]? = some (0, ci)) : jv (jb_gI sh ci j r) L h (h.2.1 k j) := fun _ w => p _ ⟨k, rfl, hk, fun _ => w⟩
theorem jr_gR {sh : ja_S} {ci j k : Nat} (p : jr r L h (some k)) (hk : sh[k]? = some (0, ci)) : jr (jb_gR sh ci j r) L h (h.1 k j) := fun _ w => p _ ⟨k, rfl, hk, w⟩
theorem jr_is {q q' : Option Nat} (p : jr r L h q) (e : q = q') : jr r L h q' := e ▸ p
theorem jr_g {sh : ja_S} {ci j k : Nat} {q : Option Nat} (p : jr r L h (some k)) (hk : sh[k]? = some (0, ci)) (e : h.1 k j = q) : jr (jb_gR sh ci j r) L h q := jr_is (jr_gR p hk) e
theorem jv_gF {sh : ja_S} {ci j k : Nat} (p : jr r L h (some k)) (hk : sh[k]? = some (0, ci)) (e : h.2.1 k j = x) : jv (jb_gI sh ci j r) L h x := jv_is (jv_gI p hk) e
theorem jv_gL {sh : ja_S} {ci j k : Nat} (p : jr r L h (some k)) (hk : sh[k]? = some (0, ci)) : jv (jb_gL sh ci j r) L h (h.2.2 k j) := fun _ w => p _ ⟨k, rfl, hk, fun _ => w⟩
theorem jv_aL {sh : ja_S} {k n : Nat} (p : jr r L h (some k)) (q : jv e L h x) (hk : sh[k]? = some (3, n)) (h0 : 0 ≤ x) (h1 : x < (n : Nat)) : jv (jb_aL sh r e) L h (h.2.2 k x.toNat) := fun _ w => p _ (q _ ⟨k, n, rfl, hk, h0, h1, fun _ => w⟩)
theorem jv_aZ {sh : ja_S} {k n : Nat} (p : jr r L h (some k)) (q : jv e L h x) (hk : sh[k]? = some (2, n)) (h0 : 0 ≤ x) (h1 : x < (n : Nat)) : jv (jb_aZ sh r e) L h (h.2.1 k x.toNat) := fun _ w => p _ (q _ ⟨k, n, rfl, hk, h0, h1, fun _ => w⟩)
theorem jr_aP {sh : ja_S} {k n : Nat} (p : jr r L h (some k)) (q : jv e L h x) (hk : sh[k]? = some (4, n)) (h0 : 0 ≤ x) (h1 : x < (n : Nat)) : jr (jb_aP sh r e) L h (h.1 k x.toNat) := fun _ w => p _ (q _ ⟨k, n, rfl, hk, h0, h1, w⟩)
theorem jr_aG {sh : ja_S} {k n : Nat} (p : jr r L h (some k)) (q : jv e L h x) (hk : sh[k]? = some (5, n)) (h0 : 0 ≤ x) (h1 : x < (n : Nat)) : jr (jb_aG sh r e) L h (h.1 k x.toNat) := fun _ w => p _ (q _ ⟨k, n, rfl, hk, h0, h1, w⟩)
theorem jv_len {t : Nat} {sh : ja_S} {k n : Nat} (p : jr r L h (some k)) (hk : sh[k]? = some (t, n)) (hn : n < 2147483648) : jv (jb_len t sh r) L h n := fun _ w => p _ ⟨k, n, rfl, hk, hn, w⟩
theorem jv_aI {sh : ja_S} {k n : Nat} (p : jr r L h (some k)) (q : jv e L h x) (hk : sh[k]? = some (1, n)) (h0 : 0 ≤ x) (h1 : x < (n : Nat)) : jv (jb_aI sh r e) L h (h.2.1 k x.toNat) := fun _ w => p _ (q _ ⟨k, n, rfl, hk, h0, h1, fun _ => w⟩)
theorem jv_cv {c : ja_EC} [Decidable φ] (p : jd c L h φ) (q : φ → jv e L h x) (s : ¬ φ → jv f L h y) : jv (jb_cv c e f) L h (if φ then x else y) := fun K w => by
  refine jb_cv_p (p _ _ (fun u => q u _ ?_) (fun u => s u _ ?_))
  · rw [if_pos u] at w; exact w
  · rw [if_neg u] at w; exact w
theorem jv_cb {c : ja_EC} [Decidable φ] (p : jd c L h φ) : jv (jb_cv c (jb_ci 1) (jb_ci 0)) L h (if φ then 1 else 0) := jv_cv p (fun _ => jv_ci) (fun _ => jv_ci)
theorem jb_if_d {c : ja_EC} {s1 s2 : ja_T} {N B C : ja_P} {R : ja_Q} (p : jd c L h φ) (t : φ → s1 N B C R L h) (f : ¬ φ → s2 N B C R L h) : jb_if c s1 s2 N B C R L h := jb_if_p (p _ _ t f)
/-- pure calls -/
theorem jv_c1 {l : Launch} {d : Nat} {sh : ja_S} {M : ja_M} {v : Int} (p : jv e L h x) (c : ∀ Q : ja_Q, Q (some (.inl v)) h → ja_C l d M sh [.inl x] h Q) : jv (jb_xI (jb_ca l d sh M (jb_ai jb_a0 e))) L h v := fun _ w => p _ (c _ ⟨v, rfl, fun _ => w⟩)
theorem jv_c2 {l : Launch} {d : Nat} {sh : ja_S} {M : ja_M} {v : Int} (p : jv e L h x) (q : jv f L h y) (c : ∀ Q : ja_Q, Q (some (.inl v)) h → ja_C l d M sh [.inl x, .inl y] h Q) : jv (jb_xI (jb_ca l d sh M (jb_ai (jb_ai jb_a0 e) f))) L h v := fun _ w => p _ (q _ (c _ ⟨v, rfl, fun _ => w⟩))
theorem jv_c3 {l : Launch} {d : Nat} {sh : ja_S} {M : ja_M} {g : ja_EI} {v z : Int} (p : jv e L h x) (q : jv f L h y) (s : jv g L h z) (c : ∀ Q : ja_Q, Q (some (.inl v)) h → ja_C l d M sh [.inl x, .inl y, .inl z] h Q) : jv (jb_xI (jb_ca l d sh M (jb_ai (jb_ai (jb_ai jb_a0 e) f) g))) L h v := fun _ w => p _ (q _ (s _ (c _ ⟨v, rfl, fun _ => w⟩)))
theorem jv_m0 {l : Launch} {d ci k : Nat} {sh : ja_S} {M : ja_M} {v : Int} (o : jr r L h (some k)) (hk : sh[k]? = some (0, ci)) (c : ∀ Q : ja_Q, Q (some (.inl v)) h → ja_C l d M sh [.inr (.inr (some k))] h Q) : jv (jb_xI (jb_cm l d sh ci M r jb_a0)) L h v := fun _ w => o _ ⟨k, rfl, hk, c _ ⟨v, rfl, fun _ => w⟩⟩
theorem jv_m1 {l : Launch} {d ci k : Nat} {sh : ja_S} {M : ja_M} {v : Int} (o : jr r L h (some k)) (hk : sh[k]? = some (0, ci)) (p : jv e L h x) (c : ∀ Q : ja_Q, Q (some (.inl v)) h → ja_C l d M sh [.inr (.inr (some k)), .inl x] h Q) : jv (jb_xI (jb_cm l d sh ci M r (jb_ai jb_a0 e))) L h v := fun _ w => o _ (p _ ⟨k, rfl, hk, c _ ⟨v, rfl, fun _ => w⟩⟩)
theorem jv_m2 {l : Launch} {d ci k : Nat} {sh : ja_S} {M : ja_M} {v : Int} (o : jr r L h (some k)) (hk : sh[k]? = some (0, ci)) (p : jv e L h x) (q : jv f L h y) (c : ∀ Q : ja_Q, Q (some (.inl v)) h → ja_C l d M sh [.inr (.inr (some k)), .inl x, .inl y] h Q) : jv (jb_xI (jb_cm l d sh ci M r (jb_ai (jb_ai jb_a0 e) f))) L h v := fun _ w => o _ (p _ (q _ ⟨k, rfl, hk, c _ ⟨v, rfl, fun _ => w⟩⟩))
theorem jv_m3 {l : Launch} {d ci k : Nat} {sh : ja_S} {M : ja_M} {g : ja_EI} {v z : Int} (o : jr r L h (some k)) (hk : sh[k]? = some (0, ci)) (p : jv e L h x) (q : jv f L h y) (s : jv g L h z) (c : ∀ Q : ja_Q, Q (some (.inl v)) h → ja_C l d M sh [.inr (.inr (some k)), .inl x, .inl y, .inl z] h Q) : jv (jb_xI (jb_cm l d sh ci M r (jb_ai (jb_ai (jb_ai jb_a0 e) f) g))) L h v := fun _ w => o _ (p _ (q _ (s _ ⟨k, rfl, hk, c _ ⟨v, rfl, fun _ => w⟩⟩)))
theorem jv_m4 {l : Launch} {d ci k : Nat} {sh : ja_S} {M : ja_M} {g g' : ja_EI} {v z z' : Int} (o : jr r L h (some k)) (hk : sh[k]? = some (0, ci)) (p : jv e L h x) (q : jv f L h y) (s : jv g L h z) (s' : jv g' L h z') (c : ∀ Q : ja_Q, Q (some (.inl v)) h → ja_C l d M sh [.inr (.inr (some k)), .inl x, .inl y, .inl z, .inl z'] h Q) : jv (jb_xI (jb_cm l d sh ci M r (jb_ai (jb_ai (jb_ai (jb_ai jb_a0 e) f) g) g'))) L h v := fun _ w => o _ (p _ (q _ (s _ (s' _ ⟨k, rfl, hk, c _ ⟨v, rfl, fun _ => w⟩⟩))))
/-- statements -/
theorem jt_sI {i : Nat} {N B C : ja_P} {R : ja_Q} (p : jv e L h x) (q : N (ja_set L i (.inl x)) h) : jb_sI i e N B C R L h := p _ q
theorem jt_rI {N B C : ja_P} {R : ja_Q} (p : jv e L h x) (q : R (some (.inl x)) h) : jb_rI e N B C R L h := p _ q
theorem jt_rZ [Decidable φ] {N B C : ja_P} {R : ja_Q} (p : jv e L h (if φ then 1 else 0)) (q : R (some (.inl (if φ then 1 else 0))) h) : jb_rZ e N B C R L h := p _ ⟨by by_cases u : φ <;> simp [u], q⟩
theorem jt_wI {sh : ja_S} {k n : Nat} {z : Int} {N B C : ja_P} {R : ja_Q} (p : jr r L h (some k)) (hk : sh[k]? = some (1, n)) (q : jv e L h z) (s : jv f L h x) (h0 : 0 ≤ z) (h1 : z < (n : Nat)) (w : N L (h.1, ja_up h.2.1 k z.toNat x, h.2.2)) : jb_wI sh r e f N B C R L h := p _ (q _ (s _ ⟨k, n, rfl, hk, h0, h1, w⟩))
theorem jt_pI {sh : ja_S} {ci j k : Nat} {N B C : ja_P} {R : ja_Q} (p : jr r L h (some k)) (hk : sh[k]? = some (0, ci)) (q : jv e L h x) (w : N L (h.1, ja_up h.2.1 k j x, h.2.2)) : jb_pI sh ci j r e N B C R L h := p _ (q _ ⟨k, rfl, hk, w⟩)
end JD
section JT2
variable {L : ja_L} {h : ja_H} {e f : ja_EI} {r r2 : ja_ER} {x y : Int} {N B C : ja_P} {R : ja_Q}
theorem jt_uA {sh : ja_S} {k n : Nat} {z : Int} {u : Int → Int → Int} (p : jr r L h (some k)) (hk : sh[k]? = some (1, n)) (q : jv e L h z) (h0 : 0 ≤ z) (h1 : z < (n : Nat)) (s : jv f L h y) (w : N L (h.1, ja_up h.2.1 k z.toNat (u (h.2.1 k z.toNat) y), h.2.2)) : jb_uA sh r e (fun x K => f fun y => K (u x y)) N B C R L h := p _ (q _ ⟨k, n, rfl, hk, h0, h1, fun _ => s _ w⟩)
theorem jt_uF {sh : ja_S} {ci j k : Nat} {u : Int → Int → Int} (p : jr r L h (some k)) (hk : sh[k]? = some (0, ci)) (s : jv f L h y) (w : N L (h.1, ja_up h.2.1 k j (u (h.2.1 k j) y), h.2.2)) : jb_uF sh ci j r (fun x K => f fun y => K (u x y)) N B C R L h := p _ ⟨k, rfl, hk, fun _ => s _ w⟩
theorem jt_sL {i : Nat} (p : jv e L h x) (q : N (ja_set L i (.inr (.inl x))) h) : jb_sL i e N B C R L h := p _ q
theorem jt_sR {i : Nat} {q : Option Nat} (p : jr r L h q) (w : N (ja_set L i (.inr (.inr q))) h) : jb_sR i r N B C R L h := p _ w
theorem jt_pR {sh : ja_S} {ci j k : Nat} {q : Option Nat} (p : jr r L h (some k)) (hk : sh[k]? = some (0, ci)) (s : jr r2 L h q) (w : N L (ja_up h.1 k j q, h.2.1, h.2.2)) : jb_pR sh ci j r r2 N B C R L h := p _ (s _ ⟨k, rfl, hk, w⟩)
theorem jt_pZ {sh : ja_S} {ci j k : Nat} (p : jr r L h (some k)) (hk : sh[k]? = some (0, ci)) (q : jv e L h x) (hx : x = 0 ∨ x = 1) (w : N L (h.1, ja_up h.2.1 k j x, h.2.2)) : jb_pZ sh ci j r e N B C R L h := p _ (q _ ⟨k, rfl, hk, hx, w⟩)
theorem jt_pL {sh : ja_S} {ci j k : Nat} (p : jr r L h (some k)) (hk : sh[k]? = some (0, ci)) (q : jv e L h x) (w : N L (h.1, h.2.1, ja_up h.2.2 k j x)) : jb_pL sh ci j r e N B C R L h := p _ (q _ ⟨k, rfl, hk, w⟩)
theorem jt_wZ {sh : ja_S} {k n : Nat} {z : Int} (p : jr r L h (some k)) (hk : sh[k]? = some (2, n)) (q : jv e L h z) (s : jv f L h x) (h0 : 0 ≤ z) (h1 : z < (n : Nat)) (hx : x = 0 ∨ x = 1) (w : N L (h.1, ja_up h.2.1 k z.toNat x, h.2.2)) : jb_wZ sh r e f N B C R L h := p _ (q _ (s _ ⟨k, n, rfl, hk, h0, h1, hx, w⟩))
theorem jt_wL {sh : ja_S} {k n : Nat} {z : Int} (p : jr r L h (some k)) (hk : sh[k]? = some (3, n)) (q : jv e L h z) (s : jv f L h x) (h0 : 0 ≤ z) (h1 : z < (n : Nat)) (w : N L (h.1, h.2.1, ja_up h.2.2 k z.toNat x)) : jb_wL sh r e f N B C R L h := p _ (q _ (s _ ⟨k, n, rfl, hk, h0, h1, w⟩))
theorem jt_inc {i : Nat} {n : Int} (hg : ja_get L i = some (.inl x)) (hr : ja_r (x + n)) (w : N (ja_set L i (.inl (x + n))) h) : jb_inc i n N B C R L h := by unfold jb_inc; rw [hg]; simp only [ja_w_id hr]; exact w
theorem jv_wl {z : Int} (p : jv e L h (ja_wl z)) (hr : ja_rl z) : jv e L h z := jv_is p (ja_wl_id hr)
theorem jd_neL (p : jv e L h x) (q : jv f L h y) : jd (jb_ne (jb_lc e f) (jb_ci 0)) L h (x ≠ y) := jd_eq (jd_ne (jv_lc p q) jv_ci) (by unfold ja_sg; split <;> (try split) <;> omega)
/-- the loop with a counter, its condition without effects -/
theorem jb_forc {c : ja_EC} {b : ja_T} {k : Nat} {s : Int} (n : Nat) (I : Nat → ja_P) (h0 : I 0 L h) (hc : ∀ i, i ≤ n → ∀ L h, I i L h → jd c L h (i < n)) (hs : ∀ i, i < n → ∀ L h, I i L h → b (jb_inc k s (I (i + 1)) N N R) N (jb_inc k s (I (i + 1)) N N R) R L h) (he : ∀ L h, I n L h → N L h) : jb_lp c b (jb_inc k s) N B C R L h :=
  jb_for n I h0 (fun i hi L h w => hc i (Nat.le_of_lt hi) L h w _ _ (fun _ => hs i hi L h w) (fun q => (q hi).elim)) (fun L h w => hc n (Nat.le_refl n) L h w _ _ (fun q => (Nat.lt_irrefl n q).elim) (fun _ => he L h w))
end JT2
theorem jb_if_j {c : ja_EC} {s1 s2 : ja_T} {L : ja_L} {h : ja_H} {φ : Prop} {N B C : ja_P} {R : ja_Q} (N' : ja_P) (p : jd c L h φ) (t : φ → s1 N' B C R L h) (f : ¬ φ → s2 N' B C R L h) (j : ∀ L h, N' L h → N L h) : jb_if c s1 s2 N B C R L h := ⟨_, _, N', p (s1 N' B C R) (s2 N' B C R) t f, fun _ _ q => q, fun _ _ q => q, j⟩
theorem jv_m5 {L : ja_L} {h : ja_H} {r : ja_ER} {e f : ja_EI} {x y : Int} {l : Launch} {d ci k : Nat} {sh : ja_S} {M : ja_M} {g g' g2 : ja_EI} {v z z' z2 : Int} (o : jr r L h (some k)) (hk : sh[k]? = some (0, ci)) (p : jv e L h x) (q : jv f L h y) (s : jv g L h z) (s' : jv g' L h z') (s2 : jv g2 L h z2) (c : ∀ Q : ja_Q, Q (some (.inl v)) h → ja_C l d M sh [.inr (.inr (some k)), .inl x, .inl y, .inl z, .inl z', .inl z2] h Q) : jv (jb_xI (jb_cm l d sh ci M r (jb_ai (jb_ai (jb_ai (jb_ai (jb_ai jb_a0 e) f) g) g') g2))) L h v := fun _ w => o _ (p _ (q _ (s _ (s' _ (s2 _ ⟨k, rfl, hk, c _ ⟨v, rfl, fun _ => w⟩⟩)))))
