/-! acts with fuel enough; what is left behind the open repeats -/
theorem acs_fu {T : Nat → Int} {Ln kf : Nat} : ∀ k k' m o e s A K N cl, s ≤ Ln → cl.length ≤ s → A ≤ 16 → 2 * (Ln - s) + 1 + min m 1 ≤ k → 2 * (Ln - s) + 1 + min m 1 ≤ k' → acs T Ln kf k m o e s A K N cl = acs T Ln kf k' m o e s A K N cl
  | 0, _, _, _, _, _, _, _, _, _, _, _, _, h, _ => absurd h (by omega)
  | _ + 1, 0, _, _, _, _, _, _, _, _, _, _, _, _, h => absurd h (by omega)
  | k + 1, k' + 1, m, o, e, s, A, K, N, cl, hs, hc, hA, h1, h2 => by
    have nb := nxS_b (T := T) hs
    by_cases hm : m = 0
    · subst hm
      by_cases c1 : akC T Ln s = -1
      · rw [acs_n c1, acs_n c1]
      have sl := nb.2.2 (tkK_0 (by rw [akC_k c1]; decide))
      by_cases c2 : A = 16
      · rw [acs_16 c1 c2, acs_16 c1 c2]
      rcases akC_b (T := T) (Ln := Ln) (s := s) with c3 | c3
      · exact absurd c3 c1
      have : akC T Ln s = 1 ∨ akC T Ln s = 2 ∨ akC T Ln s = 3 ∨ akC T Ln s = 4 ∨ akC T Ln s = 5 := by omega
      rcases this with z | z | z | z | z
      · rw [acs_1 z c2, acs_1 z c2]
      · rw [acs_2 z c2, acs_2 z c2]
      · rw [acs_3 z c2, acs_3 z c2]
      · rw [acs_4 z c2, acs_4 z c2]
      · rw [acs_5 z c2, acs_5 z c2]
        have b1 := nms_b (T := T) (b := 7 * A) [(0, 1, 9)] (nxS T Ln s) N nb.2.1
        have n1 := nxS_b (T := T) b1.2
        have ih := acs_fu (T := T) (Ln := Ln) (kf := kf) k k' 1 (o + 1) 125 (nxS T Ln (nms T Ln (7 * A) [(0, 1, 9)] (nxS T Ln s) N).2.1) (A + 1) (upF K A 5) (nms T Ln (7 * A) [(0, 1, 9)] (nxS T Ln s) N).2.2 cl n1.2.1 (by omega) (by omega) (by omega) (by omega)
        unfold rpR
        dsimp only
        rw [ih]
    · have m1 : min m 1 = 1 := by omega
      rw [acs, acs, if_neg hm, if_neg hm]
      by_cases c1 : tkK T Ln s = e
      · rw [if_pos c1, if_pos c1]
      · rw [if_neg c1, if_neg c1]
        have ih := acs_fu (T := T) (Ln := Ln) (kf := kf) k k' 0 o 0 s A K N cl hs hc hA (by omega) (by omega)
        have zb := acs_b (T := T) (Ln := Ln) (kf := kf) k' 0 o 0 s A K N cl hs hc hA
        dsimp only
        rw [ih]
        generalize acs T Ln kf k' 0 o 0 s A K N cl = z at zb ⊢
        by_cases d : z.1 = 0
        · rw [if_pos d, if_pos d]
          have z2 := zb.2.2.2.2.2 rfl d
          have zl := zb.2.1
          exact acs_fu (T := T) (Ln := Ln) (kf := kf) k k' 1 o e z.2.1 z.2.2.1 z.2.2.2.1 z.2.2.2.2.1 z.2.2.2.2.2 zl zb.2.2.1 zb.2.2.2.2.1 (by omega) (by omega)
        · rw [if_neg d, if_neg d]
/-- mode 1 ends at its sign -/
theorem acs_e {T : Nat → Int} {Ln kf : Nat} {e : Int} : ∀ k o s A K N cl, (acs T Ln kf k 1 o e s A K N cl).1 = 0 → tkK T Ln (acs T Ln kf k 1 o e s A K N cl).2.1 = e
  | 0, o, s, A, K, N, cl => fun h => absurd (show (1 : Int) = 0 from h) (by decide)
  | k + 1, o, s, A, K, N, cl => by
    rw [acs, if_neg (by decide)]
    by_cases c1 : tkK T Ln s = e
    · rw [if_pos c1]; exact fun _ => c1
    · rw [if_neg c1]
      dsimp only
      by_cases d : (acs T Ln kf k 0 o 0 s A K N cl).1 = 0
      · rw [if_pos d]
        exact acs_e k o _ _ _ _ _
      · rw [if_neg d]
        exact fun y => absurd y d
def ac (T : Nat → Int) (Ln m o : Nat) (e : Int) (s A : Nat) (K N : Nat → Int) (cl : List Int) : acR := acs T Ln (6 * Ln + 3) (2 * Ln + 2) m o e s A K N cl
def eOf (st : List Nat) : Int := if st.length = 0 then 0 else 125
theorem ac_1 {T K N : Nat → Int} {Ln o s A : Nat} {e : Int} {cl : List Int} (hs : s ≤ Ln) (hc : cl.length ≤ s) (hA : A ≤ 16) (hk : tkK T Ln s ≠ e) : ac T Ln 1 o e s A K N cl = if (ac T Ln 0 o 0 s A K N cl).1 = 0 then ac T Ln 1 o e (ac T Ln 0 o 0 s A K N cl).2.1 (ac T Ln 0 o 0 s A K N cl).2.2.1 (ac T Ln 0 o 0 s A K N cl).2.2.2.1 (ac T Ln 0 o 0 s A K N cl).2.2.2.2.1 (ac T Ln 0 o 0 s A K N cl).2.2.2.2.2 else ac T Ln 0 o 0 s A K N cl := by
  have e1 : ac T Ln 1 o e s A K N cl = acs T Ln (6 * Ln + 3) (2 * Ln + 2 + 1) 1 o e s A K N cl := acs_fu _ _ _ _ _ _ _ _ _ _ hs hc hA (by omega) (by omega)
  rw [e1, acs, if_neg (by decide), if_neg hk]
  rfl
theorem ac_1e {T K N : Nat → Int} {Ln o s A : Nat} {e : Int} {cl : List Int} (hk : tkK T Ln s = e) : ac T Ln 1 o e s A K N cl = (0, s, A, K, N, cl) := by
  unfold ac
  rw [show 2 * Ln + 2 = (2 * Ln + 1) + 1 by omega, acs, if_neg (by decide), if_pos hk]
/-- behind the acts of a repeat: its sign, then the acts around it -/
def ca (T : Nat → Int) (Ln : Nat) : List Nat → acR → acR
  | [], r => r
  | a :: st, r => if r.1 = 0 then ca T Ln st (ac T Ln 1 st.length (eOf st) (nxS T Ln r.2.1) r.2.2.1 r.2.2.2.1 (upF r.2.2.2.2.1 (7 * a + 1) (r.2.2.1 : Int)) r.2.2.2.2.2) else r
theorem ca_f {T : Nat → Int} {Ln : Nat} {st : List Nat} {r : acR} (h : r.1 ≠ 0) : ca T Ln st r = r := by
  cases st with
  | nil => rfl
  | cons a st => rw [ca, if_neg h]
/-- a repeat is opened -/
theorem ca_5 {T K N : Nat → Int} {Ln s A : Nat} {cl : List Int} {st : List Nat} {r : nmR} (hs : s ≤ Ln) (hc : cl.length ≤ s) (hA : A ≤ 16) (hk : tkK T Ln s ≠ eOf st) (h5 : akC T Ln s = 5) (h16 : A ≠ 16) (hr : r = nms T Ln (7 * A) [(0, 1, 9)] (nxS T Ln s) N) (h0 : r.1 = 0) (h123 : tkK T Ln r.2.1 = 123) (h8 : st.length < 8) : ca T Ln st (ac T Ln 1 st.length (eOf st) s A K N cl) = ca T Ln (A :: st) (ac T Ln 1 (st.length + 1) 125 (nxS T Ln r.2.1) (A + 1) (upF K A 5) r.2.2 cl) := by
  have nb := nxS_b (T := T) hs
  have sl := nb.2.2 (tkK_0 (by rw [akC_k (T := T) (Ln := Ln) (s := s) (by omega)]; decide))
  have b1 := nms_b (T := T) (b := 7 * A) [(0, 1, 9)] (nxS T Ln s) N nb.2.1
  rw [← hr] at b1
  have n1 := nxS_b (T := T) b1.2
  have e0 : ac T Ln 0 st.length 0 s A K N cl = acs T Ln (6 * Ln + 3) (2 * Ln + 2 + 1) 0 st.length 0 s A K N cl := acs_fu _ _ _ _ _ _ _ _ _ _ hs hc hA (by omega) (by omega)
  have ez : acs T Ln (6 * Ln + 3) (2 * Ln + 2) 1 (st.length + 1) 125 (nxS T Ln r.2.1) (A + 1) (upF K A 5) r.2.2 cl = ac T Ln 1 (st.length + 1) 125 (nxS T Ln r.2.1) (A + 1) (upF K A 5) r.2.2 cl := rfl
  rw [acs_5 h5 h16] at e0
  unfold rpR at e0
  dsimp only at e0
  rw [← hr, if_pos h0, if_pos h123, if_neg (by omega), ez] at e0
  rw [ac_1 hs hc hA hk, e0, ca]
  have he := acs_e (T := T) (Ln := Ln) (kf := 6 * Ln + 3) (e := 125) (2 * Ln + 2) (st.length + 1) (nxS T Ln r.2.1) (A + 1) (upF K A 5) r.2.2 cl
  rw [ez] at he
  generalize ac T Ln 1 (st.length + 1) 125 (nxS T Ln r.2.1) (A + 1) (upF K A 5) r.2.2 cl = z at he ⊢
  by_cases d : z.1 = 0
  · simp only [if_pos d, if_pos (he d)]
    rfl
  · simp only [if_neg d]
    exact ca_f d
