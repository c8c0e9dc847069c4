/-! constructors: Reader, Shift -/
theorem gX5_init {l : Launch} {d K o : Nat} {sh : ja_S} {h : ja_H} {Q : ja_H → Prop} (hK : sh.length = K) (h1 : K < 900000) (ho : sh[o]? = some (0, 5)) (hz : ja_Hz K h) (q : ja_Hz (K + 1) (ja_up h.1 o 0 (some K), ja_up h.2.1 o 9 (-1), h.2.2) → Q (ja_up h.1 o 0 (some K), ja_up h.2.1 o 9 (-1), h.2.2)) : ja_G l (d + 1) mX5_init 1 300 sh [.inr (.inr (some o))] h [(1, 300)] Q := by
  refine ja_metG (by decide +kernel) (Nat.le_of_ble_eq_true rfl) rfl rfl ?_
  intro X cx hl hsh hnl ret has hho
  subst hsh
  have hoK : o < K := by have := (List.getElem?_eq_some_iff.mp ho).1; omega
  have hL : ja_kL K (ja_pad mX5_init.2.2.1 (ja_en [.inr (.inr (some o))])) := fun v hv => by
    have hv : some v ∈ ([some (.inr (.inr (some o)))] : ja_L) := hv
    rw [List.mem_singleton] at hv
    cases hv
    exact Or.inl hoK
  refine ja_s_aload_n cx.1 dX5_init_0 rfl rfl (jx_obj cx.1 jOX5 dX5_init_1 ?_)
  refine jx_arrI (k := K) (z := 300) cx dX5_init_4 rfl (fun h2 q => ja_s_sipush cx.1 dX5_init_5 (by decide) q) dX5_init_8 flX5_9 rfl rfl dX5_init_10 ho (by rw [hK]; rfl) (by omega) (by decide) (by decide) (by simp) (by simp) hz hL fun X cx hz => ?_
  refine ja_s_aload_n cx.1 dX5_init_13 rfl rfl (ja_s_iconst cx.1 dX5_init_14 (v := -1) (by decide) ?_)
  refine ja_s_putI cx.1 flX5_15 rfl dX5_init_15 (ja_Cx_old cx ho) ?_
  exact ret X cx.2.2.1 _ _ _ dX5_init_18 (q (ja_Hz_I hz (by omega)))
theorem gX6_init {l : Launch} {d o : Nat} {sh : ja_S} {h : ja_H} {Q : ja_H → Prop} (q : Q h) : ja_G l (d + 1) mX6_init 0 0 sh [.inr (.inr (some o))] h [] Q := by
  refine ja_metG (by decide +kernel) (Nat.le_of_ble_eq_true rfl) rfl rfl ?_
  intro X cx hl hsh hnl ret has hho
  refine ja_s_aload_n cx.1 dX6_init_0 rfl rfl (jx_obj cx.1 jOX6 dX6_init_1 ?_)
  exact ret X cx.2.2.1 _ _ _ dX6_init_4 q
