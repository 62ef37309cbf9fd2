/-! the turns in their order -/
def nse (n : Int) (t : Int → Int) (u : Int) : Nat → Int → Bool
  | 0, _ => true
  | m + 1, i => if rnb n (t i) u = t i then nse n t u m (i + 1) else !(decide (rnb n (t i) u < t i))
theorem nsm_nse (n : Int) (t : Int → Int) (u : Int) : ∀ (m : Nat) (i : Int), nsm n t u m i = nse n t u (m + 1) i := by
  intro m
  induction m with
  | zero =>
    intro i
    unfold nsm nse
    by_cases h : rnb n (t i) u = t i
    · rw [if_pos h, h]
      simp [nse]
    · rw [if_neg h]
  | succ m ih =>
    intro i
    conv => lhs; unfold nsm
    conv => rhs; unfold nse
    rw [ih]
theorem m_turnsCmp {μ : zMem} {n u : Int} {N : Nat} {t : Int → Int} {g : Int → zMem → Option (Int × zMem)} (hn : 2 ≤ n ∧ n ≤ 4) (ho : MOr μ n) (hN : N ≤ 16) (h29 : μ 101 29 = N) (hb : MTb μ n N t) (ht : TbR n N t) (hB : MBk μ n u) (hu : 0 ≤ u ∧ u < fct n) : ∀ (m fu : Nat) (x : Int), m + 1 < fu → 0 ≤ x → x + m = N → ∃ d, f_X10_isFirst_L46 u g fu 0 x μ = g d μ ∧ (d ≤ 0 ↔ nse n t u m x = true) := by
  intro m
  induction m with
  | zero =>
    intro fu x hfu x0 hx
    cases fu with
    | zero => omega
    | succ fu =>
      refine ⟨0, ?_, by simp [nse]⟩
      unfold f_X10_isFirst_L46
      rw [h29, if_neg (by omega)]
  | succ m ih =>
    intro fu x hfu x0 hx
    cases fu with
    | zero => omega
    | succ fu =>
      obtain ⟨d, d1, d2, d3⟩ := m_rowCmp (g := f_X10_isFirst_K122 x (f_X10_isFirst_L46 u g fu)) hn ho (by omega) hb ht hB hu (x := x) ⟨x0, by omega⟩
      have hK : f_X10_isFirst_K122 x (f_X10_isFirst_L46 u g fu) d μ = f_X10_isFirst_L46 u g fu d (x + 1) μ := by
        unfold f_X10_isFirst_K122
        simp only [zlet]
        rw [zw_eq (by omega) (by omega)]
      have hst : f_X10_isFirst_L46 u g (fu + 1) 0 x μ = f_X10_isFirst_L46 u g fu d (x + 1) μ := by
        conv => lhs; unfold f_X10_isFirst_L46
        rw [h29, if_pos (by omega), if_pos rfl, d1, hK]
      rw [hst]
      unfold nse
      by_cases he : rnb n (t x) u = t x
      · rw [if_pos he, d2.mpr he]
        exact ih fu (x + 1) (by omega) (by omega) (by omega)
      · rw [if_neg he]
        refine ⟨d, ?_, ?_⟩
        · have hd : d ≠ 0 := fun e => he (d2.mp e)
          cases fu with
          | zero => omega
          | succ fu =>
            unfold f_X10_isFirst_L46
            by_cases h : x + 1 < μ 101 29
            · rw [if_pos h, if_neg hd]
            · rw [if_neg h]
        · simp
          omega
