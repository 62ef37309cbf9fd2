/-! all orders -/
def frs (n : Int) (t : Int → Int) (N : Nat) : Nat → Int → Bool
  | 0, _ => true
  | k + 1, u => nse n t u N 0 && frs n t N k (u + 1)
theorem m_isFirst {μ : zMem} {n : Int} {N : Nat} {t : Int → Int} (hn : 2 ≤ n ∧ n ≤ 4) (ho : MOr μ n) (hN : N ≤ 16) (h29 : μ 101 29 = N) (hb : MTb μ n N t) (ht : TbR n N t) : Ok (f_X10_isFirst μ) (fun w => Fm [134] [] μ w.2 ∧ w.1 = b2i (frs n t N (fct n).toNat 0)) := by
  have hfc := fct_pos hn
  have key : ∀ (k fu : Nat) (u : Int) (μ1 : zMem), k < fu → 0 ≤ u → u + k = fct n → Fm [134] [] μ μ1 → Ok (f_X10_isFirst_L2 fu u μ1) (fun w => Fm [134] [] μ w.2 ∧ w.1 = b2i (frs n t N k u)) := by
    intro k
    induction k with
    | zero =>
      intro fu u μ1 hfu u0 hu hF
      cases fu with
      | zero => omega
      | succ fu =>
        unfold f_X10_isFirst_L2
        rw [hF.2 30 (by decide), ho.2.1, if_neg (by omega)]
        exact ok_some.mpr ⟨hF, rfl⟩
    | succ k ih =>
      intro fu u μ1 hfu u0 hu hF
      cases fu with
      | zero => omega
      | succ fu =>
        unfold f_X10_isFirst_L2
        rw [hF.2 30 (by decide), ho.2.1, if_pos (by omega)]
        have huR : 0 ≤ u ∧ u < fct n := ⟨u0, by omega⟩
        refine m_wayBack hn (hF.mor (by decide) (by decide) (by decide) ho) huR fun μ2 g1 g2 => ?_
        have hF2 := hF.trans g1
        have hb2 : MTb μ2 n N t := by
          unfold MTb
          rw [hF2.1 128 (by decide) (by decide), hF2.1 129 (by decide) (by decide)]
          exact hb
        obtain ⟨d, d1, d2⟩ := m_turnsCmp (g := f_X10_isFirst_K128 u (f_X10_isFirst_L2 fu)) hn (hF2.mor (by decide) (by decide) (by decide) ho) hN (by rw [hF2.2 29 (by decide)]; exact h29) hb2 ht g2 huR N zfu 0 (by unfold zfu; omega) (by omega) (by omega)
        unfold f_X10_isFirst_K42
        rw [d1]
        unfold f_X10_isFirst_K128 frs
        simp only [zlet]
        rw [zw_eq (by omega) (by omega)]
        by_cases h : nse n t u N 0 = true
        · rw [if_pos (d2.mpr h), h, Bool.true_and]
          exact ih fu (u + 1) μ2 (by omega) (by omega) (by omega) hF2
        · rw [if_neg (fun q => h (d2.mp q)), Bool.eq_false_iff.mpr h, Bool.false_and]
          exact ok_some.mpr ⟨hF2, rfl⟩
  unfold f_X10_isFirst
  exact key (fct n).toNat zfu 0 μ (by unfold zfu; omega) (by omega) (by omega) (Fm.refl _ _ _)
