/-! a turn put into the reference's table -/
def seT (t : Int → Int) (x j : Int) : Int → Int := fun i => if i = x then j else t i
theorem m_putTurn {μ : zMem} {n x j : Int} {t : Int → Int} (hn : 2 ≤ n ∧ n ≤ 4) (ho : MOr μ n) (hx : 0 ≤ x ∧ x < 16) (hj : 0 ≤ j ∧ j < fct n) (hb : MTb μ n x t) : Ok (f_X10_putTurn x j μ) (fun μ' => Fm [128, 129] [] μ μ' ∧ MTb μ' n (x + 1) (seT t x j)) := by
  have hfc := fct_pos hn
  have key : ∀ (m fu : Nat) (y : Int) (μ1 : zMem), m < fu → 0 ≤ y → y + m = n → Fm [128, 129] [] μ μ1 → MTb μ1 n x t → (∀ k, 0 ≤ k → k < y → μ1 128 (4 * x + k) = prm n j k ∧ μ1 129 (4 * x + prm n j k) = k) → Ok (f_X10_putTurn_L2 x j fu y μ1) (fun μ' => Fm [128, 129] [] μ μ' ∧ MTb μ' n (x + 1) (seT t x j)) := by
    intro m
    induction m with
    | zero =>
      intro fu y μ1 hfu y0 hy hF hB hK
      cases fu with
      | zero => omega
      | succ fu =>
        unfold f_X10_putTurn_L2
        rw [hF.2 28 (by decide), ho.1, if_neg (by omega)]
        refine ok_some.mpr ⟨hF, fun i k i0 i1 k0 k1 => ?_⟩
        unfold seT
        by_cases hix : i = x
        · rw [if_pos hix, hix]
          have hb1 := bak_rg hn hj
          have hb2 := prm_rg hn hb1 ⟨k0, k1⟩
          have hb3 := (bak_prm hn hj ⟨k0, k1⟩).2
          have h1 := (hK _ hb2.1 (by omega)).2
          rw [hb3] at h1
          exact ⟨(hK k k0 (by omega)).1, h1⟩
        · rw [if_neg hix]
          exact hB i k i0 (by omega) k0 k1
    | succ m ih =>
      intro fu y μ1 hfu y0 hy hF hB hK
      cases fu with
      | zero => omega
      | succ fu =>
        have hpr := prm_rg hn hj (k := y) ⟨y0, by omega⟩
        unfold f_X10_putTurn_L2
        simp only [zlet]
        rw [hF.2 28 (by decide), ho.1, if_pos (by omega)]
        rw [zw_eq (x := 4 * j) (by omega) (by omega), zw_eq (x := 4 * j + y) (by omega) (by omega), zw_eq (x := 4 * x) (by omega) (by omega), zw_eq (x := 4 * x + y) (by omega) (by omega), zw_eq (x := y + 1) (by omega) (by omega)]
        rw [chk_pos (by omega), chk_pos (by omega), hF.1 133 (by decide) (by decide), ho.2.2 j y hj.1 hj.2 y0 (by omega), zw_eq (x := 4 * x + prm n j y) (by omega) (by omega), chk_pos (by omega)]
        refine ih fu (y + 1) _ (by omega) (by omega) (by omega) ((hF.up (by decide) (by decide) _ _).up (by decide) (by decide) _ _) ?_ ?_
        · intro i k i0 i1 k0 k1
          obtain ⟨b1, b2⟩ := hB i k i0 i1 k0 k1
          rw [zup_n _ _ _ (by decide), zup_s, zup_s, up1_n _ _ (by omega), up1_n _ _ (by omega), zup_n _ _ _ (by decide)]
          exact ⟨b1, b2⟩
        · intro k k0 k1
          rw [zup_n _ _ _ (by decide), zup_s, zup_s, zup_n _ _ _ (by decide)]
          by_cases hky : k = y
          · rw [hky, up1_s, up1_s]
            exact ⟨rfl, rfl⟩
          · have hne : prm n j k ≠ prm n j y := by
              intro e
              have h1 := (bak_prm hn hj (k := k) ⟨k0, by omega⟩).1
              have h2 := (bak_prm hn hj (k := y) ⟨y0, by omega⟩).1
              rw [e, h2] at h1
              exact hky h1.symm
            rw [up1_n _ _ (by omega), up1_n _ _ (by omega)]
            exact hK k k0 (by omega)
  unfold f_X10_putTurn
  exact key n.toNat zfu 0 μ (by unfold zfu; omega) (by omega) (by omega) (Fm.refl _ _ _) hb (fun k a b => by omega)
