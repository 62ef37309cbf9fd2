/-! storeys numbered anew: the reference; the way back of an order -/
def MBk (μ : zMem) (n u : Int) : Prop := ∀ k, 0 ≤ k → k < n → μ 134 k = prm n (bak n u) k
theorem m_wayBack {μ : zMem} {n u : Int} {g : zMem → Option (Int × zMem)} {Q : Int × zMem → Prop} (hn : 2 ≤ n ∧ n ≤ 4) (ho : MOr μ n) (hu : 0 ≤ u ∧ u < fct n) (hg : ∀ μ', Fm [134] [] μ μ' → MBk μ' n u → Ok (g μ') Q) : Ok (f_X10_isFirst_L12 u g zfu 0 μ) Q := by
  have hfc := fct_pos hn
  have key : ∀ (m fu : Nat) (y : Int) (μ1 : zMem), m < fu → 0 ≤ y → y + m = n → Fm [134] [] μ μ1 → (∀ k, 0 ≤ k → k < y → μ1 134 (prm n u k) = k) → Ok (f_X10_isFirst_L12 u g fu y μ1) Q := by
    intro m
    induction m with
    | zero =>
      intro fu y μ1 hfu y0 hy hF hK
      cases fu with
      | zero => omega
      | succ fu =>
        unfold f_X10_isFirst_L12
        rw [hF.2 28 (by decide), ho.1, if_neg (by omega)]
        refine hg μ1 hF fun k k0 k1 => ?_
        have hb1 := bak_rg hn hu
        have hb2 := prm_rg hn hb1 ⟨k0, k1⟩
        have hb3 := (bak_prm hn hu ⟨k0, k1⟩).2
        have h1 := hK _ hb2.1 (by omega)
        rw [hb3] at h1
        exact h1
    | succ m ih =>
      intro fu y μ1 hfu y0 hy hF hK
      cases fu with
      | zero => omega
      | succ fu =>
        have hpr := prm_rg hn hu (k := y) ⟨y0, by omega⟩
        unfold f_X10_isFirst_L12
        simp only [zlet]
        rw [hF.2 28 (by decide), ho.1, if_pos (by omega), zw_eq (x := 4 * u) (by omega) (by omega), zw_eq (x := 4 * u + y) (by omega) (by omega), zw_eq (x := y + 1) (by omega) (by omega), chk_pos (by omega), hF.1 133 (by decide) (by decide), ho.2.2 u y hu.1 hu.2 y0 (by omega), chk_pos (by omega)]
        refine ih fu (y + 1) _ (by omega) (by omega) (by omega) (hF.up (by decide) (by decide) _ _) fun k k0 k1 => ?_
        rw [zup_s]
        by_cases hky : k = y
        · rw [hky, up1_s]
        · have hne : prm n u k ≠ prm n u y := by
            intro e
            have h1 := (bak_prm hn hu (k := k) ⟨k0, by omega⟩).1
            have h2 := (bak_prm hn hu (k := y) ⟨y0, by omega⟩).1
            rw [e, h2] at h1
            exact hky h1.symm
          rw [up1_n _ _ hne]
          exact hK k k0 (by omega)
  exact key n.toNat zfu 0 μ (by unfold zfu; omega) (by omega) (by omega) (Fm.refl _ _ _) (fun k a b => by omega)
theorem prm_rnb {n a u k : Int} (hn : 2 ≤ n ∧ n ≤ 4) (ha : 0 ≤ a ∧ a < fct n) (hu : 0 ≤ u ∧ u < fct n) (hk : 0 ≤ k ∧ k < n) : prm n (rnb n a u) k = prm n u (prm n a (prm n (bak n u) k)) := by
  have hb := bak_rg hn hu
  unfold rnb
  rw [prm_fol hn (fol_rg hn hb ha) hu hk, prm_fol hn hb ha hk]
/-- one turn of the table against the same turn numbered anew -/
theorem m_rowCmp {μ : zMem} {n N u x : Int} {t : Int → Int} {g : Int → zMem → Option (Int × zMem)} (hn : 2 ≤ n ∧ n ≤ 4) (ho : MOr μ n) (hN : N ≤ 16) (hb : MTb μ n N t) (ht : TbR n N t) (hB : MBk μ n u) (hu : 0 ≤ u ∧ u < fct n) (hx : 0 ≤ x ∧ x < N) : ∃ d, f_X10_isFirst_L61 u x g zfu 0 0 μ = g d μ ∧ (d = 0 ↔ rnb n (t x) u = t x) ∧ (0 < d ↔ rnb n (t x) u < t x) := by
  have hfc := fct_pos hn
  have hta := ht x hx.1 hx.2
  have hrr := rnb_rg hn hta hu
  have hbu := bak_rg hn hu
  have key : ∀ (m fu : Nat) (k : Int), m + 1 < fu → 0 ≤ k → k + m = n → (∀ i, 0 ≤ i → i < k → prm n (rnb n (t x) u) i = prm n (t x) i) → ∃ d, f_X10_isFirst_L61 u x g fu 0 k μ = g d μ ∧ (d = 0 ↔ rnb n (t x) u = t x) ∧ (0 < d ↔ rnb n (t x) u < t x) := by
    intro m
    induction m with
    | zero =>
      intro fu k hfu k0 hk hE
      cases fu with
      | zero => omega
      | succ fu =>
        have e : rnb n (t x) u = t x := prm_inj hn hrr hta fun i a b => hE i a (by omega)
        refine ⟨0, ?_, by omega, by omega⟩
        unfold f_X10_isFirst_L61
        rw [ho.1, if_neg (by omega)]
    | succ m ih =>
      intro fu k hfu k0 hk hE
      cases fu with
      | zero => omega
      | succ fu =>
        have hkn : 0 ≤ k ∧ k < n := ⟨k0, by omega⟩
        have p1 := prm_rg hn hbu hkn
        have p2 := prm_rg hn hta p1
        have p3 := prm_rg hn hu p2
        have p4 := prm_rg hn hta hkn
        have hpr := prm_rnb hn hta hu hkn
        have hstep : f_X10_isFirst_L61 u x g (fu + 1) 0 k μ = f_X10_isFirst_L61 u x g fu (prm n (t x) k - prm n (rnb n (t x) u) k) (k + 1) μ := by
          conv => lhs; unfold f_X10_isFirst_L61
          simp only [zlet]
          rw [ho.1, if_pos (by omega), if_pos trivial, chk_pos (by omega), hB k k0 hkn.2, zw_eq (x := 4 * x) (by omega) (by omega), zw_eq (x := 4 * x + prm n (bak n u) k) (by omega) (by omega), chk_pos (by omega), (hb x _ hx.1 hx.2 p1.1 p1.2).1, zw_eq (x := 4 * u) (by omega) (by omega), zw_eq (x := 4 * u + prm n (t x) (prm n (bak n u) k)) (by omega) (by omega), chk_pos (by omega), ho.2.2 u _ hu.1 hu.2 p2.1 p2.2, zw_eq (x := 4 * x + k) (by omega) (by omega), chk_pos (by omega), (hb x k hx.1 hx.2 k0 hkn.2).1, zw_eq (x := k + 1) (by omega) (by omega), zw_eq (by omega) (by omega), hpr]
        rw [hstep]
        by_cases he : prm n (rnb n (t x) u) k = prm n (t x) k
        · rw [he, Int.sub_self]
          refine ih fu (k + 1) (by omega) (by omega) (by omega) fun i a b => ?_
          by_cases hik : i = k
          · rw [hik]; exact he
          · exact hE i a (by omega)
        · have hne : rnb n (t x) u ≠ t x := fun e => he (by rw [e])
          have hout : f_X10_isFirst_L61 u x g fu (prm n (t x) k - prm n (rnb n (t x) u) k) (k + 1) μ = g (prm n (t x) k - prm n (rnb n (t x) u) k) μ := by
            cases fu with
            | zero => omega
            | succ fu =>
              unfold f_X10_isFirst_L61
              by_cases h : k + 1 < μ 101 28
              · rw [if_pos h, if_neg (by omega)]
              · rw [if_neg h]
          refine ⟨_, hout, by omega, ?_⟩
          rcases Int.lt_or_gt_of_ne hne with hlt | hgt
          · obtain ⟨j, j0, j1, j2, j3⟩ := prm_lt hn hrr hta hlt
            have : j = k := by
              by_cases h1 : j < k
              · have := hE j j0 h1; omega
              · by_cases h2 : k < j
                · exact absurd (j3 k k0 h2) he
                · omega
            subst this
            omega
          · obtain ⟨j, j0, j1, j2, j3⟩ := prm_lt hn hta hrr hgt
            have : j = k := by
              by_cases h1 : j < k
              · have := hE j j0 h1; omega
              · by_cases h2 : k < j
                · exact absurd (j3 k k0 h2).symm he
                · omega
            subst this
            omega
  exact key n.toNat zfu 0 (by unfold zfu; omega) (by omega) (by omega) (fun i a b => by omega)
