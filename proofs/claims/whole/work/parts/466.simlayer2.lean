/-! the reference keeps what its layer knows -/
theorem m_copyTab {μ : zMem} {g : zMem → Option (Int × zMem)} {Q : Int × zMem → Prop} (hg : ∀ μ', Fm [142, 143] [] μ μ' → (∀ i, 0 ≤ i → i < 64 → μ' 142 i = μ 128 i ∧ μ' 143 i = μ 129 i) → Ok (g μ') Q) : Ok (f_X10_layer_L80 g zfu 0 μ) Q := by
  have key : ∀ (m fu : Nat) (x : Int) (μ1 : zMem), m < fu → 0 ≤ x → x + m = 64 → Fm [142, 143] [] μ μ1 → (∀ i, 0 ≤ i → i < x → μ1 142 i = μ 128 i ∧ μ1 143 i = μ 129 i) → Ok (f_X10_layer_L80 g fu x μ1) Q := by
    intro m
    induction m with
    | zero =>
      intro fu x μ1 hfu x0 hx g1 g2
      cases fu with
      | zero => omega
      | succ fu =>
        unfold f_X10_layer_L80
        rw [if_neg (by omega)]
        exact hg μ1 g1 fun i a b => g2 i a (by omega)
    | succ m ih =>
      intro fu x μ1 hfu x0 hx g1 g2
      cases fu with
      | zero => omega
      | succ fu =>
        unfold f_X10_layer_L80
        simp only [zlet]
        rw [if_pos (by omega), chk_pos (by omega), chk_pos (by omega), chk_pos (by omega), chk_pos (by omega), zw_eq (by omega) (by omega), zup_n _ _ _ (by decide), g1.1 128 (by decide) (by decide), g1.1 129 (by decide) (by decide)]
        refine ih fu (x + 1) _ (by omega) (by omega) (by omega) ((g1.up (by decide) (by decide) _ _).up (by decide) (by decide) _ _) (fun i a b => ?_)
        rw [zup_n _ _ _ (by decide), zup_s, zup_s, zup_n _ _ _ (by decide)]
        by_cases hi : i = x
        · rw [hi, up1_s, up1_s]; exact ⟨rfl, rfl⟩
        · rw [up1_n _ _ hi, up1_n _ _ hi]; exact g2 i a (by omega)
  exact key 64 zfu 0 μ (by unfold zfu; omega) (by omega) (by omega) (Fm.refl _ _ _) (fun i a b => by omega)
def hasE (σ : Sp) (e : Int) : Bool := decide (e < sE σ) && inE σ e
theorem m_knows {μ : zMem} {s : Int} {σ : Sp} {g : zMem → Option (Int × zMem)} {Q : Int × zMem → Prop} (hs : 0 ≤ s ∧ s < 2) (hc : MS μ s σ) (hw : WfE σ 8 12) (hm : MT μ σ) (hg : ∀ μ', Fm [144, 145] [] μ μ' → (∀ e, 0 ≤ e → e < 12 → μ' 145 e = b2i (hasE σ e) ∧ μ' 144 e = if hasE σ e then μ 123 e else -4) → Ok (g μ') Q) : Ok (f_X10_layer_L124 s g zfu 0 μ) Q := by
  have hC := hw.2.1
  have key : ∀ (m fu : Nat) (x : Int) (μ1 : zMem), m < fu → 0 ≤ x → x + m = 12 → Fm [144, 145] [] μ μ1 → (∀ e, 0 ≤ e → e < x → μ1 145 e = b2i (hasE σ e) ∧ μ1 144 e = if hasE σ e then μ 123 e else -4) → Ok (f_X10_layer_L124 s g fu x μ1) Q := by
    intro m
    induction m with
    | zero =>
      intro fu x μ1 hfu x0 hx g1 g2
      cases fu with
      | zero => omega
      | succ fu =>
        unfold f_X10_layer_L124
        rw [if_neg (by omega)]
        exact hg μ1 g1 fun e a b => g2 e a (by omega)
    | succ m ih =>
      intro fu x μ1 hfu x0 hx g1 g2
      cases fu with
      | zero => omega
      | succ fu =>
        have hc1 : MS μ1 s σ := g1.ms (by unfold noSp; decide) hc
        have no : hasE σ x = false → Ok (f_X10_layer_J166 (f_X10_layer_J167 x (f_X10_layer_L124 s g fu)) μ1) Q := by
          intro hh
          unfold f_X10_layer_J166 f_X10_layer_J167 f_X10_layer_J201
          simp only [zlet]
          have z0 : zz 0 = 0 := by decide
          rw [chk_pos (by omega), if_pos trivial, chk_pos (by omega), zw_eq (by omega) (by omega), z0]
          refine ih fu (x + 1) _ (by omega) (by omega) (by omega) ((g1.up (by decide) (by decide) _ _).up (by decide) (by decide) _ _) (fun e a b => ?_)
          rw [zup_n _ _ _ (by decide), zup_s, zup_s, zup_n _ _ _ (by decide)]
          by_cases he : e = x
          · rw [he, up1_s, up1_s, hh]; exact ⟨rfl, rfl⟩
          · rw [up1_n _ _ he, up1_n _ _ he]; exact g2 e a (by omega)
        unfold f_X10_layer_L124
        rw [if_pos (by omega), chk_pos (by omega), hc1.2.1]
        by_cases hx2 : x < sE σ
        · have hb := hw.2.2.2.2 x x0 hx2
          have hft := hc1.2.2.2.1 x x0 hx2
          rw [if_pos hx2, zw_eq (x := 48 * s) (by omega) (by omega), zw_eq (x := 48 * s + x) (by omega) (by omega), chk_pos (by omega), hft.1, chk_pos (by omega), g1.1 120 (by decide) (by decide), hm.1 _ hb.1 (by omega)]
          by_cases hi : inE σ x = true
          · have hi2 : tR σ (sF σ x) = true := hi
            have hh : hasE σ x = true := by unfold hasE; rw [hi]; simp [hx2]
            rw [hi2, if_neg (by decide)]
            unfold f_X10_layer_J167 f_X10_layer_J201
            simp only [zlet]
            have z1 : zz 1 = 1 := by decide
            rw [chk_pos (by omega), if_neg (by decide), chk_pos (by omega), chk_pos (by omega), zw_eq (by omega) (by omega), z1, zup_n (k' := 123) _ _ _ (by decide), g1.1 123 (by decide) (by decide)]
            refine ih fu (x + 1) _ (by omega) (by omega) (by omega) ((g1.up (by decide) (by decide) _ _).up (by decide) (by decide) _ _) (fun e a b => ?_)
            rw [zup_n _ _ _ (by decide), zup_s, zup_s, zup_n _ _ _ (by decide)]
            by_cases he : e = x
            · rw [he, up1_s, up1_s, hh]; exact ⟨rfl, rfl⟩
            · rw [up1_n _ _ he, up1_n _ _ he]; exact g2 e a (by omega)
          · have hi2 : tR σ (sF σ x) = false := Bool.eq_false_iff.mpr hi
            have hh : hasE σ x = false := by unfold hasE; rw [Bool.eq_false_iff.mpr hi, Bool.and_false]
            rw [hi2, if_pos (by decide)]
            exact no hh
        · rw [if_neg hx2]
          exact no (by unfold hasE; simp [hx2])
  exact key 12 zfu 0 μ (by unfold zfu; omega) (by omega) (by omega) (Fm.refl _ _ _) (fun e a b => by omega)
