theorem zsh_40 (k : Int) : (zsh k).2 ≤ 40000 := by
  have h : ∀ q ∈ zshL, q.2 ≤ 40000 := by decide +kernel
  unfold zsh
  rw [List.getD_eq_getElem?_getD]
  cases hq : zshL[k.toNat]? with
  | none => exact Nat.zero_le _
  | some q => exact h q (List.mem_of_getElem? hq)
theorem c_fill {μ : zMem} {k v : Int} : Ok (f_J7_fill_53178 k v μ) (fun μ' => (∀ k', k' ≠ k → μ' k' = μ k') ∧ ∀ i, μ' k i = if 0 ≤ i ∧ i < zlen k then v else μ k i) := by
  have hl := zlen_rg k
  unfold Rg at hl
  have key : ∀ (n : Nat) (x : Int) (μ1 : zMem), 0 ≤ x → x ≤ zlen k → (zlen k - x).toNat < n → (∀ k', k' ≠ k → μ1 k' = μ k') → (∀ i, μ1 k i = if 0 ≤ i ∧ i < x then v else μ k i) → Ok (f_J7_fill_53178_L5 k v (zlen k) n x μ1) (fun μ' => (∀ k', k' ≠ k → μ' k' = μ k') ∧ ∀ i, μ' k i = if 0 ≤ i ∧ i < zlen k then v else μ k i) := by
    intro n
    induction n with
    | zero => intro x μ1 _ _ h; omega
    | succ n ih =>
      intro x μ1 h0 h1 h2 f1 f2
      unfold f_J7_fill_53178_L5
      by_cases hx : x < zlen k
      · rw [if_pos hx, chk_pos ⟨h0, hx⟩]
        simp only [zlet]
        rw [zw_eq (by omega) (by omega)]
        refine ih (x + 1) _ (by omega) (by omega) (by omega) (fun k' a => by rw [zup_n _ _ _ a]; exact f1 k' a) (fun i => ?_)
        rw [zup_s, up1_e]
        by_cases hi : i = x
        · rw [if_pos hi, if_pos (by omega)]
        · rw [if_neg hi, f2]
          by_cases hi2 : 0 ≤ i ∧ i < x
          · rw [if_pos hi2, if_pos (by omega)]
          · rw [if_neg hi2, if_neg (by omega)]
      · rw [if_neg hx]
        have : x = zlen k := by omega
        subst this
        exact ok_some.mpr ⟨f1, f2⟩
  have h3 : (zlen k).toNat < zfu := by
    have := zsh_40 k
    unfold zlen zfu
    omega
  exact key zfu 0 μ (by omega) (by unfold zlen; omega) (by omega) (fun _ _ => rfl) (fun i => by rw [if_neg (by omega)])
theorem c_renew {μ : zMem} {q lane n : Int} (hq : 0 ≤ q ∧ q < 4) : Ok (f_X3_renew (66 + 2 * q) lane n μ) (fun μ' => (∀ k, k ≠ 66 + 2 * q → k ≠ 67 + 2 * q → μ' k = μ k) ∧ μ' (66 + 2 * q) 1 = lane ∧ μ' (66 + 2 * q) 2 = n ∧ ∀ i, 0 ≤ i → i < 20 → μ' (66 + 2 * q + 1) i = 0) := by
  have hz : zlen (66 + 2 * q + 1) = 20 := by
    have : q = 0 ∨ q = 1 ∨ q = 2 ∨ q = 3 := by omega
    rcases this with h | h | h | h <;> subst h <;> decide
  unfold f_X3_renew
  simp only [zlet]
  refine ok_bnd.mpr (c_fill.imp fun μ' f => ok_some.mpr ⟨fun k a b => ?_, ?_, ?_, fun i a b => ?_⟩)
  · rw [f.1 k (by omega)]
    simp (disch := omega) only [zup_n]
  · rw [f.1 _ (by omega)]
    simp (disch := omega) only [zup_s, up1_s, up1_n]
  · rw [f.1 _ (by omega)]
    simp (disch := omega) only [zup_s, up1_s]
  · rw [f.2, if_pos (by omega)]
theorem m_sheetL {x1 x3 : Int} (hq : 0 ≤ x1 ∧ x1 < 4) (μ : zMem) : Ok (f_X10_sheet_L48 x1 x3 zfu 0 μ) (fun w => w.1 = x3 ∧ (∀ k, k ≠ 160 → w.2 k = μ k) ∧ ∀ i, w.2 160 i = if 20 * x1 ≤ i ∧ i < 20 * x1 + 20 then 0 else μ 160 i) := by
  have key : ∀ (n : Nat) (x : Int) (μ1 : zMem), 0 ≤ x → x ≤ 20 → (20 - x).toNat < n → (∀ k', k' ≠ 160 → μ1 k' = μ k') → (∀ i, μ1 160 i = if 20 * x1 ≤ i ∧ i < 20 * x1 + x then 0 else μ 160 i) → Ok (f_X10_sheet_L48 x1 x3 n x μ1) (fun w => w.1 = x3 ∧ (∀ k, k ≠ 160 → w.2 k = μ k) ∧ ∀ i, w.2 160 i = if 20 * x1 ≤ i ∧ i < 20 * x1 + 20 then 0 else μ 160 i) := by
    intro n
    induction n with
    | zero => intro x μ1 _ _ h; omega
    | succ n ih =>
      intro x μ1 h0 h1 h2 f1 f2
      unfold f_X10_sheet_L48
      by_cases hx : x < 20
      · rw [if_pos hx, zw_eq (x := 20 * x1) (by omega) (by omega), zw_eq (x := 20 * x1 + x) (by omega) (by omega), chk_pos (by omega)]
        simp only [zlet]
        rw [zw_eq (by omega) (by omega)]
        refine ih (x + 1) _ (by omega) (by omega) (by omega) (fun k' a => by rw [zup_n _ _ _ a]; exact f1 k' a) (fun i => ?_)
        rw [zup_s, up1_e]
        by_cases hi : i = 20 * x1 + x
        · rw [if_pos hi, if_pos (by omega)]
        · rw [if_neg hi, f2]
          by_cases hi2 : 20 * x1 ≤ i ∧ i < 20 * x1 + x
          · rw [if_pos hi2, if_pos (by omega)]
          · rw [if_neg hi2, if_neg (by omega)]
      · rw [if_neg hx]
        have : x = 20 := by omega
        subst this
        exact ok_some.mpr ⟨rfl, f1, f2⟩
  exact key zfu 0 μ (by omega) (by omega) (by decide) (fun _ _ => rfl) (fun i => by rw [if_neg (by omega)])
theorem sim_sheet {μ : zMem} {a b c : Int} (h : Rel μ) : Ok (f_X9_sheet a b c μ) (fun v => Ok (f_X10_sheet a b c v.2) (fun w => w.1 = v.1 ∧ Rel w.2)) := by
  have same : ∀ r : Int, f_X9_sheet a b c μ = some (r, μ) → f_X10_sheet a b c μ = some (r, μ) → Ok (f_X9_sheet a b c μ) (fun v => Ok (f_X10_sheet a b c v.2) (fun w => w.1 = v.1 ∧ Rel w.2)) := fun r e1 e2 => by
    rw [e1]; refine ok_some.mpr ?_; show Ok (f_X10_sheet a b c μ) _; rw [e2]; exact ok_some.mpr ⟨rfl, h⟩
  by_cases h1 : 0 ≤ a ∧ a ≤ 3
  · by_cases h2 : 0 ≤ b ∧ b ≤ 2
    · by_cases h3 : c ≤ 20
      · by_cases h4 : c < 0
        · refine same (-14) ?_ ?_
          · unfold f_X9_sheet; rw [if_neg (fun e => isSheet0.mp e h1), if_neg (fun e => isLane0.mp e h2), if_pos h3, if_pos h4]
          · unfold f_X10_sheet; rw [if_neg (fun e => isSheetM0.mp e h1), if_neg (fun e => in0.mp e h2), if_pos h3, if_pos h4]
        · have h5 := h.1.2.2 a (by omega) (by omega)
          unfold f_X9_sheet
          rw [if_neg (fun e => isSheet0.mp e h1), if_neg (fun e => isLane0.mp e h2), if_pos h3, if_neg h4, chk_pos (by omega), h5.2, chk_pos (by omega)]
          simp only [zlet]
          refine ok_bnd.mpr ((c_renew (by omega)).imp fun μ1 f => ok_some.mpr ?_)
          obtain ⟨f1, f2, f3, f4⟩ := f
          show Ok (f_X10_sheet a b c μ1) _
          unfold f_X10_sheet
          rw [if_neg (fun e => isSheetM0.mp e h1), if_neg (fun e => in0.mp e h2), if_pos h3, if_neg h4, chk_pos (by omega)]
          simp only [zlet]
          rw [chk_pos (by omega)]
          refine (m_sheetL (by omega) _).imp fun w g => ?_
          obtain ⟨g1, g2, g3⟩ := g
          refine ⟨g1, h.she ⟨fun k hk hx => ?_, ?_, ?_, ?_⟩ fun q a0 b0 => ?_⟩
          · unfold shX at hx
            rw [g2 k (by omega), zup_n _ _ _ (by omega), zup_n _ _ _ (by omega), f1 k (by omega) (by omega)]
          · rw [g2 1 (by omega), zup_n _ _ _ (by omega), zup_n _ _ _ (by omega), f1 1 (by omega) (by omega)]
          · rw [g2 19 (by omega), zup_n _ _ _ (by omega), zup_n _ _ _ (by omega), f1 19 (by omega) (by omega)]
          · intro i _
            rw [g2 101 (by omega), zup_n _ _ _ (by omega), zup_n _ _ _ (by omega), f1 101 (by omega) (by omega)]
          · have hold := h.2.2.2.2.1 q a0 b0
            unfold ShR at hold ⊢
            have e1 : w.2 (66 + 2 * q) = μ1 (66 + 2 * q) := by rw [g2 _ (by omega), zup_n _ _ _ (by omega), zup_n _ _ _ (by omega)]
            have e2 : w.2 (66 + 2 * q + 1) = μ1 (66 + 2 * q + 1) := by rw [g2 _ (by omega), zup_n _ _ _ (by omega), zup_n _ _ _ (by omega)]
            have e3 : w.2 158 = up1 (μ1 158) a b := by rw [g2 _ (by omega), zup_n _ _ _ (by omega), zup_s]
            have e4 : w.2 159 = up1 (μ1 159) a c := by rw [g2 _ (by omega), zup_s, zup_n _ _ _ (by omega)]
            have e5 : ∀ i, w.2 160 i = if 20 * a ≤ i ∧ i < 20 * a + 20 then 0 else μ1 160 i := fun i => by rw [g3 i, zup_n _ _ _ (by omega), zup_n _ _ _ (by omega)]
            rw [e1, e2, e3, e4]
            simp only [e5]
            by_cases hqa : q = a
            · subst hqa
              refine Or.inr ⟨by omega, by omega, by rw [up1_s, f2], by rw [up1_s, f3], by omega, by omega, fun i c0 c1 => ?_⟩
              rw [if_pos (by omega), f4 i c0 c1]
              exact ⟨rfl, by unfold Rg; omega⟩
            · rw [up1_n _ _ hqa, up1_n _ _ hqa, f1 (66 + 2 * q) (by omega) (by omega), f1 (66 + 2 * q + 1) (by omega) (by omega), f1 158 (by omega) (by omega), f1 159 (by omega) (by omega), f1 160 (by omega) (by omega)]
              rcases hold with h | ⟨o1, o2, o3, o4, o5, o6, o7⟩
              · exact Or.inl h
              · exact Or.inr ⟨o1, o2, o3, o4, o5, o6, fun i c0 c1 => by rw [if_neg (by omega)]; exact o7 i c0 c1⟩
      · refine same (-1) ?_ ?_
        · unfold f_X9_sheet; rw [if_neg (fun e => isSheet0.mp e h1), if_neg (fun e => isLane0.mp e h2), if_neg h3]
        · unfold f_X10_sheet; rw [if_neg (fun e => isSheetM0.mp e h1), if_neg (fun e => in0.mp e h2), if_neg h3]
    · refine same (-1) ?_ ?_
      · unfold f_X9_sheet; rw [if_neg (fun e => isSheet0.mp e h1), if_pos (isLane0.mpr h2)]
      · unfold f_X10_sheet; rw [if_neg (fun e => isSheetM0.mp e h1), if_pos (in0.mpr h2)]
  · refine same (-1) ?_ ?_
    · unfold f_X9_sheet; rw [if_pos (isSheet0.mpr h1)]
    · unfold f_X10_sheet; rw [if_pos (isSheetM0.mpr h1)]
/-- both sides refuse alike -/
theorem sim_same {x : Option (Int × zMem)} {fM : zMem → Option (Int × zMem)} {μ : zMem} {r : Int} (h : Rel μ) (e1 : x = some (r, μ)) (e2 : fM μ = some (r, μ)) : Ok x (fun v => Ok (fM v.2) (fun w => w.1 = v.1 ∧ Rel w.2)) := by
  rw [e1]; refine ok_some.mpr ?_; show Ok (fM μ) _; rw [e2]; exact ok_some.mpr ⟨rfl, h⟩
theorem ShR.lane {μ : zMem} {q : Int} (h : ShR μ q) : (μ 158 q < 0 ↔ μ (66 + 2 * q) 1 = -1) ∧ (¬ μ 158 q < 0 → μ 158 q = μ (66 + 2 * q) 1) := by
  unfold ShR at h
  omega
theorem sim_drop {μ : zMem} {a : Int} (h : Rel μ) : Ok (f_X9_drop a μ) (fun v => Ok (f_X10_drop a v.2) (fun w => w.1 = v.1 ∧ Rel w.2)) := by
  by_cases h1 : 0 ≤ a ∧ a ≤ 3
  · have h5 := h.1.2.2 a (by omega) (by omega)
    have hs := h.2.2.2.2.1 a (by omega) (by omega)
    have hl := hs.lane
    by_cases h2 : μ (66 + 2 * a) 1 = -1
    · refine sim_same h (r := -11) ?_ ?_
      · unfold f_X9_drop
        rw [if_neg (fun e => isSheet0.mp e h1), chk_pos (by omega), h5.2, chk_pos (by omega)]
        simp only [zlet]
        rw [if_pos h2]
      · unfold f_X10_drop
        rw [if_neg (fun e => isSheetM0.mp e h1), chk_pos (by omega), if_pos (hl.1.mpr h2)]
    · have hs' := hs
      unfold ShR at hs'
      rcases hs' with hs' | ⟨o1, o2, o3, o4, o5, o6, o7⟩
      · exact absurd hs'.1 h2
      unfold f_X9_drop
      rw [if_neg (fun e => isSheet0.mp e h1), chk_pos (by omega), h5.2, chk_pos (by omega)]
      simp only [zlet]
      rw [if_neg h2, chk_pos (by omega), chk_pos (by omega), chk_pos (by omega), chk_pos (by omega)]
      refine ok_bnd.mpr ((c_renew (by omega)).imp fun μ1 f => ok_some.mpr ?_)
      obtain ⟨f1, f2, f3, f4⟩ := f
      show Ok (f_X10_drop a μ1) _
      unfold f_X10_drop
      rw [f1 158 (by omega) (by omega), if_neg (fun e => isSheetM0.mp e h1), chk_pos (by omega), if_neg (by omega), chk_pos (by omega)]
      simp only [zlet]
      rw [chk_pos (by omega), zup_n _ _ _ (by omega), f1 159 (by omega) (by omega)]
      refine ok_some.mpr ⟨o4, h.she ⟨fun k hk hx => ?_, ?_, ?_, ?_⟩ fun q a0 b0 => ?_⟩
      · unfold shX at hx
        simp only
        rw [zup_n _ _ _ (by omega), f1 k (by omega) (by omega)]
      · simp only
        rw [zup_n _ _ _ (by omega), f1 1 (by omega) (by omega)]
      · simp only
        rw [zup_n _ _ _ (by omega), f1 19 (by omega) (by omega)]
      · intro i _
        simp only
        rw [zup_n _ _ _ (by omega), f1 101 (by omega) (by omega)]
      · have hold := h.2.2.2.2.1 q a0 b0
        unfold ShR at hold ⊢
        simp only
        simp (disch := omega) only [zup_s, zup_n]
        by_cases hqa : q = a
        · subst hqa
          exact Or.inl ⟨f2, by rw [up1_s]⟩
        · rw [up1_n _ _ hqa, f1 (66 + 2 * q) (by omega) (by omega), f1 (66 + 2 * q + 1) (by omega) (by omega), f1 158 (by omega) (by omega), f1 159 (by omega) (by omega), f1 160 (by omega) (by omega)]
          exact hold
  · refine sim_same h (r := -1) ?_ ?_
    · unfold f_X9_drop; rw [if_pos (isSheet0.mpr h1)]
    · unfold f_X10_drop; rw [if_pos (isSheetM0.mpr h1)]
theorem refuse {μ : zMem} (h : Rel μ) (a b : Int) : f_X9_refuseRow a b μ = some (if ¬ (0 ≤ a ∧ a ≤ 3) ∨ ¬ (0 ≤ b ∧ b ≤ 2) then -1 else if μ (66 + 2 * a) 1 = -1 then -11 else if μ (66 + 2 * a) 1 = b then 0 else -12) := by
  unfold f_X9_refuseRow
  by_cases h1 : 0 ≤ a ∧ a ≤ 3
  · by_cases h2 : 0 ≤ b ∧ b ≤ 2
    · have h5 := h.1.2.2 a (by omega) (by omega)
      rw [if_neg (fun e => isSheet0.mp e h1), if_neg (fun e => isLane0.mp e h2), chk_pos (by omega), h5.2, chk_pos (by omega), if_neg (by omega)]
      simp only [zlet]
      by_cases h3 : μ (66 + 2 * a) 1 = -1
      · rw [if_pos h3, if_pos h3]
      · rw [if_neg h3, if_neg h3, chk_pos (by omega), chk_pos (by omega)]
        split <;> rfl
    · rw [if_neg (fun e => isSheet0.mp e h1), if_pos (isLane0.mpr h2), if_pos (Or.inr h2)]
  · rw [if_pos (isSheet0.mpr h1), if_pos (Or.inl h1)]
theorem zb_rg (x : Int) : Rg (zb x) := Rg.t _
theorem zs_rg (x : Int) : Rg (zs x) := Rg.t _
theorem sim_item {μ : zMem} {a b c d : Int} (gd : Rg d) (h : Rel μ) : Ok (f_X9_item a b c d μ) (fun v => Ok (f_X10_item a b c d v.2) (fun w => w.1 = v.1 ∧ Rel w.2)) := by
  by_cases h1 : 0 ≤ a ∧ a ≤ 3
  · by_cases h2 : 0 ≤ b ∧ b ≤ 2
    · have h5 := h.1.2.2 a (by omega) (by omega)
      have hs := h.2.2.2.2.1 a (by omega) (by omega)
      have hl := hs.lane
      by_cases h3 : μ (66 + 2 * a) 1 = -1
      · refine sim_same h (r := -11) ?_ ?_
        · unfold f_X9_item
          rw [refuse h, if_neg (by omega), if_pos h3, bnd_pos rfl, if_neg (by decide)]
        · unfold f_X10_item
          rw [if_neg (fun e => isSheetM0.mp e h1), if_neg (fun e => in0.mp e h2), chk_pos (by omega), if_pos (hl.1.mpr h3)]
      · have h3' : ¬ μ 158 a < 0 := fun e => h3 (hl.1.mp e)
        by_cases h4 : μ (66 + 2 * a) 1 = b
        · have hs' := hs
          unfold ShR at hs'
          rcases hs' with hs' | ⟨o1, o2, o3, o4, o5, o6, o7⟩
          · exact absurd hs'.1 h3
          by_cases h6 : 0 ≤ c ∧ c < μ (66 + 2 * a) 2
          · have hz : zlen (66 + 2 * a + 1) = 20 := by
              have : a = 0 ∨ a = 1 ∨ a = 2 ∨ a = 3 := by omega
              rcases this with h | h | h | h <;> subst h <;> decide
            have hv : f_X3_put (66 + 2 * a) c d μ = some (zup μ (66 + 2 * a + 1) c (if b = 0 then zb d else if b = 1 then zs d else d)) := by
              unfold f_X3_put
              simp only [zlet]
              rw [h4, chk_pos (by omega), chk_pos (by omega), chk_pos (by omega)]
              split
              · rfl
              · split <;> rfl
            have hvr : Rg (if b = 0 then zb d else if b = 1 then zs d else d) := by
              split
              · exact zb_rg d
              · split
                · exact zs_rg d
                · exact gd
            unfold f_X9_item
            rw [refuse h, if_neg (by omega), if_neg h3, if_pos h4, bnd_pos rfl, if_pos rfl, chk_pos (by omega), h5.2, chk_pos (by omega)]
            simp only [zlet]
            rw [if_neg (by omega), if_pos h6.2, hv, bnd_pos rfl]
            refine ok_some.mpr ?_
            have h7 : ¬ f_X10_in c 0 (zw (μ 159 a - 1)) = 0 := fun e => in0.mp e (by rw [zw_eq (by omega) (by omega)]; omega)
            generalize hv0 : (if b = 0 then zb d else if b = 1 then zs d else d) = v at hvr ⊢
            show Ok (f_X10_item a b c d (zup μ (66 + 2 * a + 1) c v)) _
            unfold f_X10_item
            rw [hv0, zup_n _ _ _ (by omega), zup_n _ _ _ (by omega), if_neg (fun e => isSheetM0.mp e h1), if_neg (fun e => in0.mp e h2), chk_pos (by omega), if_neg h3', chk_pos (by omega), if_pos (by omega), chk_pos (by omega), if_neg h7]
            unfold f_X10_item_J95
            rw [zw_eq (x := 20 * a) (by omega) (by omega), zw_eq (x := 20 * a + c) (by omega) (by omega), chk_pos (by omega)]
            simp only [zlet]
            refine ok_some.mpr ⟨rfl, h.she ⟨fun k hk hx => ?_, ?_, ?_, ?_⟩ fun q a0 b0 => ?_⟩
            · unfold shX at hx
              simp (disch := omega) only [zup_n]
            · simp (disch := omega) only [zup_n]
            · simp (disch := omega) only [zup_n]
            · intro i _
              simp (disch := omega) only [zup_n]
            · have hold := h.2.2.2.2.1 q a0 b0
              unfold ShR at hold ⊢
              simp (disch := omega) only [zup_s, zup_n]
              rcases hold with hold | ⟨p1, p2, p3, p4, p5, p6, p7⟩
              · exact Or.inl hold
              · refine Or.inr ⟨p1, p2, p3, p4, p5, p6, fun i c0 c1 => ?_⟩
                have p8 := p7 i c0 c1
                by_cases hqa : q = a
                · subst hqa
                  rw [zup_s, up1_e, up1_e]
                  by_cases hic : i = c
                  · rw [if_pos (by omega), if_pos hic]
                    exact ⟨rfl, hvr⟩
                  · rw [if_neg (by omega), if_neg hic]
                    exact p8
                · rw [up1_n _ _ (by omega), zup_n _ _ _ (by omega)]
                  exact p8
          · have h7 : f_X10_in c 0 (zw (μ 159 a - 1)) = 0 := in0.mpr (by rw [zw_eq (by omega) (by omega)]; omega)
            refine sim_same h (r := -13) ?_ ?_
            · unfold f_X9_item
              rw [refuse h, if_neg (by omega), if_neg h3, if_pos h4, bnd_pos rfl, if_pos rfl, chk_pos (by omega), h5.2, chk_pos (by omega)]
              simp only [zlet]
              by_cases h8 : c < 0
              · rw [if_pos h8]
              · rw [if_neg h8, if_neg (by omega)]
            · unfold f_X10_item
              rw [if_neg (fun e => isSheetM0.mp e h1), if_neg (fun e => in0.mp e h2), chk_pos (by omega), if_neg h3', chk_pos (by omega), if_pos (by omega), chk_pos (by omega), if_pos h7]
        · refine sim_same h (r := -12) ?_ ?_
          · unfold f_X9_item
            rw [refuse h, if_neg (by omega), if_neg h3, if_neg h4, bnd_pos rfl, if_neg (by decide)]
          · unfold f_X10_item
            have := hl.2 h3'
            rw [if_neg (fun e => isSheetM0.mp e h1), if_neg (fun e => in0.mp e h2), chk_pos (by omega), if_neg h3', chk_pos (by omega), if_neg (by omega)]
    · refine sim_same h (r := -1) ?_ ?_
      · unfold f_X9_item
        rw [refuse h, if_pos (Or.inr h2), bnd_pos rfl, if_neg (by decide)]
      · unfold f_X10_item; rw [if_neg (fun e => isSheetM0.mp e h1), if_pos (in0.mpr h2)]
  · refine sim_same h (r := -1) ?_ ?_
    · unfold f_X9_item
      rw [refuse h, if_pos (Or.inl h1), bnd_pos rfl, if_neg (by decide)]
    · unfold f_X10_item; rw [if_pos (isSheetM0.mpr h1)]
