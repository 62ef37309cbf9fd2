/-! rows of numbers: places, swaps, the first row with a cell -/
theorem ix_rg {H W i k : Int} (hi : 0 ≤ i ∧ i < H) (hk : 0 ≤ k ∧ k < W) : 0 ≤ i * W + k ∧ i * W + k < H * W := by
  have h1 : 0 ≤ i * W := Int.mul_nonneg hi.1 (by omega)
  have h2 : (i + 1) * W ≤ H * W := Int.mul_le_mul_of_nonneg_right (by omega) (by omega)
  rw [Int.add_mul, Int.one_mul] at h2
  omega
theorem ix_inj {W i k i' k' : Int} (hk : 0 ≤ k ∧ k < W) (hk' : 0 ≤ k' ∧ k' < W) (h : i * W + k = i' * W + k') : i = i' ∧ k = k' := by
  have a1 : (k + i * W) / W = i := by rw [Int.add_mul_ediv_right _ _ (by omega), Int.ediv_eq_zero_of_lt hk.1 hk.2, Int.zero_add]
  have a2 : (k' + i' * W) / W = i' := by rw [Int.add_mul_ediv_right _ _ (by omega), Int.ediv_eq_zero_of_lt hk'.1 hk'.2, Int.zero_add]
  have e : i = i' := by rw [← a1, ← a2, show k + i * W = k' + i' * W by omega]
  refine ⟨e, ?_⟩
  rw [e] at h
  omega
abbrev Mx : Type := Int → Int → Int
def swp (A : Mx) (a b : Int) : Mx := fun i k => if i = a then A b k else if i = b then A a k else A i k
def fsR (A : Mx) (c : Int) : Nat → Int → Int
  | 0, _ => -1
  | m + 1, i => if A i c = 0 then fsR A c m (i + 1) else i
theorem fsR_spec (A : Mx) (c : Int) : ∀ (m : Nat) (i : Int), 0 ≤ i → (fsR A c m i = -1 ∧ ∀ j, i ≤ j → j < i + m → A j c = 0) ∨ (i ≤ fsR A c m i ∧ fsR A c m i < i + m ∧ A (fsR A c m i) c ≠ 0) := by
  intro m
  induction m with
  | zero => intro i _; exact Or.inl ⟨rfl, fun j a b => by omega⟩
  | succ m ih =>
    intro i hi
    unfold fsR
    by_cases h : A i c = 0
    · rw [if_pos h]
      rcases ih (i + 1) (by omega) with ⟨h1, h2⟩ | ⟨h1, h2, h3⟩
      · refine Or.inl ⟨h1, fun j a b => ?_⟩
        by_cases e : j = i
        · rw [e]; exact h
        · exact h2 j (by omega) (by omega)
      · exact Or.inr ⟨by omega, by omega, h3⟩
    · rw [if_neg h]
      exact Or.inr ⟨by omega, by omega, h⟩
theorem fsR_cg {A B : Mx} {c c' : Int} : ∀ (m : Nat) (i : Int), (∀ j, i ≤ j → j < i + m → (A j c = 0 ↔ B j c' = 0)) → fsR A c m i = fsR B c' m i := by
  intro m
  induction m with
  | zero => intro i _; rfl
  | succ m ih =>
    intro i h
    unfold fsR
    have h0 := h i (by omega) (by omega)
    by_cases q : A i c = 0
    · rw [if_pos q, if_pos (h0.mp q)]
      exact ih (i + 1) fun j a b => h j (by omega) (by omega)
    · rw [if_neg q, if_neg (fun x => q (h0.mpr x))]
/-- one column after another: how many pivots; f: a cell below anew, of the last pivot, the pivot, the head, the pivot's row's cell, the cell -/
def elG (f : Int → Int → Int → Int → Int → Int) (H : Int) : Nat → Int → Int → Int → Mx → Int
  | 0, _, r, _, _ => r
  | n + 1, m, r, c, A => if r < H then (if fsR A c (H - r).toNat r = -1 then elG f H n m r (c + 1) A else elG f H n (A (fsR A c (H - r).toNat r) c) (r + 1) (c + 1) (fun i k => if r < i ∧ c ≤ k then f m (swp A (fsR A c (H - r).toNat r) r r c) (swp A (fsR A c (H - r).toNat r) r i c) (swp A (fsR A c (H - r).toNat r) r r k) (swp A (fsR A c (H - r).toNat r) r i k) else swp A (fsR A c (H - r).toNat r) r i k)) else r
/-- the class's rows -/
def CM (μ : zMem) (H W : Int) (A : Mx) : Prop := μ 23 3 = H ∧ μ 23 4 = W ∧ ∀ i k, 0 ≤ i → i < H → 0 ≤ k → k < W → μ 24 (i * W + k) = A i k
def HW (H W : Int) : Prop := 0 ≤ H ∧ H ≤ 48 ∧ 0 ≤ W ∧ W ≤ 48 ∧ H * W ≤ 1536
def Fr (μ μ' : zMem) : Prop := (∀ k, k ≠ 24 → μ' k = μ k)
theorem HW.ix {H W i k : Int} (h : HW H W) (hi : 0 ≤ i ∧ i < H) (hk : 0 ≤ k ∧ k < W) : zw (i * W) = i * W ∧ zw (i * W + k) = i * W + k ∧ 0 ≤ i * W + k ∧ i * W + k < 1536 := by
  have h1 := ix_rg hi hk
  have h2 := ix_rg (W := W) hi (k := 0) ⟨by omega, by omega⟩
  obtain ⟨a, b, c, d, e⟩ := h
  exact ⟨zw_eq (by omega) (by omega), zw_eq (by omega) (by omega), h1.1, by omega⟩
theorem c_rowWith {μ : zMem} {H W c r : Int} {A : Mx} (hw : HW H W) (h : CM μ H W A) (hc : 0 ≤ c ∧ c < W) (hr : 0 ≤ r ∧ r ≤ H) : f_X2_rowWith c r μ = some (fsR A c (H - r).toNat r) := by
  have hH := hw.2.1
  have key : ∀ (m fu : Nat) (i : Int), m < fu → 0 ≤ i → i + m = H → f_X2_rowWith_L2 c μ fu i = some (fsR A c m i) := by
    intro m
    induction m with
    | zero =>
      intro fu i hfu i0 hi
      cases fu with
      | zero => omega
      | succ fu =>
        unfold f_X2_rowWith_L2
        rw [h.1, if_neg (by omega)]
        rfl
    | succ m ih =>
      intro fu i hfu i0 hi
      cases fu with
      | zero => omega
      | succ fu =>
        obtain ⟨e1, e2, e3, e4⟩ := hw.ix (i := i) (k := c) ⟨i0, by omega⟩ hc
        unfold f_X2_rowWith_L2 fsR
        simp only [zlet]
        rw [h.1, h.2.1, if_pos (by omega), e1, e2, chk_pos ⟨e3, e4⟩, h.2.2 i c i0 (by omega) hc.1 hc.2, zw_eq (by omega) (by omega)]
        by_cases q : A i c = 0
        · rw [if_pos q, if_pos q]
          exact ih fu (i + 1) (by omega) (by omega) (by omega)
        · rw [if_neg q, if_neg q]
  unfold f_X2_rowWith
  exact key (H - r).toNat zfu r (by unfold zfu; omega) hr.1 (by omega)
theorem c_swapRows {μ : zMem} {H W a b : Int} {A : Mx} (hw : HW H W) (h : CM μ H W A) (ha : 0 ≤ a ∧ a < H) (hb : 0 ≤ b ∧ b < H) : Ok (f_X2_swapRows a b μ) (fun μ' => Fr μ μ' ∧ CM μ' H W (swp A a b)) := by
  have hW := hw.2.2.2.1
  have hW0 := hw.2.2.1
  by_cases hab : a = b
  · have z1 : zfu = (zfu - 1) + 1 := by unfold zfu; omega
    have es : swp A a b = A := by
      funext i k
      unfold swp
      by_cases q : i = a
      · rw [if_pos q, q, hab]
      · rw [if_neg q, if_neg (by omega)]
    unfold f_X2_swapRows
    rw [z1, es]
    unfold f_X2_swapRows_L2
    rw [h.2.1]
    by_cases q : 0 < W
    · rw [if_pos q, if_pos hab]
      exact ok_some.mpr ⟨fun _ _ => rfl, h⟩
    · rw [if_neg q]
      exact ok_some.mpr ⟨fun _ _ => rfl, h⟩
  · have key : ∀ (m fu : Nat) (x : Int) (μ1 : zMem), m < fu → 0 ≤ x → x + m = W → Fr μ μ1 → (∀ i k, 0 ≤ i → i < H → 0 ≤ k → k < W → μ1 24 (i * W + k) = if k < x then swp A a b i k else A i k) → Ok (f_X2_swapRows_L2 a b fu x μ1) (fun μ' => Fr μ μ' ∧ CM μ' H W (swp A a b)) := by
      intro m
      induction m with
      | zero =>
        intro fu x μ1 hfu x0 hx g1 g2
        cases fu with
        | zero => omega
        | succ fu =>
          unfold f_X2_swapRows_L2
          rw [g1 23 (by decide), h.2.1, if_neg (by omega)]
          refine ok_some.mpr ⟨g1, by rw [g1 23 (by decide)]; exact h.1, by rw [g1 23 (by decide)]; exact h.2.1, fun i k i0 i1 k0 k1 => ?_⟩
          rw [g2 i k i0 i1 k0 k1, if_pos (by omega)]
      | succ m ih =>
        intro fu x μ1 hfu x0 hx g1 g2
        cases fu with
        | zero => omega
        | succ fu =>
          have hxW : 0 ≤ x ∧ x < W := ⟨x0, by omega⟩
          obtain ⟨a1, a2, a3, a4⟩ := hw.ix ha hxW
          obtain ⟨b1, b2, b3, b4⟩ := hw.ix hb hxW
          unfold f_X2_swapRows_L2
          simp only [zlet]
          rw [zup_n _ _ _ (by decide), g1 23 (by decide), h.2.1, if_pos (by omega), if_neg hab, a1, a2, b1, b2, chk_pos ⟨a3, a4⟩, chk_pos ⟨b3, b4⟩, chk_pos ⟨a3, a4⟩, chk_pos ⟨b3, b4⟩, zw_eq (by omega) (by omega)]
          have va := g2 a x ha.1 ha.2 x0 hxW.2
          have vb := g2 b x hb.1 hb.2 x0 hxW.2
          rw [if_neg (by omega)] at va vb
          rw [va, vb]
          refine ih fu (x + 1) _ (by omega) (by omega) (by omega) (fun k hk => by rw [zup_n _ _ _ hk, zup_n _ _ _ hk]; exact g1 k hk) (fun i k i0 i1 k0 k1 => ?_)
          rw [zup_s, zup_s]
          by_cases hk : k = x
          · subst hk
            rw [if_pos (by omega)]
            unfold swp
            by_cases hib : i = b
            · rw [hib, up1_s, if_neg (by omega), if_pos rfl]
            · rw [up1_n _ _ (fun q => hib (ix_inj hxW hxW q).1)]
              by_cases hia : i = a
              · rw [hia, up1_s, if_pos rfl]
              · rw [up1_n _ _ (fun q => hia (ix_inj hxW hxW q).1), if_neg hia, if_neg hib, g2 i k i0 i1 k0 k1, if_neg (by omega)]
          · rw [up1_n _ _ (fun q => hk (ix_inj ⟨k0, k1⟩ hxW q).2), up1_n _ _ (fun q => hk (ix_inj ⟨k0, k1⟩ hxW q).2), g2 i k i0 i1 k0 k1]
            by_cases q : k < x
            · rw [if_pos q, if_pos (by omega)]
            · rw [if_neg q, if_neg (by omega)]
    unfold f_X2_swapRows
    exact key W.toNat zfu 0 μ (by unfold zfu; omega) (by omega) (by omega) (fun _ _ => rfl) (fun i k i0 i1 k0 k1 => by rw [if_neg (by omega)]; exact h.2.2 i k i0 i1 k0 k1)
