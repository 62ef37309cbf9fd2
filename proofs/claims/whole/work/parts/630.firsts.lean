/-! the first tables of the shuffles -/
/-- a shuffles' object of n storeys whose table of goals is laid -/
def Sh1 (μ : zMem) (n : Int) : Prop := μ (66 + 4 * n) 0 = n ∧ μ (66 + 4 * n) 1 = fct n ∧ ∀ j k, 0 ≤ j → j < fct n → 0 ≤ k → k < n → μ (66 + 4 * n + 1) (j * n + k) = prm n j k
theorem c_move1 {μ : zMem} {n j k : Int} (hT : Sh1 μ n) (h : 2 ≤ n ∧ n ≤ 4) (hj : 0 ≤ j ∧ j < fct n) (hk : 0 ≤ k ∧ k < n) : f_X4_move (66 + 4 * n) j k μ = some (prm n j k) := by
  obtain ⟨t2, t3, t4⟩ := hT
  have hz : zlen (66 + 4 * n + 1) = fct n * n := by rcases n234 h with h | h | h <;> subst h <;> decide
  have hf := fct_pos h
  have hjn : 0 ≤ j * n ∧ j * n + k < fct n * n ∧ fct n * n ≤ 96 := by
    rcases n234 h with h | h | h <;> subst h <;> omega
  unfold f_X4_move
  rw [t2, zw_eq (x := j * n) (by omega) (by omega), zw_eq (by omega) (by omega), chk_pos (by omega), t4 j k hj.1 hj.2 hk.1 hk.2]
theorem c_numIn {μ : zMem} {n a b c : Int} (hT : Sh1 μ n) (h : 2 ≤ n ∧ n ≤ 4) (ha : 0 ≤ a ∧ a < fct n) (hb : 0 ≤ b ∧ b < fct n) (hc : 0 ≤ c ∧ c < fct n) {g : Int → Option Int} {v : Option Int} (h1 : c = fol n a b → g n = v) (h2 : c ≠ fol n a b → ∀ k, 0 ≤ k → k < n → g k = v) : ∀ (fuel : Nat) (k : Int), 0 ≤ k → k ≤ n → n - k < fuel → (∀ i, 0 ≤ i → i < k → prm n c i = prm n (fol n a b) i) → f_X4_numberOf_L13 (66 + 4 * n) a b μ c g fuel k = v := by
  intro fuel
  induction fuel with
  | zero => intro k _ h3 h4 _; omega
  | succ fuel ih =>
    intro k k0 k1 k2 k3
    unfold f_X4_numberOf_L13
    rw [hT.1]
    by_cases hk : k < n
    · have ra := prm_rg h ha ⟨k0, hk⟩
      rw [if_pos hk, c_move1 hT h hc ⟨k0, hk⟩, c_move1 hT h ha ⟨k0, hk⟩]
      simp only [bnd, Option.bind_some]
      rw [c_move1 hT h hb ra]
      simp only [Option.bind_some, zlet]
      by_cases he : prm n c k = prm n b (prm n a k)
      · rw [if_pos he, zw_eq (by omega) (by omega)]
        refine ih (k + 1) (by omega) (by omega) (by omega) (fun i i0 i1 => ?_)
        by_cases hi : i = k
        · rw [hi, he, prm_fol h ha hb ⟨k0, hk⟩]
        · exact k3 i i0 (by omega)
      · rw [if_neg he]
        refine h2 (fun z => he ?_) k k0 hk
        rw [z, prm_fol h ha hb ⟨k0, hk⟩]
    · rw [if_neg hk]
      have : k = n := by omega
      subst this
      refine h1 (prm_inj h hc (fol_rg h ha hb) (fun i i0 i1 => k3 i i0 i1))
theorem c_numberOf {μ : zMem} {n a b : Int} (hT : Sh1 μ n) (h : 2 ≤ n ∧ n ≤ 4) (ha : 0 ≤ a ∧ a < fct n) (hb : 0 ≤ b ∧ b < fct n) : f_X4_numberOf (66 + 4 * n) a b μ = some (fol n a b) := by
  have hf := fct_pos h
  have hr := fol_rg h ha hb
  have key : ∀ (fuel : Nat) (c : Int), 0 ≤ c → c ≤ fol n a b → fol n a b - c < fuel → f_X4_numberOf_L2 (66 + 4 * n) a b μ fuel c = some (fol n a b) := by
    intro fuel
    induction fuel with
    | zero => intro c _ h3 h4; omega
    | succ fuel ih =>
      intro c c0 c1 c2
      unfold f_X4_numberOf_L2
      rw [hT.2.1, if_pos (by omega)]
      refine c_numIn hT h ha hb ⟨c0, by omega⟩ (fun z => ?_) (fun z k k0 k1 => ?_) zfu 0 (by omega) (by omega) (by unfold zfu; omega) (fun i i0 i1 => by omega)
      · unfold f_X4_numberOf_K50
        rw [hT.1, if_pos rfl, z]
      · unfold f_X4_numberOf_K50
        simp only [zlet]
        rw [hT.1, if_neg (by omega), zw_eq (by omega) (by omega)]
        exact ih (c + 1) (by omega) (by omega) (by omega)
  unfold f_X4_numberOf
  exact key zfu 0 (by omega) hr.1 (by unfold zfu; omega)
theorem fol_0 {n a b : Int} (h : 2 ≤ n ∧ n ≤ 4) (ha : 0 ≤ a ∧ a < fct n) (hb : 0 ≤ b ∧ b < fct n) : fol n a b = 0 ↔ b = bak n a := by
  rcases n234 h with h | h | h <;> subst h
  · exact fin_all (N := 2) (P := fun a => ∀ b : Int, 0 ≤ b → b < (2 : Nat) → (fol 2 a b = 0 ↔ b = bak 2 a)) (fun j => fin_all (by revert j; decide +kernel)) a ha.1 ha.2 b hb.1 hb.2
  · exact fin_all (N := 6) (P := fun a => ∀ b : Int, 0 ≤ b → b < (6 : Nat) → (fol 3 a b = 0 ↔ b = bak 3 a)) (fun j => fin_all (by revert j; decide +kernel)) a ha.1 ha.2 b hb.1 hb.2
  · exact fin_all (N := 24) (P := fun a => ∀ b : Int, 0 ≤ b → b < (24 : Nat) → (fol 4 a b = 0 ↔ b = bak 4 a)) (fun j => fin_all (by revert j; decide +kernel)) a ha.1 ha.2 b hb.1 hb.2
theorem idx_inj {N a b a' b' : Int} (hb : 0 ≤ b ∧ b < N) (hb' : 0 ≤ b' ∧ b' < N) (e : a * N + b = a' * N + b') : a = a' ∧ b = b' := by
  rcases Int.lt_trichotomy a a' with h | h | h
  · have := Int.mul_le_mul_of_nonneg_right (show a + 1 ≤ a' by omega) (show 0 ≤ N by omega)
    rw [Int.add_mul] at this
    omega
  · subst h
    exact ⟨rfl, by omega⟩
  · have := Int.mul_le_mul_of_nonneg_right (show a' + 1 ≤ a by omega) (show 0 ≤ N by omega)
    rw [Int.add_mul] at this
    omega
/-- what multiplyAll has laid ahead of (a, b) -/
def Mul (μ0 μ : zMem) (n a b : Int) : Prop := (∀ k, k ≠ 66 + 4 * n + 2 → k ≠ 66 + 4 * n + 3 → μ k = μ0 k) ∧ (∀ a' b', 0 ≤ a' → a' < fct n → 0 ≤ b' → b' < fct n → (a' < a ∨ a' = a ∧ b' < b) → μ (66 + 4 * n + 2) (a' * fct n + b') = fol n a' b') ∧ ∀ a', 0 ≤ a' → a' < fct n → (a' < a ∨ a' = a ∧ bak n a < b) → μ (66 + 4 * n + 3) a' = bak n a'
theorem Sh1.cg {μ0 μ : zMem} {n a b : Int} (hT : Sh1 μ0 n) (h : Mul μ0 μ n a b) : Sh1 μ n := by
  unfold Sh1 at *
  rw [h.1 (66 + 4 * n) (by omega) (by omega), h.1 (66 + 4 * n + 1) (by omega) (by omega)]
  exact hT
theorem c_multiplyAll {μ0 : zMem} {n : Int} (hT : Sh1 μ0 n) (h : 2 ≤ n ∧ n ≤ 4) : Ok (f_X4_multiplyAll (66 + 4 * n) μ0) (fun μ' => Mul μ0 μ' n (fct n) 0) := by
  have hf := fct_pos h
  have hz2 : zlen (66 + 4 * n + 2) = fct n * fct n := by rcases n234 h with h | h | h <;> subst h <;> decide
  have hz3 : zlen (66 + 4 * n + 3) = fct n := by rcases n234 h with h | h | h <;> subst h <;> decide
  have hix : ∀ a b, 0 ≤ a → a < fct n → 0 ≤ b → b < fct n → 0 ≤ a * fct n ∧ a * fct n + b < fct n * fct n ∧ fct n * fct n ≤ 576 := by
    intro a b a0 a1 b0 b1
    rcases n234 h with h | h | h <;> subst h
    · have hq : fct 2 = 2 := rfl
      rw [hq] at a1 b1 ⊢; omega
    · have hq : fct 3 = 6 := rfl
      rw [hq] at a1 b1 ⊢; omega
    · have hq : fct 4 = 24 := rfl
      rw [hq] at a1 b1 ⊢; omega
  have inner : ∀ (a : Int), 0 ≤ a → a < fct n → ∀ (g : zMem → Option zMem) (Q : zMem → Prop), (∀ μ, Mul μ0 μ n a (fct n) → Ok (g μ) Q) → ∀ (fuel : Nat) (b : Int) (μ : zMem), 0 ≤ b → b ≤ fct n → fct n - b < fuel → Mul μ0 μ n a b → Ok (f_X4_multiplyAll_L12 (66 + 4 * n) a g fuel b μ) Q := by
    intro a a0 a1 g Q hg fuel
    induction fuel with
    | zero => intro b μ _ h3 h4; omega
    | succ fuel ih =>
      intro b μ b0 b1 b2 hM
      have hS := hT.cg hM
      unfold f_X4_multiplyAll_L12
      rw [hS.2.1]
      by_cases hb : b < fct n
      · obtain ⟨i1, i2, i3⟩ := hix a b a0 a1 b0 hb
        rw [if_pos hb, c_numberOf hS h ⟨a0, a1⟩ ⟨b0, hb⟩]
        simp only [bnd, Option.bind_some, zlet]
        rw [zw_eq (x := a * fct n) (by omega) (by omega), zw_eq (x := a * fct n + b) (by omega) (by omega), chk_pos (by omega), zw_eq (x := b + 1) (by omega) (by omega)]
        have hs := fol_0 h ⟨a0, a1⟩ ⟨b0, hb⟩
        by_cases he : fol n a b = 0
        · rw [if_pos he, chk_pos (by omega)]
          refine ih (b + 1) _ (by omega) (by omega) (by omega) ⟨fun k k1 k2 => ?_, fun a' b' h1 h2 h3 h4 h5 => ?_, fun a' h1 h2 h3 => ?_⟩
          · rw [zup_n _ _ _ k2, zup_n _ _ _ k1, hM.1 k k1 k2]
          · rw [zup_n _ _ _ (by omega), zup_s, up1_e]
            split
            · rename_i e
              obtain ⟨e1, e2⟩ := idx_inj ⟨h3, h4⟩ ⟨b0, hb⟩ e
              rw [e1, e2]
            · rename_i e
              refine hM.2.1 a' b' h1 h2 h3 h4 ?_
              rcases h5 with h5 | ⟨h5, h6⟩
              · exact Or.inl h5
              · refine Or.inr ⟨h5, ?_⟩
                subst h5
                have : b' ≠ b := fun z => e (by rw [z])
                omega
          · rw [zup_s, up1_e]
            split
            · rename_i e
              rw [e]
              exact hs.mp he
            · rename_i e
              rw [zup_n _ _ _ (by omega)]
              exact hM.2.2 a' h1 h2 (Or.inl (by omega))
        · rw [if_neg he]
          refine ih (b + 1) _ (by omega) (by omega) (by omega) ⟨fun k k1 k2 => ?_, fun a' b' h1 h2 h3 h4 h5 => ?_, fun a' h1 h2 h3 => ?_⟩
          · rw [zup_n _ _ _ k1, hM.1 k k1 k2]
          · rw [zup_s, up1_e]
            split
            · rename_i e
              obtain ⟨e1, e2⟩ := idx_inj ⟨h3, h4⟩ ⟨b0, hb⟩ e
              rw [e1, e2]
            · rename_i e
              refine hM.2.1 a' b' h1 h2 h3 h4 ?_
              rcases h5 with h5 | ⟨h5, h6⟩
              · exact Or.inl h5
              · refine Or.inr ⟨h5, ?_⟩
                subst h5
                have : b' ≠ b := fun z => e (by rw [z])
                omega
          · rw [zup_n _ _ _ (by omega)]
            refine hM.2.2 a' h1 h2 ?_
            rcases h3 with h3 | ⟨h3, h6⟩
            · exact Or.inl h3
            · have : b ≠ bak n a := fun z => he (hs.mpr z)
              exact Or.inr ⟨h3, by omega⟩
      · rw [if_neg hb]
        have : b = fct n := by omega
        subst this
        exact hg μ hM
  have outer : ∀ (fuel : Nat) (a : Int) (μ : zMem), 0 ≤ a → a ≤ fct n → fct n - a < fuel → Mul μ0 μ n a 0 → Ok (f_X4_multiplyAll_L2 (66 + 4 * n) fuel a μ) (fun μ' => Mul μ0 μ' n (fct n) 0) := by
    intro fuel
    induction fuel with
    | zero => intro a μ _ h3 h4; omega
    | succ fuel ih =>
      intro a μ a0 a1 a2 hM
      have hS := hT.cg hM
      unfold f_X4_multiplyAll_L2
      rw [hS.2.1]
      by_cases ha : a < fct n
      · rw [if_pos ha]
        refine inner a a0 ha _ _ (fun μ' hM' => ?_) zfu 0 μ (by omega) (by omega) (by unfold zfu; omega) hM
        unfold f_X4_multiplyAll_K58
        simp only [zlet]
        rw [zw_eq (by omega) (by omega)]
        have hbr := bak_rg h ⟨a0, ha⟩
        refine ih (a + 1) μ' (by omega) (by omega) (by omega) ⟨hM'.1, fun a' b' h1 h2 h3 h4 h5 => hM'.2.1 a' b' h1 h2 h3 h4 (by omega), fun a' h1 h2 h3 => hM'.2.2 a' h1 h2 ?_⟩
        rcases h3 with h3 | ⟨h3, h6⟩
        · by_cases z : a' < a
          · exact Or.inl z
          · exact Or.inr ⟨by omega, hbr.2⟩
        · subst h3
          exact absurd h6 (by have := bak_rg h ⟨h1, h2⟩; omega)
      · rw [if_neg ha]
        have : a = fct n := by omega
        subst this
        exact ok_some.mpr hM
  unfold f_X4_multiplyAll
  refine outer zfu 0 μ0 (by omega) (by omega) (by unfold zfu; omega) ⟨fun _ _ _ => rfl, fun a' b' h1 h2 h3 h4 h5 => by omega, fun a' h1 h2 h3 => ?_⟩
  have := bak_rg h (j := 0) ⟨by omega, by omega⟩
  omega
