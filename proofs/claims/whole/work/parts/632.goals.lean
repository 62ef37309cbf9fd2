/-! the first tables of the shuffles: where each storey goes -/
/-- the codes of the shuffles, in order -/
def csh (n : Int) : List Nat := if n = 2 then [1, 4] else if n = 3 then [6, 9, 18, 24, 33, 36] else [27, 30, 39, 45, 54, 57, 75, 78, 99, 108, 114, 120, 135, 141, 147, 156, 177, 180, 198, 201, 210, 216, 225, 228]
/-- how many codes below x are shuffles -/
def nsh (n : Int) (x : Nat) : Nat := ((csh n).filter (fun c => decide (c < x))).length
def shS (n : Int) (x : Nat) : Prop := (f_X4_isShuffle (x : Int) n = some 0 ∧ nsh n (x + 1) = nsh n x) ∨ (f_X4_isShuffle (x : Int) n = some 1 ∧ nsh n (x + 1) = nsh n x + 1 ∧ (nsh n x : Int) < fct n ∧ ∀ s : Fin 4, ((s.val : Nat) : Int) < n → f_X4_goal (x : Int) ((s.val : Nat) : Int) n = prm n (nsh n x : Int) ((s.val : Nat) : Int))
theorem shS_2 : ∀ x : Fin 16, shS 2 x.val := by unfold shS; decide +kernel
theorem shS_3 : ∀ x : Fin 64, shS 3 x.val := by unfold shS; decide +kernel
theorem shS_4 : ∀ x : Fin 256, shS 4 x.val := by unfold shS; decide +kernel
/-- the number of codes -/
def cod (n : Int) : Int := if n = 2 then 16 else if n = 3 then 64 else 256
theorem shS_all {n : Int} (h : 2 ≤ n ∧ n ≤ 4) {x : Nat} (hx : (x : Int) < cod n) : shS n x := by
  rcases n234 h with h | h | h <;> subst h
  · exact shS_2 ⟨x, by have : cod 2 = 16 := rfl; omega⟩
  · exact shS_3 ⟨x, by have : cod 3 = 64 := rfl; omega⟩
  · exact shS_4 ⟨x, by have : cod 4 = 256 := rfl; omega⟩
theorem nsh_0 {n : Int} (h : 2 ≤ n ∧ n ≤ 4) : nsh n 0 = 0 := by
  rcases n234 h with h | h | h <;> subst h <;> decide
theorem nsh_e {n : Int} (h : 2 ≤ n ∧ n ≤ 4) : (nsh n (cod n).toNat : Int) = fct n := by
  rcases n234 h with h | h | h <;> subst h <;> decide
/-- x goals laid -/
def Gol (μ0 μ : zMem) (n x : Int) : Prop := (∀ k, k ≠ 66 + 4 * n + 1 → μ k = μ0 k) ∧ ∀ j k, 0 ≤ j → j < x → 0 ≤ k → k < n → μ (66 + 4 * n + 1) (j * n + k) = prm n j k
theorem c_goalsIn {μ0 : zMem} {n y x4 : Int} (h : 2 ≤ n ∧ n ≤ 4) (hy : 0 ≤ y ∧ y < fct n) (hg4 : ∀ s, 0 ≤ s → s < n → f_X4_goal x4 s n = prm n y s) {g : zMem → Option zMem} {Q : zMem → Prop} (hg : ∀ μ, Gol μ0 μ n (y + 1) → Ok (g μ) Q) : ∀ (fuel : Nat) (s : Int) (μ : zMem), 0 ≤ s → s ≤ n → n - s < fuel → Gol μ0 μ n y → (∀ k, 0 ≤ k → k < s → μ (66 + 4 * n + 1) (y * n + k) = prm n y k) → Ok (f_X4_init_L86 (66 + 4 * n) n y x4 g fuel s μ) Q := by
  have hz : zlen (66 + 4 * n + 1) = fct n * n := by rcases n234 h with h | h | h <;> subst h <;> decide
  have hix : ∀ k, 0 ≤ k → k < n → 0 ≤ y * n ∧ y * n + k < fct n * n ∧ fct n * n ≤ 96 := by
    intro k k0 k1
    have hf := fct_pos h
    rcases n234 h with h | h | h <;> subst h <;> omega
  intro fuel
  induction fuel with
  | zero => intro s μ _ h3 h4; omega
  | succ fuel ih =>
    intro s μ s0 s1 s2 hM hs
    unfold f_X4_init_L86
    simp only [zlet]
    by_cases hn : s < n
    · obtain ⟨i1, i2, i3⟩ := hix s s0 hn
      rw [if_pos hn, zw_eq (x := y * n) (by omega) (by omega), zw_eq (x := y * n + s) (by omega) (by omega), chk_pos (by omega), zw_eq (x := s + 1) (by omega) (by omega), hg4 s s0 hn]
      refine ih (s + 1) _ (by omega) (by omega) (by omega) ⟨fun k k1 => ?_, fun j k j0 j1 k0 k1 => ?_⟩ (fun k k0 k1 => ?_)
      · rw [zup_n _ _ _ k1, hM.1 k k1]
      · rw [zup_s, up1_e]
        split
        · rename_i e
          have := idx_inj ⟨k0, k1⟩ ⟨s0, hn⟩ e
          omega
        · exact hM.2 j k j0 j1 k0 k1
      · rw [zup_s, up1_e]
        split
        · rename_i e
          rw [show k = s by omega]
        · exact hs k k0 (by omega)
    · rw [if_neg hn]
      refine hg μ ⟨hM.1, fun j k j0 j1 k0 k1 => ?_⟩
      by_cases hj : j < y
      · exact hM.2 j k j0 hj k0 k1
      · rw [show j = y by omega]
        exact hs k k0 (by omega)
theorem c_init4 {μ0 : zMem} {n : Int} (h : 2 ≤ n ∧ n ≤ 4) (h0 : μ0 (66 + 4 * n) 0 = n) (h1 : μ0 (66 + 4 * n) 1 = fct n) : Ok (f_X4_init (66 + 4 * n) n μ0) (fun μ' => (∀ k, k < 66 + 4 * n + 1 ∨ 66 + 4 * n + 3 < k → μ' k = μ0 k) ∧ (∀ j k, 0 ≤ j → j < fct n → 0 ≤ k → k < n → μ' (66 + 4 * n + 1) (j * n + k) = prm n j k) ∧ (∀ a b, 0 ≤ a → a < fct n → 0 ≤ b → b < fct n → μ' (66 + 4 * n + 2) (a * fct n + b) = fol n a b) ∧ ∀ a, 0 ≤ a → a < fct n → μ' (66 + 4 * n + 3) a = bak n a) := by
  have hf := fct_pos h
  have hc : cod n ≤ 256 ∧ zshl 1 (zw (2 * n)) = cod n ∧ 0 ≤ cod n := by
    rcases n234 h with h | h | h <;> subst h <;> decide
  have fin : ∀ μ, Gol μ0 μ n (fct n) → Ok (f_X4_init_K125 (66 + 4 * n) μ) (fun μ' => (∀ k, k < 66 + 4 * n + 1 ∨ 66 + 4 * n + 3 < k → μ' k = μ0 k) ∧ (∀ j k, 0 ≤ j → j < fct n → 0 ≤ k → k < n → μ' (66 + 4 * n + 1) (j * n + k) = prm n j k) ∧ (∀ a b, 0 ≤ a → a < fct n → 0 ≤ b → b < fct n → μ' (66 + 4 * n + 2) (a * fct n + b) = fol n a b) ∧ ∀ a, 0 ≤ a → a < fct n → μ' (66 + 4 * n + 3) a = bak n a) := by
    intro μ hM
    have hS : Sh1 μ n := ⟨by rw [hM.1 _ (by omega)]; exact h0, by rw [hM.1 _ (by omega)]; exact h1, hM.2⟩
    obtain ⟨μ', e, m1, m2, m3⟩ := c_multiplyAll hS h
    unfold f_X4_init_K125
    rw [e]
    simp only [bnd, Option.bind_some]
    refine ok_some.mpr ⟨fun k hk => ?_, fun j k j0 j1 k0 k1 => ?_, fun a b a0 a1 b0 b1 => m2 a b a0 a1 b0 b1 (Or.inl a1), fun a a0 a1 => m3 a a0 a1 (Or.inl a1)⟩
    · rw [m1 k (by omega) (by omega), hM.1 k (by omega)]
    · rw [m1 _ (by omega) (by omega)]
      exact hM.2 j k j0 j1 k0 k1
  have loop : ∀ (fuel : Nat) (x : Nat) (μ : zMem), (x : Int) ≤ cod n → cod n - x < fuel → Gol μ0 μ n (nsh n x) → Ok (f_X4_init_L58 (66 + 4 * n) n (f_X4_init_K125 (66 + 4 * n)) fuel (nsh n x) x μ) (fun μ' => (∀ k, k < 66 + 4 * n + 1 ∨ 66 + 4 * n + 3 < k → μ' k = μ0 k) ∧ (∀ j k, 0 ≤ j → j < fct n → 0 ≤ k → k < n → μ' (66 + 4 * n + 1) (j * n + k) = prm n j k) ∧ (∀ a b, 0 ≤ a → a < fct n → 0 ≤ b → b < fct n → μ' (66 + 4 * n + 2) (a * fct n + b) = fol n a b) ∧ ∀ a, 0 ≤ a → a < fct n → μ' (66 + 4 * n + 3) a = bak n a) := by
    intro fuel
    induction fuel with
    | zero => intro x μ h3 h4; omega
    | succ fuel ih =>
      intro x μ x1 x2 hM
      unfold f_X4_init_L58
      rw [hc.2.1, hM.1 (66 + 4 * n) (by omega), h1]
      by_cases hx : (x : Int) < cod n
      · rw [if_pos hx]
        by_cases hy : ((nsh n x : Nat) : Int) < fct n
        · rw [if_pos hy]
          rcases shS_all h hx with ⟨s1, s2⟩ | ⟨s1, s2, s3, s4⟩
          · rw [s1]
            simp only [bnd, Option.bind_some, zlet]
            rw [if_pos trivial, zw_eq (by omega) (by omega)]
            have := ih (x + 1) μ (by omega) (by omega) (by rw [s2]; exact hM)
            rw [s2] at this
            exact this
          · rw [s1]
            simp only [bnd, Option.bind_some]
            rw [if_neg (by decide)]
            refine c_goalsIn h ⟨by omega, hy⟩ (fun s s0 s1 => ?_) (fun μ' hM' => ?_) zfu 0 μ (by omega) (by omega) (by unfold zfu; omega) hM (fun k k0 k1 => by omega)
            · have := s4 ⟨s.toNat, by omega⟩ (by simp only; omega)
              simpa only [show (((s.toNat : Nat)) : Int) = s by omega] using this
            · unfold f_X4_init_K116
              simp only [zlet]
              rw [zw_eq (by omega) (by omega), zw_eq (by omega) (by omega)]
              have := ih (x + 1) μ' (by omega) (by omega) (by rw [s2]; exact hM')
              rw [s2] at this
              exact this
        · rw [if_neg hy]
          refine fin μ ⟨hM.1, fun j k j0 j1 k0 k1 => hM.2 j k j0 (by omega) k0 k1⟩
      · rw [if_neg hx]
        have hxe : x = (cod n).toNat := by omega
        have he := nsh_e h
        rw [← hxe] at he
        refine fin μ ⟨hM.1, fun j k j0 j1 k0 k1 => hM.2 j k j0 (by omega) k0 k1⟩
  unfold f_X4_init
  have := loop zfu 0 μ0 (by omega) (by unfold zfu; omega) ⟨fun _ _ => rfl, fun j k j0 j1 => by rw [nsh_0 h] at j1; omega⟩
  rw [nsh_0 h] at this
  exact this
