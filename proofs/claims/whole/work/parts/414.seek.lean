/-! the reference's tables: counted -/
theorem sols_len (p : (Int → Int) → Bool) (o : Nat) : ∀ (m : Nat) (x : Int) (t : Int → Int), (sols p o m x t).length ≤ o ^ m := by
  intro m
  induction m with
  | zero =>
    intro x t
    unfold sols
    split <;> simp
  | succ m ih =>
    intro x t
    have h : ∀ (k y : Nat), (solF p o m x t y k).length ≤ k * o ^ m := by
      intro k
      induction k with
      | zero => intro y; simp [solF]
      | succ k ihk =>
        intro y
        rw [solF_succ, List.length_append, Nat.succ_mul]
        have h1 := ih (x + 1) (seT t x y)
        have h2 := ihk (y + 1)
        omega
    have := h o 0
    rw [Nat.pow_succ, Nat.mul_comm]
    exact this
theorem mnL_pow {o : Int} (ho : 2 ≤ o) : ∀ (m : Nat) (a : Int), 1 ≤ a → mnL o m a = 0 → a * o ^ m ≤ 20000 := by
  intro m
  induction m with
  | zero =>
    intro a ha h
    unfold mnL at h
    split at h
    · rw [Int.pow_zero, Int.mul_one]; assumption
    · omega
  | succ m ih =>
    intro a ha h
    unfold mnL at h
    split at h
    · have hao : 1 ≤ a * o := by
        have := Int.mul_le_mul ha (show (1 : Int) ≤ o by omega) (by omega) (by omega)
        omega
      have := ih (a * o) hao h
      rw [Int.pow_succ, Int.mul_comm (o ^ m), ← Int.mul_assoc]
      exact this
    · omega
theorem mn_nat {n N : Int} (hn : 2 ≤ n ∧ n ≤ 4) (h : mnL (fct n) N.toNat 1 = 0) : (fct n).toNat ^ N.toNat ≤ 20000 ∧ N ≤ 14 := by
  have hf := fct_pos hn
  have h1 := mnL_pow hf.1 N.toNat 1 (by omega) h
  rw [Int.one_mul] at h1
  have h2 : (((fct n).toNat ^ N.toNat : Nat) : Int) = fct n ^ N.toNat := by
    rw [Int.natCast_pow, Int.toNat_of_nonneg (by omega)]
  have h3 : (fct n).toNat ^ N.toNat ≤ 20000 := by omega
  refine ⟨h3, ?_⟩
  by_cases hN : N ≤ 14
  · exact hN
  · have a1 : 2 ^ 15 ≤ 2 ^ N.toNat := Nat.pow_le_pow_right (by decide) (by omega)
    have a2 : 2 ^ N.toNat ≤ (fct n).toNat ^ N.toNat := Nat.pow_le_pow_left (by omega) _
    have a3 : (2 : Nat) ^ 15 = 32768 := by decide
    omega
/-- the tables of a space, in order -/
def tbs (p : (Int → Int) → Bool) (n N : Int) : List (Int → Int) := sols p (fct n).toNat N.toNat 0 (fun _ => 0)
theorem m_tables {μ : zMem} {s n : Int} {σ : Sp} (hc : MS μ s σ) (hs : 0 ≤ s ∧ s < 2) (hn : 2 ≤ n ∧ n ≤ 4) (hw : WfE σ 32 48) (hp : WfP σ 32) : Ok (f_X10_tables s n μ) (fun w => Fm [120, 121, 123, 128, 129, 133, 134] [20, 28, 29, 30, 33, 34, 35] μ w.2 ∧ w.1 = if mnL (fct n) (sN σ).toNat 1 = 0 then ((tbs (pH σ n) n (sN σ)).length : Int) else -2) := by
  have h1 : f_X10_isSpace s ≠ 0 := by
    have : s = 0 ∨ s = 1 := by omega
    rcases this with h | h <;> subst h <;> decide
  have h2 : f_X10_areStoreys n ≠ 0 := by rcases n234 hn with h | h | h <;> subst h <;> decide
  have hs3 : 0 ≤ s ∧ s < 3 := by omega
  have hN0 := (sN_b hw.2.2.1).1
  unfold f_X10_tables
  rw [if_neg h1, if_neg h2]
  refine ok_bnd2.mpr ((m_isMany hc hs3 hn hw).imp fun w q => ?_)
  obtain ⟨q1, q2, q3, q4, q5⟩ := q
  have qF := q1.sub (cs' := [120, 121, 123, 128, 129, 133, 134]) (ss' := [20, 28, 29, 30, 33, 34, 35]) (by decide) (by decide)
  rw [q5]
  by_cases hm : mnL (fct n) (sN σ).toNat 1 = 0
  · obtain ⟨m1, m2⟩ := mn_nat hn hm
    rw [if_pos hm, if_pos hm]
    unfold f_X10_seek
    simp only [zlet]
    have g1 : Fm [] [33, 34, 35] w.2 (zup (zup (zup w.2 101 33 0) 101 34 (-1)) 101 35 0) := (((Fm.refl _ _ w.2).upo (by decide) _).upo (by decide) _).upo (by decide) _
    generalize hg : zup (zup (zup w.2 101 33 0) 101 34 (-1)) 101 35 0 = μ3 at g1 ⊢
    have e33 : μ3 101 33 = 0 := by
      rw [← hg]
      simp (disch := omega) only [zup_s, zup_n, up1_s, up1_n]
    have e34 : μ3 101 34 = -1 := by
      rw [← hg]
      simp (disch := omega) only [zup_s, zup_n, up1_s, up1_n]
    have e35 : μ3 101 35 = 0 := by
      rw [← hg]
      simp (disch := omega) only [zup_s, zup_n, up1_s, up1_n]
    have c3 : MS μ3 s σ := g1.ms (by unfold noSp; decide) (q1.ms (by unfold noSp; decide) hc)
    have t3 : MT μ3 σ := by
      unfold MT
      rw [g1.1 120 (by decide) (by decide), g1.1 121 (by decide) (by decide), g1.1 123 (by decide) (by decide), g1.2 20 (by decide)]
      exact q2
    have o3 : MOr μ3 n := g1.mor (by decide) (by decide) (by decide) q3
    have n3 : μ3 101 29 = sN σ := by rw [g1.2 29 (by decide)]; exact q4
    have hNN : ((sN σ).toNat : Int) = sN σ := by omega
    have hl := sols_len (pH σ n) (fct n).toNat (sN σ).toNat 0 (fun _ => 0)
    have hleaf := m_leaf0 c3 hs3 hw hp t3 hn o3 (by omega) n3 e33
    rw [← hNN] at hleaf
    have hgo := m_goTables (N := (sN σ).toNat) (p := pH σ n) hn o3 (by rw [n3, hNN]) (by omega) hleaf (sN σ).toNat 40 0 (fun _ => 0) μ3 (by omega) (by omega) (by omega) (Fm.refl _ _ _) (fun j k a b => by omega) (fun j a b => by omega) (by omega) (by omega)
    refine ok_bnd2.mpr (ok_bnd2.mpr (hgo.imp fun v q => ?_))
    obtain ⟨v1, v2, _⟩ := q
    refine ok_some.mpr (ok_some.mpr ⟨?_, ?_⟩)
    · exact (qF.trans (g1.sub (by decide) (by decide))).trans (v1.sub (by decide) (by decide))
    · rw [e35, e34] at v2
      rcases v2 with h | ⟨i, h, _, h2, _⟩
      · show v.2 101 35 = _
        rw [h.2.1, Int.zero_add]
        rfl
      · omega
  · rw [if_neg hm, if_neg hm]
    exact ok_some.mpr ⟨qF, rfl⟩
