/-! the leaf of the reference's search: counting the tables whose rims hold -/
def pH (σ : Sp) (n : Int) (t : Int → Int) : Bool := (List.range' 0 (sP σ).toNat).all fun (f : Nat) => !(inP σ f) || decide (alg n t (rmW σ f) 0 = 0)
theorem rmW_rg {σ : Sp} {mP f : Int} (hp : WfP σ mP) (hf : 0 ≤ f ∧ f < sP σ) : WdR (sN σ) (rmW σ f) := by
  obtain ⟨p1, p2, p3, _⟩ := hp.2.2 f hf.1 hf.2
  exact rmw_rg p3 _ 0 (by omega) (by omega)
theorem pH_iff {σ : Sp} {n mP : Int} {t : Int → Int} (hn : 2 ≤ n ∧ n ≤ 4) (hp : WfP σ mP) (ht : TbR n (sN σ) t) : pH σ n t = true ↔ hld σ n t 0 := by
  unfold pH hld
  rw [List.all_eq_true]
  constructor
  · intro h g g0 g1 hi
    have := h g.toNat (by rw [List.mem_range'_1]; omega)
    rw [show ((g.toNat : Nat) : Int) = g by omega, hi] at this
    simp at this
    exact (alg_0 hn ht _ (rmW_rg hp ⟨g0, g1⟩)).mp this
  · intro h f hf
    rw [List.mem_range'_1] at hf
    by_cases hi : inP σ f = true
    · have := (alg_0 hn ht _ (rmW_rg hp (f := f) ⟨by omega, by omega⟩)).mpr (h f (by omega) (by omega) hi)
      simp [this]
    · simp [hi]
theorem m_leaf0 {μ : zMem} {s n : Int} {σ : Sp} (hc : MS μ s σ) (hs : 0 ≤ s ∧ s < 3) (hw : WfE σ 32 48) (hp : WfP σ 32) (hm : MT μ σ) (hn : 2 ≤ n ∧ n ≤ 4) (ho : MOr μ n) (hN : sN σ ≤ 16) (h29 : μ 101 29 = sN σ) (h33 : μ 101 33 = 0) : ∀ (fu : Nat) (t : Int → Int) (μ1 : zMem), Fm [128, 129, 134] [35] μ μ1 → MTb μ1 n (sN σ) t → TbR n (sN σ) t → 0 ≤ μ1 101 35 → μ1 101 35 ≤ 30000 → Ok (f_X10_goTables (fu + 1) s (sN σ) μ1) (fun w => Fm [128, 129, 134] [35] μ w.2 ∧ Res n (sN σ) (μ1 101 35) (μ 101 34) (if pH σ n t then [t] else []) w.1 w.2 ∧ MTb w.2 n (sN σ) t) := by
  intro fu t μ1 hF hB hR h0 h1
  have hm1 : MT μ1 σ := by
    unfold MT
    rw [hF.1 120 (by decide) (by decide), hF.1 121 (by decide) (by decide), hF.1 123 (by decide) (by decide), hF.2 20 (by decide)]
    exact hm
  have hc1 : MS μ1 s σ := hF.ms (by unfold noSp; decide) hc
  unfold f_X10_goTables
  rw [hF.2 29 (by decide), h29, if_neg (by omega)]
  refine ok_bnd.mpr ((m_holds hc1 hs hw hp hm1 hn (by rw [hF.2 28 (by decide)]; exact ho.1) hN hR hB).imp fun v q => ?_)
  rcases q with ⟨q1, q2⟩ | ⟨q1, q2⟩
  · have e : pH σ n t = true := (pH_iff hn hp hR).mpr q2
    rw [q1, if_neg (by decide), hF.2 33 (by decide), h33, if_neg (by decide), if_neg (by decide), e, if_pos rfl]
    unfold f_X10_goTables_J96
    simp only [zlet]
    rw [zw_eq (by omega) (by omega), zup_s, up1_s, up1_n _ _ (by decide), hF.2 34 (by decide)]
    have hF' := hF.upo (i := 35) (by decide) (μ1 101 35 + 1)
    have hB' : MTb (zup μ1 101 35 (μ1 101 35 + 1)) n (sN σ) t := by
      intro j k a b c d
      rw [zup_n _ _ _ (by decide), zup_n _ _ _ (by decide)]
      exact hB j k a b c d
    have h35 : zup μ1 101 35 (μ1 101 35 + 1) 101 35 = μ1 101 35 + 1 := by rw [zup_s, up1_s]
    by_cases hq : μ1 101 35 + 1 = μ 101 34
    · rw [if_pos hq]
      refine ok_some.mpr ⟨hF', Or.inr ⟨0, by simp, rfl, by omega, h35.trans hq, hB'⟩, hB'⟩
    · rw [if_neg hq]
      refine ok_some.mpr ⟨hF', Or.inl ⟨rfl, h35, ?_⟩, hB'⟩
      simp
      omega
  · have e : pH σ n t = false := Bool.eq_false_iff.mpr fun h => q2 ((pH_iff hn hp hR).mp h)
    rw [q1, if_pos rfl, e]
    refine ok_some.mpr ⟨hF, Or.inl ⟨rfl, by simp, by simp⟩, hB⟩
