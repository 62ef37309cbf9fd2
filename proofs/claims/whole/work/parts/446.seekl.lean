/-! the leaf of the reference's search for layers -/
theorem m_leaf1 {μ : zMem} {s n : Int} {σ : Sp} (hc : MS μ s σ) (hs : 0 ≤ s ∧ s < 3) (hw : WfE σ 32 48) (hp : WfP σ 32) (hm : MT μ σ) (hn : 2 ≤ n ∧ n ≤ 4) (ho : MOr μ n) (hN : sN σ ≤ 16) (h29 : μ 101 29 = sN σ) (h33 : μ 101 33 = 1) : ∀ (fu : Nat) (t : Int → Int) (μ1 : zMem), Fm [128, 129, 134] [35] μ μ1 → MTb μ1 n (sN σ) t → TbR n (sN σ) t → 0 ≤ μ1 101 35 → μ1 101 35 ≤ 30000 → Ok (f_X10_goTables (fu + 1) s (sN σ) μ1) (fun w => Fm [128, 129, 134] [35] μ w.2 ∧ Res n (sN σ) (μ1 101 35) (μ 101 34) (if pL σ n t then [t] else []) w.1 w.2 ∧ MTb w.2 n (sN σ) t) := by
  intro fu t μ1 hF hB hR h0 h1
  have hN0 := (sN_b (σ := σ) hw.2.2.1).1
  have hNN : ((sN σ).toNat : Int) = sN σ := by omega
  have hm1 : MT μ1 σ := by
    unfold MT
    rw [hF.1 120 (by decide) (by decide), hF.1 121 (by decide) (by decide), hF.1 123 (by decide) (by decide), hF.2 20 (by decide)]
    exact hm
  have hc1 : MS μ1 s σ := hF.ms (by unfold noSp; decide) hc
  have ho1 : MOr μ1 n := hF.mor (by decide) (by decide) (by decide) ho
  have no : pL σ n t = false → Ok (some ((0 : Int), μ1)) (fun w => Fm [128, 129, 134] [35] μ w.2 ∧ Res n (sN σ) (μ1 101 35) (μ 101 34) (if pL σ n t then [t] else []) w.1 w.2 ∧ MTb w.2 n (sN σ) t) := by
    intro e
    rw [e]
    exact ok_some.mpr ⟨hF, Or.inl ⟨rfl, by simp, by simp⟩, hB⟩
  unfold f_X10_goTables
  rw [hF.2 29 (by decide), h29, if_neg (by omega)]
  refine ok_bnd.mpr ((m_holds hc1 hs hw hp hm1 hn (by rw [hF.2 28 (by decide)]; exact ho.1) hN hR hB).imp fun v q => ?_)
  rcases q with ⟨q1, q2⟩ | ⟨q1, q2⟩
  · have e : pH σ n t = true := (pH_iff hn hp hR).mpr q2
    have hone := m_isOne (μ := μ1) (N := (sN σ).toNat) (t := t) hn ho1.1 (by omega) (by rw [hF.2 29 (by decide), hNN]; exact h29) (by rw [hNN]; exact hB) (by rw [hNN]; exact hR)
    rw [hNN] at hone
    rw [q1, if_neg (by decide), hF.2 33 (by decide), h33, if_neg (by decide), if_pos rfl, bnd_pos hone]
    by_cases hi : isO n t (sN σ) = true
    · rw [hi, if_neg (by decide)]
      refine ok_bnd2.mpr ((m_isFirst (μ := μ1) (N := (sN σ).toNat) (t := t) hn ho1 (by omega) (by rw [hF.2 29 (by decide), hNN]; exact h29) (by rw [hNN]; exact hB) (by rw [hNN]; exact hR)).imp fun w r => ?_)
      obtain ⟨r1, r2⟩ := r
      have hF2 : Fm [128, 129, 134] [35] μ w.2 := hF.trans (r1.sub (by decide) (by decide))
      have hB2 : MTb w.2 n (sN σ) t := by
        unfold MTb
        rw [r1.1 128 (by decide) (by decide), r1.1 129 (by decide) (by decide)]
        exact hB
      have e35 : w.2 101 35 = μ1 101 35 := r1.2 35 (by decide)
      by_cases hf : frs n t (sN σ).toNat (fct n).toNat 0 = true
      · have hpl : pL σ n t = true := by unfold pL pF; rw [e, hf, hi]; rfl
        rw [r2, hf, if_neg (by decide), hpl, if_pos rfl]
        unfold f_X10_goTables_J96
        simp only [zlet]
        rw [e35, zw_eq (by omega) (by omega), zup_s, up1_s, up1_n _ _ (by decide), hF2.2 34 (by decide)]
        have hF' := hF2.upo (i := 35) (by decide) (μ1 101 35 + 1)
        have hB' : MTb (zup w.2 101 35 (μ1 101 35 + 1)) n (sN σ) t := by
          intro j k a b c d
          rw [zup_n _ _ _ (by decide), zup_n _ _ _ (by decide)]
          exact hB2 j k a b c d
        have h35 : zup w.2 101 35 (μ1 101 35 + 1) 101 35 = μ1 101 35 + 1 := by rw [zup_s, up1_s]
        by_cases hq : μ1 101 35 + 1 = μ 101 34
        · rw [if_pos hq]
          refine ok_some.mpr ⟨hF', Or.inr ⟨0, by simp, rfl, by omega, h35.trans hq, hB'⟩, hB'⟩
        · rw [if_neg hq]
          refine ok_some.mpr ⟨hF', Or.inl ⟨rfl, h35, ?_⟩, hB'⟩
          simp
          omega
      · have hpl : pL σ n t = false := by unfold pL pF; rw [Bool.eq_false_iff.mpr hf, Bool.and_false, Bool.false_and]
        rw [r2, Bool.eq_false_iff.mpr hf, if_pos (by decide), hpl]
        exact ok_some.mpr ⟨hF2, Or.inl ⟨rfl, by rw [e35]; simp, by simp⟩, hB2⟩
    · rw [Bool.eq_false_iff.mpr hi, if_pos (by decide)]
      exact no (by unfold pL; rw [Bool.eq_false_iff.mpr hi, Bool.and_false])
  · have e : pH σ n t = false := Bool.eq_false_iff.mpr fun h => q2 ((pH_iff hn hp hR).mp h)
    rw [q1, if_pos rfl]
    exact no (by unfold pL pF; rw [e, Bool.false_and, Bool.false_and])
/-- the search for layers, number want -/
theorem m_seek1 {μ : zMem} {s n want : Int} {σ : Sp} (hc : MS μ s σ) (hs : 0 ≤ s ∧ s < 3) (hn : 2 ≤ n ∧ n ≤ 4) (hw : WfE σ 32 48) (hp : WfP σ 32) (hm : MT μ σ) (ho : MOr μ n) (h29 : μ 101 29 = sN σ) (hmn : mnL (fct n) (sN σ).toNat 1 = 0) : Ok (f_X10_seek s 1 want μ) (fun v => Fm [128, 129, 134] [33, 34, 35] μ v.2 ∧ Res n (sN σ) 0 want (tbs (pL σ n) n (sN σ)) v.1 v.2) := by
  obtain ⟨m1, m2⟩ := mn_nat hn hmn
  have hN0 := (sN_b (σ := σ) hw.2.2.1).1
  unfold f_X10_seek
  simp only [zlet]
  have g1 : Fm [] [33, 34, 35] μ (zup (zup (zup μ 101 33 1) 101 34 want) 101 35 0) := (((Fm.refl _ _ μ).upo (by decide) _).upo (by decide) _).upo (by decide) _
  generalize hg : zup (zup (zup μ 101 33 1) 101 34 want) 101 35 0 = μ3 at g1 ⊢
  have e33 : μ3 101 33 = 1 := by
    rw [← hg]
    simp (disch := omega) only [zup_s, zup_n, up1_s, up1_n]
  have e34 : μ3 101 34 = want := by
    rw [← hg]
    simp (disch := omega) only [zup_s, zup_n, up1_s, up1_n]
  have e35 : μ3 101 35 = 0 := by
    rw [← hg]
    simp (disch := omega) only [zup_s, zup_n, up1_s, up1_n]
  have c3 : MS μ3 s σ := g1.ms (by unfold noSp; decide) hc
  have t3 : MT μ3 σ := by
    unfold MT
    rw [g1.1 120 (by decide) (by decide), g1.1 121 (by decide) (by decide), g1.1 123 (by decide) (by decide), g1.2 20 (by decide)]
    exact hm
  have o3 : MOr μ3 n := g1.mor (by decide) (by decide) (by decide) ho
  have n3 : μ3 101 29 = sN σ := by rw [g1.2 29 (by decide)]; exact h29
  have hNN : ((sN σ).toNat : Int) = sN σ := by omega
  have hl := sols_len (pL σ n) (fct n).toNat (sN σ).toNat 0 (fun _ => 0)
  have hleaf := m_leaf1 c3 hs hw hp t3 hn o3 (by omega) n3 e33
  rw [← hNN] at hleaf
  have hgo := m_goTables (N := (sN σ).toNat) (p := pL σ n) hn o3 (by rw [n3, hNN]) (by omega) hleaf (sN σ).toNat 40 0 (fun _ => 0) μ3 (by omega) (by omega) (by omega) (Fm.refl _ _ _) (fun j k a b => by omega) (fun j a b => by omega) (by omega) (by omega)
  refine ok_bnd2.mpr (hgo.imp fun v q => ?_)
  obtain ⟨v1, v2, _⟩ := q
  refine ok_some.mpr ⟨(g1.sub (by decide) (by decide)).trans (v1.sub (by decide) (by decide)), ?_⟩
  rw [e35, e34, hNN] at v2
  exact v2
theorem m_layers {μ : zMem} {s n : Int} {σ : Sp} (hc : MS μ s σ) (hs : 0 ≤ s ∧ s < 2) (hn : 2 ≤ n ∧ n ≤ 4) (hw : WfE σ 32 48) (hp : WfP σ 32) : Ok (f_X10_layers s n μ) (fun w => Fm [120, 121, 123, 128, 129, 133, 134] [20, 28, 29, 30, 33, 34, 35] μ w.2 ∧ w.1 = if mnL (fct n) (sN σ).toNat 1 = 0 then ((tbs (pL σ n) n (sN σ)).length : Int) else -2) := by
  have h1 : f_X10_isSpace s ≠ 0 := by
    have : s = 0 ∨ s = 1 := by omega
    rcases this with h | h <;> subst h <;> decide
  have h2 : f_X10_areStoreys n ≠ 0 := by rcases n234 hn with h | h | h <;> subst h <;> decide
  have hs3 : 0 ≤ s ∧ s < 3 := by omega
  unfold f_X10_layers
  rw [if_neg h1, if_neg h2]
  refine ok_bnd2.mpr ((m_isMany hc hs3 hn hw).imp fun w q => ?_)
  obtain ⟨q1, q2, q3, q4, q5⟩ := q
  have qF := q1.sub (cs' := [120, 121, 123, 128, 129, 133, 134]) (ss' := [20, 28, 29, 30, 33, 34, 35]) (by decide) (by decide)
  rw [q5]
  by_cases hm : mnL (fct n) (sN σ).toNat 1 = 0
  · rw [if_pos hm, if_pos hm]
    refine ok_bnd2.mpr ((m_seek1 (want := -1) (q1.ms (by unfold noSp; decide) hc) hs3 hn hw hp q2 q3 q4 hm).imp fun v r => ?_)
    obtain ⟨r1, r2⟩ := r
    refine ok_some.mpr ⟨qF.trans (r1.sub (by decide) (by decide)), ?_⟩
    rcases r2 with h | ⟨i, h, _, h2, _⟩
    · show v.2 101 35 = _
      rw [h.2.1, Int.zero_add]
    · omega
  · rw [if_neg hm, if_neg hm]
    exact ok_some.mpr ⟨qF, rfl⟩
