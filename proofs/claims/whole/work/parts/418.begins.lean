/-! the rims of a part, as the class lays them -/
def rmsF (σ : Sp) : Nat → Int → List (List Int)
  | 0, _ => []
  | m + 1, f => if inP σ f then rmW σ f :: rmsF σ m (f + 1) else rmsF σ m (f + 1)
def rms (σ : Sp) : List (List Int) := rmsF σ (sP σ).toNat 0
def RMS (μ : zMem) (l : List (List Int)) : Prop := μ 27 5 = l.length ∧ ∀ q (h : q < l.length), RmT μ q l[q]
theorem c_isPaneOfPart {μ : zMem} {t f mC mE mP : Int} {σ : Sp} (hc : CS μ t σ) (hcp : CP μ t σ) (hz : SZ t mC mE mP) (hw : WfE σ mC mE) (hp : WfP σ mP) (hf : 0 ≤ f ∧ f < sP σ) : f_X5_isPaneOfPart t f μ = some (b2i (inP σ f)) := by
  obtain ⟨p1, p2, p3, _⟩ := hp.2.2 f hf.1 hf.2
  have hr := p3 0 (by omega) (by omega)
  have ha := sA_rg hw hr
  have hC := hw.2.1
  have hz4 := hz.2.2.2.1
  unfold f_X5_isPaneOfPart
  rw [bnd_pos (c_rimStep hc hz hp hf (by omega)), bnd_pos (c_startOf hc hz hw hr), chk_pos (by omega), hcp.2.2.1 _ ha.1 (by omega)]
  rfl
theorem rmW_len {σ : Sp} {mP f : Int} (hp : WfP σ mP) (hf : 0 ≤ f ∧ f < sP σ) : (rmW σ f).length ≤ 8 := by
  have := rmw_len σ f (sL σ f).toNat 0
  obtain ⟨p1, p2, _⟩ := hp.2.2 f hf.1 hf.2
  unfold rmW
  omega
def Beg (μ : zMem) (n : Int) (σ : Sp) : Prop := μ 27 9 = 66 + 4 * n ∧ μ 27 8 = sN σ ∧ μ 27 6 = 0 ∧ μ 27 7 = 0 ∧ μ 28 0 = -1 ∧ RMS μ (rms σ)
theorem c_begin {μ : zMem} {t n mC mE : Int} {σ : Sp} (ht : 32 < t) (hc : CS μ t σ) (hcp : CP μ t σ) (hz : SZ t mC mE 8) (hw : WfE σ mC mE) (hp : WfP σ 8) : Ok (f_X6_begin t (66 + 4 * n) μ) (fun μ' => Ft [28, 29, 30, 31] [5, 6, 7, 8, 9] μ μ' ∧ Beg μ' n σ) := by
  have hP := hp.2.1
  have key : ∀ (m fu : Nat) (f : Int) (l : List (List Int)) (μ1 : zMem), m < fu → 0 ≤ f → f + m = sP σ → l.length ≤ f → (∀ ws ∈ l, ws.length ≤ 8) → Ft [28, 29, 30, 31] [5, 6, 7, 8, 9] μ μ1 → RMS μ1 l → Ok (f_X6_begin_L37 t fu f μ1) (fun μ' => Ft [29, 30, 31] [5] μ1 μ' ∧ RMS μ' (l ++ rmsF σ m f)) := by
    intro m
    induction m with
    | zero =>
      intro fu f l μ1 hfu f0 hf hl h8 hF hR
      cases fu with
      | zero => omega
      | succ fu =>
        have e : μ1 t = μ t := hF.1 _ (by simp; omega) (by omega)
        unfold f_X6_begin_L37
        rw [e, hc.2.2.1, if_neg (by omega)]
        refine ok_some.mpr ⟨Ft.refl _ _ _, ?_⟩
        simp only [rmsF, List.append_nil]
        exact hR
    | succ m ih =>
      intro fu f l μ1 hfu f0 hf hl h8 hF hR
      cases fu with
      | zero => omega
      | succ fu =>
        have e : μ1 t = μ t := hF.1 _ (by simp; omega) (by omega)
        have hfP : 0 ≤ f ∧ f < sP σ := ⟨f0, by omega⟩
        unfold f_X6_begin_L37
        simp only [zlet]
        rw [e, hc.2.2.1, if_pos (by omega), bnd_pos (c_isPaneOfPart (hF.cs ht hc) (hF.cp ht hcp) hz hw hp hfP), zw_eq (by omega) (by omega)]
        unfold rmsF
        by_cases hin : inP σ f = true
        · rw [hin, if_neg (by decide), if_pos rfl]
          refine ok_bnd.mpr ((c_takeRim ht (hF.cs ht hc) (hF.cp ht hcp) hz hw hp hfP (q := l.length) ⟨by omega, by omega⟩ hR.1).imp fun μ2 q => ?_)
          obtain ⟨q1, q2, q3, q4⟩ := q
          have hR2 : RMS μ2 (l ++ [rmW σ f]) := by
            refine ⟨by rw [q2, List.length_append]; rfl, fun q hq => ?_⟩
            rw [List.length_append] at hq
            simp at hq
            by_cases hql : q = l.length
            · subst hql
              simp
              exact q3
            · rw [List.getElem_append_left (by omega)]
              exact q4 q _ (by omega) (by omega) (h8 _ (List.getElem_mem ..)) (hR.2 q (by omega))
          have := ih fu (f + 1) (l ++ [rmW σ f]) μ2 (by omega) (by omega) (by omega) (by simp; omega) (fun ws h => by
            rcases List.mem_append.mp h with h | h
            · exact h8 ws h
            · rw [List.mem_singleton.mp h]; exact rmW_len hp hfP) (hF.trans (q1.sub (by decide) (by decide))) hR2
          refine this.imp fun v q => ⟨q1.trans q.1, ?_⟩
          have q2 := q.2
          rw [List.append_assoc] at q2
          exact q2
        · rw [Bool.eq_false_iff.mpr hin, if_pos (by decide), if_neg (by decide)]
          exact ih fu (f + 1) l μ1 (by omega) (by omega) (by omega) (by omega) h8 hF hR
  unfold f_X6_begin
  simp only [zlet]
  have e : zup μ 27 9 (66 + 4 * n) t 10 = sN σ := by rw [zup_n _ _ _ (by omega)]; exact hcp.2.1
  rw [e]
  have g1 : Ft [28, 29, 30, 31] [5, 6, 7, 8, 9] μ (zup (zup (zup (zup (zup (zup μ 27 9 (66 + 4 * n)) 27 8 (sN σ)) 27 6 0) 27 7 0) 28 0 (-1)) 27 5 0) := ((((((Ft.refl _ _ μ).upo (by decide) _).upo (by decide) _).upo (by decide) _).upo (by decide) _).up (by decide) (by decide) _ _).upo (by decide) _
  have e9 : (zup (zup (zup (zup (zup (zup μ 27 9 (66 + 4 * n)) 27 8 (sN σ)) 27 6 0) 27 7 0) 28 0 (-1)) 27 5 0) 27 9 = 66 + 4 * n := by
    simp (disch := omega) only [zup_s, zup_n, up1_s, up1_n]
  have e8 : (zup (zup (zup (zup (zup (zup μ 27 9 (66 + 4 * n)) 27 8 (sN σ)) 27 6 0) 27 7 0) 28 0 (-1)) 27 5 0) 27 8 = sN σ := by
    simp (disch := omega) only [zup_s, zup_n, up1_s, up1_n]
  have e6 : (zup (zup (zup (zup (zup (zup μ 27 9 (66 + 4 * n)) 27 8 (sN σ)) 27 6 0) 27 7 0) 28 0 (-1)) 27 5 0) 27 6 = 0 := by
    simp (disch := omega) only [zup_s, zup_n, up1_s, up1_n]
  have e7 : (zup (zup (zup (zup (zup (zup μ 27 9 (66 + 4 * n)) 27 8 (sN σ)) 27 6 0) 27 7 0) 28 0 (-1)) 27 5 0) 27 7 = 0 := by
    simp (disch := omega) only [zup_s, zup_n, up1_s, up1_n]
  have e0 : (zup (zup (zup (zup (zup (zup μ 27 9 (66 + 4 * n)) 27 8 (sN σ)) 27 6 0) 27 7 0) 28 0 (-1)) 27 5 0) 28 0 = -1 := by
    simp (disch := omega) only [zup_s, zup_n, up1_s, up1_n]
  have e5 : (zup (zup (zup (zup (zup (zup μ 27 9 (66 + 4 * n)) 27 8 (sN σ)) 27 6 0) 27 7 0) 28 0 (-1)) 27 5 0) 27 5 = 0 := by
    simp (disch := omega) only [zup_s, zup_n, up1_s, up1_n]
  generalize zup (zup (zup (zup (zup (zup μ 27 9 (66 + 4 * n)) 27 8 (sN σ)) 27 6 0) 27 7 0) 28 0 (-1)) 27 5 0 = μ3 at *
  refine (key (sP σ).toNat zfu 0 [] μ3 (by unfold zfu; omega) (by omega) (by have := hp.1; omega) (by simp) (fun ws h => absurd h (by simp)) g1 ⟨e5, fun q h => absurd h (by simp)⟩).imp fun v q => ?_
  obtain ⟨q1, q2⟩ := q
  refine ⟨g1.trans (q1.sub (by decide) (by decide)), ?_, ?_, ?_, ?_, ?_, ?_⟩
  · rw [q1.2 9 (by decide)]; exact e9
  · rw [q1.2 8 (by decide)]; exact e8
  · rw [q1.2 6 (by decide)]; exact e6
  · rw [q1.2 7 (by decide)]; exact e7
  · rw [q1.1 28 (by decide) (by decide)]; exact e0
  · exact q2
