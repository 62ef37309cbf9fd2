/-! the class's findNext tells the next of the list -/
def StT (μ : zMem) (n : Int) (N : Nat) (l : List (List Int)) (L : Nat) (t : Int → Int) (y : Nat) : Prop := μ 27 9 = 66 + 4 * n ∧ μ 27 8 = N ∧ μ 27 6 = L ∧ RMS μ l ∧ (∀ j : Int, 0 ≤ j → j < L → μ 28 j = t j) ∧ μ 28 L = (y : Int) - 1 ∧ TbR n L t ∧ y ≤ (fct n).toNat ∧ L < N
theorem RMS.cg {μ μ' : zMem} {l : List (List Int)} (h : RMS μ l) (h5 : μ' 27 5 = μ 27 5) (h29 : μ' 29 = μ 29) (h30 : μ' 30 = μ 30) (h31 : μ' 31 = μ 31) : RMS μ' l := by
  unfold RMS RmT
  rw [h5, h29, h30, h31]
  exact h
theorem c_findNextL {x1 n : Int} {N : Nat} {p : (Int → Int) → Bool} {l : List (List Int)} {fl : (Int → Int) → Int → Bool} (hn : 2 ≤ n ∧ n ≤ 4) (hN : 1 ≤ N ∧ N ≤ 12) (hl8 : l.length ≤ 8) (hw : ∀ ws ∈ l, WdR N ws ∧ ws.length ≤ 8)
    (hfl : x1 ≠ 0 → ∀ (μ3 : zMem) (L : Nat) (t : Int → Int), ShT μ3 → L < N → μ3 27 9 = 66 + 4 * n → μ3 27 6 = L → TbR n (L + 1) t → (∀ j : Int, 0 ≤ j → j < (L : Int) + 1 → μ3 28 j = t j) → f_X6_isFirstOfLike μ3 = some (b2i (fl t L)))
    (hp1 : ∀ (L : Nat) (t : Int → Int), L < N → TbR n (L + 1) t → (drh n t L l && (decide (x1 = 0) || fl t L)) = false → sols p (fct n).toNat (N - 1 - L) ((L : Int) + 1) (clp t ((L : Int) + 1)) = [])
    (hp2 : ∀ t, TbR n N t → (∀ L : Nat, L < N → (drh n t L l && (decide (x1 = 0) || fl t L)) = true) → p (clp t N) = true)
    (hcg : ∀ (L : Nat) (t t' : Int → Int), L < N → (∀ j : Int, 0 ≤ j → j < (L : Int) + 1 → t j = t' j) → (drh n t L l && (decide (x1 = 0) || fl t L)) = (drh n t' L l && (decide (x1 = 0) || fl t' L))) :
    ∀ (M fu : Nat) (i : Int) (L y : Nat) (t : Int → Int) (μ1 : zMem), wgl (fct n).toNat N t L y < M → M < fu → 0 ≤ i → i + M < 1000000 → ShT μ1 → StT μ1 n N l L t y → (∀ k : Nat, k < L → (drh n t k l && (decide (x1 = 0) || fl t k)) = true) →
      Ok (f_X6_findNext_L29 x1 fu i μ1) (fun w => Ft [28] [6] μ1 w.2 ∧ ((w.1 = 0 ∧ lft p (fct n).toNat N t L y = []) ∨ (w.1 = 1 ∧ ∃ t' y', StT w.2 n N l (N - 1) t' y' ∧ t' ((N - 1 : Nat) : Int) = (y' : Int) - 1 ∧ TbR n N t' ∧ (∀ k : Nat, k < N → (drh n t' k l && (decide (x1 = 0) || fl t' k)) = true) ∧ lft p (fct n).toNat N t L y = clp t' N :: lft p (fct n).toNat N t' (N - 1) y' ∧ wgl (fct n).toNat N t' (N - 1) y' < wgl (fct n).toNat N t L y))) := by
  have hfc := fct_pos hn
  intro M
  induction M with
  | zero => intro fu i L y t μ1 h; omega
  | succ M ih =>
    intro fu i L y t μ1 hM hfu i0 hi hT hS hG
    obtain ⟨s1, s2, s3, s4, s5, s6, s7, s8, s9⟩ := hS
    cases fu with
    | zero => omega
    | succ fu =>
      unfold f_X6_findNext_L29
      simp only [zlet]
      rw [if_pos (by omega), s3, if_neg (by omega), chk_pos (by omega), chk_pos (by omega), s6, zw_eq (x := (y : Int) - 1 + 1) (by omega) (by omega), show (y : Int) - 1 + 1 = y by omega]
      have g3 : Ft [28] [6] μ1 (zup μ1 28 L y) := (Ft.refl _ _ _).up (by decide) (by decide) _ _
      have e28 : ∀ j : Int, 0 ≤ j → j < (L : Int) + 1 → (zup μ1 28 L y) 28 j = seT t L y j := by
        intro j a b
        unfold seT
        rw [zup_s]
        by_cases h : j = L
        · rw [if_pos h, h, up1_s]
        · rw [if_neg h, up1_n _ _ h]
          exact s5 j a (by omega)
      have ef : ∀ k, k ≠ 28 → (zup μ1 28 L y) k = μ1 k := fun k h => zup_n _ _ _ h
      generalize zup μ1 28 L y = μ3 at *
      have hT3 : ShT μ3 := hT.congr fun k hk => ef k (by omega)
      have hR3 : RMS μ3 l := s4.cg (by rw [ef 27 (by decide)]) (ef 29 (by decide)) (ef 30 (by decide)) (ef 31 (by decide))
      have f9 : μ3 27 9 = 66 + 4 * n := by rw [ef 27 (by decide)]; exact s1
      have f8 : μ3 27 8 = N := by rw [ef 27 (by decide)]; exact s2
      have f6 : μ3 27 6 = L := by rw [ef 27 (by decide)]; exact s3
      have eL : seT t L y L = y := by unfold seT; rw [if_pos rfl]
      rw [ef 27 (by decide), s3, chk_pos (by omega), s1, chk_pos (by omega), e28 L (by omega) (by omega), eL, (hT3 n hn.1 hn.2).2.2.1, zw_eq (x := i + 1) (by omega) (by omega)]
      by_cases hy : (y : Int) < fct n
      · rw [if_pos hy]
        have htr : TbR n ((L : Int) + 1) (seT t L y) := seT_R s7 ⟨by omega, hy⟩
        have htry := lft_try p (fct n).toNat N t L y (by omega)
        have wtry := wgl_try (fct n).toNat N t L y (by omega)
        have hd := c_doRimsHold (N := N) hT3 hn (by rw [ef 27 (by decide)]; exact s1) (by rw [ef 27 (by decide)]; exact s3) ⟨by omega, by omega⟩ htr e28 hR3 hl8 hw
        have hno : (drh n (seT t L y) L l && (decide (x1 = 0) || fl (seT t L y) L)) = false → Ok (f_X6_findNext_L29 x1 fu (i + 1) μ3) (fun w => Ft [28] [6] μ1 w.2 ∧ ((w.1 = 0 ∧ lft p (fct n).toNat N t L y = []) ∨ (w.1 = 1 ∧ ∃ t' y', StT w.2 n N l (N - 1) t' y' ∧ t' ((N - 1 : Nat) : Int) = (y' : Int) - 1 ∧ TbR n N t' ∧ (∀ k : Nat, k < N → (drh n t' k l && (decide (x1 = 0) || fl t' k)) = true) ∧ lft p (fct n).toNat N t L y = clp t' N :: lft p (fct n).toNat N t' (N - 1) y' ∧ wgl (fct n).toNat N t' (N - 1) y' < wgl (fct n).toNat N t L y))) := by
          intro hq
          rw [hp1 L _ s9 htr hq, List.nil_append] at htry
          have hst : StT μ3 n N l L t (y + 1) := ⟨by rw [ef 27 (by decide)]; exact s1, by rw [ef 27 (by decide)]; exact s2, by rw [ef 27 (by decide)]; exact s3, hR3, fun j a b => by
            rw [e28 j a (by omega)]; unfold seT; rw [if_neg (by omega)], by rw [e28 L (by omega) (by omega), eL]; omega, s7, by omega, s9⟩
          refine (ih fu (i + 1) L (y + 1) t μ3 (by omega) (by omega) (by omega) (by omega) hT3 hst hG).imp fun w q => ?_
          refine ⟨g3.trans q.1, ?_⟩
          rw [htry]
          rcases q.2 with h | ⟨h, t', y', a1, a2, a3, a4, a5, a6⟩
          · exact Or.inl h
          · exact Or.inr ⟨h, t', y', a1, a2, a3, a4, a5, by omega⟩
        have hyes : (drh n (seT t L y) L l && (decide (x1 = 0) || fl (seT t L y) L)) = true → Ok (f_X6_findNext_J105 i (f_X6_findNext_L29 x1 fu) μ3) (fun w => Ft [28] [6] μ1 w.2 ∧ ((w.1 = 0 ∧ lft p (fct n).toNat N t L y = []) ∨ (w.1 = 1 ∧ ∃ t' y', StT w.2 n N l (N - 1) t' y' ∧ t' ((N - 1 : Nat) : Int) = (y' : Int) - 1 ∧ TbR n N t' ∧ (∀ k : Nat, k < N → (drh n t' k l && (decide (x1 = 0) || fl t' k)) = true) ∧ lft p (fct n).toNat N t L y = clp t' N :: lft p (fct n).toNat N t' (N - 1) y' ∧ wgl (fct n).toNat N t' (N - 1) y' < wgl (fct n).toNat N t L y))) := by
          intro hq
          have hG' : ∀ k : Nat, k < L + 1 → (drh n (seT t L y) k l && (decide (x1 = 0) || fl (seT t L y) k)) = true := by
            intro k hk
            by_cases hkL : k = L
            · rw [hkL]; exact hq
            · rw [hcg k (seT t L y) t (by omega) (fun j a b => by unfold seT; rw [if_neg (by omega)])]
              exact hG k (by omega)
          unfold f_X6_findNext_J105
          simp only [zlet]
          rw [ef 27 (by decide), s3, s2, zw_eq (x := (N : Int) - 1) (by omega) (by omega)]
          by_cases hLN : L + 1 = N
          · rw [if_pos (by omega)]
            have eN : N - 1 = L := by omega
            have htr' : TbR n N (seT t L y) := by
              have := htr
              rw [show (L : Int) + 1 = N by omega] at this
              exact this
            have hpt := hp2 (seT t L y) htr' (fun k hk => hG' k (by omega))
            refine ok_some.mpr ⟨g3, Or.inr ⟨rfl, seT t L y, y + 1, ?_, ?_, htr', fun k hk => hG' k (by omega), ?_, ?_⟩⟩
            · rw [eN]
              have f28 : μ3 28 L = ((y + 1 : Nat) : Int) - 1 := by rw [e28 L (by omega) (by omega), eL]; omega
              exact ⟨f9, f8, f6, hR3, fun j a b => e28 j a (by omega), f28, fun j a b => htr j a (by omega), by omega, s9⟩
            · rw [eN, eL]; omega
            · rw [htry, eN, lft_cg p (fct n).toNat N (t := seT t L y) (t' := t) L (y + 1) (fun j a b => by unfold seT; rw [if_neg (by omega)]), show L - L = 0 by omega]
              unfold sols
              rw [show (L : Int) + 1 = N by omega, hpt]
              rfl
            · rw [eN, wgl_cg (fct n).toNat N (t := seT t L y) (t' := t) L (y + 1) (fun j a b => by unfold seT; rw [if_neg (by omega)])]
              omega
          · rw [if_neg (by omega), zw_eq (x := (L : Int) + 1) (by omega) (by omega), zw_eq (x := i + 1) (by omega) (by omega)]
            have h6 : zup μ3 27 6 ((L : Int) + 1) 27 6 = ((L + 1 : Nat) : Int) := by rw [zup_s, up1_s]; omega
            rw [h6, chk_pos (by omega)]
            have g4 : Ft [28] [6] μ1 (zup (zup μ3 27 6 ((L : Int) + 1)) 28 ((L + 1 : Nat) : Int) (-1)) := (g3.upo (by decide) _).up (by decide) (by decide) _ _
            have e4 : ∀ k, k ≠ 27 → k ≠ 28 → (zup (zup μ3 27 6 ((L : Int) + 1)) 28 ((L + 1 : Nat) : Int) (-1)) k = μ3 k := fun k a b => by rw [zup_n _ _ _ b, zup_n _ _ _ a]
            have e27 : ∀ j, j ≠ 6 → (zup (zup μ3 27 6 ((L : Int) + 1)) 28 ((L + 1 : Nat) : Int) (-1)) 27 j = μ3 27 j := fun j a => by rw [zup_n _ _ _ (by decide), zup_s, up1_n _ _ a]
            have hst : StT (zup (zup μ3 27 6 ((L : Int) + 1)) 28 ((L + 1 : Nat) : Int) (-1)) n N l (L + 1) (seT t L y) 0 := by
              refine ⟨by rw [e27 9 (by decide)]; exact f9, by rw [e27 8 (by decide)]; exact f8, by rw [zup_n _ _ _ (by decide)]; exact h6, hR3.cg (e27 5 (by decide)) (e4 29 (by decide) (by decide)) (e4 30 (by decide) (by decide)) (e4 31 (by decide) (by decide)), fun j a b => ?_, by rw [zup_s, up1_s]; rfl, fun j a b => htr j a (by omega), by omega, by omega⟩
              rw [zup_s, up1_n _ _ (by omega), zup_n _ _ _ (by decide)]
              exact e28 j a (by omega)
            have hdn := lft_down p (fct n).toNat N t L y (by omega)
            have wdn := wgl_down (fct n).toNat N t L y (by omega)
            refine (ih fu (i + 1) (L + 1) 0 (seT t L y) _ (by omega) (by omega) (by omega) (by omega) (hT3.congr fun k hk => e4 k (by omega) (by omega)) hst hG').imp fun w q => ?_
            refine ⟨⟨fun k a b => (q.1.1 k a b).trans (g4.1 k a b), fun i a => (q.1.2 i a).trans (g4.2 i a)⟩, ?_⟩
            rw [htry, ← hdn]
            rcases q.2 with h | ⟨h, t', y', a1, a2, a3, a4, a5, a6⟩
            · exact Or.inl h
            · exact Or.inr ⟨h, t', y', a1, a2, a3, a4, a5, by omega⟩
        rw [bnd_pos hd]
        by_cases hdr : drh n (seT t L y) L l = true
        · rw [hdr] at hno hyes ⊢
          rw [if_neg (by decide)]
          by_cases hx : x1 = 0
          · rw [if_pos hx]
            exact hyes (by simp [hx])
          · rw [if_neg hx, bnd_pos (hfl hx μ3 L (seT t L y) hT3 s9 f9 f6 htr e28)]
            by_cases hfv : fl (seT t L y) L = true
            · rw [hfv] at hyes ⊢
              rw [if_neg (by decide)]
              exact hyes (by simp)
            · rw [Bool.eq_false_iff.mpr hfv] at hno ⊢
              rw [if_pos (by decide)]
              exact hno (by simp [hx])
        · rw [Bool.eq_false_iff.mpr hdr] at hno ⊢
          rw [if_pos (by decide)]
          exact hno (by simp)
      · rw [if_neg hy, zw_eq (x := (L : Int) - 1) (by omega) (by omega)]
        have g4 : Ft [28] [6] μ1 (zup μ3 27 6 ((L : Int) - 1)) := g3.upo (by decide) _
        have e27 : ∀ j, j ≠ 6 → (zup μ3 27 6 ((L : Int) - 1)) 27 j = μ3 27 j := fun j a => by rw [zup_s, up1_n _ _ a]
        have e4 : ∀ k, k ≠ 27 → (zup μ3 27 6 ((L : Int) - 1)) k = μ3 k := fun k a => by rw [zup_n _ _ _ a]
        have h6 : zup μ3 27 6 ((L : Int) - 1) 27 6 = (L : Int) - 1 := by rw [zup_s, up1_s]
        have eo : (fct n).toNat - y = 0 := by omega
        cases L with
        | zero =>
          cases fu with
          | zero => omega
          | succ fu =>
            unfold f_X6_findNext_L29
            rw [if_pos (by omega), h6, if_pos (by omega)]
            refine ok_some.mpr ⟨g4, Or.inl ⟨rfl, ?_⟩⟩
            unfold lft
            rw [eo, solF_nil]
        | succ L =>
          have hb := s7 L (by omega) (by omega)
          have el : lft p (fct n).toNat N t (L + 1) y = lft p (fct n).toNat N t L (t L + 1).toNat := by
            conv => lhs; unfold lft
            rw [eo, solF_nil, List.nil_append]
          have ew : wgl (fct n).toNat N t (L + 1) y = 1 + wgl (fct n).toNat N t L (t L + 1).toNat := by
            conv => lhs; unfold wgl
            rw [eo]; omega
          have hst : StT (zup μ3 27 6 (((L + 1 : Nat) : Int) - 1)) n N l L t (t L + 1).toNat := by
            refine ⟨by rw [e27 9 (by decide)]; exact f9, by rw [e27 8 (by decide)]; exact f8, by rw [h6]; omega, hR3.cg (e27 5 (by decide)) (e4 29 (by decide)) (e4 30 (by decide)) (e4 31 (by decide)), fun j a b => ?_, ?_, fun j a b => s7 j a (by omega), by omega, by omega⟩
            · rw [e4 28 (by decide), e28 j a (by omega)]
              unfold seT
              rw [if_neg (by omega)]
            · rw [e4 28 (by decide), e28 L (by omega) (by omega)]
              unfold seT
              rw [if_neg (by omega)]
              omega
          refine (ih fu (i + 1) L _ t _ (by omega) (by omega) (by omega) (by omega) (hT3.congr fun k hk => e4 k (by omega)) hst (fun k hk => hG k (by omega))).imp fun w q => ?_
          refine ⟨⟨fun k a b => (q.1.1 k a b).trans (g4.1 k a b), fun i a => (q.1.2 i a).trans (g4.2 i a)⟩, ?_⟩
          rw [el]
          rcases q.2 with h | ⟨h, t', y', a1, a2, a3, a4, a5, a6⟩
          · exact Or.inl h
          · exact Or.inr ⟨h, t', y', a1, a2, a3, a4, a5, by omega⟩
