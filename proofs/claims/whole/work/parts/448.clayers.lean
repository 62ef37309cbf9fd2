/-! the class finds the layers' tables one after another -/
def gdF (σ : Sp) (n : Int) (t : Int → Int) (k : Nat) : Bool := drh n t k (rms σ) && (decide ((1 : Int) = 0) || fst n t k ((fct n).toNat - 1) 1)
theorem isO_0 {n : Int} {t : Int → Int} (hn : 2 ≤ n ∧ n ≤ 4) : isO n t 0 = false := by
  rw [Bool.eq_false_iff]
  intro h
  have := isO_iff.mp h 1 (by omega) (by omega) (fun x => x = 0) rfl (fun j x a b => by omega)
  exact absurd this (by decide)
theorem c_nextF {n mP : Int} {σ : Sp} {N : Nat} (hn : 2 ≤ n ∧ n ≤ 4) (hNs : (N : Int) = sN σ) (hN : 1 ≤ N ∧ N ≤ 12) (hp : WfP σ mP) (hP8 : sP σ ≤ 8) (L y : Nat) (t : Int → Int) (μ1 : zMem) (hwt : wgl (fct n).toNat N t L y ≤ 100000) (hT : ShT μ1) (hS : StT μ1 n N (rms σ) L t y) (hG : ∀ j : Nat, j < L → gdF σ n t j = true) : Ok (f_X6_findNext 1 μ1) (fun w => Ft [28] [6] μ1 w.2 ∧ ((w.1 = 0 ∧ lft (pF σ n) (fct n).toNat N t L y = []) ∨ (w.1 = 1 ∧ ∃ t' y', StT w.2 n N (rms σ) (N - 1) t' y' ∧ t' ((N - 1 : Nat) : Int) = (y' : Int) - 1 ∧ TbR n N t' ∧ (∀ k : Nat, k < N → gdF σ n t' k = true) ∧ lft (pF σ n) (fct n).toNat N t L y = clp t' N :: lft (pF σ n) (fct n).toNat N t' (N - 1) y' ∧ wgl (fct n).toNat N t' (N - 1) y' < wgl (fct n).toNat N t L y))) := by
  have hl8 : (rms σ).length ≤ 8 := by
    have := rmsF_len σ (sP σ).toNat 0
    unfold rms
    omega
  have hnx := c_findNextL (x1 := 1) (p := pF σ n) (l := rms σ) (fl := fun t L => fst n t L.toNat ((fct n).toNat - 1) 1) hn hN hl8 (by rw [hNs]; exact rms_wd hp) (fun _ μ3 L t a b c d e f => by
      rw [c_isFirstOfLike a hn (by omega) c d e f]
      rfl) (fun L t a b c => prnF1 hn hNs hp L t a _ c) (fun t a b => prnF2 hn hNs hN.1 hp t a b) (fun L t t' a b => prnFc hp L t t' b) 100001 zfu 0 L y t μ1 (by omega) (by unfold zfu; omega) (by omega) (by omega) hT hS hG
  have h8 : ¬ μ1 27 8 = 0 := by rw [hS.2.1]; omega
  unfold f_X6_findNext
  rw [if_neg h8]
  exact hnx
theorem c_nextLayer {n mP : Int} {σ : Sp} {N : Nat} (hn : 2 ≤ n ∧ n ≤ 4) (hNs : (N : Int) = sN σ) (hN : 1 ≤ N ∧ N ≤ 12) (hp : WfP σ mP) (hP8 : sP σ ≤ 8) : ∀ (M fu : Nat) (i : Int) (L y : Nat) (t : Int → Int) (μ1 : zMem), wgl (fct n).toNat N t L y < M → M < fu → 0 ≤ i → i + M ≤ 1000000 → wgl (fct n).toNat N t L y ≤ 100000 → ShT μ1 → StT μ1 n N (rms σ) L t y → (∀ j : Nat, j < L → gdF σ n t j = true) → Ok (f_X6_findNextLayer_L2 fu i μ1) (fun w => Ft [28] [6] μ1 w.2 ∧ ((w.1 = 0 ∧ (lft (pF σ n) (fct n).toNat N t L y).filter (fun t => isO n t (sN σ)) = []) ∨ (w.1 = 1 ∧ ∃ t' y', StT w.2 n N (rms σ) (N - 1) t' y' ∧ t' ((N - 1 : Nat) : Int) = (y' : Int) - 1 ∧ TbR n N t' ∧ (∀ k : Nat, k < N → gdF σ n t' k = true) ∧ (lft (pF σ n) (fct n).toNat N t L y).filter (fun t => isO n t (sN σ)) = clp t' N :: (lft (pF σ n) (fct n).toNat N t' (N - 1) y').filter (fun t => isO n t (sN σ)) ∧ wgl (fct n).toNat N t' (N - 1) y' < wgl (fct n).toNat N t L y))) := by
  intro M
  induction M with
  | zero => intro fu i L y t μ1 h; omega
  | succ M ih =>
    intro fu i L y t μ1 hM hfu i0 hi hwt hT hS hG
    cases fu with
    | zero => omega
    | succ fu =>
      unfold f_X6_findNextLayer_L2
      simp only [zlet]
      rw [if_pos (by omega)]
      refine ok_bnd2.mpr ((c_nextF hn hNs hN hp hP8 L y t μ1 hwt hT hS hG).imp fun w q => ?_)
      obtain ⟨q1, q2⟩ := q
      rcases q2 with ⟨h, e⟩ | ⟨h, t', y', a1, a2, a3, a4, a5, a6⟩
      · rw [if_pos h]
        exact ok_some.mpr ⟨q1, Or.inl ⟨rfl, by rw [e]; rfl⟩⟩
      · have hT2 : ShT w.2 := (q1.sub (cs' := [28, 29, 30, 31]) (ss' := [6]) (by decide) (by decide)).sht hT
        have hcel : ∀ j : Int, 0 ≤ j → j < (N : Int) → w.2 28 j = t' j := by
          intro j b c
          by_cases hj : j = ((N - 1 : Nat) : Int)
          · rw [hj, a2]; exact a1.2.2.2.2.2.1
          · exact a1.2.2.2.2.1 j b (by omega)
        have hone := c_isOne hT2 hn hN.2 a1.1 a1.2.1 a3 hcel
        have hcl : isO n (clp t' N) (sN σ) = isO n t' N := by
          rw [← hNs]
          exact isO_cg fun j b c => by unfold clp; rw [if_pos ⟨b, c⟩]
        rw [h, if_neg (by decide), bnd_pos hone, a5]
        by_cases hi1 : isO n t' N = true
        · rw [hi1, if_neg (by decide)]
          refine ok_some.mpr ⟨q1, Or.inr ⟨rfl, t', y', a1, a2, a3, a4, ?_, a6⟩⟩
          rw [List.filter_cons_of_pos (by rw [hcl]; exact hi1)]
        · rw [Bool.eq_false_iff.mpr hi1, if_pos (by decide), zw_eq (by omega) (by omega), List.filter_cons_of_neg (by rw [hcl]; exact hi1)]
          refine (ih fu (i + 1) (N - 1) y' t' w.2 (by omega) (by omega) (by omega) (by omega) (by omega) hT2 a1 (fun j hj => a4 j (by omega))).imp fun v r => ?_
          obtain ⟨r1, r2⟩ := r
          refine ⟨q1.trans r1, ?_⟩
          rcases r2 with h | ⟨h, t2, y2, b1, b2, b3, b4, b5, b6⟩
          · exact Or.inl h
          · exact Or.inr ⟨h, t2, y2, b1, b2, b3, b4, b5, by omega⟩
theorem c_nextLayer0 {n : Int} {μ1 : zMem} (hn : 2 ≤ n ∧ n ≤ 4) (hT : ShT μ1) (h9 : μ1 27 9 = 66 + 4 * n) (h8 : μ1 27 8 = 0) (h7 : μ1 27 7 = 0) : Ok (f_X6_findNextLayer μ1) (fun w => Ft [28] [6, 7] μ1 w.2 ∧ w.1 = 0) := by
  have z2 : zfu = (zfu - 2) + 1 + 1 := by unfold zfu; omega
  unfold f_X6_findNextLayer
  rw [z2]
  unfold f_X6_findNextLayer_L2 f_X6_findNext f_X6_findNext_J19
  simp only [zlet]
  rw [if_pos (by omega), if_pos h8, h7, if_pos rfl, chk_pos (by omega)]
  refine ok_bnd2.mpr (ok_some.mpr ?_)
  have e8 : zup μ1 27 7 1 27 8 = 0 := by rw [zup_s, up1_n _ _ (by decide)]; exact h8
  have e9 : zup μ1 27 7 1 27 9 = 66 + 4 * n := by rw [zup_s, up1_n _ _ (by decide)]; exact h9
  have e7 : zup μ1 27 7 1 27 7 = 1 := by rw [zup_s, up1_s]
  have hT2 : ShT (zup μ1 27 7 1) := hT.congr fun k hk => zup_n _ _ _ (by omega)
  have hone := c_isOne (N := 0) (t := fun _ => 0) hT2 hn (by omega) e9 e8 (fun j a b => by simp at b; omega) (fun j a b => by simp at b; omega)
  have hone' : f_X6_isOne (zup μ1 27 7 1) = some 0 := by rw [hone]; simp [isO_0 hn, b2i]
  show Ok (if (1 : Int) = 0 then _ else _) _
  rw [if_neg (by decide)]
  show Ok (bnd (f_X6_isOne (zup μ1 27 7 1)) _) _
  rw [bnd_pos hone', if_pos rfl, zw_eq (by omega) (by omega)]
  unfold f_X6_findNextLayer_L2 f_X6_findNext f_X6_findNext_J19
  simp only [zlet]
  rw [if_pos (by omega), if_pos e8, if_neg (c := zup μ1 27 7 1 27 7 = 0) (by omega), chk_pos (by omega)]
  refine ok_bnd2.mpr (ok_some.mpr ?_)
  show Ok (if (0 : Int) = 0 then _ else _) _
  rw [if_pos rfl]
  exact ok_some.mpr ⟨((Ft.refl _ _ _).upo (by decide) _).upo (by decide) _, rfl⟩
/-- counted -/
theorem c_countY {n mP : Int} {σ : Sp} {N : Nat} (hn : 2 ≤ n ∧ n ≤ 4) (hNs : (N : Int) = sN σ) (hN : 1 ≤ N ∧ N ≤ 12) (hp : WfP σ mP) (hP8 : sP σ ≤ 8) : ∀ (k fu : Nat) (c : Int) (L y : Nat) (t : Int → Int) (μ1 : zMem), ((lft (pF σ n) (fct n).toNat N t L y).filter (fun t => isO n t (sN σ))).length = k → k < fu → 0 ≤ c → c + k ≤ 20000 → wgl (fct n).toNat N t L y ≤ 100000 → ShT μ1 → StT μ1 n N (rms σ) L t y → (∀ j : Nat, j < L → gdF σ n t j = true) → Ok (f_X9_layers_L62 fu c μ1) (fun w => Ft [28] [6] μ1 w.2 ∧ w.1 = c + k) := by
  intro k
  induction k with
  | zero =>
    intro fu c L y t μ1 hk hfu c0 c1 hwt hT hS hG
    cases fu with
    | zero => omega
    | succ fu =>
      have hnx := c_nextLayer hn hNs hN hp hP8 100001 zfu 0 L y t μ1 (by omega) (by unfold zfu; omega) (by omega) (by omega) hwt hT hS hG
      unfold f_X9_layers_L62 f_X6_findNextLayer
      rw [if_pos (by omega)]
      refine ok_bnd2.mpr (hnx.imp fun w q => ?_)
      rcases q.2 with h | ⟨h, t', y', a1, a2, a3, a4, a5, a6⟩
      · rw [if_pos h.1]
        exact ok_some.mpr ⟨q.1, by simp⟩
      · rw [a5] at hk
        simp at hk
  | succ k ih =>
    intro fu c L y t μ1 hk hfu c0 c1 hwt hT hS hG
    cases fu with
    | zero => omega
    | succ fu =>
      have hnx := c_nextLayer hn hNs hN hp hP8 100001 zfu 0 L y t μ1 (by omega) (by unfold zfu; omega) (by omega) (by omega) hwt hT hS hG
      unfold f_X9_layers_L62 f_X6_findNextLayer
      simp only [zlet]
      rw [if_pos (by omega)]
      refine ok_bnd2.mpr (hnx.imp fun w q => ?_)
      rcases q.2 with h | ⟨h, t', y', a1, a2, a3, a4, a5, a6⟩
      · rw [h.2] at hk
        simp at hk
      · rw [h, if_neg (by decide), zw_eq (by omega) (by omega)]
        rw [a5, List.length_cons] at hk
        have hT2 : ShT w.2 := (q.1.sub (cs' := [28, 29, 30, 31]) (ss' := [6]) (by decide) (by decide)).sht hT
        refine (ih fu (c + 1) (N - 1) y' t' w.2 (by omega) (by omega) (by omega) (by omega) (by omega) hT2 a1 (fun j hj => a4 j (by omega))).imp fun v r => ?_
        exact ⟨q.1.trans r.1, by rw [r.2]; omega⟩
/-- number x1 sought -/
def FdL (n : Int) (N : Nat) (c x1 : Int) (l : List (Int → Int)) (r : Int) (μ' : zMem) : Prop := (r = 0 ∧ ¬ (c ≤ x1 ∧ x1 < c + l.length)) ∨ (∃ i, ∃ h : i < l.length, r = 1 ∧ x1 = c + i ∧ ∃ t', TbR n N t' ∧ l[i]'h = clp t' N ∧ (∀ j : Int, 0 ≤ j → j < (N : Int) → μ' 28 j = t' j))
theorem c_findLayerL {n mP x1 : Int} {σ : Sp} {N : Nat} (hn : 2 ≤ n ∧ n ≤ 4) (hNs : (N : Int) = sN σ) (hN : 1 ≤ N ∧ N ≤ 12) (hp : WfP σ mP) (hP8 : sP σ ≤ 8) : ∀ (k fu : Nat) (c : Int) (L y : Nat) (t : Int → Int) (μ1 : zMem), ((lft (pF σ n) (fct n).toNat N t L y).filter (fun t => isO n t (sN σ))).length = k → k < fu → 0 ≤ c → c + k ≤ 20000 → wgl (fct n).toNat N t L y ≤ 100000 → ShT μ1 → StT μ1 n N (rms σ) L t y → (∀ j : Nat, j < L → gdF σ n t j = true) → Ok (f_X6_findLayer_L2 x1 fu c μ1) (fun w => Ft [28] [6] μ1 w.2 ∧ FdL n N c x1 ((lft (pF σ n) (fct n).toNat N t L y).filter (fun t => isO n t (sN σ))) w.1 w.2) := by
  intro k
  induction k with
  | zero =>
    intro fu c L y t μ1 hk hfu c0 c1 hwt hT hS hG
    cases fu with
    | zero => omega
    | succ fu =>
      have hnx := c_nextLayer hn hNs hN hp hP8 100001 zfu 0 L y t μ1 (by omega) (by unfold zfu; omega) (by omega) (by omega) hwt hT hS hG
      unfold f_X6_findLayer_L2 f_X6_findNextLayer
      by_cases hc : c < 20000
      · rw [if_pos hc]
        refine ok_bnd2.mpr (hnx.imp fun w q => ?_)
        rcases q.2 with h | ⟨h, t', y', a1, a2, a3, a4, a5, a6⟩
        · rw [if_pos h.1]
          exact ok_some.mpr ⟨q.1, Or.inl ⟨rfl, by omega⟩⟩
        · rw [a5] at hk
          simp at hk
      · rw [if_neg hc]
        exact ok_some.mpr ⟨Ft.refl _ _ _, Or.inl ⟨rfl, by omega⟩⟩
  | succ k ih =>
    intro fu c L y t μ1 hk hfu c0 c1 hwt hT hS hG
    cases fu with
    | zero => omega
    | succ fu =>
      have hnx := c_nextLayer hn hNs hN hp hP8 100001 zfu 0 L y t μ1 (by omega) (by unfold zfu; omega) (by omega) (by omega) hwt hT hS hG
      unfold f_X6_findLayer_L2 f_X6_findNextLayer
      simp only [zlet]
      rw [if_pos (by omega)]
      refine ok_bnd2.mpr (hnx.imp fun w q => ?_)
      rcases q.2 with h | ⟨h, t', y', a1, a2, a3, a4, a5, a6⟩
      · rw [h.2] at hk
        simp at hk
      · rw [h, if_neg (by decide), a5]
        rw [a5, List.length_cons] at hk
        by_cases hcx : c = x1
        · rw [if_pos hcx]
          have hcel : ∀ j : Int, 0 ≤ j → j < (N : Int) → w.2 28 j = t' j := by
            intro j b c
            by_cases hj : j = ((N - 1 : Nat) : Int)
            · rw [hj, a2]; exact a1.2.2.2.2.2.1
            · exact a1.2.2.2.2.1 j b (by omega)
          exact ok_some.mpr ⟨q.1, Or.inr ⟨0, by simp, rfl, by omega, t', a3, by simp, hcel⟩⟩
        · rw [if_neg hcx, zw_eq (by omega) (by omega)]
          have hT2 : ShT w.2 := (q.1.sub (cs' := [28, 29, 30, 31]) (ss' := [6]) (by decide) (by decide)).sht hT
          refine (ih fu (c + 1) (N - 1) y' t' w.2 (by omega) (by omega) (by omega) (by omega) (by omega) hT2 a1 (fun j hj => a4 j (by omega))).imp fun v r => ?_
          refine ⟨q.1.trans r.1, ?_⟩
          rcases r.2 with ⟨b1, b2⟩ | ⟨i, hi, b1, b2, b3⟩
          · exact Or.inl ⟨b1, by rw [List.length_cons]; omega⟩
          · exact Or.inr ⟨i + 1, by rw [List.length_cons]; omega, b1, by omega, b3⟩
