/-! the class counts its tables -/
theorem lft_first (p : (Int → Int) → Bool) (o N : Nat) (hN : 1 ≤ N) (t : Int → Int) : lft p o N t 0 0 = sols p o N 0 (fun _ => 0) := by
  have e : N = (N - 1) + 1 := by omega
  have e1 : clp t 0 = fun _ => 0 := by
    funext i
    unfold clp
    rw [if_neg (by omega)]
  conv => rhs; rw [e]
  unfold lft
  rw [e1]
  rfl
theorem wgl_first (o N : Nat) (hN : 1 ≤ N) (t : Int → Int) : wgl o N t 0 0 = wgt o N := by
  have e : N = (N - 1) + 1 := by omega
  conv => rhs; rw [e]
  rfl
theorem c_countL {n mP : Int} {σ : Sp} {N : Nat} (hn : 2 ≤ n ∧ n ≤ 4) (hNs : (N : Int) = sN σ) (hN : 1 ≤ N ∧ N ≤ 12) (hp : WfP σ mP) (hP8 : sP σ ≤ 8) : ∀ (k fu : Nat) (c : Int) (L y : Nat) (t : Int → Int) (μ1 : zMem), (lft (pH σ n) (fct n).toNat N t L y).length = k → k < fu → 0 ≤ c → c + k ≤ 20000 → wgl (fct n).toNat N t L y ≤ 100000 → ShT μ1 → StT μ1 n N (rms σ) L t y → (∀ j : Nat, j < L → drh n t j (rms σ) = true) → Ok (f_X9_tables_L62 fu c μ1) (fun w => Ft [28] [6] μ1 w.2 ∧ w.1 = c + k) := by
  have hl8 : (rms σ).length ≤ 8 := by
    have := rmsF_len σ (sP σ).toNat 0
    unfold rms
    omega
  intro k
  induction k with
  | zero =>
    intro fu c L y t μ1 hk hfu c0 c1 hwt hT hS hG
    cases fu with
    | zero => omega
    | succ fu =>
      have hnx := c_findNextL (x1 := 0) (p := pH σ n) (fl := fun _ _ => true) hn hN hl8 (by rw [hNs]; exact rms_wd hp) (fun h => absurd rfl h) (fun L t a b c => prn1 hp _ (by simpa using c)) (fun t a b => by rw [hNs]; exact prn2 hp (by omega) (fun L h => by simpa using b L (by omega))) (fun L t t' a b => by
        rw [drh_cg (N := sN σ) (fun ws q => (rms_wd hp ws q).1) b]) 100001 zfu 0 L y t μ1 (by omega) (by unfold zfu; omega) (by omega) (by omega) hT hS (fun k a => by simpa using hG k a)
      unfold f_X9_tables_L62
      rw [if_pos (by omega)]
      have h8 : ¬ μ1 27 8 = 0 := by rw [hS.2.1]; omega
      unfold f_X6_findNext
      rw [if_neg h8]
      refine ok_bnd2.mpr (hnx.imp fun w q => ?_)
      rcases q.2 with h | ⟨h, t', y', a1, a2, a3, a4, a5, a6⟩
      · rw [if_pos h.1]
        exact ok_some.mpr ⟨q.1, by simp⟩
      · rw [a5] at hk
        simp at hk
  | succ k ih =>
    intro fu c L y t μ1 hk hfu c0 c1 hwt hT hS hG
    cases fu with
    | zero => omega
    | succ fu =>
      have hnx := c_findNextL (x1 := 0) (p := pH σ n) (fl := fun _ _ => true) hn hN hl8 (by rw [hNs]; exact rms_wd hp) (fun h => absurd rfl h) (fun L t a b c => prn1 hp _ (by simpa using c)) (fun t a b => by rw [hNs]; exact prn2 hp (by omega) (fun L h => by simpa using b L (by omega))) (fun L t t' a b => by
        rw [drh_cg (N := sN σ) (fun ws q => (rms_wd hp ws q).1) b]) 100001 zfu 0 L y t μ1 (by omega) (by unfold zfu; omega) (by omega) (by omega) hT hS (fun k a => by simpa using hG k a)
      unfold f_X9_tables_L62
      simp only [zlet]
      rw [if_pos (by omega)]
      have h8 : ¬ μ1 27 8 = 0 := by rw [hS.2.1]; omega
      unfold f_X6_findNext
      rw [if_neg h8]
      refine ok_bnd2.mpr (hnx.imp fun w q => ?_)
      rcases q.2 with h | ⟨h, t', y', a1, a2, a3, a4, a5, a6⟩
      · rw [h.2] at hk
        simp at hk
      · rw [h, if_neg (by decide), zw_eq (by omega) (by omega)]
        rw [a5] at hk
        simp at hk
        have hT2 : ShT w.2 := (q.1.sub (cs' := [28, 29, 30, 31]) (ss' := [6]) (by decide) (by decide)).sht hT
        refine (ih fu (c + 1) (N - 1) y' t' w.2 hk (by omega) (by omega) (by omega) (by omega) hT2 a1 (fun j hj => by simpa using a4 j (by omega))).imp fun v r => ?_
        exact ⟨q.1.trans r.1, by rw [r.2]; omega⟩
