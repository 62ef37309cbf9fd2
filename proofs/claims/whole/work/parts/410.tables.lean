/-! the tables that pass, in their order; the reference finds them so -/
def sols (p : (Int → Int) → Bool) (o : Nat) : Nat → Int → (Int → Int) → List (Int → Int)
  | 0, _, t => if p t then [t] else []
  | m + 1, x, t => (List.range' 0 o).flatMap fun (j : Nat) => sols p o m (x + 1) (seT t x (j : Int))
def solF (p : (Int → Int) → Bool) (o m : Nat) (x : Int) (t : Int → Int) (y k : Nat) : List (Int → Int) := (List.range' y k).flatMap fun (j : Nat) => sols p o m (x + 1) (seT t x (j : Int))
theorem solF_succ (p : (Int → Int) → Bool) (o m : Nat) (x : Int) (t : Int → Int) (y k : Nat) : solF p o m x t y (k + 1) = sols p o m (x + 1) (seT t x (y : Int)) ++ solF p o m x t (y + 1) k := by
  unfold solF
  rw [List.range'_succ, List.flatMap_cons]
/-- what a search that counts leaves: told r, memory behind it -/
def Res (n N c w : Int) (l : List (Int → Int)) (r : Int) (μ' : zMem) : Prop := (r = 0 ∧ μ' 101 35 = c + l.length ∧ ¬ (c < w ∧ w ≤ c + l.length)) ∨ (∃ i, ∃ h : i < l.length, r = 1 ∧ w = c + i + 1 ∧ μ' 101 35 = w ∧ MTb μ' n N (l[i]'h))
theorem Res.app1 {n N c w r : Int} {l l' : List (Int → Int)} {μ' : zMem} (h : Res n N c w l r μ') (hr : r ≠ 0) : Res n N c w (l ++ l') r μ' := by
  rcases h with h | ⟨i, h, h1, h2, h3, h4⟩
  · exact absurd h.1 hr
  · refine Or.inr ⟨i, by simp; omega, h1, h2, h3, ?_⟩
    rw [List.getElem_append_left h]
    exact h4
theorem Res.app2 {n N c w r : Int} {l l' : List (Int → Int)} {μ1 μ' : zMem} (h : Res n N c w l 0 μ1) (h' : Res n N (μ1 101 35) w l' r μ') : Res n N c w (l ++ l') r μ' := by
  rcases h with ⟨_, a, b⟩ | ⟨i, h, h1, _⟩
  · rw [a] at h'
    rcases h' with ⟨a1, a2, a3⟩ | ⟨i, h, h1, h2, h3, h4⟩
    · refine Or.inl ⟨a1, by rw [a2, List.length_append]; omega, by rw [List.length_append]; omega⟩
    · refine Or.inr ⟨l.length + i, by rw [List.length_append]; omega, h1, by omega, h3, ?_⟩
      rw [List.getElem_append_right (by omega)]
      simp only [Nat.add_sub_cancel_left]
      exact h4
  · exact absurd h1 (by decide)
theorem seT_R {n x j : Int} {t : Int → Int} (ht : TbR n x t) (hj : 0 ≤ j ∧ j < fct n) : TbR n (x + 1) (seT t x j) := by
  intro i i0 i1
  unfold seT
  split
  · exact hj
  · exact ht i i0 (by omega)
theorem Fm.mor {cs ss : List Int} {μ μ1 : zMem} {n : Int} (h : Fm cs ss μ μ1) (h1 : 133 ∉ cs) (h2 : 28 ∉ ss) (h3 : 30 ∉ ss) (c : MOr μ n) : MOr μ1 n := by
  unfold MOr
  rw [h.2 28 h2, h.2 30 h3, h.1 133 h1 (by decide)]
  exact c
theorem m_goTables {μ : zMem} {s n : Int} {N : Nat} {p : (Int → Int) → Bool} (hn : 2 ≤ n ∧ n ≤ 4) (ho : MOr μ n) (hN : μ 101 29 = N) (hN16 : N ≤ 16) (hleaf : ∀ (fu : Nat) (t : Int → Int) (μ1 : zMem), Fm [128, 129, 134] [35] μ μ1 → MTb μ1 n N t → TbR n N t → 0 ≤ μ1 101 35 → μ1 101 35 ≤ 30000 → Ok (f_X10_goTables (fu + 1) s N μ1) (fun w => Fm [128, 129, 134] [35] μ w.2 ∧ Res n N (μ1 101 35) (μ 101 34) (if p t then [t] else []) w.1 w.2 ∧ MTb w.2 n N t)) :
    ∀ (m fu : Nat) (x : Int) (t : Int → Int) (μ1 : zMem), m < fu → 0 ≤ x → x + m = N → Fm [128, 129, 134] [35] μ μ1 → MTb μ1 n x t → TbR n x t → 0 ≤ μ1 101 35 → μ1 101 35 + (sols p (fct n).toNat m x t).length ≤ 30000 → Ok (f_X10_goTables fu s x μ1) (fun w => Fm [128, 129, 134] [35] μ w.2 ∧ Res n N (μ1 101 35) (μ 101 34) (sols p (fct n).toNat m x t) w.1 w.2 ∧ MTb w.2 n x t) := by
  have hfc := fct_pos hn
  intro m
  induction m with
  | zero =>
    intro fu x t μ1 hfu x0 hx hF hB hR h0 h1
    cases fu with
    | zero => omega
    | succ fu =>
      have e : x = N := by omega
      subst e
      exact hleaf fu t μ1 hF hB hR h0 (by omega)
  | succ m ih =>
    intro fu x t μ1 hfu x0 hx hF hB hR h0 h1
    cases fu with
    | zero => omega
    | succ fu =>
      unfold f_X10_goTables
      rw [hF.2 29 (by decide), hN, if_pos (by omega)]
      have key : ∀ (k z y : Nat) (μ2 : zMem), k < z → y + k = (fct n).toNat → Fm [128, 129, 134] [35] μ μ2 → MTb μ2 n x t → 0 ≤ μ2 101 35 → μ2 101 35 + (solF p (fct n).toNat m x t y k).length ≤ 30000 → Ok (f_X10_goTables_L10 s x (f_X10_goTables fu) z (y : Int) μ2) (fun w => Fm [128, 129, 134] [35] μ w.2 ∧ Res n N (μ2 101 35) (μ 101 34) (solF p (fct n).toNat m x t y k) w.1 w.2 ∧ MTb w.2 n x t) := by
        intro k
        induction k with
        | zero =>
          intro z y μ2 hz hy hF2 hB2 h02 h12
          cases z with
          | zero => omega
          | succ z =>
            unfold f_X10_goTables_L10
            rw [hF2.2 30 (by decide), ho.2.1, if_neg (by omega)]
            refine ok_some.mpr ⟨hF2, Or.inl ⟨rfl, ?_, ?_⟩, hB2⟩
            · simp [solF]
            · simp [solF]
        | succ k ihk =>
          intro z y μ2 hz hy hF2 hB2 h02 h12
          cases z with
          | zero => omega
          | succ z =>
            rw [solF_succ, List.length_append] at h12
            unfold f_X10_goTables_L10
            simp only [zlet]
            rw [hF2.2 30 (by decide), ho.2.1, if_pos (by omega), zw_eq (x := x + 1) (by omega) (by omega), zw_eq (x := (y : Int) + 1) (by omega) (by omega)]
            have hj : 0 ≤ (y : Int) ∧ (y : Int) < fct n := by omega
            refine ok_bnd.mpr ((m_putTurn hn (hF2.mor (by decide) (by decide) (by decide) ho) ⟨x0, by omega⟩ hj hB2).imp fun μ3 q => ?_)
            obtain ⟨q1, q2⟩ := q
            have q35 : μ3 101 35 = μ2 101 35 := q1.2 35 (by decide)
            have hF3 := hF2.trans (q1.sub (cs' := [128, 129, 134]) (ss' := [35]) (by decide) (by decide))
            refine ok_bnd2.mpr ((ih fu (x + 1) (seT t x y) μ3 (by omega) (by omega) (by omega) hF3 q2 (seT_R hR hj) (by omega) (by omega)).imp fun w q => ?_)
            obtain ⟨w1, w2, w3⟩ := q
            rw [q35] at w2
            have hB4 : MTb w.2 n x t := by
              intro i kk i0 i1 k0 k1
              have := w3 i kk i0 (by omega) k0 k1
              unfold seT at this
              rw [if_neg (by omega)] at this
              exact this
            rw [solF_succ]
            by_cases hr : w.1 = 0
            · rw [if_pos hr]
              rw [hr] at w2
              have hc : w.2 101 35 = μ2 101 35 + (sols p (fct n).toNat m (x + 1) (seT t x (y : Int))).length := by
                rcases w2 with h | ⟨i, h, h1, _⟩
                · exact h.2.1
                · exact absurd h1 (by decide)
              have := ihk z (y + 1) w.2 (by omega) (by omega) w1 hB4 (by omega) (by omega)
              refine this.imp fun v q => ?_
              exact ⟨q.1, Res.app2 w2 q.2.1, q.2.2⟩
            · rw [if_neg hr]
              have hr1 : w.1 = 1 := by
                rcases w2 with h | ⟨i, h, h1, _⟩
                · exact absurd h.1 hr
                · exact h1
              refine ok_some.mpr ⟨w1, ?_, hB4⟩
              have := w2.app1 (l' := solF p (fct n).toNat m x t (y + 1) k) hr
              rw [hr1] at this
              exact this
      exact key (fct n).toNat zfu 0 μ1 (by unfold zfu; omega) (by omega) hF hB h0 h1
