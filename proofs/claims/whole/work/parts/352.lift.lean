/-! moves and lift: the layer's table -/
theorem hasSt {μ : zMem} (hT : ShT μ) {n x : Int} (h : 2 ≤ n ∧ n ≤ 4) (hs : μ 3 8 = 66 + 4 * n) : f_X1_hasStorey x μ = some (if 0 ≤ x ∧ x < n then 1 else 0) := by
  unfold f_X1_hasStorey
  rw [if_neg (by omega), hs, chk_pos (by omega)]
  simp only [zlet]
  rw [(hT n h.1 h.2).2.1]
  by_cases h1 : x < 0
  · rw [if_pos h1, if_neg (by omega)]
  · rw [if_neg h1]
    by_cases h2 : x < n
    · rw [if_pos h2, if_pos (by omega)]
    · rw [if_neg h2, if_neg (by omega)]
theorem sim_moves {μ : zMem} {a b : Int} (h : Rel μ) : ∃ r, f_X9_moves a b μ = some r ∧ f_X10_moves a b μ = some r := by
  rcases h.2.2.2.2.2 with ⟨e1, e2⟩ | ⟨n, n2, n4, c, d, e, f, g, i, j, k, l, m, _⟩
  · refine ⟨-4, ?_, ?_⟩
    · unfold f_X9_moves f_X1_isLaid
      rw [if_pos e1, if_pos rfl]
    · unfold f_X10_moves
      rw [if_pos e2]
  · have hl : ¬ f_X1_isLaid μ = 0 := by unfold f_X1_isLaid; omega
    have hM : f_X10_moves a b μ = if f_X10_in a 0 (μ 3 7 - 1) = 0 then some (-1) else if f_X10_in b 0 (n - 1) = 0 then some (-1) else chk (0 ≤ zw (zw (4 * a) + b) ∧ zw (zw (4 * a) + b) < 64) (some (μ 142 (zw (zw (4 * a) + b)))) := by
      unfold f_X10_moves
      rw [if_neg (by omega), l, e, zw_eq (x := μ 3 7 - 1) (by omega) (by omega), zw_eq (x := n - 1) (by omega) (by omega)]
    by_cases ha : 0 ≤ a ∧ a < μ 3 7
    · by_cases hb : 0 ≤ b ∧ b < n
      · have hm := m.1 a ha.1 ha.2
        refine ⟨prm n (μ 11 a) b, ?_, ?_⟩
        · unfold f_X9_moves
          rw [if_neg hl, if_neg (show ¬ a < 0 by omega), if_pos ha.2, hasSt h.1.1 ⟨n2, n4⟩ c, if_pos hb, bnd_pos rfl, if_neg (by decide), c, chk_pos (by omega)]
          simp only [zlet]
          rw [chk_pos (by omega), c_move h.1.1 ⟨n2, n4⟩ ⟨hm.1, hm.2.1⟩ hb, bnd_pos rfl]
        · rw [hM, if_neg (fun e => in0.mp e (by omega)), if_neg (fun e => in0.mp e (by omega)), zw_eq (x := 4 * a) (by omega) (by omega), zw_eq (x := 4 * a + b) (by omega) (by omega), chk_pos (by omega), (hm.2.2 b hb.1 hb.2).1]
      · refine ⟨-1, ?_, ?_⟩
        · unfold f_X9_moves
          rw [if_neg hl, if_neg (show ¬ a < 0 by omega), if_pos ha.2, hasSt h.1.1 ⟨n2, n4⟩ c, if_neg hb, bnd_pos rfl, if_pos rfl]
        · rw [hM, if_neg (fun e => in0.mp e (by omega)), if_pos (in0.mpr (by omega))]
    · refine ⟨-1, ?_, ?_⟩
      · unfold f_X9_moves
        rw [if_neg hl]
        by_cases ha0 : a < 0
        · rw [if_pos ha0]
        · rw [if_neg ha0, if_neg (by omega)]
      · rw [hM, if_pos (in0.mpr (by omega))]
/-- where a step moves a storey, by the layer's table -/
def lmv (μ : zMem) (n c x : Int) : Int := if μ 12 (c / 2) < 0 then x else if c % 2 = 0 then prm n (μ 11 (μ 12 (c / 2))) x else prm n (bak n (μ 11 (μ 12 (c / 2)))) x
theorem lmv_rg {μ : zMem} {n c x : Int} (h : 2 ≤ n ∧ n ≤ 4) (hT : LyT μ n) (hc : 0 ≤ c ∧ c < 24) (hx : 0 ≤ x ∧ x < n) : 0 ≤ lmv μ n c x ∧ lmv μ n c x < n := by
  unfold lmv
  split
  · exact hx
  · have h1 := hT.2 (c / 2) (by omega) (by omega)
    have h2 := hT.1 (μ 12 (c / 2)) (by omega) (by omega)
    split
    · exact prm_rg h ⟨h2.1, h2.2.1⟩ hx
    · exact prm_rg h (bak_rg h ⟨h2.1, h2.2.1⟩) hx
theorem c_moveByStep {μ : zMem} (hS : ShT μ) {n c x : Int} (h : 2 ≤ n ∧ n ≤ 4) (hs : μ 3 8 = 66 + 4 * n) (h7 : μ 3 7 ≤ 12) (hT : LyT μ n) (hc : 0 ≤ c ∧ c < 24) (hx : 0 ≤ x ∧ x < n) : f_X1_moveByStep c x μ = some (lmv μ n c x) := by
  have hr : Rg c := ⟨by omega, by omega⟩
  unfold f_X1_moveByStep lmv
  rw [zshr1 hr, zand1 hr, chk_pos (by omega)]
  simp only [zlet]
  by_cases h1 : μ 12 (c / 2) < 0
  · rw [if_pos h1, if_pos h1]
  · have h2 := hT.2 (c / 2) (by omega) (by omega)
    have h3 := hT.1 (μ 12 (c / 2)) (by omega) (by omega)
    rw [if_neg h1, if_neg h1, chk_pos (by omega), hs, chk_pos (by omega)]
    unfold f_X1_moveByStep_J47
    by_cases h4 : c % 2 = 0
    · rw [if_pos h4, if_pos h4, c_move hS h ⟨h3.1, h3.2.1⟩ hx, bnd_pos rfl]
    · rw [if_neg h4, if_neg h4, chk_pos (by omega), c_back hS h ⟨h3.1, h3.2.1⟩, bnd_pos rfl, c_move hS h (bak_rg h ⟨h3.1, h3.2.1⟩) hx, bnd_pos rfl]
def lfr (w : Int → Int) (f : Int → Int → Int) : Nat → Int → Int → Int
  | 0, _, x => x
  | m + 1, i, x => lfr w f m (i + 1) (f (w i) x)
theorem sim_lift {μ : zMem} {a b : Int} (h : Rel μ) : ∃ r, f_X9_lift a b μ = some r ∧ f_X10_lift a b μ = some r := by
  rcases h.2.2.2.2.2 with ⟨e1, e2⟩ | ⟨n, n2, n4, c, d, e, f, g, i, j, k, l, m, _⟩
  · refine ⟨-4, ?_, ?_⟩
    · unfold f_X9_lift f_X1_isLaid
      rw [if_pos e1, if_pos rfl]
    · unfold f_X10_lift
      rw [if_pos e2]
  · have hl : ¬ f_X1_isLaid μ = 0 := by unfold f_X1_isLaid; omega
    have hM0 : f_X10_lift a b μ = if f_X10_isSlot a = 0 then some (-1) else if f_X10_in b 0 (n - 1) = 0 then some (-1) else chk (0 ≤ a ∧ a < 4) (if μ 148 a = μ 3 6 then chk (0 ≤ a ∧ a < 4) (if μ 150 a = 0 then f_X10_lift_L63 a μ zfu b 0 else some (-2)) else some (-2)) := by
      unfold f_X10_lift
      rw [if_neg (by omega), e, i, zw_eq (x := n - 1) (by omega) (by omega)]
    by_cases h1 : 0 ≤ a ∧ a ≤ 3
    · have h5 := h.1.2.2 a (by omega) (by omega)
      have hs := h.2.2.2.1 a (by omega) (by omega)
      have hn := hs.none
      rw [if_neg (fun e => isSlotM0.mp e h1)] at hM0
      by_cases hb : 0 ≤ b ∧ b < n
      · rw [if_neg (fun e => in0.mp e (by omega)), chk_pos (by omega), chk_pos (by omega)] at hM0
        have hC0 : f_X9_lift a b μ = if μ (58 + 2 * a) 1 = μ 3 6 then if μ (58 + 2 * a) 3 = 0 then bnd (f_X1_knows (58 + 2 * a) μ) fun x_3 => if x_3 = 0 then some (-2) else f_X9_lift_L81 μ (58 + 2 * a) zfu b 0 else some (-2) else some (-2) := by
          unfold f_X9_lift
          rw [if_neg hl, if_neg (fun e => isSlot0.mp e h1), hasSt h.1.1 ⟨n2, n4⟩ c, if_pos hb, bnd_pos rfl, if_neg (by decide), chk_pos (by omega), h5.1, chk_pos (by omega)]
          rfl
        rcases hs with ⟨s1, s2⟩ | ⟨o1, o2, o3, o4, o5, o6, o7, o8, o9⟩
        · exact ⟨-2, by rw [hC0, if_neg (by omega)], by rw [hM0, if_neg (by omega)]⟩
        · by_cases h6 : μ (58 + 2 * a) 1 = μ 3 6
          · by_cases h7 : μ (58 + 2 * a) 3 = 0
            · rw [if_pos h6, if_pos h7] at hC0
              rw [if_pos (by omega), if_pos (by omega)] at hM0
              have hed := h.edges (s := μ (58 + 2 * a) 1) ⟨o1, o2⟩
              have hzl := zlen_sl (q := a) (by omega)
              have hw : ∀ x, 0 ≤ x → x < μ (58 + 2 * a) 2 → μ 152 (16 * a + x) = stp (μ (58 + 2 * a + 1) x) ∧ 0 ≤ μ (58 + 2 * a + 1) x ∧ μ (58 + 2 * a + 1) x < 24 := fun x a0 a1 => ⟨(o9 x a0 a1).1, (o9 x a0 a1).2.1, by have := (o9 x a0 a1).2.2; omega⟩
              generalize hcn : μ (58 + 2 * a) 2 = N at *
              -- knows
              have hK : ∀ (fu : Nat) (x : Int), 0 ≤ x → x ≤ N → (N - x).toNat < fu → (f_X1_knows_L2 (58 + 2 * a) μ fu x = some 1 ∧ ∀ y, x ≤ y → y < N → μ 12 (μ (58 + 2 * a + 1) y / 2) ≠ -2) ∨ (f_X1_knows_L2 (58 + 2 * a) μ fu x = some 0 ∧ ∃ y, x ≤ y ∧ y < N ∧ μ 12 (μ (58 + 2 * a + 1) y / 2) = -2) := by
                intro fu
                induction fu with
                | zero => intro x _ _ h; omega
                | succ fu ih =>
                  intro x x0 x1 x2
                  unfold f_X1_knows_L2
                  rw [hcn]
                  by_cases hx : x < N
                  · have hwx := hw x x0 hx
                    rw [if_pos hx, chk_pos (by omega), zshr1 ⟨by omega, by omega⟩, chk_pos (by omega)]
                    by_cases hq : μ 12 (μ (58 + 2 * a + 1) x / 2) = -2
                    · rw [if_pos hq]
                      exact Or.inr ⟨rfl, x, by omega, hx, hq⟩
                    · rw [if_neg hq]
                      simp only [zlet]
                      rw [zw_eq (by omega) (by omega)]
                      rcases ih (x + 1) (by omega) (by omega) (by omega) with ⟨q1, q2⟩ | ⟨q1, y, q2, q3, q4⟩
                      · refine Or.inl ⟨q1, fun y y0 y1 => ?_⟩
                        by_cases hy : y = x
                        · rw [hy]; exact hq
                        · exact q2 y (by omega) y1
                      · exact Or.inr ⟨q1, y, by omega, q3, q4⟩
                  · rw [if_neg hx]
                    exact Or.inl ⟨rfl, fun y y0 y1 => by omega⟩
              -- the class's walk
              have hL : ∀ (fu : Nat) (x y : Int), 0 ≤ x → x < n → 0 ≤ y → y ≤ N → (N - y).toNat < fu → f_X9_lift_L81 μ (58 + 2 * a) fu x y = some (lfr (μ (58 + 2 * a + 1)) (lmv μ n) (N - y).toNat y x) := by
                intro fu
                induction fu with
                | zero => intro x y _ _ _ _ h; omega
                | succ fu ih =>
                  intro x y x0 x1 y0 y1 y2
                  unfold f_X9_lift_L81
                  rw [hcn]
                  by_cases hy : y < N
                  · have hwx := hw y y0 hy
                    have hrg := lmv_rg ⟨n2, n4⟩ m ⟨hwx.2.1, hwx.2.2⟩ ⟨x0, x1⟩
                    rw [if_pos hy, chk_pos (by omega), c_moveByStep h.1.1 ⟨n2, n4⟩ c k m ⟨hwx.2.1, hwx.2.2⟩ ⟨x0, x1⟩, bnd_pos rfl]
                    simp only [zlet]
                    rw [zw_eq (by omega) (by omega), ih _ (y + 1) hrg.1 hrg.2 (by omega) (by omega) (by omega), show (N - y).toNat = (N - (y + 1)).toNat + 1 by omega]
                    rfl
                  · rw [if_neg hy, show (N - y).toNat = 0 by omega]
                    rfl
              -- the reference's walk
              have hP : ∀ (fu : Nat) (x y : Int), 0 ≤ x → x < n → 0 ≤ y → y ≤ N → (N - y).toNat < fu → ((∀ z, y ≤ z → z < N → μ 12 (μ (58 + 2 * a + 1) z / 2) ≠ -2) → f_X10_lift_L63 a μ fu x y = some (lfr (μ (58 + 2 * a + 1)) (lmv μ n) (N - y).toNat y x)) ∧ ((∃ z, y ≤ z ∧ z < N ∧ μ 12 (μ (58 + 2 * a + 1) z / 2) = -2) → f_X10_lift_L63 a μ fu x y = some (-2)) := by
                intro fu
                induction fu with
                | zero => intro x y _ _ _ _ h; omega
                | succ fu ih =>
                  intro x y x0 x1 y0 y1 y2
                  unfold f_X10_lift_L63
                  rw [chk_pos (by omega), o4]
                  by_cases hy : y < N
                  · obtain ⟨w1, w2, w3⟩ := hw y y0 hy
                    have hrg := lmv_rg ⟨n2, n4⟩ m ⟨w2, w3⟩ ⟨x0, x1⟩
                    rw [if_pos hy, zw_eq (x := 16 * a) (by omega) (by omega), zw_eq (x := 16 * a + y) (by omega) (by omega), chk_pos (by omega), w1]
                    simp only [zlet]
                    have hst := stp_edge w2
                    have hsp := stp_pos w2
                    have hed2 : (if stp (μ (58 + 2 * a + 1) y) ≤ 0 then zw (zw (-stp (μ (58 + 2 * a + 1) y)) - 1) else zw (stp (μ (58 + 2 * a + 1) y) - 1)) = μ (58 + 2 * a + 1) y / 2 := by
                      by_cases hq : stp (μ (58 + 2 * a + 1) y) ≤ 0
                      · rw [if_neg (by omega)] at hst
                        rw [if_pos hq, zw_eq (x := -stp (μ (58 + 2 * a + 1) y)) (by omega) (by omega), zw_eq (by omega) (by omega), hst]
                      · rw [if_pos (by omega)] at hst
                        rw [if_neg hq, zw_eq (by omega) (by omega), hst]
                    rw [hed2]
                    unfold f_X10_lift_J105
                    rw [chk_pos (by omega)]
                    have hTe := m.2 (μ (58 + 2 * a + 1) y / 2) (by omega) (by omega)
                    by_cases hq : μ 12 (μ (58 + 2 * a + 1) y / 2) = -2
                    · rw [if_pos (by omega)]
                      exact ⟨fun hall => absurd hq (hall y (by omega) hy), fun _ => rfl⟩
                    · rw [if_neg (by omega), chk_pos (by omega)]
                      simp only [zlet]
                      have hgo : ∀ v, v = lmv μ n (μ (58 + 2 * a + 1) y) x → ((∀ z, y ≤ z → z < N → μ 12 (μ (58 + 2 * a + 1) z / 2) ≠ -2) → f_X10_lift_J168 y (f_X10_lift_L63 a μ fu) v = some (lfr (μ (58 + 2 * a + 1)) (lmv μ n) (N - y).toNat y x)) ∧ ((∃ z, y ≤ z ∧ z < N ∧ μ 12 (μ (58 + 2 * a + 1) z / 2) = -2) → f_X10_lift_J168 y (f_X10_lift_L63 a μ fu) v = some (-2)) := by
                        intro v hv
                        have i1 := ih v (y + 1) (by omega) (by omega) (by omega) (by omega) (by omega)
                        unfold f_X10_lift_J168
                        simp only [zlet]
                        rw [zw_eq (by omega) (by omega)]
                        refine ⟨fun hall => ?_, fun ⟨z, z0, z1, z2⟩ => i1.2 ⟨z, ?_, z1, z2⟩⟩
                        · rw [i1.1 (fun z z0 z1 => hall z (by omega) z1), show (N - y).toNat = (N - (y + 1)).toNat + 1 by omega, hv]
                          rfl
                        · by_cases hzy : z = y
                          · rw [hzy] at z2; exact absurd z2 hq
                          · omega
                      by_cases hq0 : μ 12 (μ (58 + 2 * a + 1) y / 2) < 0
                      · rw [if_pos (by omega)]
                        exact hgo x (by unfold lmv; rw [if_pos hq0])
                      · have h8 := m.1 (μ 12 (μ (58 + 2 * a + 1) y / 2)) (by omega) (by omega)
                        rw [if_neg (by omega), show μ 144 (μ (58 + 2 * a + 1) y / 2) = μ 12 (μ (58 + 2 * a + 1) y / 2) by omega, zw_eq (x := 4 * μ 12 (μ (58 + 2 * a + 1) y / 2)) (by omega) (by omega), zw_eq (by omega) (by omega), chk_pos (by omega), chk_pos (by omega)]
                        by_cases hq2 : μ (58 + 2 * a + 1) y % 2 = 0
                        · rw [if_neg (by omega)]
                          refine hgo _ ?_
                          unfold lmv
                          rw [if_neg hq0, if_pos hq2, (h8.2.2 x x0 x1).1]
                        · rw [if_pos (by omega)]
                          refine hgo _ ?_
                          unfold lmv
                          rw [if_neg hq0, if_neg hq2]
                          have hbp := bak_prm ⟨n2, n4⟩ ⟨h8.1, h8.2.1⟩ ⟨x0, x1⟩
                          have hbr := prm_rg ⟨n2, n4⟩ (bak_rg ⟨n2, n4⟩ ⟨h8.1, h8.2.1⟩) ⟨x0, x1⟩
                          have h9 := (h8.2.2 _ hbr.1 hbr.2).2
                          rw [hbp.2] at h9
                          exact h9
                  · rw [if_neg hy, show (N - y).toNat = 0 by omega]
                    exact ⟨fun _ => rfl, fun ⟨z, z0, z1, _⟩ => by omega⟩
              have hP0 := hP zfu b 0 hb.1 hb.2 (by omega) o7 (by unfold zfu; omega)
              rw [Int.sub_zero] at hP0
              unfold f_X1_knows at hC0
              rcases hK zfu 0 (by omega) o7 (by unfold zfu; omega) with ⟨k1, k2⟩ | ⟨k1, k2⟩
              · rw [k1, bnd_pos rfl, if_neg (by decide), hL zfu b 0 hb.1 hb.2 (by omega) o7 (by unfold zfu; omega), Int.sub_zero] at hC0
                exact ⟨_, hC0, hM0.trans (hP0.1 k2)⟩
              · rw [k1, bnd_pos rfl, if_pos rfl] at hC0
                exact ⟨_, hC0, hM0.trans (hP0.2 k2)⟩
            · exact ⟨-2, by rw [hC0, if_pos h6, if_neg h7], by rw [hM0, if_pos (by omega), if_neg (by omega)]⟩
          · exact ⟨-2, by rw [hC0, if_neg h6], by rw [hM0, if_neg (by omega)]⟩
      · refine ⟨-1, ?_, ?_⟩
        · unfold f_X9_lift
          rw [if_neg hl, if_neg (fun e => isSlot0.mp e h1), hasSt h.1.1 ⟨n2, n4⟩ c, if_neg hb, bnd_pos rfl, if_pos rfl]
        · rw [hM0, if_pos (in0.mpr (by omega))]
    · refine ⟨-1, ?_, ?_⟩
      · unfold f_X9_lift
        rw [if_neg hl, if_pos (isSlot0.mpr h1)]
      · rw [hM0, if_pos (isSlotM0.mpr h1)]
