/-! DRAWN agrees: both -/
theorem sim_drawn {μ : zMem} {a b : Int} (h : Rel μ) : Ok (f_X9_drawn a b μ) (fun v => Ok (f_X10_drawn a b v.2) (fun w => w.1 = v.1 ∧ Rel w.2)) := by
  by_cases ha : 0 ≤ a ∧ a ≤ 3
  rotate_left
  · refine sim_same h (r := -1) ?_ ?_
    · unfold f_X9_drawn; rw [if_pos (isSlot0.mpr ha)]
    · unfold f_X10_drawn; rw [if_pos (isSlotM0.mpr ha)]
  by_cases hb : 0 ≤ b ∧ b ≤ 3
  rotate_left
  · refine sim_same h (r := -1) ?_ ?_
    · unfold f_X9_drawn; rw [if_neg (fun q => isSlot0.mp q ha), if_pos (isSlot0.mpr hb)]
    · unfold f_X10_drawn; rw [if_neg (fun q => isSlotM0.mp q ha), if_pos (isSlotM0.mpr hb)]
  have sa := h.1.2.2 a ha.1 (by omega)
  have sb := h.1.2.2 b hb.1 (by omega)
  have ra := h.2.2.2.1 a ha.1 (by omega)
  have rb := h.2.2.2.1 b hb.1 (by omega)
  have na : μ 16 a ≠ 0 := by omega
  have nb : μ 16 b ≠ 0 := by omega
  -- the class up to its tests
  have cls : ∀ r : Int, (¬ (0 ≤ μ (58 + 2 * a) 1 ∧ μ (58 + 2 * a) 1 ≤ 1) ∨ μ (58 + 2 * a) 1 ≠ μ (58 + 2 * b) 1 ∨ μ (58 + 2 * a) 3 ≠ μ (58 + 2 * b) 3 ∨ μ (58 + 2 * a) 4 ≠ μ (58 + 2 * b) 4) → f_X9_drawn a b μ = some (-2, μ) := by
    intro _ hh
    unfold f_X9_drawn
    simp only [zlet]
    rw [if_neg (fun q => isSlot0.mp q ha), if_neg (fun q => isSlot0.mp q hb), chk_pos (by omega), chk_pos na, chk_pos (by omega), chk_pos nb, sa.1, sb.1]
    by_cases h0 : 0 ≤ μ (58 + 2 * a) 1 ∧ μ (58 + 2 * a) 1 ≤ 1
    · rw [if_neg (fun q => isOwn0.mp q h0)]
      by_cases h1 : μ (58 + 2 * a) 1 = μ (58 + 2 * b) 1
      · rw [if_pos h1]
        by_cases h3 : μ (58 + 2 * a) 3 = μ (58 + 2 * b) 3
        · rw [if_pos h3, if_neg (by
            rcases hh with q | q | q | q
            · exact absurd h0 q
            · exact absurd h1 q
            · exact absurd h3 q
            · exact q)]
        · rw [if_neg h3]
      · rw [if_neg h1]
    · rw [if_pos (isOwn0.mpr h0)]
  have ref : ∀ r : Int, (μ 148 a < 0 ∨ μ 148 a ≠ μ 148 b ∨ μ 150 a ≠ μ 150 b ∨ μ 151 a ≠ μ 151 b) → f_X10_drawn a b μ = some (-2, μ) := by
    intro _ hh
    have hJ : f_X10_drawn_J75 a b 0 μ = some (-2, μ) := by
      unfold f_X10_drawn_J75
      rw [if_pos rfl]
    unfold f_X10_drawn f_X10_drawn_J74
    rw [if_neg (fun q => isSlotM0.mp q ha), if_neg (fun q => isSlotM0.mp q hb), chk_pos (by omega), hJ, chk_pos (by omega)]
    by_cases h0 : μ 148 a < 0
    · rw [if_pos h0]
    · rw [if_neg h0, chk_pos (by omega)]
      by_cases h1 : μ 148 a = μ 148 b
      · rw [if_pos h1, chk_pos (by omega), chk_pos (by omega)]
        by_cases h3 : μ 150 a = μ 150 b
        · rw [if_pos h3, chk_pos (by omega), chk_pos (by omega), if_neg (by
            rcases hh with q | q | q | q
            · exact absurd q h0
            · exact absurd h1 q
            · exact absurd h3 q
            · exact q)]
        · rw [if_neg h3]
      · rw [if_neg h1]
  rcases ra with ⟨x, y⟩ | ⟨x, y, a1, a2, a3, a4, a5, a6, a7⟩
  · exact sim_same h (r := -2) (cls 0 (Or.inl (by omega))) (ref 0 (Or.inl (by omega)))
  rcases rb with ⟨x', y'⟩ | ⟨x', y', b1, b2, b3, b4, b5, b6, b7⟩
  · exact sim_same h (r := -2) (cls 0 (Or.inr (Or.inl (by omega)))) (ref 0 (Or.inr (Or.inl (by omega))))
  by_cases h1 : μ (58 + 2 * a) 1 = μ (58 + 2 * b) 1
  rotate_left
  · exact sim_same h (r := -2) (cls 0 (Or.inr (Or.inl h1))) (ref 0 (Or.inr (Or.inl (by omega))))
  by_cases h3 : μ (58 + 2 * a) 3 = μ (58 + 2 * b) 3
  rotate_left
  · exact sim_same h (r := -2) (cls 0 (Or.inr (Or.inr (Or.inl h3)))) (ref 0 (Or.inr (Or.inr (Or.inl (by omega)))))
  by_cases h4 : μ (58 + 2 * a) 4 = μ (58 + 2 * b) 4
  rotate_left
  · exact sim_same h (r := -2) (cls 0 (Or.inr (Or.inr (Or.inr h4)))) (ref 0 (Or.inr (Or.inr (Or.inr (by omega)))))
  obtain ⟨σ, hc, hcp, hm, hw, hp⟩ := h.2.1 (μ (58 + 2 * a) 1) x y
  have hk : PK (μ 2 (μ (58 + 2 * a) 1)) := by
    have : μ (58 + 2 * a) 1 = 0 ∨ μ (58 + 2 * a) 1 = 1 := by omega
    rcases this with e | e <;> rw [e]
    · exact h.1.2.1.1
    · exact h.1.2.1.2.1
  have hkn : μ 2 (μ (58 + 2 * a) 1) ≠ 0 := by unfold PK at hk; omega
  have hu : 36 < μ 2 (μ (58 + 2 * a) 1) ∧ μ 2 (μ (58 + 2 * a) 1) < 58 := by unfold PK at hk; omega
  have hE103 : μ 103 (μ (58 + 2 * a) 1) = sE σ := hm.2.1
  have hE12 := hw.2.2.2.1
  have zz : ∀ q : Int, 0 ≤ q ∧ q ≤ 3 → zlen (58 + 2 * q + 1) = 16 := by
    intro q hq
    have : q = 0 ∨ q = 1 ∨ q = 2 ∨ q = 3 := by omega
    rcases this with e | e | e | e <;> subst e <;> decide
  rw [← h1, hE103] at b7
  rw [hE103] at a7
  have wa : ∀ i, 0 ≤ i → i < μ (58 + 2 * a) 2 → 0 ≤ μ (58 + 2 * a + 1) i ∧ μ (58 + 2 * a + 1) i < 24 := fun i p q => by have := a7 i p q; omega
  have wb : ∀ i, 0 ≤ i → i < μ (58 + 2 * b) 2 → 0 ≤ μ (58 + 2 * b + 1) i ∧ μ (58 + 2 * b + 1) i < 24 := fun i p q => by have := b7 i p q; omega
  have hs1 : Slt μ (58 + 2 * a) (μ (58 + 2 * a) 2) (μ (58 + 2 * a + 1)) := ⟨rfl, fun _ _ _ => rfl, a5, a6, zz a ha, by omega, by omega, wa⟩
  have hs2 : Slt μ (58 + 2 * b) (μ (58 + 2 * b) 2) (μ (58 + 2 * b + 1)) := ⟨rfl, fun _ _ _ => rfl, b5, b6, zz b hb, by omega, by omega, wb⟩
  unfold f_X9_drawn
  simp only [zlet]
  rw [if_neg (fun q => isSlot0.mp q ha), if_neg (fun q => isSlot0.mp q hb), chk_pos (by omega), chk_pos na, chk_pos (by omega), chk_pos nb, sa.1, sb.1, if_neg (fun q => isOwn0.mp q ⟨x, y⟩), if_pos h1, if_pos h3, if_pos h4, chk_pos (by omega), chk_pos hkn]
  refine ok_bnd2.mpr ((c_findApart (beg := μ (58 + 2 * a) 3) hu hc hk.sz hw hp hs1 hs2 (fun i p q => (a7 i p q).2.2) (fun i p q => (b7 i p q).2.2) rfl h3.symm).imp fun v q => ok_some.mpr ?_)
  obtain ⟨q1, q2⟩ := q
  have hr : Rel v.2 := h.scr ⟨fun k hk _ => q1 k (by unfold rlv at hk; omega), by rw [q1 1 (by omega)], by rw [q1 19 (by omega)], fun i _ => by rw [q1 101 (by omega)]⟩
  have m1 : SlM v.2 a (μ (58 + 2 * a) 1) (μ (58 + 2 * a) 2) (μ (58 + 2 * a) 3) (μ (58 + 2 * a + 1)) := by
    refine SlM.cg (μ := μ) ⟨⟨ha.1, by omega⟩, a1, a2, a3, fun i p q => (a7 i p q).1, a5, a6, wa⟩ fun k p q => q1 k (by omega)
  have m2 : SlM v.2 b (μ (58 + 2 * a) 1) (μ (58 + 2 * b) 2) (μ (58 + 2 * a) 3) (μ (58 + 2 * b + 1)) := by
    refine SlM.cg (μ := μ) ⟨⟨hb.1, by omega⟩, by rw [b1, h1], b2, by rw [b3, h3], fun i p q => (b7 i p q).1, b5, b6, wb⟩ fun k p q => q1 k (by omega)
  show Ok (f_X10_drawn a b v.2) (fun w => w.1 = v.1 ∧ Rel w.2)
  unfold f_X10_drawn
  rw [if_neg (fun q => isSlotM0.mp q ha), if_neg (fun q => isSlotM0.mp q hb), chk_pos (by omega), q1 148 (by omega), q1 150 (by omega), q1 151 (by omega), if_neg (by omega), chk_pos (by omega), chk_pos (by omega), if_pos (by omega), chk_pos (by omega), chk_pos (by omega), if_pos (by omega), chk_pos (by omega), chk_pos (by omega), if_pos (by omega)]
  refine (m_drawnJ ⟨x, by omega⟩ (hm.congr fun k p q => q1 k (by omega)) hw hp m1 m2 (fun i p q => (a7 i p q).2.2) (fun i p q => (b7 i p q).2.2)).imp fun w r => ?_
  refine ⟨r.2.uniq q2, hr.scr (r.1.kpt ?_ (by decide))⟩
  intro k hk
  unfold rlv
  simp at hk
  omega
