/-! MOVED agrees -/
def mvR (σ : Sp) (ws : List Int) : Nat → Int → Int
  | 0, _ => -4
  | m + 1, k => if mnL (fct k) (sN σ).toNat 1 = 0 then (if (tbs (pH σ k) k (sN σ)).any (mvq k ws) then k else mvR σ ws m (k + 1)) else mvR σ ws m (k + 1)
theorem c_movedN {μ : zMem} {u x3 L : Int} {σ : Sp} {w : Int → Int} (hT : ShT μ) (hu : PK u) (hx : 58 ≤ x3 ∧ x3 < 66) (hc : CS μ u σ) (hcp : CP μ u σ) (hw : WfE σ 8 12) (hp : WfP σ 8) (hL : 0 ≤ L ∧ L ≤ 16) (hz3 : zlen (x3 + 1) = 16) (h2 : μ x3 2 = L) (h1 : ∀ i, 0 ≤ i → i < L → μ (x3 + 1) i = w i) (hww : ∀ i, 0 ≤ i → i < L → 0 ≤ w i ∧ w i < 2 * sE σ) : ∀ (m fu : Nat) (k : Int) (μ1 : zMem), m < fu → 2 ≤ k → k + m = 5 → Ft [28, 29, 30, 31, 32] [5, 6, 7, 8, 9] μ μ1 → Ok (f_X9_moved_L56 x3 u fu k μ1) (fun v => Ft [28, 29, 30, 31, 32] [5, 6, 7, 8, 9] μ v.2 ∧ v.1 = mvR σ (wrw σ w L.toNat 0) m k) := by
  have hu33 : 33 < u ∧ u < 58 := by unfold PK at hu; omega
  have hE := hw.2.2.2.1
  intro m
  induction m with
  | zero =>
    intro fu k μ1 hfu k0 hk g1
    cases fu with
    | zero => omega
    | succ fu =>
      unfold f_X9_moved_L56
      rw [if_neg (by omega)]
      exact ok_some.mpr ⟨g1, rfl⟩
  | succ m ih =>
    intro fu k μ1 hfu k0 hk g1
    cases fu with
    | zero => omega
    | succ fu =>
      have e : ∀ c, ¬ (27 ≤ c ∧ c ≤ 32) → μ1 c = μ c := fun c hh => g1.1 c (by simp; omega) (by omega)
      have hn : 2 ≤ k ∧ k ≤ 4 := ⟨k0, by omega⟩
      have hT1 : ShT μ1 := hT.congr fun c hc => e c (by omega)
      have hc1 : CS μ1 u σ := hc.congr fun c a b => e c (by omega)
      have hcp1 : CP μ1 u σ := hcp.congr fun c a b => e c (by omega)
      have h18 := (hT1 k hn.1 hn.2).1
      unfold f_X9_moved_L56
      simp only [zlet]
      rw [if_pos (by omega), chk_pos (by omega), h18, chk_pos (by omega), bnd_pos (c_isMany hT1 hn hcp1 ⟨hw.2.2.1, by omega⟩), zw_eq (x := k + 1) (by omega) (by omega)]
      unfold mvR
      by_cases hmn : mnL (fct k) (sN σ).toNat 1 = 0
      · rw [if_pos hmn, if_pos hmn, chk_pos (by omega), chk_pos (by omega)]
        refine ok_bnd2.mpr ((c_isMovedBySome (w := w) hT1 hn hu hx.1 hc1 hcp1 hw hp hmn hL hz3 (by rw [e x3 (by omega)]; exact h2) (fun i a b => by rw [e (x3 + 1) (by omega)]; exact h1 i a b) hww).imp fun v q => ?_)
        obtain ⟨q1, q2⟩ := q
        by_cases ha : (tbs (pH σ k) k (sN σ)).any (mvq k (wrw σ w L.toNat 0)) = true
        · rw [ha] at q2
          rw [q2, if_neg (by decide), if_pos ha]
          exact ok_some.mpr ⟨g1.trans q1, rfl⟩
        · rw [Bool.eq_false_iff.mpr ha] at q2
          rw [q2, if_pos (by decide), if_neg ha]
          exact ih fu (k + 1) v.2 (by omega) (by omega) (by omega) (g1.trans q1)
      · rw [if_neg hmn, if_neg hmn]
        exact ih fu (k + 1) μ1 (by omega) (by omega) (by omega) g1
theorem m_movedN {μ : zMem} {s q L : Int} {σ : Sp} {w : Int → Int} (hs : 0 ≤ s ∧ s < 2) (hc : MS μ s σ) (hw : WfE σ 32 48) (hp : WfP σ 32) (hq : 0 ≤ q ∧ q < 4) (h36 : μ 101 36 = q) (hL : 0 ≤ L ∧ L ≤ 16) (h148 : μ 148 q = s) (h149 : μ 149 q = L) (h152 : ∀ i, 0 ≤ i → i < L → μ 152 (16 * q + i) = stp (w i)) (hww : ∀ i, 0 ≤ i → i < L → 0 ≤ w i ∧ w i < 2 * sE σ) : ∀ (m fu : Nat) (k : Int) (μ1 : zMem), m < fu → 2 ≤ k → k + m = 5 → Fm [120, 121, 123, 128, 129, 133, 134] [20, 28, 29, 30, 33, 34, 35] μ μ1 → Ok (f_X10_moved_L46 q fu k μ1) (fun v => Fm [120, 121, 123, 128, 129, 133, 134] [20, 28, 29, 30, 33, 34, 35] μ v.2 ∧ v.1 = mvR σ (wrw σ w L.toNat 0) m k) := by
  intro m
  induction m with
  | zero =>
    intro fu k μ1 hfu k0 hk g1
    cases fu with
    | zero => omega
    | succ fu =>
      unfold f_X10_moved_L46
      rw [if_neg (by omega)]
      exact ok_some.mpr ⟨g1, rfl⟩
  | succ m ih =>
    intro fu k μ1 hfu k0 hk g1
    cases fu with
    | zero => omega
    | succ fu =>
      have hn : 2 ≤ k ∧ k ≤ 4 := ⟨k0, by omega⟩
      have hc1 : MS μ1 s σ := g1.ms (by unfold noSp; decide) hc
      unfold f_X10_moved_L46
      simp only [zlet]
      rw [if_pos (by omega), chk_pos (by omega), g1.1 148 (by decide) (by decide), h148, zw_eq (x := k + 1) (by omega) (by omega)]
      refine ok_bnd2.mpr ((m_isMany hc1 ⟨hs.1, by omega⟩ hn hw).imp fun v r => ?_)
      obtain ⟨r1, r2, r3, r4, r5⟩ := r
      have g2 := g1.trans (r1.sub (cs' := [120, 121, 123, 128, 129, 133, 134]) (ss' := [20, 28, 29, 30, 33, 34, 35]) (by decide) (by decide))
      unfold mvR
      rw [r5]
      by_cases hmn : mnL (fct k) (sN σ).toNat 1 = 0
      · rw [if_pos hmn, if_pos hmn, chk_pos (by omega), g2.1 148 (by decide) (by decide), h148]
        refine ok_bnd2.mpr ((m_seek2 (q := q) (w := w) (r1.ms (by unfold noSp; decide) hc1) ⟨hs.1, by omega⟩ hn hw hp r2 r3 r4 hmn hq (by rw [g2.2 36 (by decide)]; exact h36) hL (by rw [g2.1 149 (by decide) (by decide)]; exact h149) (fun i a b => by rw [g2.1 152 (by decide) (by decide)]; exact h152 i a b) hww).imp fun x y => ?_)
        obtain ⟨y1, y2⟩ := y
        have g3 := g2.trans (y1.sub (cs' := [120, 121, 123, 128, 129, 133, 134]) (ss' := [20, 28, 29, 30, 33, 34, 35]) (by decide) (by decide))
        by_cases ha : (tbs (pH σ k) k (sN σ)).any (mvq k (wrw σ w L.toNat 0)) = true
        · rw [ha] at y2
          rw [y2, if_neg (by decide), if_pos ha]
          exact ok_some.mpr ⟨g3, rfl⟩
        · rw [Bool.eq_false_iff.mpr ha] at y2
          rw [y2, if_pos (by decide), if_neg ha]
          exact ih fu (k + 1) x.2 (by omega) (by omega) (by omega) g3
      · rw [if_neg hmn, if_neg hmn]
        exact ih fu (k + 1) v.2 (by omega) (by omega) (by omega) g2
theorem sim_moved {μ : zMem} {a : Int} (h : Rel μ) : Ok (f_X9_moved a μ) (fun v => Ok (f_X10_moved a v.2) (fun w => w.1 = v.1 ∧ Rel w.2)) := by
  by_cases h0 : 0 ≤ a ∧ a ≤ 3
  rotate_left
  · refine sim_same h (r := -1) ?_ ?_
    · unfold f_X9_moved; rw [if_pos (isSlot0.mpr h0)]
    · unfold f_X10_moved; rw [if_pos (isSlotM0.mpr h0)]
  have h1 : 0 ≤ a ∧ a < 4 := by omega
  have hS4 := h.1.2.2 a h1.1 h1.2
  have hsl := h.2.2.2.1 a h1.1 h1.2
  have hne : μ 16 a ≠ 0 := by omega
  by_cases hz : 0 ≤ μ (58 + 2 * a) 1 ∧ μ (58 + 2 * a) 1 ≤ 1
  rotate_left
  · have e148 : μ 148 a < 0 := by
      rcases hsl with ⟨x, y⟩ | ⟨x, y, _⟩
      · omega
      · exact absurd ⟨x, y⟩ hz
    refine sim_same h (r := -2) ?_ ?_
    · unfold f_X9_moved
      simp only [zlet]
      rw [if_neg (fun q => isSlot0.mp q h0), chk_pos (by omega), chk_pos hne, hS4.1, if_pos (isOwn0.mpr hz)]
    · unfold f_X10_moved
      rw [if_neg (fun q => isSlotM0.mp q h0), chk_pos (by omega), if_pos e148]
  rcases hsl with ⟨x, y⟩ | ⟨x, y, s1, s2, s3, s4, s5, s6, s7⟩
  · omega
  by_cases hb : μ (58 + 2 * a) 3 = 0
  rotate_left
  · refine sim_same h (r := -2) ?_ ?_
    · unfold f_X9_moved
      simp only [zlet]
      rw [if_neg (fun q => isSlot0.mp q h0), chk_pos (by omega), chk_pos hne, hS4.1, if_neg (fun q => isOwn0.mp q hz), if_neg hb]
    · unfold f_X10_moved
      rw [if_neg (fun q => isSlotM0.mp q h0), chk_pos (by omega), if_neg (by omega), chk_pos (by omega), if_neg (by omega)]
  by_cases he : μ (58 + 2 * a) 4 = 0
  rotate_left
  · refine sim_same h (r := -2) ?_ ?_
    · unfold f_X9_moved
      simp only [zlet]
      rw [if_neg (fun q => isSlot0.mp q h0), chk_pos (by omega), chk_pos hne, hS4.1, if_neg (fun q => isOwn0.mp q hz), if_pos hb, if_neg he]
    · unfold f_X10_moved
      rw [if_neg (fun q => isSlotM0.mp q h0), chk_pos (by omega), if_neg (by omega), chk_pos (by omega), if_pos (by omega), chk_pos (by omega), if_neg (by omega)]
  obtain ⟨σ, hc, hcp, hm, hw, hp⟩ := h.2.1 (μ (58 + 2 * a) 1) x y
  have hk : PK (μ 2 (μ (58 + 2 * a) 1)) := by
    have : μ (58 + 2 * a) 1 = 0 ∨ μ (58 + 2 * a) 1 = 1 := by omega
    rcases this with e | e <;> rw [e]
    · exact h.1.2.1.1
    · exact h.1.2.1.2.1
  have hkn : μ 2 (μ (58 + 2 * a) 1) ≠ 0 := by unfold PK at hk; omega
  have hE103 : μ 103 (μ (58 + 2 * a) 1) = sE σ := hm.2.1
  have hz3 : zlen (58 + 2 * a + 1) = 16 := by
    have : a = 0 ∨ a = 1 ∨ a = 2 ∨ a = 3 := by omega
    rcases this with e | e | e | e <;> subst e <;> decide
  have hww : ∀ i, 0 ≤ i → i < μ (58 + 2 * a) 2 → 0 ≤ μ (58 + 2 * a + 1) i ∧ μ (58 + 2 * a + 1) i < 2 * sE σ := fun i p q => by
    have := s7 i p q
    rw [hE103] at this
    exact ⟨this.2.1, this.2.2⟩
  unfold f_X9_moved
  simp only [zlet]
  rw [if_neg (fun q => isSlot0.mp q h0), chk_pos (by omega), chk_pos hne, hS4.1, if_neg (fun q => isOwn0.mp q hz), if_pos hb, if_pos he, chk_pos (by omega), chk_pos hkn]
  refine (c_movedN (w := μ (58 + 2 * a + 1)) h.1.1 hk ⟨by omega, by omega⟩ hc hcp hw hp ⟨s5, s6⟩ hz3 rfl (fun _ _ _ => rfl) hww 3 zfu 2 μ (by unfold zfu; omega) (by omega) (by omega) (Ft.refl _ _ _)).imp fun v q => ?_
  obtain ⟨q1, q2⟩ := q
  have e : ∀ c, ¬ (27 ≤ c ∧ c ≤ 32) → v.2 c = μ c := fun c hh => q1.1 c (by simp; omega) (by omega)
  have hr : Rel v.2 := h.scr ⟨fun k hk _ => e k (by unfold rlv at hk; omega), by rw [e 1 (by omega)], by rw [e 19 (by omega)], fun i _ => by rw [e 101 (by omega)]⟩
  unfold f_X10_moved
  simp only [zlet]
  rw [if_neg (fun q => isSlotM0.mp q h0), chk_pos (by omega), e 148 (by omega), if_neg (by omega), chk_pos (by omega), e 150 (by omega), if_pos (by omega), chk_pos (by omega), e 151 (by omega), if_pos (by omega)]
  have f1 : Fm [] [36] v.2 (zup v.2 101 36 a) := (Fm.refl _ _ _).upo (by decide) _
  have hms : MS (zup v.2 101 36 a) (μ (58 + 2 * a) 1) σ := hm.congr fun k p q => by rw [zup_n _ _ _ (by omega), e k (by omega)]
  have h36 : zup v.2 101 36 a 101 36 = a := by rw [zup_s, up1_s]
  generalize zup v.2 101 36 a = μ3 at *
  have e3 : ∀ c, ¬ (27 ≤ c ∧ c ≤ 32) → c ≠ 101 → μ3 c = μ c := fun c p q => (f1.1 c (by simp) q).trans (e c p)
  refine (m_movedN (w := μ (58 + 2 * a + 1)) (L := μ (58 + 2 * a) 2) ⟨x, by omega⟩ hms (hw.mono (by omega) (by omega)) (hp.mono (by omega)) h1 h36 ⟨s5, s6⟩ (by rw [e3 148 (by omega) (by omega)]; exact s1) (by rw [e3 149 (by omega) (by omega)]; exact s2) (fun i p q => by rw [e3 152 (by omega) (by omega)]; exact (s7 i p q).1) hww 3 zfu 2 μ3 (by unfold zfu; omega) (by omega) (by omega) (Fm.refl _ _ _)).imp fun w r => ?_
  obtain ⟨r1, r2⟩ := r
  refine ⟨by rw [r2, q2], hr.scr (((f1.sub (cs' := [120, 121, 123, 128, 129, 133, 134]) (ss' := [20, 28, 29, 30, 33, 34, 35, 36]) (by decide) (by decide)).trans (r1.sub (by decide) (by decide))).kpt ?_ (by decide))⟩
  intro k hk
  unfold rlv
  simp at hk
  omega
