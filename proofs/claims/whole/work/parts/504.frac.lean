/-! the class's rank of whole rows -/
def fZ (m x h P R : Int) : Int := Int.tdiv (x * R - h * P) m
def Fz (μ μ' : zMem) : Prop := (∀ k, k ≠ 24 → k ≠ 23 → μ' k = μ k) ∧ (∀ i, i ≠ 5 → μ' 23 i = μ 23 i)
theorem Fz.refl (μ : zMem) : Fz μ μ := ⟨fun _ _ _ => rfl, fun _ _ => rfl⟩
theorem Fz.trans {μ μ1 μ2 : zMem} (h : Fz μ μ1) (h' : Fz μ1 μ2) : Fz μ μ2 := ⟨fun k a b => (h'.1 k a b).trans (h.1 k a b), fun i a => (h'.2 i a).trans (h.2 i a)⟩
theorem Fr.fz {μ μ' : zMem} (h : Fr μ μ') : Fz μ μ' := ⟨fun k a _ => h k a, fun i _ => by rw [h 23 (by decide)]⟩
def BdZ (H W r c : Int) (A : Mx) : Prop := ∀ i k, r ≤ i → i < H → c ≤ k → k < W → -33554432 ≤ A i k ∧ A i k ≤ 33554432
theorem mul_bZ {a b : Int} (ha : -33554432 ≤ a ∧ a ≤ 33554432) (hb : -33554432 ≤ b ∧ b ≤ 33554432) : -1125899906842624 ≤ a * b ∧ a * b ≤ 1125899906842624 := by
  by_cases h : 0 ≤ b
  · have h1 : a * b ≤ 33554432 * b := Int.mul_le_mul_of_nonneg_right ha.2 h
    have h2 : -33554432 * b ≤ a * b := Int.mul_le_mul_of_nonneg_right ha.1 h
    omega
  · have h1 : a * (-b) ≤ 33554432 * (-b) := Int.mul_le_mul_of_nonneg_right ha.2 (by omega)
    have h2 : -33554432 * (-b) ≤ a * (-b) := Int.mul_le_mul_of_nonneg_right ha.1 (by omega)
    have e := Int.mul_neg a b
    omega
theorem tdiv_b {a m B : Int} (hB : 0 ≤ B) (ha : -B ≤ a ∧ a ≤ B) : -B ≤ Int.tdiv a m ∧ Int.tdiv a m ≤ B := by
  have h := Int.natAbs_tdiv a m
  have h2 : (Int.tdiv a m).natAbs ≤ a.natAbs := by rw [h]; exact Nat.div_le_self _ _
  omega
theorem c_clearWhole {μ : zMem} {H W r c m : Int} {A : Mx} (hw : HW H W) (h : CM μ H W A) (hm : μ 23 5 = m ∧ m ≠ 0) (hr : 0 ≤ r ∧ r < H) (hc : 0 ≤ c ∧ c < W) (hb : BdZ H W r c A) : Ok (f_X2_clearBelowWhole r c μ) (fun μ' => Fr μ μ' ∧ CM μ' H W (nwR fZ m A r c)) := by
  obtain ⟨w1, w2, w3, w4, w5⟩ := hw
  have hw' : HW H W := ⟨w1, w2, w3, w4, w5⟩
  have key : ∀ (m1 fu : Nat) (x : Int) (μ1 : zMem), m1 < fu → r < x → x + m1 = H → Fr μ μ1 → (∀ i k, 0 ≤ i → i < H → 0 ≤ k → k < W → μ1 24 (i * W + k) = if i < x then nwR fZ m A r c i k else A i k) → Ok (f_X2_clearBelowWhole_L29 r c (A r c) fu x μ1) (fun μ' => Fr μ μ' ∧ CM μ' H W (nwR fZ m A r c)) := by
    intro m1
    induction m1 with
    | zero =>
      intro fu x μ1 hfu x0 hx g1 g2
      cases fu with
      | zero => omega
      | succ fu =>
        unfold f_X2_clearBelowWhole_L29
        rw [g1 23 (by decide), h.1, if_neg (by omega)]
        refine ok_some.mpr ⟨g1, by rw [g1 23 (by decide)]; exact h.1, by rw [g1 23 (by decide)]; exact h.2.1, fun i k i0 i1 k0 k1 => ?_⟩
        rw [g2 i k i0 i1 k0 k1, if_pos (by omega)]
    | succ m1 ih =>
      intro fu x μ1 hfu x0 hx g1 g2
      cases fu with
      | zero => omega
      | succ fu =>
        have hxH : 0 ≤ x ∧ x < H := ⟨by omega, by omega⟩
        obtain ⟨a1, a2, a3, a4⟩ := hw'.ix hxH hc
        have vx := g2 x c hxH.1 hxH.2 hc.1 hc.2
        rw [if_neg (by omega)] at vx
        unfold f_X2_clearBelowWhole_L29
        simp only [zlet]
        rw [g1 23 (by decide), h.1, h.2.1, if_pos (by omega), a1, a2, chk_pos ⟨a3, a4⟩, vx]
        have inner : ∀ (q fv : Nat) (y : Int) (μ2 : zMem), q < fv → c ≤ y → y + q = W → Fr μ μ2 → (∀ i k, 0 ≤ i → i < H → 0 ≤ k → k < W → μ2 24 (i * W + k) = if i < x ∨ (i = x ∧ k < y) then nwR fZ m A r c i k else A i k) → Ok (f_X2_clearBelowWhole_L57 r (A r c) x (A x c) (f_X2_clearBelowWhole_K131 x (f_X2_clearBelowWhole_L29 r c (A r c) fu)) fv y μ2) (fun μ' => Fr μ μ' ∧ CM μ' H W (nwR fZ m A r c)) := by
          intro q
          induction q with
          | zero =>
            intro fv y μ2 hfv y0 hy k1 k2
            cases fv with
            | zero => omega
            | succ fv =>
              unfold f_X2_clearBelowWhole_L57
              rw [k1 23 (by decide), h.2.1, if_neg (by omega)]
              unfold f_X2_clearBelowWhole_K131
              simp only [zlet]
              rw [zw_eq (by omega) (by omega)]
              refine ih fu (x + 1) μ2 (by omega) (by omega) (by omega) k1 fun i k i0 i1 k0 kk1 => ?_
              rw [k2 i k i0 i1 k0 kk1]
              by_cases e : i < x + 1
              · rw [if_pos e, if_pos (by omega)]
              · rw [if_neg e, if_neg (by omega)]
          | succ q ihq =>
            intro fv y μ2 hfv y0 hy k1 k2
            cases fv with
            | zero => omega
            | succ fv =>
              have hyW : 0 ≤ y ∧ y < W := ⟨by omega, by omega⟩
              obtain ⟨b1, b2, b3, b4⟩ := hw'.ix hxH hyW
              obtain ⟨d1, d2, d3, d4⟩ := hw'.ix hr hyW
              have vxy := k2 x y hxH.1 hxH.2 hyW.1 hyW.2
              rw [if_neg (by omega)] at vxy
              have vry := k2 r y hr.1 hr.2 hyW.1 hyW.2
              rw [if_pos (by omega)] at vry
              have enr : nwR fZ m A r c r y = A r y := by unfold nwR; rw [if_neg (by omega)]
              rw [enr] at vry
              have m1' := mul_bZ (hb r c (by omega) hr.2 (by omega) hc.2) (hb x y (by omega) hxH.2 y0 hyW.2)
              have m2' := mul_bZ (hb x c (by omega) hxH.2 (by omega) hc.2) (hb r y (by omega) hr.2 y0 hyW.2)
              have m3 := tdiv_b (a := A r c * A x y - A x c * A r y) (m := m) (B := 2251799813685248) (by decide) (by omega)
              unfold f_X2_clearBelowWhole_L57
              simp only [zlet]
              rw [k1 23 (by decide), h.2.1, if_pos (by omega), b1, b2, d1, d2, chk_pos ⟨b3, b4⟩, chk_pos ⟨d3, d4⟩, vxy, vry, zl_eq (x := A r c * A x y) (by omega) (by omega), zl_eq (x := A x c * A r y) (by omega) (by omega), zl_eq (x := A r c * A x y - A x c * A r y) (by omega) (by omega), hm.1, chk_pos hm.2, chk_pos ⟨b3, b4⟩, zl_eq (by omega) (by omega), zw_eq (by omega) (by omega)]
              refine ihq fv (y + 1) _ (by omega) (by omega) (by omega) (fun k hk => by rw [zup_n _ _ _ hk]; exact k1 k hk) (fun i k i0 i1 k0 kk1 => ?_)
              rw [zup_s]
              by_cases e : i = x ∧ k = y
              · rw [e.1, e.2, up1_s, if_pos (by omega)]
                unfold nwR fZ
                rw [if_pos ⟨x0, y0⟩]
              · rw [up1_n _ _ (fun q => e (ix_inj ⟨k0, kk1⟩ hyW q)), k2 i k i0 i1 k0 kk1]
                by_cases e2 : i < x ∨ (i = x ∧ k < y)
                · rw [if_pos e2, if_pos (by omega)]
                · rw [if_neg e2, if_neg (by omega)]
        refine inner (W - c).toNat zfu c μ1 (by unfold zfu; omega) (by omega) (by omega) g1 fun i k i0 i1 k0 kk1 => ?_
        rw [g2 i k i0 i1 k0 kk1]
        by_cases e : i = x ∧ k < c
        · have : nwR fZ m A r c i k = A i k := by unfold nwR; rw [if_neg (by omega)]
          rw [this]
          split <;> split <;> rfl
        · by_cases e2 : i < x
          · rw [if_pos e2, if_pos (by omega)]
          · rw [if_neg e2, if_neg (by omega)]
  obtain ⟨a1, a2, a3, a4⟩ := hw'.ix hr hc
  unfold f_X2_clearBelowWhole
  simp only [zlet]
  rw [hm.1, if_neg hm.2, h.2.1, a1, a2, chk_pos ⟨a3, a4⟩, h.2.2 r c hr.1 hr.2 hc.1 hc.2, zw_eq (by omega) (by omega)]
  refine key (H - (r + 1)).toNat zfu (r + 1) μ (by unfold zfu; omega) (by omega) (by omega) (fun _ _ => rfl) fun i k i0 i1 k0 k1 => ?_
  rw [h.2.2 i k i0 i1 k0 k1]
  have : nwR fZ m A r c i k = if r < i ∧ c ≤ k then fZ m (A r c) (A i c) (A r k) (A i k) else A i k := rfl
  by_cases e : i < r + 1
  · rw [if_pos e, this, if_neg (by omega)]
  · rw [if_neg e]
/-- what a search for pivots keeps -/
def Kps (H W : Int) (Inv : Int → Int → Int → Mx → Prop) : Prop := (∀ m r c A, Inv m r c A → m ≠ 0 ∧ BdZ H W r c A) ∧ (∀ m r c A, Inv m r c A → 0 ≤ r → r < H → 0 ≤ c → c < W → (∀ i, r ≤ i → i < H → A i c = 0) → Inv m r (c + 1) A) ∧ (∀ m r c A v, Inv m r c A → 0 ≤ r → r ≤ v → v < H → 0 ≤ c → c < W → A v c ≠ 0 → Inv (A v c) (r + 1) (c + 1) (nwR fZ m (swp A v r) r c))
theorem c_fracL {H W : Int} {Inv : Int → Int → Int → Mx → Prop} (hw : HW H W) (hI : Kps H W Inv) : ∀ (n fu : Nat) (m r c : Int) (A : Mx) (μ : zMem), n < fu → 0 ≤ r ∧ r ≤ H → 0 ≤ c → c + n = W → CM μ H W A → μ 23 5 = m → Inv m r c A → Ok (f_X2_rankOfFractions_L9 fu r c μ) (fun w => Fz μ w.2 ∧ w.1 = elG fZ H n m r c A ∧ ∃ m' c' A', Inv m' w.1 c' A' ∧ w.2 23 5 = m' ∧ r ≤ w.1 ∧ w.1 ≤ H ∧ c ≤ c' ∧ c' ≤ W ∧ (w.1 = H ∨ c' = W)) := by
  obtain ⟨w1, w2, w3, w4, w5⟩ := hw
  have hw' : HW H W := ⟨w1, w2, w3, w4, w5⟩
  intro n
  induction n with
  | zero =>
    intro fu m r c A μ hfu hr c0 hc h hm hv
    cases fu with
    | zero => omega
    | succ fu =>
      unfold f_X2_rankOfFractions_L9
      rw [h.2.1, if_neg (by omega)]
      exact ok_some.mpr ⟨Fz.refl _, rfl, m, c, A, hv, hm, by simp, hr.2, by simp, by omega, Or.inr (by omega)⟩
  | succ n ih =>
    intro fu m r c A μ hfu hr c0 hc h hm hv
    cases fu with
    | zero => omega
    | succ fu =>
      have hcW : 0 ≤ c ∧ c < W := ⟨c0, by omega⟩
      unfold f_X2_rankOfFractions_L9 elG
      simp only [zlet]
      rw [h.2.1, h.1, if_pos (by omega)]
      by_cases hrH : r < H
      · rw [if_pos hrH, if_pos hrH, bnd_pos (c_rowWith hw' h hcW hr), zw_eq (x := c + 1) (by omega) (by omega), zw_eq (x := r + 1) (by omega) (by omega)]
        have hs := fsR_spec A c (H - r).toNat r hr.1
        generalize fsR A c (H - r).toNat r = v at *
        by_cases hvv : v = -1
        · rw [if_pos hvv, if_pos hvv]
          rcases hs with ⟨_, q⟩ | ⟨q1, _, _⟩
          · refine (ih fu m r (c + 1) A μ (by omega) hr (by omega) (by omega) h hm (hI.2.1 m r c A hv hr.1 hrH hcW.1 hcW.2 fun i a b => q i a (by omega))).imp fun w x => ?_
            obtain ⟨x1, x2, m', c', A', y1, y2, y3, y4, y5, y6, y7⟩ := x
            exact ⟨x1, x2, m', c', A', y1, y2, y3, y4, by omega, y6, y7⟩
          · omega
        · rw [if_neg hvv, if_neg hvv]
          rcases hs with ⟨q, _⟩ | ⟨q1, q2, q3⟩
          · exact absurd q hvv
          · have hin := hI.1 m r c A hv
            refine ok_bnd.mpr ((c_swapRows hw' h (a := v) (b := r) ⟨by omega, by omega⟩ ⟨hr.1, hrH⟩).imp fun μ2 s => ?_)
            obtain ⟨s1, s2⟩ := s
            have hb2 : BdZ H W r c (swp A v r) := by
              intro i k i0 i1 k0 k1
              unfold swp
              split
              · exact hin.2 r k (by omega) hrH k0 k1
              · split
                · exact hin.2 v k (by omega) (by omega) k0 k1
                · exact hin.2 i k i0 i1 k0 k1
            refine ok_bnd.mpr ((c_clearWhole (m := m) hw' s2 ⟨by rw [s1 23 (by decide)]; exact hm, hin.1⟩ ⟨hr.1, hrH⟩ hcW hb2).imp fun μ3 t => ?_)
            obtain ⟨t1, t2⟩ := t
            obtain ⟨a1, a2, a3, a4⟩ := hw'.ix (i := r) (k := c) ⟨hr.1, hrH⟩ hcW
            have hrc : nwR fZ m (swp A v r) r c r c = A v c := by
              unfold nwR
              rw [if_neg (by omega)]
              unfold swp
              by_cases e : r = v
              · rw [if_pos e, e]
              · rw [if_neg e, if_pos rfl]
            rw [t2.2.1, a1, a2, chk_pos ⟨a3, a4⟩, t2.2.2 r c hr.1 hrH hcW.1 hcW.2, hrc]
            have t3 : CM (zup μ3 23 5 (A v c)) H W (nwR fZ m (swp A v r) r c) := by
              refine ⟨by rw [zup_s, up1_n _ _ (by decide)]; exact t2.1, by rw [zup_s, up1_n _ _ (by decide)]; exact t2.2.1, fun i k i0 i1 k0 k1 => ?_⟩
              rw [zup_n _ _ _ (by decide)]
              exact t2.2.2 i k i0 i1 k0 k1
            refine (ih fu (A v c) (r + 1) (c + 1) (nwR fZ m (swp A v r) r c) _ (by omega) ⟨by omega, by omega⟩ (by omega) (by omega) t3 (by rw [zup_s, up1_s]) (hI.2.2 m r c A v hv hr.1 q1 (by omega) hcW.1 hcW.2 q3)).imp fun w x => ?_
            obtain ⟨x1, x2, m', c', A', y1, y2, y3, y4, y5, y6, y7⟩ := x
            refine ⟨?_, x2, m', c', A', y1, y2, by omega, y4, by omega, y6, y7⟩
            have hup : Fz μ3 (zup μ3 23 5 (A v c)) := ⟨fun k a b => zup_n _ _ _ b, fun i a => by rw [zup_s, up1_n _ _ a]⟩
            exact ((s1.fz.trans t1.fz).trans hup).trans x1
      · rw [if_neg hrH, if_neg hrH]
        exact ok_some.mpr ⟨Fz.refl _, rfl, m, c, A, hv, hm, by simp, hr.2, by simp, by omega, Or.inl (by omega)⟩
theorem c_fractions {μ : zMem} {H W : Int} {A : Mx} {Inv : Int → Int → Int → Mx → Prop} (hw : HW H W) (hI : Kps H W Inv) (h : CM μ H W A) (hv : Inv 1 0 0 A) : Ok (f_X2_rankOfFractions μ) (fun w => Fz μ w.2 ∧ w.1 = elG fZ H W.toNat 1 0 0 A ∧ ∃ m' c' A', Inv m' w.1 c' A' ∧ w.2 23 5 = m' ∧ 0 ≤ w.1 ∧ w.1 ≤ H ∧ 0 ≤ c' ∧ c' ≤ W ∧ (w.1 = H ∨ c' = W)) := by
  obtain ⟨w1, w2, w3, w4, w5⟩ := hw
  unfold f_X2_rankOfFractions
  simp only [zlet]
  have t3 : CM (zup μ 23 5 1) H W A := ⟨by rw [zup_s, up1_n _ _ (by decide)]; exact h.1, by rw [zup_s, up1_n _ _ (by decide)]; exact h.2.1, fun i k i0 i1 k0 k1 => by rw [zup_n _ _ _ (by decide)]; exact h.2.2 i k i0 i1 k0 k1⟩
  have hup : Fz μ (zup μ 23 5 1) := ⟨fun k a b => zup_n _ _ _ b, fun i a => by rw [zup_s, up1_n _ _ a]⟩
  refine (c_fracL ⟨w1, w2, w3, w4, w5⟩ hI W.toNat zfu 1 0 0 A _ (by unfold zfu; omega) ⟨by omega, w1⟩ (by omega) (by omega) t3 (by rw [zup_s, up1_s]) hv).imp fun w x => ?_
  exact ⟨hup.trans x.1, x.2⟩
