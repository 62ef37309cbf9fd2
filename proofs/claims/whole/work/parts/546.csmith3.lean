/-! a row that isn't divided; a row added; divisors -/
theorem c_rowNotDivided {μ : zMem} {M H W t f : Int} {A : Mx} (hw : HW H W) (h : CM μ H W A) (hb : BdM M H W A) (ht : 0 ≤ t ∧ t < H ∧ t < W) (hf : 0 < f) : ∃ v, f_X2_rowNotDivided t f μ = some v ∧ ((v = -1 ∧ ∀ i k, t < i → i < H → t < k → k < W → f ∣ A i k) ∨ (t < v ∧ v < H ∧ ∃ k, t < k ∧ k < W ∧ ¬ f ∣ A v k)) := by
  have hH := hw.2.1
  have hW := hw.2.2.2.1
  have kL : ∀ (m fu : Nat) (x : Int), m < fu → t < x → x + m = H → (∀ i k, t < i → i < x → t < k → k < W → f ∣ A i k) → ∃ v, f_X2_rowNotDivided_L5 t f μ fu x = some v ∧ ((v = -1 ∧ ∀ i k, t < i → i < H → t < k → k < W → f ∣ A i k) ∨ (t < v ∧ v < H ∧ ∃ k, t < k ∧ k < W ∧ ¬ f ∣ A v k)) := by
    intro m
    induction m with
    | zero =>
      intro fu x hfu x0 hx hI
      cases fu with
      | zero => omega
      | succ fu =>
        refine ⟨-1, ?_, Or.inl ⟨rfl, fun i k a b c d => hI i k a (by omega) c d⟩⟩
        unfold f_X2_rowNotDivided_L5
        rw [h.1, if_neg (by omega)]
    | succ m ih =>
      intro fu x hfu x0 hx hI
      cases fu with
      | zero => omega
      | succ fu =>
        have hxH : 0 ≤ x ∧ x < H := ⟨by omega, by omega⟩
        have inner : ∀ (p fv : Nat) (y : Int), p < fv → t < y → y + p = W → (∀ k, t < k → k < y → f ∣ A x k) → ∃ v, f_X2_rowNotDivided_L19 f μ x (f_X2_rowNotDivided_K65 x (f_X2_rowNotDivided_L5 t f μ fu)) fv y = some v ∧ ((v = -1 ∧ ∀ i k, t < i → i < H → t < k → k < W → f ∣ A i k) ∨ (t < v ∧ v < H ∧ ∃ k, t < k ∧ k < W ∧ ¬ f ∣ A v k)) := by
          intro p
          induction p with
          | zero =>
            intro fv y hfv y0 hy hJ
            cases fv with
            | zero => omega
            | succ fv =>
              unfold f_X2_rowNotDivided_L19
              rw [h.2.1, if_neg (by omega)]
              unfold f_X2_rowNotDivided_K65
              simp only [zlet]
              rw [zw_eq (by omega) (by omega)]
              refine ih fu (x + 1) (by omega) (by omega) (by omega) fun i k a b c d => ?_
              by_cases q : i = x
              · rw [q]; exact hJ k c (by omega)
              · exact hI i k a (by omega) c d
          | succ p ihp =>
            intro fv y hfv y0 hy hJ
            cases fv with
            | zero => omega
            | succ fv =>
              have hyW : 0 ≤ y ∧ y < W := ⟨by omega, by omega⟩
              obtain ⟨b1, b2, b3, b4⟩ := hw.ix hxH hyW
              have vxy := h.2.2 x y hxH.1 hxH.2 hyW.1 hyW.2
              have hbx := hb x y hxH.1 hxH.2 hyW.1 hyW.2
              unfold f_X2_rowNotDivided_L19
              simp only [zlet]
              rw [h.2.1, if_pos (by omega), if_neg (by omega), b1, b2, chk_pos ⟨b3, b4⟩, chk_pos (by omega), vxy, Int.tmod_eq_emod_of_nonneg hbx.1, zw_eq (by omega) (by omega)]
              by_cases q : A x y % f = 0
              · rw [if_pos q]
                refine ihp fv (y + 1) (by omega) (by omega) (by omega) fun k a b => ?_
                by_cases z : k = y
                · rw [z]; exact Int.dvd_of_emod_eq_zero q
                · exact hJ k a (by omega)
              · rw [if_neg q]
                exact ⟨x, rfl, Or.inr ⟨x0, hxH.2, y, y0, hyW.2, fun z => q (Int.emod_eq_zero_of_dvd z)⟩⟩
        unfold f_X2_rowNotDivided_L5
        simp only [zlet]
        rw [h.1, if_pos (by omega), zw_eq (by omega) (by omega)]
        exact inner (W - (t + 1)).toNat zfu (t + 1) (by unfold zfu; omega) (by omega) (by omega) (fun k a b => by omega)
  unfold f_X2_rowNotDivided
  simp only [zlet]
  rw [zw_eq (by omega) (by omega)]
  exact kL (H - (t + 1)).toNat zfu (t + 1) (by unfold zfu; omega) (by omega) (by omega) (fun i k a b => by omega)
def adR (M : Int) (A : Mx) (r t : Int) : Mx := fun i k => if i = t ∧ t ≤ k then (A t k + A r k) % M else A i k
theorem c_addRow {μ : zMem} {M H W t r : Int} {A : Mx} (hM : Mok M) (hw : HW H W) (h : CM μ H W A) (h6 : μ 23 6 = M) (hb : BdM M H W A) (ht : 0 ≤ t ∧ t < H ∧ t < W) (hr : t < r ∧ r < H) : Ok (f_X2_addRow r t μ) (fun μ' => Fr μ μ' ∧ CM μ' H W (adR M A r t)) := by
  have hH := hw.2.1
  have hW := hw.2.2.2.1
  have key : ∀ (p fv : Nat) (y : Int) (μ2 : zMem), p < fv → t ≤ y → y + p = W → Fr μ μ2 → (∀ i k, 0 ≤ i → i < H → 0 ≤ k → k < W → μ2 24 (i * W + k) = if k < y then adR M A r t i k else A i k) → Ok (f_X2_addRow_L2 r t fv y μ2) (fun μ' => Fr μ μ' ∧ CM μ' H W (adR M A r t)) := by
    intro p
    induction p with
    | zero =>
      intro fv y μ2 hfv y0 hy k1 k2
      cases fv with
      | zero => omega
      | succ fv =>
        unfold f_X2_addRow_L2
        rw [k1 23 (by decide), h.2.1, if_neg (by omega)]
        refine ok_some.mpr ⟨k1, by rw [k1 23 (by decide)]; exact h.1, by rw [k1 23 (by decide)]; exact h.2.1, fun i k i0 i1 k0 kk1 => ?_⟩
        rw [k2 i k i0 i1 k0 kk1, if_pos (by omega)]
    | succ p ihp =>
      intro fv y μ2 hfv y0 hy k1 k2
      cases fv with
      | zero => omega
      | succ fv =>
        have hyW : 0 ≤ y ∧ y < W := ⟨by omega, by omega⟩
        obtain ⟨b1, b2, b3, b4⟩ := hw.ix (i := t) ⟨ht.1, ht.2.1⟩ hyW
        obtain ⟨d1, d2, d3, d4⟩ := hw.ix (i := r) ⟨by omega, hr.2⟩ hyW
        have vty := k2 t y ht.1 ht.2.1 hyW.1 hyW.2
        rw [if_neg (by omega)] at vty
        have vry := k2 r y (by omega) hr.2 hyW.1 hyW.2
        rw [if_neg (by omega)] at vry
        unfold f_X2_addRow_L2
        simp only [zlet]
        rw [k1 23 (by decide), h.2.1, if_pos (by omega), b1, b2, d1, d2, bnd_pos (c_takeOut hM (by rw [k1 23 (by decide)]; exact h6) ⟨b3, b4⟩ ⟨d3, d4⟩ vty vry (hb t y ht.1 ht.2.1 hyW.1 hyW.2) (hb r y (by omega) hr.2 hyW.1 hyW.2) (by omega)), zw_eq (by omega) (by omega)]
        refine ihp fv (y + 1) _ (by omega) (by omega) (by omega) (fun k hk => by rw [zup_n _ _ _ hk]; exact k1 k hk) (fun i k i0 i1 k0 kk1 => ?_)
        rw [zup_s]
        by_cases e : i = t ∧ k = y
        · rw [e.1, e.2, up1_s, if_pos (by omega)]
          unfold adR
          rw [if_pos ⟨rfl, y0⟩, show A t y - -1 * A r y = A t y + A r y by omega]
        · rw [up1_n _ _ (fun z => e (ix_inj ⟨k0, kk1⟩ hyW z)), k2 i k i0 i1 k0 kk1]
          by_cases e2 : k < y
          · rw [if_pos e2, if_pos (by omega)]
          · rw [if_neg e2]
            by_cases e3 : k = y
            · have : adR M A r t i k = A i k := by unfold adR; rw [if_neg (by omega)]
              rw [if_pos (by omega), this]
            · rw [if_neg (by omega)]
  unfold f_X2_addRow
  refine key (W - t).toNat zfu t μ (by unfold zfu; omega) (by omega) (by omega) (fun _ _ => rfl) fun i k i0 i1 k0 k1 => ?_
  rw [h.2.2 i k i0 i1 k0 k1]
  by_cases e : k < t
  · have : adR M A r t i k = A i k := by unfold adR; rw [if_neg (by omega)]
    rw [if_pos e, this]
  · rw [if_neg e]
theorem c_divisorOf {a b : Int} (ha : 0 ≤ a ∧ a ≤ 16777216) (hb : 0 ≤ b ∧ b ≤ 16777216) : ∃ g, f_X2_divisorOf a b = some g ∧ Gd2 g a b ∧ ∃ x y, g = x * a + y * b := by
  have key : ∀ (q fu : Nat) (a b x : Int), 2 * q + 1 < fu → 0 ≤ x → x + 2 * q + 2 < 1000000 → 0 ≤ a → 0 ≤ b → b < 2 ^ q → ∃ g, f_X2_divisorOf_L9 fu a b x = some g ∧ Gd2 g a b ∧ ∃ x y, g = x * a + y * b := by
    intro q
    induction q with
    | zero =>
      intro fu a b x hfu x0 hx ha hb hq
      cases fu with
      | zero => omega
      | succ fu =>
        have : b = 0 := by
          have : (2 : Int) ^ 0 = 1 := rfl
          omega
        refine ⟨a, ?_, ⟨ha, fun d => ?_⟩, 1, 0, by omega⟩
        · unfold f_X2_divisorOf_L9
          rw [if_pos (by omega), if_pos this]
        · rw [this]
          exact ⟨fun h => ⟨h, Int.dvd_zero d⟩, fun h => h.1⟩
    | succ q ih =>
      intro fu a b x hfu x0 hx ha hb hq
      have stop : ∀ (fu : Nat) (a x : Int), 0 < fu → x < 1000000 → 0 ≤ a → ∃ g, f_X2_divisorOf_L9 fu a 0 x = some g ∧ Gd2 g a 0 ∧ ∃ x y, g = x * a + y * 0 := by
        intro fu a x hfu hx ha
        cases fu with
        | zero => omega
        | succ fu =>
          refine ⟨a, ?_, ⟨ha, fun d => ⟨fun h => ⟨h, Int.dvd_zero d⟩, fun h => h.1⟩⟩, 1, 0, by omega⟩
          unfold f_X2_divisorOf_L9
          rw [if_pos hx, if_pos rfl]
      by_cases h0 : b = 0
      · rw [h0]; exact stop fu a x (by omega) (by omega) ha
      · cases fu with
        | zero => omega
        | succ fu =>
          have hr : 0 ≤ a % b ∧ a % b < b := ⟨Int.emod_nonneg _ h0, Int.emod_lt_of_pos _ (by omega)⟩
          have e1 : f_X2_divisorOf_L9 (fu + 1) a b x = f_X2_divisorOf_L9 fu b (a % b) (x + 1) := by
            conv => lhs; unfold f_X2_divisorOf_L9
            simp only [zlet]
            rw [if_pos (by omega), if_neg h0, chk_pos h0, Int.tmod_eq_emod_of_nonneg ha, zw_eq (by omega) (by omega)]
          rw [e1]
          by_cases h1 : a % b = 0
          · rw [h1]
            obtain ⟨g, g1, ⟨g3, g4⟩, z1, z2, g5⟩ := stop fu b (x + 1) (by omega) (by omega) hb
            refine ⟨g, g1, ⟨g3, fun d => ?_⟩, 0, z1, by rw [g5]; omega⟩
            rw [g4, ← dvd_mod (a := a) (b := b), h1]
          · cases fu with
            | zero => omega
            | succ fu =>
              have hh := mod_half (b := b) (r := a % b) (by omega) hr.2
              have hr2 : 0 ≤ b % (a % b) := Int.emod_nonneg _ h1
              have e2 : f_X2_divisorOf_L9 (fu + 1) b (a % b) (x + 1) = f_X2_divisorOf_L9 fu (a % b) (b % (a % b)) (x + 1 + 1) := by
                conv => lhs; unfold f_X2_divisorOf_L9
                simp only [zlet]
                rw [if_pos (by omega), if_neg h1, chk_pos h1, Int.tmod_eq_emod_of_nonneg hb, zw_eq (by omega) (by omega)]
              rw [e2]
              have hp : (2 : Int) ^ (q + 1) = 2 ^ q * 2 := Int.pow_succ ..
              obtain ⟨g, g1, ⟨g3, g4⟩, z1, z2, g5⟩ := ih fu (a % b) (b % (a % b)) (x + 1 + 1) (by omega) (by omega) (by omega) (by omega) (by omega) (by omega)
              refine ⟨g, g1, ⟨g3, fun d => ?_⟩, z1 - z2 * (b / (a % b)), z2 - (z1 - z2 * (b / (a % b))) * (a / b), ?_⟩
              · rw [g4, dvd_mod, ← dvd_mod (a := a)]
              · have f1 : a % b = a - b * (a / b) := by have := Int.mul_ediv_add_emod a b; omega
                have f2 : b % (a % b) = b - (a % b) * (b / (a % b)) := by have := Int.mul_ediv_add_emod b (a % b); omega
                rw [g5, f2]
                generalize b / (a % b) = Y
                rw [f1]
                generalize a / b = X
                grind
  have hp : (2 : Int) ^ 25 = 33554432 := by decide
  unfold f_X2_divisorOf
  exact key 25 zfu a b 0 (by unfold zfu; omega) (by omega) (by omega) ha.1 hb.1 (by omega)
