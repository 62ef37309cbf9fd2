/-! MANY -/
def mnL (o : Int) : Nat → Int → Int
  | 0, a => if a ≤ 20000 then 0 else 1
  | m + 1, a => if a ≤ 20000 then mnL o m (a * o) else 1
theorem sN_b {σ : Sp} (hE : 0 ≤ sE σ) : 0 ≤ sN σ ∧ sN σ ≤ sE σ := by
  have := cnt_le (isTn σ) (sE σ).toNat
  unfold sN
  omega
theorem mul_b {a o : Int} (ha : 0 ≤ a ∧ a ≤ 20000) (ho : 0 ≤ o ∧ o ≤ 24) : 0 ≤ a * o ∧ a * o ≤ 480000 := by
  refine ⟨Int.mul_nonneg ha.1 ho.1, ?_⟩
  calc a * o ≤ 20000 * o := Int.mul_le_mul_of_nonneg_right ha.2 ho.1
    _ ≤ 20000 * 24 := Int.mul_le_mul_of_nonneg_left ho.2 (by decide)
    _ = 480000 := by decide
theorem c_isMany {μ : zMem} {t n : Int} {σ : Sp} (hT : ShT μ) (hn : 2 ≤ n ∧ n ≤ 4) (hp : CP μ t σ) (hE : 0 ≤ sE σ ∧ sE σ ≤ 48) : f_X6_isMany t (66 + 4 * n) μ = some (mnL (fct n) (sN σ).toNat 1) := by
  have ho := fct_pos hn
  have hN := sN_b hE.1
  have key : ∀ (m fu : Nat) (a x : Int), m < fu → 0 ≤ x → x + m = sN σ → 0 ≤ a → a ≤ 480000 → f_X6_isMany_L5 t (66 + 4 * n) μ f_X6_isMany_K34 fu a x = some (mnL (fct n) m a) := by
    intro m
    induction m with
    | zero =>
      intro fu a x hf x0 hx a0 a1
      cases fu with
      | zero => omega
      | succ fu =>
        unfold f_X6_isMany_L5 f_X6_isMany_K34 mnL
        rw [hp.2.1, if_neg (by omega)]
        split <;> rfl
    | succ m ih =>
      intro fu a x hf x0 hx a0 a1
      cases fu with
      | zero => omega
      | succ fu =>
        unfold f_X6_isMany_L5 mnL
        rw [hp.2.1, if_pos (by omega)]
        by_cases h : a ≤ 20000
        · have hb := mul_b ⟨a0, h⟩ ⟨by omega, ho.2⟩
          rw [if_pos h, if_pos h, (hT n hn.1 hn.2).2.2.1]
          simp only [zlet]
          rw [zw_eq (by omega) (by omega), zw_eq (by omega) (by omega)]
          exact ih fu _ (x + 1) (by omega) (by omega) (by omega) hb.1 hb.2
        · rw [if_neg h, if_neg h]
          unfold f_X6_isMany_K34
          rw [if_neg h]
  unfold f_X6_isMany
  exact key (sN σ).toNat zfu 1 0 (by unfold zfu; omega) (by omega) (by omega) (by omega) (by omega)
/-- the reference knows the orders of n storeys -/
def MOr (μ : zMem) (n : Int) : Prop := μ 101 28 = n ∧ μ 101 30 = fct n ∧ ∀ j k, 0 ≤ j → j < fct n → 0 ≤ k → k < n → μ 133 (4 * j + k) = prm n j k
theorem m_orders {μ : zMem} {n : Int} (hn : 2 ≤ n ∧ n ≤ 4) (h28 : μ 101 28 = n) (h30 : μ 101 30 = 0) : Ok (f_X10_goOrders 40 0 0 μ) (fun μ' => Fm [133, 134] [30] μ μ' ∧ MOr μ' n) := by
  have hlen : (gor n.toNat n.toNat 0 []).length = (fct n).toNat := by
    rcases n234 hn with h | h | h <;> subst h <;> decide +kernel
  have hf := fct_pos hn
  have h0 := m_goOrders (n := n.toNat) (by omega) n.toNat 40 0 [] μ (by omega) (by simp) (by decide) (by omega) (by omega) (by rw [hlen]; omega) (fun x a b => by simp at b; omega)
  have e1 : (([] : List Int).length : Int) = 0 := rfl
  rw [e1, show ((0 : Nat) : Int) = 0 from rfl] at h0
  refine h0.imp fun μ' q => ?_
  obtain ⟨q1, ⟨w1, w2, w3⟩, q3⟩ := q
  refine ⟨q1, by rw [q1.2 28 (by decide)]; exact h28, by rw [w1, h30, hlen]; omega, fun j k j0 j1 k0 k1 => ?_⟩
  have := w2 j.toNat (by rw [hlen]; omega) k k0 (by omega)
  rw [h30, show 4 * (0 + (j.toNat : Int)) + k = 4 * j + k by omega] at this
  rw [this]
  have hall : ∀ (N : Nat) (n : Nat), (∀ (j : Fin N) (k : Fin n), ((gor n n 0 []).getD j.val []).getD k.val 0 = prm n (j.val : Nat) (k.val : Nat)) → ∀ (j k : Int), 0 ≤ j → j < N → 0 ≤ k → k < n → ∀ h, ((gor n n 0 [])[j.toNat]'h).getD k.toNat 0 = prm n j k := by
    intro N n H j k j0 j1 k0 k1 h
    have := H ⟨j.toNat, by omega⟩ ⟨k.toNat, by omega⟩
    simp only [show ((j.toNat : Nat) : Int) = j by omega, show ((k.toNat : Nat) : Int) = k by omega] at this
    rw [← this]
    have e : (gor n n 0 [])[j.toNat]'h = (gor n n 0 []).getD j.toNat [] := by
      rw [List.getD_eq_getElem?_getD, List.getElem?_eq_getElem h]
      rfl
    rw [e]
  rcases n234 hn with h | h | h <;> subst h
  · exact hall 2 2 (by decide +kernel) j k j0 j1 k0 k1 _
  · exact hall 6 3 (by decide +kernel) j k j0 j1 k0 k1 _
  · exact hall 24 4 (by decide +kernel) j k j0 j1 k0 k1 _
theorem m_isMany {μ : zMem} {s n : Int} {σ : Sp} (hs : MS μ s σ) (h3 : 0 ≤ s ∧ s < 3) (hn : 2 ≤ n ∧ n ≤ 4) (hw : WfE σ 32 48) : Ok (f_X10_isMany s n μ) (fun w => Fm [120, 121, 123, 133, 134] [20, 28, 29, 30] μ w.2 ∧ MT w.2 σ ∧ MOr w.2 n ∧ w.2 101 29 = sN σ ∧ w.1 = mnL (fct n) (sN σ).toNat 1) := by
  have ho := fct_pos hn
  have hN := sN_b hw.2.2.1
  have hE := hw.2.2.2.1
  unfold f_X10_isMany
  simp only [zlet]
  have g1 : Fm [120, 121, 123, 133, 134] [20, 28, 29, 30] μ (zup (zup μ 101 28 n) 101 30 0) := ((Fm.refl _ _ μ).upo (by decide) _).upo (by decide) _
  refine ok_bnd.mpr ((m_orders hn (by rw [zup_s, up1_n _ _ (by decide), zup_s, up1_s]) (by rw [zup_s, up1_s])).imp fun μ3 q => ?_)
  obtain ⟨q1, q2⟩ := q
  have g2 := g1.trans (q1.sub (cs' := [120, 121, 123, 133, 134]) (ss' := [20, 28, 29, 30]) (by decide) (by decide))
  have ms3 : MS μ3 s σ := g2.ms (by unfold noSp; decide) hs
  refine ok_bnd.mpr ((m_layTree ms3 h3 hw).imp fun μ4 r => ?_)
  obtain ⟨r1, r2⟩ := r
  have g3 := g2.trans (r1.sub (cs' := [120, 121, 123, 133, 134]) (ss' := [20, 28, 29, 30]) (by decide) (by decide))
  rw [r2.2.2.1]
  have g4 : Fm [120, 121, 123, 133, 134] [20, 28, 29, 30] μ (zup μ4 101 29 (sN σ)) := g3.upo (by decide) _
  have mo4 : MOr (zup μ4 101 29 (sN σ)) n := by
    obtain ⟨o1, o2, o3⟩ := q2
    refine ⟨?_, ?_, fun j k a b c d => ?_⟩
    · rw [zup_s, up1_n _ _ (by decide), r1.2 28 (by decide)]; exact o1
    · rw [zup_s, up1_n _ _ (by decide), r1.2 30 (by decide)]; exact o2
    · rw [zup_n _ _ _ (by decide), r1.1 133 (by decide) (by decide)]; exact o3 j k a b c d
  have mt4 : MT (zup μ4 101 29 (sN σ)) σ := by
    obtain ⟨t1, t2, t3, t4⟩ := r2
    refine ⟨?_, ?_, ?_, ?_⟩
    · rw [zup_n _ _ _ (by decide)]; exact t1
    · rw [zup_n _ _ _ (by decide)]; exact t2
    · rw [zup_s, up1_n _ _ (by decide)]; exact t3
    · rw [zup_n _ _ _ (by decide)]; exact t4
  have e29 : zup μ4 101 29 (sN σ) 101 29 = sN σ := by rw [zup_s, up1_s]
  generalize zup μ4 101 29 (sN σ) = μ5 at *
  have key : ∀ (m fu : Nat) (a x : Int), m < fu → 0 ≤ x → x + m = sN σ → 0 ≤ a → a ≤ 480000 → f_X10_isMany_L34 f_X10_isMany_K63 fu a x μ5 = some (mnL (fct n) m a, μ5) := by
    intro m
    induction m with
    | zero =>
      intro fu a x hf x0 hx a0 a1
      cases fu with
      | zero => omega
      | succ fu =>
        unfold f_X10_isMany_L34 f_X10_isMany_K63 mnL
        rw [e29, if_neg (by omega)]
        split <;> rfl
    | succ m ih =>
      intro fu a x hf x0 hx a0 a1
      cases fu with
      | zero => omega
      | succ fu =>
        unfold f_X10_isMany_L34 mnL
        rw [e29, if_pos (by omega)]
        by_cases h : a ≤ 20000
        · have hb := mul_b ⟨a0, h⟩ ⟨by omega, ho.2⟩
          rw [if_pos h, if_pos h, mo4.2.1]
          simp only [zlet]
          rw [zw_eq (by omega) (by omega), zw_eq (by omega) (by omega)]
          exact ih fu _ (x + 1) (by omega) (by omega) (by omega) hb.1 hb.2
        · rw [if_neg h, if_neg h]
          unfold f_X10_isMany_K63
          rw [if_neg h]
  rw [key (sN σ).toNat zfu 1 0 (by unfold zfu; omega) (by omega) (by omega) (by omega) (by omega)]
  exact ok_some.mpr ⟨g4, mt4, mo4, e29, rfl⟩
