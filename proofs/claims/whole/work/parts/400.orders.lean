/-! the reference's orders of storeys -/
def gor (n : Nat) : Nat → Nat → List Int → List (List Int)
  | 0, _, pre => [pre]
  | m + 1, used, pre => (List.range' 0 n).flatMap (fun k => if used.testBit k then [] else gor n m (used ||| 2 ^ k) (pre ++ [(k : Int)]))
theorem gor_len (n : Nat) : ∀ (m used : Nat) (pre : List Int), ∀ l ∈ gor n m used pre, l.length = pre.length + m := by
  intro m
  induction m with
  | zero => intro used pre l hl; simp [gor] at hl; rw [hl]; rfl
  | succ m ih =>
    intro used pre l hl
    unfold gor at hl
    obtain ⟨k, _, hk⟩ := List.mem_flatMap.mp hl
    split at hk
    · simp at hk
    · have := ih _ _ l hk
      simp at this
      omega
/-- rows ls are written behind those that are there -/
def Wrt (n : Int) (μ μ' : zMem) (ls : List (List Int)) : Prop := μ' 101 30 = μ 101 30 + ls.length ∧ (∀ (q : Nat) (h : q < ls.length), ∀ k : Int, 0 ≤ k → k < n → μ' 133 (4 * (μ 101 30 + q) + k) = (ls[q]).getD k.toNat 0) ∧ (∀ x, x < 4 * μ 101 30 → μ' 133 x = μ 133 x)
theorem Wrt.nil (n : Int) (μ μ' : zMem) (h1 : μ' 101 30 = μ 101 30) (h2 : μ' 133 = μ 133) : Wrt n μ μ' [] := ⟨by rw [h1]; simp, fun q h => absurd h (by simp), fun x _ => by rw [h2]⟩
theorem Wrt.app {n : Int} {μ μ1 μ2 : zMem} {l1 l2 : List (List Int)} (hn : n ≤ 4) (h1 : Wrt n μ μ1 l1) (h2 : Wrt n μ1 μ2 l2) : Wrt n μ μ2 (l1 ++ l2) := by
  obtain ⟨a1, a2, a3⟩ := h1
  obtain ⟨b1, b2, b3⟩ := h2
  refine ⟨by rw [b1, a1, List.length_append]; omega, fun q h k k0 k1 => ?_, fun x hx => by rw [b3 x (by omega), a3 x hx]⟩
  by_cases hq : q < l1.length
  · rw [b3 _ (by omega), a2 q hq k k0 k1, List.getElem_append_left hq]
  · have hq2 : q - l1.length < l2.length := by rw [List.length_append] at h; omega
    have := b2 (q - l1.length) hq2 k k0 k1
    rw [a1, show μ 101 30 + (l1.length : Int) + ((q - l1.length : Nat) : Int) = μ 101 30 + (q : Int) by omega] at this
    rw [this, List.getElem_append_right (by omega)]
theorem m_goOrders {n : Nat} (hn : n ≤ 4) : ∀ (m fu : Nat) (used : Nat) (pre : List Int) (μ : zMem), m < fu → pre.length + m = n → used < 2 ^ 4 → μ 101 28 = n → 0 ≤ μ 101 30 → μ 101 30 + (gor n m used pre).length ≤ 24 → (∀ x : Int, 0 ≤ x → x < pre.length → μ 134 x = pre.getD x.toNat 0) → Ok (f_X10_goOrders fu (pre.length : Int) (used : Int) μ) (fun μ' => Fm [133, 134] [30] μ μ' ∧ Wrt n μ μ' (gor n m used pre) ∧ ∀ x : Int, 0 ≤ x → x < pre.length → μ' 134 x = μ 134 x) := by
  intro m
  induction m with
  | zero =>
    intro fu used pre μ hf hl hu h28 h30 hb hp
    cases fu with
    | zero => omega
    | succ fu =>
      unfold f_X10_goOrders
      rw [h28, if_pos (by omega)]
      have hb1 : μ 101 30 + 1 ≤ 24 := by simpa [gor] using hb
      have key : ∀ (g : Nat) (x : Int) (μ1 : zMem), 0 ≤ x → x ≤ n → ((n : Int) - x).toNat < g → Fm [133] [] μ μ1 → (∀ y, μ1 133 y = if 4 * μ 101 30 ≤ y ∧ y < 4 * μ 101 30 + x then pre.getD (y - 4 * μ 101 30).toNat 0 else μ 133 y) → Ok (f_X10_goOrders_L10 f_X10_goOrders_K43 g x μ1) (fun μ' => Fm [133, 134] [30] μ μ' ∧ Wrt n μ μ' [pre] ∧ ∀ x : Int, 0 ≤ x → x < pre.length → μ' 134 x = μ 134 x) := by
        intro g
        induction g with
        | zero => intro x μ1 _ _ h; omega
        | succ g ih =>
          intro x μ1 x0 x1 x2 f1 f2
          unfold f_X10_goOrders_L10
          rw [f1.2 28 (by simp), h28, f1.2 30 (by simp)]
          by_cases hx : x < n
          · rw [if_pos hx, chk_pos (by omega), zw_eq (x := 4 * μ 101 30) (by omega) (by omega), zw_eq (x := 4 * μ 101 30 + x) (by omega) (by omega), chk_pos (by omega), f1.1 134 (by simp) (by decide), hp x x0 (by omega)]
            simp only [zlet]
            rw [zw_eq (by omega) (by omega)]
            refine ih (x + 1) _ (by omega) (by omega) (by omega) (f1.up (by decide) (by decide) _ _) (fun y => ?_)
            rw [zup_s, up1_e]
            by_cases hy : y = 4 * μ 101 30 + x
            · rw [if_pos hy, if_pos (by omega), hy, show 4 * μ 101 30 + x - 4 * μ 101 30 = x by omega]
            · rw [if_neg hy, f2]
              by_cases hy2 : 4 * μ 101 30 ≤ y ∧ y < 4 * μ 101 30 + x
              · rw [if_pos hy2, if_pos (by omega)]
              · rw [if_neg hy2, if_neg (by omega)]
          · rw [if_neg hx]
            unfold f_X10_goOrders_K43
            simp only [zlet]
            rw [f1.2 30 (by simp), zw_eq (by omega) (by omega)]
            refine ok_some.mpr ⟨(f1.sub (by decide) (by decide)).upo (by decide) _, ⟨by rw [zup_s, up1_s]; simp, fun q hq k k0 k1 => ?_, fun y hy => ?_⟩, fun y _ _ => by rw [zup_n _ _ _ (by decide), f1.1 134 (by simp) (by decide)]⟩
            · have hq0 : q = 0 := by simpa using hq
              subst hq0
              rw [zup_n _ _ _ (by decide), f2, if_pos (by omega)]
              show pre.getD (4 * (μ 101 30 + ((0 : Nat) : Int)) + k - 4 * μ 101 30).toNat 0 = pre.getD k.toNat 0
              rw [show 4 * (μ 101 30 + ((0 : Nat) : Int)) + k - 4 * μ 101 30 = k by omega]
            · rw [zup_n _ _ _ (by decide), f2, if_neg (by omega)]
      exact key zfu 0 μ (by omega) (by omega) (by unfold zfu; omega) (Fm.refl _ _ μ) (fun y => by rw [if_neg (by omega)])
  | succ m ih =>
    intro fu used pre μ hf hl hu h28 h30 hb hp
    cases fu with
    | zero => omega
    | succ fu =>
      unfold f_X10_goOrders
      rw [h28, if_neg (by omega)]
      have loop : ∀ (r g x : Nat) (μ1 : zMem), r < g → x + r = n → Fm [133, 134] [30] μ μ1 → (∃ l1, Wrt n μ μ1 l1 ∧ gor n (m + 1) used pre = l1 ++ (List.range' x r).flatMap (fun k => if used.testBit k then [] else gor n m (used ||| 2 ^ k) (pre ++ [(k : Int)]))) → (∀ y : Int, 0 ≤ y → y < pre.length → μ1 134 y = μ 134 y) → Ok (f_X10_goOrders_L56 (pre.length : Int) (used : Int) (f_X10_goOrders fu) g (x : Int) μ1) (fun μ' => Fm [133, 134] [30] μ μ' ∧ Wrt n μ μ' (gor n (m + 1) used pre) ∧ ∀ x : Int, 0 ≤ x → x < pre.length → μ' 134 x = μ 134 x) := by
        intro r
        induction r with
        | zero =>
          intro g x μ1 hg hx f1 f2 f3
          cases g with
          | zero => omega
          | succ g =>
            unfold f_X10_goOrders_L56
            rw [f1.2 28 (by decide), h28, if_neg (by omega)]
            obtain ⟨l1, w1, w2⟩ := f2
            rw [w2]
            exact ok_some.mpr ⟨f1, by simpa using w1, f3⟩
        | succ r ihr =>
          intro g x μ1 hg hx f1 f2 f3
          cases g with
          | zero => omega
          | succ g =>
            obtain ⟨l1, w1, w2⟩ := f2
            unfold f_X10_goOrders_L56
            rw [f1.2 28 (by decide), h28, if_pos (by omega)]
            have hzb : zand (zshr (used : Int) (x : Int)) 1 = 1 ↔ used.testBit x = true := tbit (by omega) (by omega)
            have hz01 := zbit (x := (used : Int)) (e := (x : Int)) ⟨by omega, by omega⟩ ⟨by omega, by omega⟩
            have hb01 := bt_01 (used : Int) (x : Int)
            by_cases ht : used.testBit x = true
            · rw [if_neg (by have := hzb.mpr ht; omega)]
              simp only [zlet]
              rw [zw_eq (by omega) (by omega)]
              have := ihr g (x + 1) μ1 (by omega) (by omega) f1 ⟨l1, w1, by rw [w2, List.range'_succ, List.flatMap_cons, if_pos ht]; rfl⟩ f3
              rw [show ((x + 1 : Nat) : Int) = (x : Int) + 1 by omega] at this
              exact this
            · have h0 : zand (zshr (used : Int) (x : Int)) 1 = 0 := by
                rw [hz01] at hzb ⊢
                rcases hb01 with h | h
                · exact h
                · exact absurd (hzb.mp h) ht
              rw [if_pos h0, chk_pos (by omega)]
              simp only [zlet]
              have hor : zor (used : Int) (zshl 1 (x : Int)) = ((used ||| 2 ^ x : Nat) : Int) := by
                have hp2 : 2 ^ x ≤ 2 ^ 3 := Nat.pow_le_pow_right (by decide) (by omega)
                have e1 := zshl_nat (a := 1) (n := x) (by omega) (by omega)
                rw [show ((1 : Nat) : Int) = 1 from rfl, Nat.one_mul] at e1
                rw [e1]
                exact zor_nat (by omega) (by omega)
              have hus : used ||| 2 ^ x < 2 ^ 4 := Nat.or_lt_two_pow hu (Nat.lt_of_le_of_lt (Nat.pow_le_pow_right (by decide) (show x ≤ 3 by omega)) (by decide))
              rw [hor, zw_eq (x := (pre.length : Int) + 1) (by omega) (by omega), zw_eq (by omega) (by omega)]
              have hlen : ((pre ++ [(x : Int)]).length : Int) = (pre.length : Int) + 1 := by simp
              have hgo := w2
              rw [List.range'_succ, List.flatMap_cons, if_neg ht] at hgo
              have hlb : (gor n (m + 1) used pre).length = l1.length + ((gor n m (used ||| 2 ^ x) (pre ++ [(x : Int)])).length + ((List.range' (x + 1) r).flatMap (fun k => if used.testBit k then [] else gor n m (used ||| 2 ^ k) (pre ++ [(k : Int)]))).length) := by
                rw [hgo, List.length_append, List.length_append]
              have g1 : Fm [133, 134] [30] μ (zup μ1 134 (pre.length : Int) (x : Int)) := f1.up (by decide) (by decide) _ _
              have hrec := ih fu (used ||| 2 ^ x) (pre ++ [(x : Int)]) (zup μ1 134 (pre.length : Int) (x : Int)) (by omega) (by simp; omega) hus (by rw [zup_n _ _ _ (by decide), f1.2 28 (by decide), h28]) (by rw [zup_n _ _ _ (by decide), w1.1]; omega) (by rw [zup_n _ _ _ (by decide), w1.1]; omega) (fun y y0 y1 => ?_)
              rotate_left
              · rw [hlen] at y1
                rw [zup_s, up1_e]
                by_cases hy : y = pre.length
                · rw [if_pos hy, hy]; simp
                · rw [if_neg hy, f3 y y0 (by omega), hp y y0 (by omega), List.getD_eq_getElem?_getD, List.getD_eq_getElem?_getD, List.getElem?_append_left (by omega)]
              rw [hlen] at hrec
              refine ok_bnd.mpr (hrec.imp fun μ2 q => ?_)
              obtain ⟨q1, q2, q3⟩ := q
              have wz : Wrt n μ (zup μ1 134 (pre.length : Int) (x : Int)) l1 := by
                unfold Wrt at *
                rw [zup_n _ _ _ (by decide), zup_n _ _ _ (by decide)]
                exact w1
              have := ihr g (x + 1) μ2 (by omega) (by omega) (g1.trans q1) ⟨l1 ++ gor n m (used ||| 2 ^ x) (pre ++ [(x : Int)]), wz.app (by omega) q2, by rw [hgo, List.append_assoc]⟩ (fun y y0 y1 => by rw [q3 y y0 (by omega), zup_s, up1_n _ _ (by omega), f3 y y0 y1])
              rw [show ((x + 1 : Nat) : Int) = (x : Int) + 1 by omega] at this
              exact this
      exact loop n zfu 0 μ (by unfold zfu; omega) (by omega) (Fm.refl _ _ μ) ⟨[], Wrt.nil n μ μ rfl rfl, by simp [gor]⟩ (fun _ _ _ => rfl)
