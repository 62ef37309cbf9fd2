/-! storeys numbered anew: the class -/
def rnb (n a u : Int) : Int := fol n (fol n (bak n u) a) u
theorem rnb_rg {n a u : Int} (hn : 2 ≤ n ∧ n ≤ 4) (ha : 0 ≤ a ∧ a < fct n) (hu : 0 ≤ u ∧ u < fct n) : 0 ≤ rnb n a u ∧ rnb n a u < fct n := fol_rg hn (fol_rg hn (bak_rg hn hu) ha) hu
theorem c_renumber {μ : zMem} (hT : ShT μ) {n a u : Int} (hn : 2 ≤ n ∧ n ≤ 4) (ha : 0 ≤ a ∧ a < fct n) (hu : 0 ≤ u ∧ u < fct n) : f_X4_renumber (66 + 4 * n) a u μ = some (rnb n a u) := by
  unfold f_X4_renumber
  rw [bnd_pos (c_back hT hn hu), bnd_pos (c_follow hT hn (bak_rg hn hu) ha), bnd_pos (c_follow hT hn (fol_rg hn (bak_rg hn hu) ha) hu)]
  rfl
/-- from place i on, with m places behind it: the table is not made smaller by u -/
def nsm (n : Int) (t : Int → Int) (u : Int) : Nat → Int → Bool
  | 0, i => !(decide (rnb n (t i) u < t i))
  | m + 1, i => if rnb n (t i) u = t i then nsm n t u m (i + 1) else !(decide (rnb n (t i) u < t i))
/-- no shuffle from u on makes it smaller -/
def fst (n : Int) (t : Int → Int) (L : Nat) : Nat → Int → Bool
  | 0, _ => true
  | k + 1, u => nsm n t u L 0 && fst n t L k (u + 1)
theorem c_isFirstOfLike {μ : zMem} {n : Int} {L : Nat} {t : Int → Int} (hT : ShT μ) (hn : 2 ≤ n ∧ n ≤ 4) (hL : L < 12) (h9 : μ 27 9 = 66 + 4 * n) (h6 : μ 27 6 = L) (ht : TbR n ((L : Int) + 1) t) (hc : ∀ j : Int, 0 ≤ j → j < (L : Int) + 1 → μ 28 j = t j) : f_X6_isFirstOfLike μ = some (b2i (fst n t L ((fct n).toNat - 1) 1)) := by
  have hfc := fct_pos hn
  have k15 : ∀ (u : Int) (g : Int → Option Int), 0 ≤ u ∧ u < fct n → ∀ (m fu : Nat) (i : Int), m < fu → 0 ≤ i → i + m = L → f_X6_isFirstOfLike_L15 μ u (f_X6_isFirstOfLike_K52 μ u g) fu i = if nsm n t u m i then g (u + 1) else some 0 := by
    intro u g hu m
    have k52 : ∀ i : Int, 0 ≤ i → i ≤ L → f_X6_isFirstOfLike_K52 μ u g i = if !(decide (rnb n (t i) u < t i)) then g (u + 1) else some 0 := by
      intro i a b
      unfold f_X6_isFirstOfLike_K52
      simp only [zlet]
      rw [h9, chk_pos (by omega), chk_pos (by omega), hc i a (by omega), bnd_pos (c_renumber hT hn (ht i a (by omega)) hu), chk_pos (by omega), zw_eq (by omega) (by omega)]
      by_cases h : rnb n (t i) u < t i
      · rw [if_pos h]; simp [h]
      · rw [if_neg h]; simp [h]
    induction m with
    | zero =>
      intro fu i hfu i0 hi
      cases fu with
      | zero => omega
      | succ fu =>
        unfold f_X6_isFirstOfLike_L15 nsm
        rw [h6, if_neg (by omega)]
        exact k52 i i0 (by omega)
    | succ m ih =>
      intro fu i hfu i0 hi
      cases fu with
      | zero => omega
      | succ fu =>
        unfold f_X6_isFirstOfLike_L15 nsm
        simp only [zlet]
        rw [h6, if_pos (by omega), h9, chk_pos (by omega), chk_pos (by omega), hc i i0 (by omega), bnd_pos (c_renumber hT hn (ht i i0 (by omega)) hu), chk_pos (by omega), zw_eq (by omega) (by omega)]
        by_cases h : rnb n (t i) u = t i
        · rw [if_pos h, if_pos h]
          exact ih fu (i + 1) (by omega) (by omega) (by omega)
        · rw [if_neg h, if_neg h]
          exact k52 i i0 (by omega)
  have key : ∀ (k fu : Nat) (u : Int), k < fu → 1 ≤ u → u + k = fct n → f_X6_isFirstOfLike_L2 μ fu u = some (b2i (fst n t L k u)) := by
    intro k
    induction k with
    | zero =>
      intro fu u hfu u0 hu
      cases fu with
      | zero => omega
      | succ fu =>
        unfold f_X6_isFirstOfLike_L2 fst
        simp only [zlet]
        rw [h9, chk_pos (by omega), (hT n hn.1 hn.2).2.2.1, if_neg (by omega)]
        rfl
    | succ k ih =>
      intro fu u hfu u0 hu
      cases fu with
      | zero => omega
      | succ fu =>
        unfold f_X6_isFirstOfLike_L2 fst
        simp only [zlet]
        rw [h9, chk_pos (by omega), (hT n hn.1 hn.2).2.2.1, if_pos (by omega), k15 u _ ⟨by omega, by omega⟩ L zfu 0 (by unfold zfu; omega) (by omega) (by omega)]
        by_cases h : nsm n t u L 0 = true
        · rw [if_pos h, h, Bool.true_and]
          exact ih fu (u + 1) (by omega) (by omega) (by omega)
        · rw [if_neg h, Bool.eq_false_iff.mpr h, Bool.false_and]
          rfl
  unfold f_X6_isFirstOfLike
  exact key ((fct n).toNat - 1) zfu 1 (by unfold zfu; omega) (by omega) (by omega)
