/-! each step keeps what divides the forms -/
def stc (A : Mx) (t g : Int) : Mx := fun i k => if i = t ∧ k = t then g else A i k
/-- the state of the search at t: rows modulo M, diagonal before t, divided by fp from t on -/
def SS (n : Nat) (M H W t fp : Int) (D : Int → Int) (A0 A : Mx) : Prop := BdM M H W A ∧ Dg H W t A ∧ DvS n M H A A0 ∧ (∀ i k, t ≤ i → i < H → t ≤ k → k < W → fp ∣ A i k) ∧ (∀ i, 0 ≤ i → i < t → A i i = D i)
theorem dvd_modM {f a M : Int} (hf : f ∣ M) (ha : f ∣ a) : f ∣ a % M := by
  have h := mod_dvd a M
  have e : a % M = a - (a - a % M) := by omega
  rw [e]
  exact Int.dvd_sub ha (Int.dvd_trans hf h)
theorem ss_swap {n : Nat} {M H W t fp i j : Int} {D : Int → Int} {A0 A : Mx} (hW : W = n) (h : SS n M H W t fp D A0 A) (ht : 0 ≤ t ∧ t < H ∧ t < W) (hi : t ≤ i ∧ i < H) (hj : t ≤ j ∧ j < W) : SS n M H W t fp D A0 (swc (swp A i t) j t) := by
  obtain ⟨s1, s2, s3, s4, s5⟩ := h
  have ri : ∀ x, 0 ≤ x → x < H → 0 ≤ (if x = i then t else if x = t then i else x) ∧ (if x = i then t else if x = t then i else x) < H ∧ (t ≤ x → t ≤ (if x = i then t else if x = t then i else x)) ∧ (x < t → (if x = i then t else if x = t then i else x) = x) := by
    intro x a b
    by_cases q : x = i
    · rw [if_pos q]; omega
    · rw [if_neg q]
      by_cases q' : x = t
      · rw [if_pos q']; omega
      · rw [if_neg q']; omega
  have rj : ∀ x, 0 ≤ x → x < W → 0 ≤ (if x = j then t else if x = t then j else x) ∧ (if x = j then t else if x = t then j else x) < W ∧ (t ≤ x → t ≤ (if x = j then t else if x = t then j else x)) ∧ (x < t → (if x = j then t else if x = t then j else x) = x) := by
    intro x a b
    by_cases q : x = j
    · rw [if_pos q]; omega
    · rw [if_neg q]
      by_cases q' : x = t
      · rw [if_pos q']; omega
      · rw [if_neg q']; omega
  have e : ∀ x k, swc (swp A i t) j t x k = A (if x = i then t else if x = t then i else x) (if k = j then t else if k = t then j else k) := by
    intro x k
    unfold swc swp
    by_cases q : x = i
    · rw [if_pos q, if_pos q]
    · rw [if_neg q, if_neg q]
      by_cases q' : x = t
      · rw [if_pos q', if_pos q']
      · rw [if_neg q', if_neg q']
  refine ⟨fun x k x0 x1 k0 k1 => ?_, fun x k x0 x1 k0 k1 hh hne => ?_, ?_, fun x k x0 x1 k0 k1 => ?_, fun x x0 x1 => ?_⟩
  · have a := ri x x0 x1
    have b := rj k k0 k1
    rw [e]
    exact s1 _ _ a.1 a.2.1 b.1 b.2.1
  · have a := ri x x0 x1
    have b := rj k k0 k1
    rw [e]
    refine s2 _ _ a.1 a.2.1 b.1 b.2.1 ?_ ?_
    · rcases hh with q | q
      · rw [a.2.2.2 q]; exact Or.inl q
      · rw [b.2.2.2 q]; exact Or.inr q
    · intro z
      by_cases hx : x < t
      · rw [a.2.2.2 hx] at z
        by_cases hk : k < t
        · rw [b.2.2.2 hk] at z; exact hne z
        · have := b.2.2.1 (by omega); omega
      · have h1 := a.2.2.1 (by omega)
        have hk : k < t := by omega
        rw [b.2.2.2 hk] at z
        omega
  · have d1 : DvS n M H A (swp A i t) := dvs_swp ⟨by omega, hi.2⟩ ⟨ht.1, ht.2.1⟩
    have d2 : DvS n M H (swp A i t) (swc (swp A i t) j t) := dvs_swc ⟨by omega, by omega⟩ ⟨ht.1, by omega⟩
    exact fun k d => ((d1.trans d2) k d).symm.trans (s3 k d)
  · have a := ri x (by omega) x1
    have b := rj k (by omega) k1
    rw [e]
    exact s4 _ _ (a.2.2.1 x0) a.2.1 (b.2.2.1 k0) b.2.1
  · have a := ri x x0 (by omega)
    have b := rj x x0 (by omega)
    rw [e, a.2.2.2 x1, b.2.2.2 x1]
    exact s5 x x0 x1
theorem ss_clR {n : Nat} {M H W t fp : Int} {D : Int → Int} {A0 A : Mx} (hM : Mok M) (hfM : fp ∣ M) (hW : W = n) (h : SS n M H W t fp D A0 A) (ht : 0 ≤ t ∧ t < H ∧ t < W) : SS n M H W t fp D A0 (clR M A t) := by
  obtain ⟨s1, s2, s3, s4, s5⟩ := h
  have hM' := hM
  unfold Mok at hM'
  -- each row, told by the old ones
  have rowE : ∀ i, 0 ≤ i → i < H → ∀ e : Nat, e < n → M ∣ clR M A t i e - (A i e - (if t < i then A i t / A t t else 0) * A t e) := by
    intro i i0 i1 e he
    unfold clR
    by_cases q : t < i
    · rw [if_pos q]
      by_cases q' : t ≤ (e : Int)
      · rw [if_pos ⟨q, q'⟩]; exact mod_dvd' _ _
      · rw [if_neg (by omega), s2 t e ht.1 ht.2.1 (by omega) (by omega) (Or.inr (by omega)) (by omega), Int.mul_zero, Int.sub_zero, Int.sub_self]
        exact Int.dvd_zero M
    · rw [if_neg q, if_neg (by omega), Int.zero_mul, Int.sub_zero, Int.sub_self]
      exact Int.dvd_zero M
  have rt : ∀ e, clR M A t t e = A t e := fun e => by unfold clR; rw [if_neg (by omega)]
  refine ⟨clR_b hM s1, fun i k i0 i1 k0 k1 hh hne => ?_, ?_, fun i k i0 i1 k0 k1 => ?_, fun i i0 i1 => ?_⟩
  · unfold clR
    by_cases q : t < i ∧ t ≤ k
    · omega
    · rw [if_neg q]; exact s2 i k i0 i1 k0 k1 hh hne
  · have d : DvS n M H (clR M A t) A := by
      refine DvS.rows (fun i i0 i1 => ?_) (fun i i0 i1 => ?_)
      · refine (LA.lin 1 (-(if t < i then A i t / A t t else 0)) (LA.row ⟨i, i0, i1, rfl⟩) (LA.row ⟨t, ht.1, ht.2.1, rfl⟩) : LAm n M H A _).cong fun e he => ?_
        have h1 := rowE i i0 i1 e he
        unfold vA
        rw [if_pos he, if_pos he, if_pos he]
        have e2 : clR M A t i e - (1 * A i e + -(if t < i then A i t / A t t else 0) * A t e) = clR M A t i e - (A i e - (if t < i then A i t / A t t else 0) * A t e) := by
          generalize (if t < i then A i t / A t t else 0) = q
          grind
        rw [e2]; exact h1
      · refine (LA.lin 1 (if t < i then A i t / A t t else 0) (LA.row ⟨i, i0, i1, rfl⟩) (LA.row ⟨t, ht.1, ht.2.1, rfl⟩) : LAm n M H (clR M A t) _).cong fun e he => ?_
        have h1 := rowE i i0 i1 e he
        unfold vA
        rw [if_pos he, if_pos he, if_pos he, rt e]
        have e2 : A i e - (1 * clR M A t i e + (if t < i then A i t / A t t else 0) * A t e) = -(clR M A t i e - (A i e - (if t < i then A i t / A t t else 0) * A t e)) := by
          generalize (if t < i then A i t / A t t else 0) = q
          grind
        rw [e2]; exact Int.dvd_neg.mpr h1
    exact d.trans s3
  · unfold clR
    by_cases q : t < i ∧ t ≤ k
    · rw [if_pos q]
      exact dvd_modM hfM (Int.dvd_sub (s4 i k i0 i1 k0 k1) (Int.dvd_mul_of_dvd_right (s4 t k (by omega) ht.2.1 k0 k1)))
    · rw [if_neg q]; exact s4 i k i0 i1 k0 k1
  · unfold clR
    rw [if_neg (by omega)]
    exact s5 i i0 i1
theorem ss_clC {n : Nat} {M H W t fp : Int} {D : Int → Int} {A0 A B : Mx} (hM : Mok M) (hfM : fp ∣ M) (hW : W = n) (h : SS n M H W t fp D A0 B) (ht : 0 ≤ t ∧ t < H ∧ t < W) : SS n M H W t fp D A0 (clC M A B t) := by
  obtain ⟨s1, s2, s3, s4, s5⟩ := h
  refine ⟨clC_b hM s1, fun i k i0 i1 k0 k1 hh hne => ?_, ?_, fun i k i0 i1 k0 k1 => ?_, fun i i0 i1 => ?_⟩
  · unfold clC
    by_cases q : t ≤ i ∧ t < k
    · omega
    · rw [if_neg q]; exact s2 i k i0 i1 k0 k1 hh hne
  · let c : Nat → Int := fun e => if t < (e : Int) then -(A t e / A t t) else 0
    have hc0 : c t.toNat = 0 := if_neg (by omega)
    have htn : t.toNat < n := by omega
    have bt : ∀ (C : Mx) i, vA n C i t.toNat = C i t := fun C i => by
      unfold vA
      rw [if_pos htn, show ((t.toNat : Nat) : Int) = t by omega]
    have cell : ∀ i, 0 ≤ i → i < H → ∀ e : Nat, e < n → M ∣ clC M A B t i e - (B i e + B i t * c e) := by
      intro i i0 i1 e he
      unfold clC
      show M ∣ _ - (B i e + B i t * (if t < (e : Int) then -(A t e / A t t) else 0))
      by_cases q : t < (e : Int)
      · rw [if_pos q]
        by_cases q' : t ≤ i
        · rw [if_pos ⟨q', q⟩]
          have e2 : B i e + B i t * -(A t e / A t t) = B i e - A t e / A t t * B i t := by
            generalize A t e / A t t = z
            grind
          rw [e2]; exact mod_dvd' _ _
        · rw [if_neg (by omega), s2 i t i0 i1 ht.1 ht.2.2 (Or.inl (by omega)) (by omega), Int.zero_mul, Int.add_zero, Int.sub_self]
          exact Int.dvd_zero M
      · rw [if_neg q, if_neg (by omega), Int.mul_zero, Int.add_zero, Int.sub_self]
        exact Int.dvd_zero M
    have colt : ∀ i, clC M A B t i t = B i t := fun i => by unfold clC; rw [if_neg (by omega)]
    have d : DvS n M H B (clC M A B t) := by
      refine DvS.cols (cvT t.toNat c) (cvT t.toNat (fun e => -(c e))) (fun u e he => ?_) (fun u e he => ?_) lpr_hl (fun i i0 i1 e he => ?_) (fun i i0 i1 e he => ?_)
      · rw [lpr_cvT htn _ e he, lpr_cvT htn _ e he, lpr_cvT htn _ _ htn, hc0]
        grind
      · rw [lpr_cvT htn _ e he, lpr_cvT htn _ e he, lpr_cvT htn _ _ htn, hc0]
        grind
      · rw [lpr_cvT htn _ e he, bt]
        have ev : vA n B i e = B i e := by unfold vA; rw [if_pos he]
        rw [ev]
        exact cell i i0 i1 e he
      · rw [lpr_cvT htn _ e he, bt, colt]
        have ev : vA n (clC M A B t) i e = clC M A B t i e := by unfold vA; rw [if_pos he]
        rw [ev]
        have h1 := cell i i0 i1 e he
        have e2 : B i e - (clC M A B t i e + B i t * -(c e)) = -(clC M A B t i e - (B i e + B i t * c e)) := by grind
        rw [e2]; exact Int.dvd_neg.mpr h1
    exact fun k d' => (d k d').symm.trans (s3 k d')
  · unfold clC
    by_cases q : t ≤ i ∧ t < k
    · rw [if_pos q]
      exact dvd_modM hfM (Int.dvd_sub (s4 i k i0 i1 k0 k1) (Int.dvd_mul_of_dvd_right (s4 i t i0 i1 (by omega) ht.2.2)))
    · rw [if_neg q]; exact s4 i k i0 i1 k0 k1
  · unfold clC
    rw [if_neg (by omega)]
    exact s5 i i0 i1
theorem ss_clL {n : Nat} {M H W t fp : Int} {D : Int → Int} {A0 A : Mx} (hM : Mok M) (hfM : fp ∣ M) (hW : W = n) (h : SS n M H W t fp D A0 A) (ht : 0 ≤ t ∧ t < H ∧ t < W) : SS n M H W t fp D A0 (clL M A t) := ss_clC hM hfM hW (ss_clR hM hfM hW h ht) ht
theorem ss_ad {n : Nat} {M H W t fp r : Int} {D : Int → Int} {A0 A : Mx} (hM : Mok M) (hfM : fp ∣ M) (hW : W = n) (h : SS n M H W t fp D A0 A) (ht : 0 ≤ t ∧ t < H ∧ t < W) (hr : t < r ∧ r < H) : SS n M H W t fp D A0 (adR M A r t) := by
  obtain ⟨s1, s2, s3, s4, s5⟩ := h
  have hM' := hM
  unfold Mok at hM'
  have rowE : ∀ e : Nat, e < n → M ∣ adR M A r t t e - (A t e + A r e) := by
    intro e he
    unfold adR
    by_cases q : t ≤ (e : Int)
    · rw [if_pos ⟨rfl, q⟩]; exact mod_dvd' _ _
    · rw [if_neg (by omega), s2 r e (by omega) hr.2 (by omega) (by omega) (Or.inr (by omega)) (by omega), Int.add_zero, Int.sub_self]
      exact Int.dvd_zero M
  have ro : ∀ i e, i ≠ t → adR M A r t i e = A i e := fun i e hi => by unfold adR; rw [if_neg (by omega)]
  refine ⟨fun i k i0 i1 k0 k1 => ?_, fun i k i0 i1 k0 k1 hh hne => ?_, ?_, fun i k i0 i1 k0 k1 => ?_, fun i i0 i1 => ?_⟩
  · unfold adR
    split
    · exact ⟨Int.emod_nonneg _ (by omega), Int.emod_lt_of_pos _ (by omega)⟩
    · exact s1 i k i0 i1 k0 k1
  · unfold adR
    by_cases q : i = t ∧ t ≤ k
    · omega
    · rw [if_neg q]; exact s2 i k i0 i1 k0 k1 hh hne
  · have d : DvS n M H (adR M A r t) A := by
      refine DvS.rows (fun i i0 i1 => ?_) (fun i i0 i1 => ?_)
      · by_cases q : i = t
        · subst q
          refine (LA.lin 1 1 (LA.row ⟨i, i0, i1, rfl⟩) (LA.row ⟨r, by omega, hr.2, rfl⟩) : LAm n M H A _).cong fun e he => ?_
          have h1 := rowE e he
          unfold vA
          rw [if_pos he, if_pos he, if_pos he, show (1 : Int) * A i e + 1 * A r e = A i e + A r e by omega]
          exact h1
        · refine LA.row ⟨i, i0, i1, ?_⟩
          funext e
          unfold vA
          rw [ro i e q]
      · by_cases q : i = t
        · subst q
          refine (LA.lin 1 (-1) (LA.row ⟨i, i0, i1, rfl⟩) (LA.row ⟨r, by omega, hr.2, rfl⟩) : LAm n M H (adR M A r i) _).cong fun e he => ?_
          have h1 := rowE e he
          unfold vA
          rw [if_pos he, if_pos he, if_pos he, ro r e (by omega)]
          have e2 : A i e - (1 * adR M A r i i e + -1 * A r e) = -(adR M A r i i e - (A i e + A r e)) := by omega
          rw [e2]; exact Int.dvd_neg.mpr h1
        · refine LA.row ⟨i, i0, i1, ?_⟩
          funext e
          unfold vA
          rw [ro i e q]
    exact d.trans s3
  · unfold adR
    by_cases q : i = t ∧ t ≤ k
    · rw [if_pos q]
      exact dvd_modM hfM (Int.dvd_add (s4 t k (by omega) ht.2.1 k0 k1) (s4 r k (by omega) hr.2 k0 k1))
    · rw [if_neg q]; exact s4 i k i0 i1 k0 k1
  · unfold adR
    rw [if_neg (by omega)]
    exact s5 i i0 i1
theorem ss_set {n : Nat} {M H W t fp g : Int} {D : Int → Int} {A0 A : Mx} (hW : W = n) (h : SS n M H W t fp D A0 A) (ht : 0 ≤ t ∧ t < H ∧ t < W) (hr : ∀ k, t < k → k < W → A t k = 0) (hg : 0 ≤ g ∧ g < M) (hgd : g ∣ A t t) (hfg : fp ∣ g) (hbz : ∃ x y, g = x * A t t + y * M) : SS n M H W t fp D A0 (stc A t g) := by
  obtain ⟨s1, s2, s3, s4, s5⟩ := h
  obtain ⟨x, y, hxy⟩ := hbz
  obtain ⟨c, hc⟩ := hgd
  have hz : ∀ k, 0 ≤ k → k < W → k ≠ t → A t k = 0 := by
    intro k k0 k1 hk
    by_cases q : t < k
    · exact hr k q k1
    · exact s2 t k ht.1 ht.2.1 k0 k1 (Or.inr (by omega)) (by omega)
  refine ⟨fun i k i0 i1 k0 k1 => ?_, fun i k i0 i1 k0 k1 hh hne => ?_, ?_, fun i k i0 i1 k0 k1 => ?_, fun i i0 i1 => ?_⟩
  · unfold stc
    split
    · exact hg
    · exact s1 i k i0 i1 k0 k1
  · unfold stc
    rw [if_neg (by omega)]
    exact s2 i k i0 i1 k0 k1 hh hne
  · have d : DvS n M H (stc A t g) A := by
      refine DvS.rows (fun i i0 i1 => ?_) (fun i i0 i1 => ?_)
      · by_cases q : i = t
        · subst q
          refine (LA.lin x 0 (LA.row ⟨i, i0, i1, rfl⟩) LA.zero : LAm n M H A _).cong fun e he => ?_
          unfold vA stc
          rw [if_pos he, if_pos he]
          by_cases z : (e : Int) = i
          · rw [if_pos ⟨rfl, z⟩, z, hxy]
            exact ⟨y, by grind⟩
          · rw [if_neg (fun w => z w.2), hz e (by omega) (by omega) z, Int.mul_zero]
            exact Int.dvd_zero M
        · refine LA.row ⟨i, i0, i1, ?_⟩
          funext e
          unfold vA stc
          rw [if_neg (c := i = t ∧ _) (fun w => q w.1)]
      · by_cases q : i = t
        · subst q
          refine (LA.lin c 0 (LA.row ⟨i, i0, i1, rfl⟩) LA.zero : LAm n M H (stc A i g) _).cong fun e he => ?_
          unfold vA stc
          rw [if_pos he, if_pos he]
          by_cases z : (e : Int) = i
          · rw [if_pos ⟨rfl, z⟩, z, hc]
            exact ⟨0, by grind⟩
          · rw [if_neg (fun w => z w.2), hz e (by omega) (by omega) z, Int.mul_zero]
            exact Int.dvd_zero M
        · refine LA.row ⟨i, i0, i1, ?_⟩
          funext e
          unfold vA stc
          rw [if_neg (c := i = t ∧ _) (fun w => q w.1)]
    exact d.trans s3
  · unfold stc
    split
    · exact hfg
    · exact s4 i k i0 i1 k0 k1
  · unfold stc
    rw [if_neg (by omega)]
    exact s5 i i0 i1
