/-! the next factor is found in time -/
theorem sub_div_mod {a x M : Int} (ha : 0 ≤ a ∧ a < M) (hx : 0 < x) : (a - a / x * x) % M = a % x ∧ 0 ≤ a % x ∧ a % x < x := by
  have h1 : a - a / x * x = a % x := by have := Int.mul_ediv_add_emod a x; rw [Int.mul_comm] at this; omega
  have h2 : 0 ≤ a % x ∧ a % x < x := ⟨Int.emod_nonneg _ (by omega), Int.emod_lt_of_pos _ hx⟩
  have h3 : a % x ≤ a := by
    have h4 : 0 ≤ a / x * x := Int.mul_nonneg (Int.ediv_nonneg ha.1 (by omega)) (by omega)
    omega
  rw [h1]
  exact ⟨Int.emod_eq_of_lt h2.1 (by omega), h2⟩
theorem clL_f {M H W t : Int} {A : Mx} (hb : BdM M H W A) (ht : 0 ≤ t ∧ t < H ∧ t < W) (hx : 0 < A t t) : clL M A t t t = A t t ∧ (∀ i, t < i → i < H → clL M A t i t = A i t % A t t ∧ clR M A t i t = A i t % A t t) ∧ (∀ k, t < k → k < W → clL M A t t k = A t k % A t t) ∧ (∀ i, t < i → i < H → A i t = 0 → ∀ k, t ≤ k → k < W → clL M A t i k = A i k) := by
  have rt : ∀ k, clR M A t t k = A t k := fun k => by unfold clR; rw [if_neg (by omega)]
  have rit : ∀ i, t < i → i < H → clR M A t i t = A i t % A t t := by
    intro i i0 i1
    unfold clR
    rw [if_pos ⟨i0, by omega⟩]
    exact (sub_div_mod (hb i t (by omega) i1 ht.1 ht.2.2) hx).1
  refine ⟨?_, fun i i0 i1 => ⟨?_, rit i i0 i1⟩, fun k k0 k1 => ?_, fun i i0 i1 h0 k k0 k1 => ?_⟩
  · unfold clL clC
    rw [if_neg (by omega), rt]
  · unfold clL clC
    rw [if_neg (by omega)]
    exact rit i i0 i1
  · unfold clL clC
    rw [if_pos ⟨by omega, k0⟩, rt, rt]
    exact (sub_div_mod (hb t k ht.1 ht.2.1 (by omega) k1) hx).1
  · have e1 : clR M A t i k = A i k := by
      unfold clR
      have hk := hb i k (by omega) i1 (by omega) k1
      rw [if_pos ⟨i0, k0⟩, h0, Int.zero_ediv, Int.zero_mul, Int.sub_zero, Int.emod_eq_of_lt hk.1 hk.2]
    have e2 : clR M A t i t = 0 := by rw [rit i i0 i1, h0, Int.zero_emod]
    unfold clL clC
    by_cases q : t < k
    · have hk := hb i k (by omega) i1 (by omega) k1
      rw [if_pos ⟨by omega, q⟩, e1, e2, Int.mul_zero, Int.sub_zero, Int.emod_eq_of_lt hk.1 hk.2]
    · rw [if_neg (by omega), e1]
/-- a cell from t, t on that isn't 0 and has Q -/
def Cel (H W t : Int) (A : Mx) (Q : Int → Prop) : Prop := ∃ i k, t ≤ i ∧ i < H ∧ t ≤ k ∧ k < W ∧ A i k ≠ 0 ∧ Q (A i k)
/-- rows that are small, and not the least -/
def GS (H W t P N : Int) (A : Mx) : Prop := (∀ i k, t ≤ i → i < H → t ≤ k → k < W → A i k ≠ 0 → Cel H W t A (fun y => y ≤ P)) ∧ ∃ sm : Int → Bool, (∀ l, sm l = true → t ≤ l ∧ l < H ∧ (∀ k, t ≤ k → k < W → A l k ≤ P) ∧ (l ≠ t → ∀ k, t ≤ k → k < W → A l k ≠ 0 → Cel H W t A (fun y => y < A l k)) ∧ (l = t → A t t ≠ 0 ∧ Cel H W t A (fun y => y < A t t))) ∧ N ≤ cnt sm H.toNat
/-- what the next factor leaves -/
def NF (n : Nat) (M H W t fp : Int) (D : Int → Int) (A0 : Mx) (μ : zMem) (f : Int) (μ' : zMem) : Prop := Fr μ μ' ∧ ∃ A', CM μ' H W A' ∧ 1 ≤ f ∧ f ∣ M ∧ fp ∣ f ∧ (A' t t = f ∨ (f = M ∧ A' t t = 0)) ∧ SS n M H W (t + 1) f (fun i => if i = t then A' t t else D i) A0 A'
theorem gs_none {H W t P : Int} {A : Mx} (h : Cel H W t A (fun y => y ≤ P)) : GS H W t P 0 A := ⟨fun _ _ _ _ _ _ _ => h, fun _ => false, fun l hl => Bool.noConfusion hl, by have := (cnt_le (fun _ => false) H.toNat).1; exact this⟩
set_option maxHeartbeats 1000000 in
theorem c_nextL {n : Nat} {M H W t fp : Int} {D : Int → Int} {A0 : Mx} (hM : Mok M) (hfM : fp ∣ M) (hf1 : 1 ≤ fp) (hW : W = n) (hw : HW H W) (hH8 : H ≤ 8) (ht : 0 ≤ t ∧ t < H ∧ t < W) : ∀ (K fu q : Nat) (x P N : Int) (A : Mx) (μ : zMem), K < fu → 0 ≤ x → x + K < 1000000 → P < 2 ^ q → 9 * (q : Int) + 9 ≤ K + N → CM μ H W A → μ 23 6 = M → SS n M H W t fp D A0 A → GS H W t P N A → Ok (f_X2_nextFactor_L2 t fu x μ) (fun w => NF n M H W t fp D A0 μ w.1 w.2) := by
  have hM' := hM
  unfold Mok at hM'
  intro K
  induction K with
  | zero =>
    intro fu q x P N A μ _ _ _ _ hK _ _ _ hG
    obtain ⟨_, sm, _, hN⟩ := hG
    have := (cnt_le sm H.toNat).2
    omega
  | succ K ih =>
    intro fu q x P N A μ hfu x0 hx hP hK hC h6 hS hG
    cases fu with
    | zero => omega
    | succ fu =>
      have hSA := hS
      obtain ⟨s1, s2, s3, s4, s5⟩ := hS
      unfold f_X2_nextFactor_L2
      simp only [zlet]
      rw [if_pos (by omega), zw_eq (x := x + 1) (by omega) (by omega)]
      refine ok_bnd2.mpr ((c_bringLeast hw hC s1 ht).imp fun w r => ?_)
      rcases r with ⟨r1, r2, r3⟩ | ⟨r1, r2, i, j, hL, rC⟩
      · rw [if_pos r1, r2, h6]
        refine ok_some.mpr ⟨fun _ _ => rfl, A, hC, hM'.1, Int.dvd_refl _, hfM, Or.inr ⟨rfl, r3 t t (by omega) ht.2.1 (by omega) ht.2.2⟩, s1, fun i k i0 i1 k0 k1 hh hne => ?_, s3, fun i k i0 i1 k0 k1 => ?_, fun i i0 i1 => ?_⟩
        · by_cases q : i < t ∨ k < t
          · exact s2 i k i0 i1 k0 k1 q hne
          · exact r3 i k (by omega) i1 (by omega) k1
        · rw [r3 i k (by omega) i1 (by omega) k1]; exact Int.dvd_zero _
        · show A i i = if i = t then A t t else D i
          by_cases q : i = t
          · rw [if_pos q, q]
          · rw [if_neg q]; exact s5 i i0 (by omega)
      · obtain ⟨l1, l2, l3, l4, l5, l6, l7⟩ := hL
        rw [r1, if_neg (by decide)]
        have hSB := ss_swap hW hSA ht ⟨l1, l2⟩ ⟨l3, l4⟩
        generalize hBd : swc (swp A i t) j t = B at *
        have hBe : ∀ x k, B x k = A (if x = i then t else if x = t then i else x) (if k = j then t else if k = t then j else k) := by
          intro x k
          rw [← hBd]
          unfold swc swp
          by_cases q : x = i
          · rw [if_pos q, if_pos q]
          · rw [if_neg q, if_neg q]
            by_cases q' : x = t
            · rw [if_pos q', if_pos q']
            · rw [if_neg q', if_neg q']
        have hpos := (s1 i j (by omega) l2 (by omega) l4).1
        have hBtt : B t t = A i j := by
          rw [hBe]
          have e1 : (if t = i then t else if t = t then i else t) = i := by
            by_cases q : t = i
            · rw [if_pos q]; exact q
            · rw [if_neg q, if_pos rfl]
          have e2 : (if t = j then t else if t = t then j else t) = j := by
            by_cases q : t = j
            · rw [if_pos q]; exact q
            · rw [if_neg q, if_pos rfl]
          rw [e1, e2]
        generalize hx0 : A i j = x0 at *
        have hx0p : 0 < x0 := by omega
        have hx0M : x0 < M := by have := (s1 i j (by omega) l2 (by omega) l4).2; omega
        -- the bound of this round
        obtain ⟨q1, P1, N1, hxP, hP1x, hP1, hK1, sm, hsm, hN1⟩ : ∃ (q1 : Nat) (P1 N1 : Int), x0 ≤ P1 ∧ P1 < 2 * x0 ∧ P1 < 2 ^ q1 ∧ 9 * (q1 : Int) + 9 ≤ K + (N1 + 1) ∧ ∃ sm : Int → Bool, (∀ l, sm l = true → t ≤ l ∧ l < H ∧ (∀ k, t ≤ k → k < W → A l k ≤ P1) ∧ (l ≠ t → ∀ k, t ≤ k → k < W → A l k ≠ 0 → x0 < A l k) ∧ (l = t → x0 < A t t)) ∧ N1 ≤ cnt sm H.toNat := by
          obtain ⟨g1, sm, g2, g3⟩ := hG
          have hle := (cnt_le sm H.toNat).2
          have hxP : x0 ≤ P := by
            obtain ⟨i', k', a, b, c, d, e, f⟩ := g1 i j l1 l2 l3 l4 (by omega)
            rcases l6 i' k' a b c d with z | z
            · exact absurd z e
            · exact Int.le_trans z f
          by_cases hh : 2 * x0 ≤ P
          · cases q with
            | zero =>
              have : (2 : Int) ^ 0 = 1 := rfl
              omega
            | succ q =>
              have hp2 : (2 : Int) ^ (q + 1) = 2 ^ q * 2 := Int.pow_succ ..
              exact ⟨q, x0, 0, Int.le_refl _, by omega, by omega, by omega, fun _ => false, fun l hl => Bool.noConfusion hl, (cnt_le (fun _ => false) H.toNat).1⟩
          · refine ⟨q, P, N, hxP, by omega, hP, by omega, sm, fun l hl => ?_, g3⟩
            obtain ⟨a, b, c, d, e⟩ := g2 l hl
            refine ⟨a, b, c, fun z k k0 k1 hn => ?_, fun z => ?_⟩
            · obtain ⟨i', k', p1, p2, p3, p4, p5, p6⟩ := d z k k0 k1 hn
              rcases l6 i' k' p1 p2 p3 p4 with y | y
              · exact absurd y p5
              · exact Int.lt_of_le_of_lt y p6
            · obtain ⟨_, i', k', p1, p2, p3, p4, p5, p6⟩ := e z
              rcases l6 i' k' p1 p2 p3 p4 with y | y
              · exact absurd y p5
              · exact Int.lt_of_le_of_lt y p6
        have hN8 := (cnt_le sm H.toNat).2
        obtain ⟨b1, b2, b3, b4, b5⟩ := hSB
        have hSB : SS n M H W t fp D A0 B := ⟨b1, b2, b3, b4, b5⟩
        have hf := clL_f b1 ht (by omega : 0 < B t t)
        rw [hBtt] at hf
        obtain ⟨f1, f2, f3, f4⟩ := hf
        -- going on when a cell is halved
        have halve : ∀ (C : Mx) (μ2 : zMem) (y : Int), Fr μ μ2 → CM μ2 H W C → SS n M H W t fp D A0 C → (∃ i k, t ≤ i ∧ i < H ∧ t ≤ k ∧ k < W ∧ C i k = y) → 0 < y → 2 * y ≤ P1 → Ok (f_X2_nextFactor_L2 t fu (x + 1) μ2) (fun w => NF n M H W t fp D A0 μ w.1 w.2) := by
          intro C μ2 y hF hCM hSS hy hy0 hy2
          cases q1 with
          | zero =>
            have : (2 : Int) ^ 0 = 1 := rfl
            omega
          | succ q1 =>
            have hp2 : (2 : Int) ^ (q1 + 1) = 2 ^ q1 * 2 := Int.pow_succ ..
            obtain ⟨i', k', a, b, c, d, e⟩ := hy
            refine (ih fu q1 (x + 1) y 0 C μ2 (by omega) (by omega) (by omega) (by omega) (by omega) hCM (by rw [hF 23 (by decide)]; exact h6) hSS (gs_none ⟨i', k', a, b, c, d, by omega, by omega⟩)).imp fun v hv => ?_
            exact ⟨fun k hk => (hv.1 k hk).trans (hF k hk), hv.2⟩
        -- going on with one small row more
        have more : ∀ (C : Mx) (μ2 : zMem) (y : Int), Fr μ μ2 → CM μ2 H W C → SS n M H W t fp D A0 C → ¬ (i = t ∧ sm t = true) → (∀ l, t < l → l < H → (if l = i then sm t else sm l) = true → ∀ k, t ≤ k → k < W → C l k = B l k) → C t t = x0 → (∀ k, t < k → k < W → C t k < x0) → (∃ i k, t ≤ i ∧ i < H ∧ t ≤ k ∧ k < W ∧ C i k = y) → 0 < y → y < x0 → Ok (f_X2_nextFactor_L2 t fu (x + 1) μ2) (fun w => NF n M H W t fp D A0 μ w.1 w.2) := by
          intro C μ2 y hF hCM hSS hnt hrow hCt hCr hy hy0 hyx
          obtain ⟨i', k', a, b, c, d, e⟩ := hy
          have cy : Cel H W t C (fun z => z < x0) := ⟨i', k', a, b, c, d, by omega, by omega⟩
          have cP : Cel H W t C (fun z => z ≤ P1) := ⟨i', k', a, b, c, d, by omega, by omega⟩
          have ct : ∀ v, x0 < v → Cel H W t C (fun z => z < v) := fun v hv => ⟨t, t, by omega, ht.2.1, by omega, ht.2.2, by omega, by omega⟩
          have smi : i ≠ t → sm i = false := by
            intro hit
            rw [Bool.eq_false_iff]
            intro z
            have := (hsm i z).2.2.2.1 hit j l3 l4 (by omega)
            omega
          have small : ∀ l, t < l → l < H → (if l = i then sm t else sm l) = true → (∀ k, t ≤ k → k < W → C l k ≤ P1 ∧ (C l k ≠ 0 → x0 < C l k)) := by
            intro l l0 l1 hl k k0 k1
            have hkr : t ≤ (if k = j then t else if k = t then j else k) ∧ (if k = j then t else if k = t then j else k) < W := by
              split
              · omega
              · split <;> omega
            rw [hrow l l0 l1 hl k k0 k1, hBe]
            by_cases q : l = i
            · rw [if_pos q] at hl ⊢
              obtain ⟨_, _, p1, _, p3⟩ := hsm t hl
              refine ⟨p1 _ hkr.1 hkr.2, fun z => ?_⟩
              rcases l7 t _ (by omega) (by omega) hkr.1 hkr.2 with w | w
              · exact absurd w z
              · exact w
            · rw [if_neg q] at hl ⊢
              rw [if_neg (by omega)]
              obtain ⟨_, _, p1, p2, _⟩ := hsm l hl
              exact ⟨p1 _ hkr.1 hkr.2, fun z => p2 (by omega) _ hkr.1 hkr.2 z⟩
          have hgs : GS H W t P1 (N1 + 1) C := by
            refine ⟨fun _ _ _ _ _ _ _ => cP, fun l => if l = t then true else if l = i then sm t else (sm l && decide (t ≤ l)), fun l hl => ?_, ?_⟩
            · by_cases q : l = t
              · subst q
                refine ⟨by omega, ht.2.1, fun k k0 k1 => ?_, fun z => absurd rfl z, fun _ => ⟨by omega, by rw [hCt]; exact cy⟩⟩
                by_cases z : k = l
                · rw [z, hCt]; exact hxP
                · have := hCr k (by omega) k1; omega
              · replace hl : (if l = t then true else if l = i then sm t else (sm l && decide (t ≤ l))) = true := hl
                rw [if_neg q] at hl
                have hl2 : t < l ∧ l < H ∧ (if l = i then sm t else sm l) = true := by
                  by_cases z : l = i
                  · rw [if_pos z] at hl ⊢
                    exact ⟨by omega, by omega, hl⟩
                  · rw [if_neg z] at hl ⊢
                    rw [Bool.and_eq_true] at hl
                    have := hsm l hl.1
                    exact ⟨by omega, this.2.1, hl.1⟩
                have sl := small l hl2.1 hl2.2.1 hl2.2.2
                exact ⟨by omega, hl2.2.1, fun k k0 k1 => (sl k k0 k1).1, fun _ k k0 k1 hn => ct _ ((sl k k0 k1).2 hn), fun z => absurd z q⟩
            · -- one more than before
              have hle : ∀ l, sm l = true → decide (t ≤ l) = true := fun l hl => by simp [(hsm l hl).1]
              by_cases hst : sm t = true
              · have hit : i ≠ t := fun z => hnt ⟨z, hst⟩
                have := cnt_set (r := sm) (q := fun l => if l = t then true else if l = i then sm t else (sm l && decide (t ≤ l))) (x := i) H.toNat (by omega) (by omega) (smi hit) (by rw [if_neg hit, if_pos rfl]; exact hst) (fun l hl => by
                  by_cases z : l = t
                  · rw [if_pos z, z, hst]
                  · rw [if_neg z, if_neg hl]
                    cases hs : sm l with
                    | true => rw [hle l hs]; rfl
                    | false => rfl)
                omega
              · have hsf : sm t = false := Bool.eq_false_iff.mpr hst
                have := cnt_set (r := sm) (q := fun l => if l = t then true else if l = i then sm t else (sm l && decide (t ≤ l))) (x := t) H.toNat ht.1 (by omega) hsf (by rw [if_pos rfl]) (fun l hl => by
                  rw [if_neg hl]
                  by_cases z : l = i
                  · rw [if_pos z, hsf, z, smi (by omega)]
                  · rw [if_neg z]
                    cases hs : sm l with
                    | true => rw [hle l hs]; rfl
                    | false => rfl)
                omega
          refine (ih fu q1 (x + 1) P1 (N1 + 1) C μ2 (by omega) (by omega) (by omega) hP1 (by omega) hCM (by rw [hF 23 (by decide)]; exact h6) hSS hgs).imp fun v hv => ?_
          exact ⟨fun k hk => (hv.1 k hk).trans (hF k hk), hv.2⟩
        have hSC := ss_clL hM hfM hW hSB ht
        refine ok_bnd2.mpr ((c_clearLines hM hw rC (by rw [r2 23 (by decide)]; exact h6) b1 ht (by omega)).imp fun w2 y => ?_)
        obtain ⟨y1, y2, y3, y4⟩ := y
        have hF2 : Fr μ w2.2 := fun k hk => (y1 k hk).trans (r2 k hk)
        -- halved at once: the old pivot in the same row
        by_cases hA1 : i = t ∧ sm t = true
        · have hAt := (hsm t hA1.2).2.2.2.2 rfl
          have hAP := (hsm t hA1.2).2.2.1 t (by omega) ht.2.2
          have hjt : j ≠ t := fun z => by rw [hA1.1, z] at hx0; omega
          have hBtj : B t j = A t t := by
            rw [hBe, hA1.1]
            by_cases z : t = t
            · rw [if_pos z, if_pos rfl]
            · exact absurd rfl z
          have hCj := f3 j (by omega) l4
          rw [hBtj] at hCj
          have hm : A t t % x0 = A t t - x0 := by
            have e : A t t = (A t t - x0) + x0 := by omega
            conv => lhs; rw [e]
            rw [Int.add_emod_right, Int.emod_eq_of_lt (by omega) (by omega)]
          have hnf : w2.1 = 0 := by
            rcases y3 with z | z
            · exact z
            · have := (y4.mp z).2 j (by omega) l4
              omega
          rw [if_pos hnf]
          exact halve _ w2.2 (A t t - x0) hF2 y2 hSC ⟨t, j, by omega, ht.2.1, l3, l4, by rw [hCj, hm]⟩ (by omega) (by omega)
        · -- a small row with a cell in the pivot's column
          by_cases hA2 : ∃ l, t < l ∧ l < H ∧ (if l = i then sm t else sm l) = true ∧ B l t ≠ 0
          · obtain ⟨l, l0, l1', hl, hlt⟩ := hA2
            have hBlt : x0 < B l t ∧ B l t ≤ P1 := by
              have hkr : t ≤ (if t = j then t else if t = t then j else t) ∧ (if t = j then t else if t = t then j else t) < W := by
                split
                · omega
                · split <;> omega
              rw [hBe] at hlt ⊢
              by_cases q : l = i
              · rw [if_pos q] at hl hlt ⊢
                obtain ⟨_, _, p1, _, p3⟩ := hsm t hl
                refine ⟨?_, p1 _ hkr.1 hkr.2⟩
                rcases l7 t _ (by omega) (by omega) hkr.1 hkr.2 with w | w
                · exact absurd w hlt
                · exact w
              · rw [if_neg q] at hl hlt ⊢
                rw [if_neg (by omega)] at hlt ⊢
                obtain ⟨_, _, p1, p2, _⟩ := hsm l hl
                exact ⟨p2 (by omega) _ hkr.1 hkr.2 hlt, p1 _ hkr.1 hkr.2⟩
            have hm : B l t % x0 = B l t - x0 := by
              have e : B l t = (B l t - x0) + x0 := by omega
              conv => lhs; rw [e]
              rw [Int.add_emod_right, Int.emod_eq_of_lt (by omega) (by omega)]
            have hfl := f2 l l0 l1'
            have hnf : w2.1 = 0 := by
              rcases y3 with z | z
              · exact z
              · have := (y4.mp z).1 l l0 l1'
                omega
            rw [if_pos hnf]
            exact halve _ w2.2 (B l t - x0) hF2 y2 hSC ⟨l, t, by omega, l1', by omega, ht.2.2, by rw [hfl.1, hm]⟩ (by omega) (by omega)
          · have hz : ∀ l, t < l → l < H → (if l = i then sm t else sm l) = true → B l t = 0 := fun l a b c => Classical.byContradiction fun z => hA2 ⟨l, a, b, c, z⟩
            by_cases hfl : w2.1 = 0
            · rw [if_pos hfl]
              -- something stays in the lines
              have hst : ∃ y, (∃ i k, t ≤ i ∧ i < H ∧ t ≤ k ∧ k < W ∧ clL M B t i k = y) ∧ 0 < y ∧ y < x0 := by
                by_cases hc1 : ∃ i', t < i' ∧ i' < H ∧ clR M B t i' t ≠ 0
                · obtain ⟨i', a, b, c⟩ := hc1
                  have e := f2 i' a b
                  have hm := Int.emod_lt_of_pos (B i' t) hx0p
                  have hm0 := Int.emod_nonneg (B i' t) (show x0 ≠ 0 by omega)
                  exact ⟨B i' t % x0, ⟨i', t, by omega, b, by omega, ht.2.2, e.1⟩, by omega, hm⟩
                · by_cases hc2 : ∃ k, t < k ∧ k < W ∧ clL M B t t k ≠ 0
                  · obtain ⟨k, a, b, c⟩ := hc2
                    have e := f3 k a b
                    have hm := Int.emod_lt_of_pos (B t k) hx0p
                    have hm0 := Int.emod_nonneg (B t k) (show x0 ≠ 0 by omega)
                    exact ⟨B t k % x0, ⟨t, k, by omega, ht.2.1, by omega, b, e⟩, by omega, hm⟩
                  · exfalso
                    have := y4.mpr ⟨fun i' a b => Classical.byContradiction fun c => hc1 ⟨i', a, b, c⟩, fun k a b => Classical.byContradiction fun c => hc2 ⟨k, a, b, c⟩⟩
                    omega
              obtain ⟨y, e1, e2, e3⟩ := hst
              refine more _ w2.2 y hF2 y2 hSC hA1 (fun l a b c k k0 k1 => f4 l a b (hz l a b c) k k0 k1) f1 (fun k a b => ?_) e1 e2 e3
              rw [f3 k a b]
              exact Int.emod_lt_of_pos _ hx0p
            · rw [if_neg hfl]
              have hclr := y4.mp (y3.resolve_left hfl)
              obtain ⟨a1, a2, a3, a4⟩ := hw.ix (i := t) (k := t) ⟨ht.1, ht.2.1⟩ ⟨ht.1, ht.2.2⟩
              have vtt := y2.2.2 t t ht.1 ht.2.1 ht.1 ht.2.2
              obtain ⟨g, g1, ⟨g2, g3⟩, bx, by', g4⟩ := c_divisorOf (a := x0) (b := M) ⟨by omega, by omega⟩ ⟨by omega, by omega⟩
              have hgx : g ∣ x0 := ((g3 g).mp (Int.dvd_refl g)).1
              have hgM : g ∣ M := ((g3 g).mp (Int.dvd_refl g)).2
              have hg0 : 0 < g := by
                by_cases z : g = 0
                · rw [z] at hgM
                  have := Int.zero_dvd.mp hgM
                  omega
                · omega
              have hgle : g ≤ x0 := Int.le_of_dvd hx0p hgx
              have hfpg : fp ∣ g := by
                refine (g3 fp).mpr ⟨?_, hfM⟩
                have := hSC.2.2.2.1 t t (by omega) ht.2.1 (by omega) ht.2.2
                rw [f1] at this
                exact this
              have hSE := ss_set (g := g) hW hSC ht (fun k a b => hclr.2 k a b) ⟨g2, by omega⟩ (by rw [f1]; exact hgx) hfpg ⟨bx, by', by rw [f1]; exact g4⟩
              rw [y2.2.1, a1, a2, chk_pos ⟨a3, a4⟩, vtt, f1, y1 23 (by decide), r2 23 (by decide), h6, bnd_pos g1, chk_pos ⟨a3, a4⟩]
              have hCE : CM (zup w2.2 24 (t * W + t) g) H W (stc (clL M B t) t g) := by
                refine ⟨by rw [zup_n _ _ _ (by decide)]; exact y2.1, by rw [zup_n _ _ _ (by decide)]; exact y2.2.1, fun i' k i0 i1 k0 k1 => ?_⟩
                rw [zup_s]
                unfold stc
                by_cases z : i' = t ∧ k = t
                · rw [if_pos z, z.1, z.2, up1_s]
                · rw [if_neg z, up1_n _ _ (fun w => z (ix_inj ⟨k0, k1⟩ ⟨ht.1, ht.2.2⟩ w))]
                  exact y2.2.2 i' k i0 i1 k0 k1
              have hF3 : Fr μ (zup w2.2 24 (t * W + t) g) := fun k hk => by rw [zup_n _ _ _ hk]; exact hF2 k hk
              generalize zup w2.2 24 (t * W + t) g = μ9 at *
              have hEo : ∀ i' k, ¬ (i' = t ∧ k = t) → stc (clL M B t) t g i' k = clL M B t i' k := fun i' k z => by unfold stc; rw [if_neg z]
              have hEt : stc (clL M B t) t g t t = g := by unfold stc; rw [if_pos ⟨rfl, rfl⟩]
              generalize hE : stc (clL M B t) t g = E at *
              obtain ⟨e1, e2, e3, e4, e5⟩ := hSE
              have hSE : SS n M H W t fp D A0 E := ⟨e1, e2, e3, e4, e5⟩
              have hEc : ∀ i', t < i' → i' < H → E i' t = 0 := fun i' a b => by rw [hEo i' t (by omega), (f2 i' a b).1, ← (f2 i' a b).2]; exact hclr.1 i' a b
              have hEr : ∀ k, t < k → k < W → E t k = 0 := fun k a b => by rw [hEo t k (by omega)]; exact hclr.2 k a b
              obtain ⟨v, v1, v2⟩ := c_rowNotDivided hw hCE e1 ht hg0
              rw [bnd_pos v1]
              rcases v2 with ⟨z1, z2⟩ | ⟨z1, z2, kk, z3, z4, z5⟩
              · rw [if_pos z1]
                refine ok_some.mpr ⟨hF3, E, hCE, by omega, hgM, hfpg, Or.inl hEt, e1, fun i' k i0 i1 k0 k1 hh hne => ?_, e3, fun i' k i0 i1 k0 k1 => z2 i' k (by omega) i1 (by omega) k1, fun i' i0 i1 => ?_⟩
                · by_cases z : i' < t ∨ k < t
                  · exact e2 i' k i0 i1 k0 k1 z hne
                  · by_cases z' : i' = t
                    · rw [z']; exact hEr k (by omega) k1
                    · have : k = t := by omega
                      rw [this]; exact hEc i' (by omega) i1
                · show E i' i' = if i' = t then E t t else D i'
                  by_cases z : i' = t
                  · rw [if_pos z, z]
                  · rw [if_neg z]; exact e5 i' i0 (by omega)
              · rw [if_neg (by omega)]
                refine ok_bnd.mpr ((c_addRow hM hw hCE (by rw [hF3 23 (by decide)]; exact h6) e1 ht ⟨z1, z2⟩).imp fun μa u => ?_)
                obtain ⟨u1, u2⟩ := u
                have hSF := ss_ad hM hfM hW hSE ht ⟨z1, z2⟩
                have hFt : ∀ k, t ≤ k → k < W → adR M E v t t k = (E t k + E v k) % M := fun k a b => by unfold adR; rw [if_pos ⟨rfl, a⟩]
                have hFo : ∀ i' k, i' ≠ t → adR M E v t i' k = E i' k := fun i' k a => by unfold adR; rw [if_neg (by omega)]
                generalize adR M E v t = F at *
                have hFtt : F t t = g := by
                  rw [hFt t (by omega) ht.2.2, hEt, hEc v z1 z2, Int.add_zero, Int.emod_eq_of_lt (by omega) (by omega)]
                have hFtk : ∀ k, t < k → k < W → F t k = E v k := fun k a b => by
                  have := e1 v k (by omega) z2 (by omega) b
                  rw [hFt k (by omega) b, hEr k a b, Int.zero_add, Int.emod_eq_of_lt this.1 this.2]
                have hff := clL_f hSF.1 ht (by omega : 0 < F t t)
                rw [hFtt] at hff
                obtain ⟨h1, h2, h3, h4⟩ := hff
                have hF4 : Fr μ μa := fun k hk => (u1 k hk).trans (hF3 k hk)
                refine ok_bnd2.mpr ((c_clearLines hM hw u2 (by rw [hF4 23 (by decide)]; exact h6) hSF.1 ht (by omega)).imp fun w3 s => ?_)
                obtain ⟨s1', s2', _, _⟩ := s
                have hF5 : Fr μ w3.2 := fun k hk => (s1' k hk).trans (hF4 k hk)
                have hSG := ss_clL hM hfM hW hSF ht
                by_cases hgx0 : g = x0
                · have hrem := h3 kk z3 z4
                  rw [hFtk kk z3 z4] at hrem
                  have hm := Int.emod_lt_of_pos (E v kk) hg0
                  have hm0 := Int.emod_nonneg (E v kk) (show g ≠ 0 by omega)
                  have hmn : E v kk % g ≠ 0 := fun w => z5 (Int.dvd_of_emod_eq_zero w)
                  refine more _ w3.2 (E v kk % g) hF5 s2' hSG hA1 (fun l a b c k k0 k1 => ?_) (by rw [h1]; exact hgx0) (fun k a b => ?_) ⟨t, kk, by omega, ht.2.1, by omega, z4, hrem⟩ (by omega) (by omega)
                  · rw [h4 l a b (by rw [hFo l t (by omega)]; exact hEc l a b) k k0 k1, hFo l k (by omega), hEo l k (by omega)]
                    exact f4 l a b (hz l a b c) k k0 k1
                  · rw [h3 k a b, ← hgx0]
                    exact Int.emod_lt_of_pos _ hg0
                · have h2g : 2 * g ≤ x0 := by
                    obtain ⟨c, hc⟩ := hgx
                    have hc2 : 2 ≤ c := by
                      by_cases w : 2 ≤ c
                      · exact w
                      · exfalso
                        have hc1 : c ≤ 1 := by omega
                        by_cases w' : c = 1
                        · rw [w', Int.mul_one] at hc; omega
                        · have : g * c ≤ g * 0 := Int.mul_le_mul_of_nonneg_left (by omega) (by omega)
                          omega
                    have : g * 2 ≤ g * c := Int.mul_le_mul_of_nonneg_left hc2 (by omega)
                    omega
                  exact halve _ w3.2 g hF5 s2' hSG ⟨t, t, by omega, ht.2.1, by omega, ht.2.2, h1⟩ hg0 (by omega)
