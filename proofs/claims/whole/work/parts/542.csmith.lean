/-! the class's steps on rows modulo a number -/
def BdM (M H W : Int) (A : Mx) : Prop := ∀ i k, 0 ≤ i → i < H → 0 ≤ k → k < W → 0 ≤ A i k ∧ A i k < M
def Mok (M : Int) : Prop := 1 ≤ M ∧ M ≤ 16777216
def swc (A : Mx) (a b : Int) : Mx := fun i k => A i (if k = a then b else if k = b then a else k)
theorem c_swapColumns {μ : zMem} {H W a b : Int} {A : Mx} (hw : HW H W) (h : CM μ H W A) (ha : 0 ≤ a ∧ a < W) (hb : 0 ≤ b ∧ b < W) : Ok (f_X2_swapColumns a b μ) (fun μ' => Fr μ μ' ∧ CM μ' H W (swc A a b)) := by
  have hH := hw.2.1
  have hH0 := hw.1
  by_cases hab : a = b
  · have z1 : zfu = (zfu - 1) + 1 := by unfold zfu; omega
    have es : swc A a b = A := by
      funext i k
      unfold swc
      by_cases q : k = a
      · rw [if_pos q, q, hab]
      · rw [if_neg q, if_neg (by omega)]
    unfold f_X2_swapColumns
    rw [z1, es]
    unfold f_X2_swapColumns_L2
    rw [h.1]
    by_cases q : 0 < H
    · rw [if_pos q, if_pos hab]
      exact ok_some.mpr ⟨fun _ _ => rfl, h⟩
    · rw [if_neg q]
      exact ok_some.mpr ⟨fun _ _ => rfl, h⟩
  · have key : ∀ (m fu : Nat) (x : Int) (μ1 : zMem), m < fu → 0 ≤ x → x + m = H → Fr μ μ1 → (∀ i k, 0 ≤ i → i < H → 0 ≤ k → k < W → μ1 24 (i * W + k) = if i < x then swc A a b i k else A i k) → Ok (f_X2_swapColumns_L2 a b fu x μ1) (fun μ' => Fr μ μ' ∧ CM μ' H W (swc A a b)) := by
      intro m
      induction m with
      | zero =>
        intro fu x μ1 hfu x0 hx g1 g2
        cases fu with
        | zero => omega
        | succ fu =>
          unfold f_X2_swapColumns_L2
          rw [g1 23 (by decide), h.1, if_neg (by omega)]
          refine ok_some.mpr ⟨g1, by rw [g1 23 (by decide)]; exact h.1, by rw [g1 23 (by decide)]; exact h.2.1, fun i k i0 i1 k0 k1 => ?_⟩
          rw [g2 i k i0 i1 k0 k1, if_pos (by omega)]
      | succ m ih =>
        intro fu x μ1 hfu x0 hx g1 g2
        cases fu with
        | zero => omega
        | succ fu =>
          have hxH : 0 ≤ x ∧ x < H := ⟨x0, by omega⟩
          obtain ⟨a1, a2, a3, a4⟩ := hw.ix hxH ha
          obtain ⟨b1, b2, b3, b4⟩ := hw.ix hxH hb
          have va := g2 x a hxH.1 hxH.2 ha.1 ha.2
          have vb := g2 x b hxH.1 hxH.2 hb.1 hb.2
          rw [if_neg (by omega)] at va vb
          unfold f_X2_swapColumns_L2
          simp only [zlet]
          rw [zup_n _ _ _ (by decide), g1 23 (by decide), h.1, h.2.1, if_pos (by omega), if_neg hab, a1, a2, b2, chk_pos ⟨a3, a4⟩, chk_pos ⟨b3, b4⟩, chk_pos ⟨a3, a4⟩, chk_pos ⟨b3, b4⟩, zw_eq (by omega) (by omega), va, vb]
          refine ih fu (x + 1) _ (by omega) (by omega) (by omega) (fun k hk => by rw [zup_n _ _ _ hk, zup_n _ _ _ hk]; exact g1 k hk) (fun i k i0 i1 k0 k1 => ?_)
          rw [zup_s, zup_s]
          by_cases hi : i = x
          · subst hi
            rw [if_pos (by omega)]
            unfold swc
            by_cases hkb : k = b
            · rw [hkb, up1_s, if_neg (by omega), if_pos rfl]
            · rw [up1_n _ _ (fun q => hkb (ix_inj ⟨k0, k1⟩ hb q).2)]
              by_cases hka : k = a
              · rw [hka, up1_s, if_pos rfl]
              · rw [up1_n _ _ (fun q => hka (ix_inj ⟨k0, k1⟩ ha q).2), if_neg hka, if_neg hkb, g2 i k i0 i1 k0 k1, if_neg (by omega)]
          · rw [up1_n _ _ (fun q => hi (ix_inj ⟨k0, k1⟩ hb q).1), up1_n _ _ (fun q => hi (ix_inj ⟨k0, k1⟩ ha q).1), g2 i k i0 i1 k0 k1]
            by_cases q : i < x
            · rw [if_pos q, if_pos (by omega)]
            · rw [if_neg q, if_neg (by omega)]
    unfold f_X2_swapColumns
    exact key H.toNat zfu 0 μ (by unfold zfu; omega) (by omega) (by omega) (fun _ _ => rfl) (fun i k i0 i1 k0 k1 => by rw [if_neg (by omega)]; exact h.2.2 i k i0 i1 k0 k1)
/-- one cell less so often another -/
theorem c_takeOut {μ : zMem} {M at' src times x y : Int} (hM : Mok M) (h6 : μ 23 6 = M) (ha : 0 ≤ at' ∧ at' < 1536) (hs : 0 ≤ src ∧ src < 1536) (hx : μ 24 at' = x) (hy : μ 24 src = y) (hxb : 0 ≤ x ∧ x < M) (hyb : 0 ≤ y ∧ y < M) (ht : -16777216 ≤ times ∧ times ≤ 16777216) : f_X2_takeOut at' times src μ = some (zup μ 24 at' ((x - times * y) % M)) := by
  unfold Mok at hM
  have hprod : -281474976710656 ≤ times * y ∧ times * y ≤ 281474976710656 := by
    have h1 : times * y ≤ 16777216 * y := Int.mul_le_mul_of_nonneg_right ht.2 hyb.1
    have h2 : -16777216 * y ≤ times * y := Int.mul_le_mul_of_nonneg_right ht.1 hyb.1
    omega
  unfold f_X2_takeOut
  simp only [zlet]
  rw [chk_pos ha, chk_pos hs, h6, chk_pos (by omega), chk_pos ha, hx, hy, zl_eq (x := times * y) (by omega) (by omega), zl_eq (x := x - times * y) (by omega) (by omega), zfmod_pos ⟨by omega, by omega⟩ ⟨by omega, by omega⟩ (by omega)]
/-- rows below taken out by row t -/
def clR (M : Int) (A : Mx) (t : Int) : Mx := fun i k => if t < i ∧ t ≤ k then (A i k - A i t / A t t * A t k) % M else A i k
/-- columns behind taken out by column t -/
def clC (M : Int) (A B : Mx) (t : Int) : Mx := fun i k => if t ≤ i ∧ t < k then (B i k - A t k / A t t * B i t) % M else B i k
theorem div_b {a x M : Int} (ha : 0 ≤ a ∧ a < M) (hx : 0 < x) : 0 ≤ a / x ∧ a / x ≤ a := ⟨Int.ediv_nonneg ha.1 (by omega), Int.ediv_le_self _ ha.1⟩
theorem c_clearRows {μ : zMem} {M H W t : Int} {A : Mx} {g : Int → zMem → Option (Int × zMem)} {Q : Int × zMem → Prop} (hM : Mok M) (hw : HW H W) (h : CM μ H W A) (h6 : μ 23 6 = M) (hb : BdM M H W A) (ht : 0 ≤ t ∧ t < H ∧ t < W) (hx : 0 < A t t) (hg : ∀ μ' fl, Fr μ μ' → CM μ' H W (clR M A t) → (fl = 0 ∨ fl = 1) → (fl = 1 ↔ ∀ i, t < i → i < H → clR M A t i t = 0) → Ok (g fl μ') Q) : Ok (f_X2_clearLines_L30 t (A t t) g zfu 1 (t + 1) μ) Q := by
  have hM' := hM
  unfold Mok at hM'
  have hH := hw.2.1
  have hW := hw.2.2.2.1
  have key : ∀ (m fu : Nat) (x fl : Int) (μ1 : zMem), m < fu → t < x → x + m = H → (fl = 0 ∨ fl = 1) → (fl = 1 ↔ ∀ i, t < i → i < x → clR M A t i t = 0) → Fr μ μ1 → (∀ i k, 0 ≤ i → i < H → 0 ≤ k → k < W → μ1 24 (i * W + k) = if i < x then clR M A t i k else A i k) → Ok (f_X2_clearLines_L30 t (A t t) g fu fl x μ1) Q := by
    intro m
    induction m with
    | zero =>
      intro fu x fl μ1 hfu x0 hx' hfl hfl2 g1 g2
      cases fu with
      | zero => omega
      | succ fu =>
        unfold f_X2_clearLines_L30
        rw [g1 23 (by decide), h.1, if_neg (by omega)]
        refine hg μ1 fl g1 ⟨by rw [g1 23 (by decide)]; exact h.1, by rw [g1 23 (by decide)]; exact h.2.1, fun i k i0 i1 k0 k1 => ?_⟩ hfl ?_
        · rw [g2 i k i0 i1 k0 k1, if_pos (by omega)]
        · rw [hfl2, show x = H by omega]
    | succ m ih =>
      intro fu x fl μ1 hfu x0 hx' hfl hfl2 g1 g2
      cases fu with
      | zero => omega
      | succ fu =>
        have hxH : 0 ≤ x ∧ x < H := ⟨by omega, by omega⟩
        obtain ⟨a1, a2, a3, a4⟩ := hw.ix hxH (k := t) ⟨ht.1, ht.2.2⟩
        have vx := g2 x t hxH.1 hxH.2 ht.1 ht.2.2
        rw [if_neg (by omega)] at vx
        have hbx := hb x t hxH.1 hxH.2 ht.1 ht.2.2
        have hdv := div_b hbx hx
        have htd : Int.tdiv (A x t) (A t t) = A x t / A t t := Int.tdiv_eq_ediv_of_nonneg hbx.1
        have K : ∀ μ2 : zMem, Fr μ μ2 → (∀ i k, 0 ≤ i → i < H → 0 ≤ k → k < W → μ2 24 (i * W + k) = if i < x + 1 then clR M A t i k else A i k) → Ok (f_X2_clearLines_K107 t fl x (f_X2_clearLines_L30 t (A t t) g fu) μ2) Q := by
          intro μ2 k1 k2
          have v2 := k2 x t hxH.1 hxH.2 ht.1 ht.2.2
          rw [if_pos (by omega)] at v2
          unfold f_X2_clearLines_K107 f_X2_clearLines_J133
          simp only [zlet]
          rw [k1 23 (by decide), h.2.1, a1, a2, chk_pos ⟨a3, a4⟩, v2, zw_eq (by omega) (by omega)]
          have hand : ∀ y : Int, (y = 0 ∨ y = 1) → (zand fl y = 0 ∨ zand fl y = 1) ∧ (zand fl y = 1 ↔ fl = 1 ∧ y = 1) := by
            intro y hy
            rcases hfl with q | q <;> rcases hy with q' | q' <;> subst q <;> subst q' <;> decide
          have hy : (if clR M A t x t = 0 then (1 : Int) else 0) = 0 ∨ (if clR M A t x t = 0 then (1 : Int) else 0) = 1 := by split <;> simp
          have hy1 : (if clR M A t x t = 0 then (1 : Int) else 0) = 1 ↔ clR M A t x t = 0 := by
            split
            · exact ⟨fun _ => by assumption, fun _ => rfl⟩
            · exact ⟨fun q => absurd q (by decide), fun q => absurd q (by assumption)⟩
          refine ih fu (x + 1) _ μ2 (by omega) (by omega) (by omega) (hand _ hy).1 ?_ k1 k2
          rw [(hand _ hy).2, hfl2, hy1]
          constructor
          · rintro ⟨p, q⟩ i i0 i1
            by_cases e : i = x
            · rw [e]; exact q
            · exact p i i0 (by omega)
          · intro p
            exact ⟨fun i i0 i1 => p i i0 (by omega), p x x0 (by omega)⟩
        unfold f_X2_clearLines_L30
        simp only [zlet]
        rw [g1 23 (by decide), h.1, h.2.1, if_pos (by omega), a1, a2, chk_pos ⟨a3, a4⟩, chk_pos (by omega), vx, htd, zl_eq (by omega) (by omega)]
        generalize hq : A x t / A t t = q at *
        have inner : ∀ (p fv : Nat) (y : Int) (μ2 : zMem), p < fv → t ≤ y → y + p = W → Fr μ μ2 → (∀ i k, 0 ≤ i → i < H → 0 ≤ k → k < W → μ2 24 (i * W + k) = if i < x ∨ (i = x ∧ k < y) then clR M A t i k else A i k) → Ok (f_X2_clearLines_L60 t x q (f_X2_clearLines_K107 t fl x (f_X2_clearLines_L30 t (A t t) g fu)) fv y μ2) Q := by
          intro p
          induction p with
          | zero =>
            intro fv y μ2 hfv y0 hy k1 k2
            cases fv with
            | zero => omega
            | succ fv =>
              unfold f_X2_clearLines_L60
              rw [k1 23 (by decide), h.2.1, if_neg (by omega)]
              refine K μ2 k1 fun i k i0 i1 k0 kk1 => ?_
              rw [k2 i k i0 i1 k0 kk1]
              by_cases e : i < x + 1
              · rw [if_pos e, if_pos (by omega)]
              · rw [if_neg e, if_neg (by omega)]
          | succ p ihp =>
            intro fv y μ2 hfv y0 hy k1 k2
            cases fv with
            | zero => omega
            | succ fv =>
              unfold f_X2_clearLines_L60
              simp only [zlet]
              rw [k1 23 (by decide), h.2.1, if_pos (by omega)]
              by_cases h0 : q = 0
              · rw [if_pos h0]
                refine K μ2 k1 fun i k i0 i1 k0 kk1 => ?_
                rw [k2 i k i0 i1 k0 kk1]
                by_cases e : i = x
                · have en : clR M A t x k = A x k := by
                    unfold clR
                    by_cases z : t < x ∧ t ≤ k
                    · have hbk := hb x k hxH.1 hxH.2 k0 kk1
                      rw [if_pos z, hq, h0, Int.zero_mul, Int.sub_zero, Int.emod_eq_of_lt hbk.1 hbk.2]
                    · rw [if_neg z]
                  rw [e, en]
                  split <;> split <;> rfl
                · by_cases e2 : i < x
                  · rw [if_pos (by omega), if_pos (by omega)]
                  · rw [if_neg (by omega), if_neg (by omega)]
              · have hyW : 0 ≤ y ∧ y < W := ⟨by omega, by omega⟩
                obtain ⟨b1, b2, b3, b4⟩ := hw.ix hxH hyW
                obtain ⟨d1, d2, d3, d4⟩ := hw.ix (i := t) ⟨ht.1, ht.2.1⟩ hyW
                have vxy := k2 x y hxH.1 hxH.2 hyW.1 hyW.2
                rw [if_neg (by omega)] at vxy
                have vty := k2 t y ht.1 ht.2.1 hyW.1 hyW.2
                rw [if_pos (by omega)] at vty
                have ent : clR M A t t y = A t y := by unfold clR; rw [if_neg (by omega)]
                rw [ent] at vty
                rw [if_neg h0, b1, b2, d1, d2, bnd_pos (c_takeOut hM (by rw [k1 23 (by decide)]; exact h6) ⟨b3, b4⟩ ⟨d3, d4⟩ vxy vty (hb x y hxH.1 hxH.2 hyW.1 hyW.2) (hb t y ht.1 ht.2.1 hyW.1 hyW.2) (by omega)), zw_eq (by omega) (by omega)]
                refine ihp fv (y + 1) _ (by omega) (by omega) (by omega) (fun k hk => by rw [zup_n _ _ _ hk]; exact k1 k hk) (fun i k i0 i1 k0 kk1 => ?_)
                rw [zup_s]
                by_cases e : i = x ∧ k = y
                · rw [e.1, e.2, up1_s, if_pos (by omega)]
                  unfold clR
                  rw [if_pos ⟨x0, y0⟩, hq]
                · rw [up1_n _ _ (fun z => e (ix_inj ⟨k0, kk1⟩ hyW z)), k2 i k i0 i1 k0 kk1]
                  by_cases e2 : i < x ∨ (i = x ∧ k < y)
                  · rw [if_pos e2, if_pos (by omega)]
                  · rw [if_neg e2, if_neg (by omega)]
        refine inner (W - t).toNat zfu t μ1 (by unfold zfu; omega) (by omega) (by omega) g1 fun i k i0 i1 k0 kk1 => ?_
        rw [g2 i k i0 i1 k0 kk1]
        by_cases e : i = x ∧ k < t
        · have : clR M A t i k = A i k := by unfold clR; rw [if_neg (by omega)]
          rw [this]
          split <;> split <;> rfl
        · by_cases e2 : i < x
          · rw [if_pos e2, if_pos (by omega)]
          · rw [if_neg e2, if_neg (by omega)]
  refine key (H - (t + 1)).toNat zfu (t + 1) 1 μ (by unfold zfu; omega) (by omega) (by omega) (Or.inr rfl) ⟨fun _ i a b => by omega, fun _ => rfl⟩ (fun _ _ => rfl) fun i k i0 i1 k0 k1 => ?_
  rw [h.2.2 i k i0 i1 k0 k1]
  by_cases e : i < t + 1
  · have : clR M A t i k = A i k := by unfold clR; rw [if_neg (by omega)]
    rw [if_pos e, this]
  · rw [if_neg e]
