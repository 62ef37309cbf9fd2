/-! columns taken out; the least cell; one row added -/
theorem clR_b {M H W t : Int} {A : Mx} (hM : Mok M) (hb : BdM M H W A) : BdM M H W (clR M A t) := by
  intro i k i0 i1 k0 k1
  unfold Mok at hM
  unfold clR
  split
  · exact ⟨Int.emod_nonneg _ (by omega), Int.emod_lt_of_pos _ (by omega)⟩
  · exact hb i k i0 i1 k0 k1
theorem clC_b {M H W t : Int} {A B : Mx} (hM : Mok M) (hb : BdM M H W B) : BdM M H W (clC M A B t) := by
  intro i k i0 i1 k0 k1
  unfold Mok at hM
  unfold clC
  split
  · exact ⟨Int.emod_nonneg _ (by omega), Int.emod_lt_of_pos _ (by omega)⟩
  · exact hb i k i0 i1 k0 k1
theorem c_clearColumns {μ : zMem} {M H W t fl0 : Int} {A B : Mx} {Q : Int × zMem → Prop} (hM : Mok M) (hw : HW H W) (h : CM μ H W B) (h6 : μ 23 6 = M) (hbA : BdM M H W A) (hb : BdM M H W B) (ht : 0 ≤ t ∧ t < H ∧ t < W) (hx : 0 < A t t) (hBt : ∀ k, 0 ≤ k → k < W → B t k = A t k) (hf : fl0 = 0 ∨ fl0 = 1) (hg : ∀ μ' fl, Fr μ μ' → CM μ' H W (clC M A B t) → (fl = 0 ∨ fl = 1) → (fl = 1 ↔ fl0 = 1 ∧ ∀ k, t < k → k < W → clC M A B t t k = 0) → Q (fl, μ')) : Ok (f_X2_clearLines_L147 t (A t t) zfu fl0 (t + 1) μ) Q := by
  have hM' := hM
  unfold Mok at hM'
  have hH := hw.2.1
  have hW := hw.2.2.2.1
  have key : ∀ (m fu : Nat) (x fl : Int) (μ1 : zMem), m < fu → t < x → x + m = W → (fl = 0 ∨ fl = 1) → (fl = 1 ↔ fl0 = 1 ∧ ∀ k, t < k → k < x → clC M A B t t k = 0) → Fr μ μ1 → (∀ i k, 0 ≤ i → i < H → 0 ≤ k → k < W → μ1 24 (i * W + k) = if k < x then clC M A B t i k else B i k) → Ok (f_X2_clearLines_L147 t (A t t) fu fl x μ1) Q := by
    intro m
    induction m with
    | zero =>
      intro fu x fl μ1 hfu x0 hx' hfl hfl2 g1 g2
      cases fu with
      | zero => omega
      | succ fu =>
        unfold f_X2_clearLines_L147
        rw [g1 23 (by decide), h.2.1, if_neg (by omega), chk_pos (by omega)]
        refine ok_some.mpr (hg μ1 fl g1 ⟨by rw [g1 23 (by decide)]; exact h.1, by rw [g1 23 (by decide)]; exact h.2.1, fun i k i0 i1 k0 k1 => ?_⟩ hfl ?_)
        · rw [g2 i k i0 i1 k0 k1, if_pos (by omega)]
        · rw [hfl2, show x = W by omega]
    | succ m ih =>
      intro fu x fl μ1 hfu x0 hx' hfl hfl2 g1 g2
      cases fu with
      | zero => omega
      | succ fu =>
        have hxW : 0 ≤ x ∧ x < W := ⟨by omega, by omega⟩
        obtain ⟨a1, a2, a3, a4⟩ := hw.ix (i := t) ⟨ht.1, ht.2.1⟩ hxW
        have vx := g2 t x ht.1 ht.2.1 hxW.1 hxW.2
        rw [if_neg (by omega), hBt x hxW.1 hxW.2] at vx
        have hbx := hbA t x ht.1 ht.2.1 hxW.1 hxW.2
        have hdv := div_b hbx hx
        have htd : Int.tdiv (A t x) (A t t) = A t x / A t t := Int.tdiv_eq_ediv_of_nonneg hbx.1
        have K : ∀ μ2 : zMem, Fr μ μ2 → (∀ i k, 0 ≤ i → i < H → 0 ≤ k → k < W → μ2 24 (i * W + k) = if k < x + 1 then clC M A B t i k else B i k) → Ok (f_X2_clearLines_K224 t fl x (f_X2_clearLines_L147 t (A t t) fu) μ2) Q := by
          intro μ2 k1 k2
          have v2 := k2 t x ht.1 ht.2.1 hxW.1 hxW.2
          rw [if_pos (by omega)] at v2
          unfold f_X2_clearLines_K224 f_X2_clearLines_J250
          simp only [zlet]
          rw [k1 23 (by decide), h.2.1, a1, a2, chk_pos ⟨a3, a4⟩, v2, zw_eq (by omega) (by omega)]
          have hand : ∀ y : Int, (y = 0 ∨ y = 1) → (zand fl y = 0 ∨ zand fl y = 1) ∧ (zand fl y = 1 ↔ fl = 1 ∧ y = 1) := by
            intro y hy
            rcases hfl with q | q <;> rcases hy with q' | q' <;> subst q <;> subst q' <;> decide
          have hy : (if clC M A B t t x = 0 then (1 : Int) else 0) = 0 ∨ (if clC M A B t t x = 0 then (1 : Int) else 0) = 1 := by split <;> simp
          have hy1 : (if clC M A B t t x = 0 then (1 : Int) else 0) = 1 ↔ clC M A B t t x = 0 := by
            split
            · exact ⟨fun _ => by assumption, fun _ => rfl⟩
            · exact ⟨fun q => absurd q (by decide), fun q => absurd q (by assumption)⟩
          refine ih fu (x + 1) _ μ2 (by omega) (by omega) (by omega) (hand _ hy).1 ?_ k1 k2
          rw [(hand _ hy).2, hfl2, hy1]
          constructor
          · rintro ⟨⟨p0, p⟩, q⟩
            refine ⟨p0, fun i i0 i1 => ?_⟩
            by_cases e : i = x
            · rw [e]; exact q
            · exact p i i0 (by omega)
          · rintro ⟨p0, p⟩
            exact ⟨⟨p0, fun i i0 i1 => p i i0 (by omega)⟩, p x x0 (by omega)⟩
        unfold f_X2_clearLines_L147
        simp only [zlet]
        rw [g1 23 (by decide), h.2.1, if_pos (by omega), a1, a2, chk_pos ⟨a3, a4⟩, chk_pos (by omega), vx, htd, zl_eq (by omega) (by omega)]
        generalize hq : A t x / A t t = q at *
        have inner : ∀ (p fv : Nat) (y : Int) (μ2 : zMem), p < fv → t ≤ y → y + p = H → Fr μ μ2 → (∀ i k, 0 ≤ i → i < H → 0 ≤ k → k < W → μ2 24 (i * W + k) = if k < x ∨ (k = x ∧ i < y) then clC M A B t i k else B i k) → Ok (f_X2_clearLines_L177 t x q (f_X2_clearLines_K224 t fl x (f_X2_clearLines_L147 t (A t t) fu)) fv y μ2) Q := by
          intro p
          induction p with
          | zero =>
            intro fv y μ2 hfv y0 hy k1 k2
            cases fv with
            | zero => omega
            | succ fv =>
              unfold f_X2_clearLines_L177
              rw [k1 23 (by decide), h.1, if_neg (by omega)]
              refine K μ2 k1 fun i k i0 i1 k0 kk1 => ?_
              rw [k2 i k i0 i1 k0 kk1]
              by_cases e : k < x + 1
              · rw [if_pos e, if_pos (by omega)]
              · rw [if_neg e, if_neg (by omega)]
          | succ p ihp =>
            intro fv y μ2 hfv y0 hy k1 k2
            cases fv with
            | zero => omega
            | succ fv =>
              unfold f_X2_clearLines_L177
              simp only [zlet]
              rw [k1 23 (by decide), h.1, if_pos (by omega)]
              by_cases h0 : q = 0
              · rw [if_pos h0]
                refine K μ2 k1 fun i k i0 i1 k0 kk1 => ?_
                rw [k2 i k i0 i1 k0 kk1]
                by_cases e : k = x
                · have en : clC M A B t i x = B i x := by
                    unfold clC
                    by_cases z : t ≤ i ∧ t < x
                    · have hbk := hb i x i0 i1 hxW.1 hxW.2
                      rw [if_pos z, hq, h0, Int.zero_mul, Int.sub_zero, Int.emod_eq_of_lt hbk.1 hbk.2]
                    · rw [if_neg z]
                  rw [e, en]
                  split <;> split <;> rfl
                · by_cases e2 : k < x
                  · rw [if_pos (by omega), if_pos (by omega)]
                  · rw [if_neg (by omega), if_neg (by omega)]
              · have hyH : 0 ≤ y ∧ y < H := ⟨by omega, by omega⟩
                obtain ⟨b1, b2, b3, b4⟩ := hw.ix hyH hxW
                obtain ⟨d1, d2, d3, d4⟩ := hw.ix (k := t) hyH ⟨ht.1, ht.2.2⟩
                have vyx := k2 y x hyH.1 hyH.2 hxW.1 hxW.2
                rw [if_neg (by omega)] at vyx
                have vyt := k2 y t hyH.1 hyH.2 ht.1 ht.2.2
                rw [if_pos (by omega)] at vyt
                have ent : clC M A B t y t = B y t := by unfold clC; rw [if_neg (by omega)]
                rw [ent] at vyt
                rw [if_neg h0, h.2.1, b1, b2, d2, bnd_pos (c_takeOut hM (by rw [k1 23 (by decide)]; exact h6) ⟨b3, b4⟩ ⟨d3, d4⟩ vyx vyt (hb y x hyH.1 hyH.2 hxW.1 hxW.2) (hb y t hyH.1 hyH.2 ht.1 ht.2.2) (by omega)), zw_eq (by omega) (by omega)]
                refine ihp fv (y + 1) _ (by omega) (by omega) (by omega) (fun k hk => by rw [zup_n _ _ _ hk]; exact k1 k hk) (fun i k i0 i1 k0 kk1 => ?_)
                rw [zup_s]
                by_cases e : i = y ∧ k = x
                · rw [e.1, e.2, up1_s, if_pos (by omega)]
                  unfold clC
                  rw [if_pos ⟨y0, x0⟩, hq]
                · rw [up1_n _ _ (fun z => e (ix_inj ⟨k0, kk1⟩ hxW z)), k2 i k i0 i1 k0 kk1]
                  by_cases e2 : k < x ∨ (k = x ∧ i < y)
                  · rw [if_pos e2, if_pos (by omega)]
                  · rw [if_neg e2, if_neg (by omega)]
        refine inner (H - t).toNat zfu t μ1 (by unfold zfu; omega) (by omega) (by omega) g1 fun i k i0 i1 k0 kk1 => ?_
        rw [g2 i k i0 i1 k0 kk1]
        by_cases e : k = x ∧ i < t
        · have : clC M A B t i k = B i k := by unfold clC; rw [if_neg (by omega)]
          rw [this]
          split <;> split <;> rfl
        · by_cases e2 : k < x
          · rw [if_pos e2, if_pos (by omega)]
          · rw [if_neg e2, if_neg (by omega)]
  refine key (W - (t + 1)).toNat zfu (t + 1) fl0 μ (by unfold zfu; omega) (by omega) (by omega) hf ⟨fun q => ⟨q, fun i a b => by omega⟩, fun q => q.1⟩ (fun _ _ => rfl) fun i k i0 i1 k0 k1 => ?_
  rw [h.2.2 i k i0 i1 k0 k1]
  by_cases e : k < t + 1
  · have : clC M A B t i k = B i k := by unfold clC; rw [if_neg (by omega)]
    rw [if_pos e, this]
  · rw [if_neg e]
/-- both -/
def clL (M : Int) (A : Mx) (t : Int) : Mx := clC M A (clR M A t) t
theorem c_clearLines {μ : zMem} {M H W t : Int} {A : Mx} (hM : Mok M) (hw : HW H W) (h : CM μ H W A) (h6 : μ 23 6 = M) (hb : BdM M H W A) (ht : 0 ≤ t ∧ t < H ∧ t < W) (hx : 0 < A t t) : Ok (f_X2_clearLines t μ) (fun w => Fr μ w.2 ∧ CM w.2 H W (clL M A t) ∧ (w.1 = 0 ∨ w.1 = 1) ∧ (w.1 = 1 ↔ (∀ i, t < i → i < H → clR M A t i t = 0) ∧ ∀ k, t < k → k < W → clL M A t t k = 0)) := by
  obtain ⟨a1, a2, a3, a4⟩ := hw.ix (i := t) (k := t) ⟨ht.1, ht.2.1⟩ ⟨ht.1, ht.2.2⟩
  have hH := hw.2.1
  unfold f_X2_clearLines
  simp only [zlet]
  rw [h.2.1, a1, a2, chk_pos ⟨a3, a4⟩, h.2.2 t t ht.1 ht.2.1 ht.1 ht.2.2, if_neg (by omega), zw_eq (by omega) (by omega)]
  refine c_clearRows hM hw h h6 hb ht hx fun μ1 fl g1 g2 g3 g4 => ?_
  unfold f_X2_clearLines_K142
  simp only [zlet]
  rw [zw_eq (by omega) (by omega)]
  refine c_clearColumns hM hw g2 (by rw [g1 23 (by decide)]; exact h6) hb (clR_b hM hb) ht hx (fun k k0 k1 => by unfold clR; rw [if_neg (by omega)]) g3 fun μ2 fl2 k1 k2 k3 k4 => ?_
  refine ⟨fun k hk => (k1 k hk).trans (g1 k hk), k2, k3, ?_⟩
  show fl2 = 1 ↔ _
  rw [k4, g4]
  rfl
/-- the first of the least cells from t, t on -/
def Lst (A : Mx) (H W t i j : Int) : Prop := t ≤ i ∧ i < H ∧ t ≤ j ∧ j < W ∧ A i j ≠ 0 ∧ (∀ i' k, t ≤ i' → i' < H → t ≤ k → k < W → A i' k = 0 ∨ A i j ≤ A i' k) ∧ (∀ i' k, t ≤ i' → i' < i → t ≤ k → k < W → A i' k = 0 ∨ A i j < A i' k)
theorem c_bringLeast {μ : zMem} {M H W t : Int} {A : Mx} (hw : HW H W) (h : CM μ H W A) (hb : BdM M H W A) (ht : 0 ≤ t ∧ t < H ∧ t < W) : Ok (f_X2_bringLeast t μ) (fun w => (w.1 = 0 ∧ w.2 = μ ∧ ∀ i k, t ≤ i → i < H → t ≤ k → k < W → A i k = 0) ∨ (w.1 = 1 ∧ Fr μ w.2 ∧ ∃ i j, Lst A H W t i j ∧ CM w.2 H W (swc (swp A i t) j t))) := by
  have hH := hw.2.1
  have hW := hw.2.2.2.1
  -- what is known at a place: the least before it
  let Inv : Int → Int → Int → Prop := fun ls x y => (ls = -1 ∧ ∀ i k, t ≤ i → (i < x ∨ (i = x ∧ k < y)) → t ≤ k → k < W → i < H → A i k = 0) ∨ (∃ i j, ls = i * W + j ∧ t ≤ i ∧ i < H ∧ t ≤ j ∧ j < W ∧ (i < x ∨ (i = x ∧ j < y)) ∧ A i j ≠ 0 ∧ (∀ i' k, t ≤ i' → (i' < x ∨ (i' = x ∧ k < y)) → t ≤ k → k < W → i' < H → A i' k = 0 ∨ A i j ≤ A i' k) ∧ (∀ i' k, t ≤ i' → i' < i → t ≤ k → k < W → A i' k = 0 ∨ A i j < A i' k))
  have fin : ∀ ls, Inv ls H t → Ok (f_X2_bringLeast_K84 t ls μ) (fun w => (w.1 = 0 ∧ w.2 = μ ∧ ∀ i k, t ≤ i → i < H → t ≤ k → k < W → A i k = 0) ∨ (w.1 = 1 ∧ Fr μ w.2 ∧ ∃ i j, Lst A H W t i j ∧ CM w.2 H W (swc (swp A i t) j t))) := by
    intro ls hI
    unfold f_X2_bringLeast_K84
    rcases hI with ⟨e, hz⟩ | ⟨i, j, e, i0, i1, j0, j1, _, hn, h1, h2⟩
    · rw [if_pos e]
      exact ok_some.mpr (Or.inl ⟨rfl, rfl, fun i k a b c d => hz i k a (Or.inl b) c d b⟩)
    · have hix := ix_rg (H := H) (W := W) (i := i) (k := j) ⟨by omega, i1⟩ ⟨by omega, j1⟩
      have hdm : ls / W = i ∧ ls % W = j := by
        rw [e, Int.add_comm]
        constructor
        · rw [Int.add_mul_ediv_right _ _ (by omega), Int.ediv_eq_zero_of_lt (by omega) j1, Int.zero_add]
        · rw [Int.add_mul_emod_self_right, Int.emod_eq_of_lt (by omega) j1]
      have t1 : Int.tdiv ls W = i := by rw [Int.tdiv_eq_ediv_of_nonneg (by omega)]; exact hdm.1
      have t2 : Int.tmod ls W = j := by rw [Int.tmod_eq_emod_of_nonneg (by omega)]; exact hdm.2
      rw [if_neg (by omega), h.2.1, chk_pos (by omega), t1, zw_eq (by omega) (by omega)]
      refine ok_bnd.mpr ((c_swapRows hw h (a := i) (b := t) ⟨by omega, i1⟩ ⟨ht.1, ht.2.1⟩).imp fun μ1 q => ?_)
      obtain ⟨q1, q2⟩ := q
      rw [q2.2.1, chk_pos (by omega), t2]
      refine ok_bnd.mpr ((c_swapColumns hw q2 (a := j) (b := t) ⟨by omega, j1⟩ ⟨ht.1, ht.2.2⟩).imp fun μ2 r => ok_some.mpr ?_)
      exact Or.inr ⟨rfl, fun k hk => (r.1 k hk).trans (q1 k hk), i, j, ⟨i0, i1, j0, j1, hn, fun i' k a b c d => h1 i' k a (Or.inl b) c d b, h2⟩, r.2⟩
  have kL : ∀ (m fu : Nat) (x ls : Int), m < fu → t ≤ x → x + m = H → Inv ls x t → Ok (f_X2_bringLeast_L4 t (f_X2_bringLeast_K84 t) fu ls x μ) (fun w => (w.1 = 0 ∧ w.2 = μ ∧ ∀ i k, t ≤ i → i < H → t ≤ k → k < W → A i k = 0) ∨ (w.1 = 1 ∧ Fr μ w.2 ∧ ∃ i j, Lst A H W t i j ∧ CM w.2 H W (swc (swp A i t) j t))) := by
    intro m
    induction m with
    | zero =>
      intro fu x ls hfu x0 hx hI
      cases fu with
      | zero => omega
      | succ fu =>
        unfold f_X2_bringLeast_L4
        rw [h.1, if_neg (by omega)]
        rw [show x = H by omega] at hI
        exact fin ls hI
    | succ m ih =>
      intro fu x ls hfu x0 hx hI
      cases fu with
      | zero => omega
      | succ fu =>
        have hxH : 0 ≤ x ∧ x < H := ⟨by omega, by omega⟩
        unfold f_X2_bringLeast_L4
        rw [h.1, if_pos (by omega)]
        have inner : ∀ (p fv : Nat) (y ls : Int), p < fv → t ≤ y → y + p = W → Inv ls x y → Ok (f_X2_bringLeast_L15 x (f_X2_bringLeast_K78 x (f_X2_bringLeast_L4 t (f_X2_bringLeast_K84 t) fu)) fv ls y μ) (fun w => (w.1 = 0 ∧ w.2 = μ ∧ ∀ i k, t ≤ i → i < H → t ≤ k → k < W → A i k = 0) ∨ (w.1 = 1 ∧ Fr μ w.2 ∧ ∃ i j, Lst A H W t i j ∧ CM w.2 H W (swc (swp A i t) j t))) := by
          intro p
          induction p with
          | zero =>
            intro fv y ls hfv y0 hy hI
            cases fv with
            | zero => omega
            | succ fv =>
              unfold f_X2_bringLeast_L15
              rw [h.2.1, if_neg (by omega)]
              unfold f_X2_bringLeast_K78
              simp only [zlet]
              rw [zw_eq (by omega) (by omega)]
              refine ih fu (x + 1) ls (by omega) (by omega) (by omega) ?_
              rcases hI with ⟨e, hz⟩ | ⟨i, j, e, i0, i1, j0, j1, hp, hn, h1, h2⟩
              · exact Or.inl ⟨e, fun i k a b c d f => hz i k a (by omega) c d f⟩
              · exact Or.inr ⟨i, j, e, i0, i1, j0, j1, Or.inl (by omega), hn, fun i' k a b c d f => h1 i' k a (by omega) c d f, h2⟩
          | succ p ihp =>
            intro fv y ls hfv y0 hy hI
            cases fv with
            | zero => omega
            | succ fv =>
              have hyW : 0 ≤ y ∧ y < W := ⟨by omega, by omega⟩
              obtain ⟨b1, b2, b3, b4⟩ := hw.ix hxH hyW
              have vxy := h.2.2 x y hxH.1 hxH.2 hyW.1 hyW.2
              have hbx := hb x y hxH.1 hxH.2 hyW.1 hyW.2
              unfold f_X2_bringLeast_L15 f_X2_bringLeast_J69
              simp only [zlet]
              rw [h.2.1, if_pos (by omega), b1, b2, chk_pos ⟨b3, b4⟩, vxy, zw_eq (x := y + 1) (by omega) (by omega)]
              by_cases h0 : A x y = 0
              · rw [if_pos h0]
                refine ihp fv (y + 1) ls (by omega) (by omega) (by omega) ?_
                rcases hI with ⟨e, hz⟩ | ⟨i, j, e, i0, i1, j0, j1, hp, hn, h1, h2⟩
                · refine Or.inl ⟨e, fun i k a b c d f => ?_⟩
                  by_cases q : i = x ∧ k = y
                  · rw [q.1, q.2]; exact h0
                  · exact hz i k a (by omega) c d f
                · refine Or.inr ⟨i, j, e, i0, i1, j0, j1, by omega, hn, fun i' k a b c d f => ?_, h2⟩
                  by_cases q : i' = x ∧ k = y
                  · rw [q.1, q.2]; exact Or.inl h0
                  · exact h1 i' k a (by omega) c d f
              · rw [if_neg h0]
                rcases hI with ⟨e, hz⟩ | ⟨i, j, e, i0, i1, j0, j1, hp, hn, h1, h2⟩
                · rw [if_pos e]
                  refine ihp fv (y + 1) _ (by omega) (by omega) (by omega) (Or.inr ⟨x, y, rfl, x0, hxH.2, y0, hyW.2, Or.inr ⟨rfl, by omega⟩, h0, fun i' k a b c d f => ?_, fun i' k a b c d => ?_⟩)
                  · by_cases q : i' = x ∧ k = y
                    · rw [q.1, q.2]; exact Or.inr (Int.le_refl _)
                    · exact Or.inl (hz i' k a (by omega) c d f)
                  · exact Or.inl (hz i' k a (Or.inl b) c d (by omega))
                · have hix := hw.ix (i := i) (k := j) ⟨by omega, i1⟩ ⟨by omega, j1⟩
                  have vij := h.2.2 i j (by omega) i1 (by omega) j1
                  rw [if_neg (by omega), chk_pos ⟨b3, b4⟩, chk_pos (by rw [e]; exact ⟨hix.2.2.1, hix.2.2.2⟩), e, vij]
                  by_cases hlt : A x y < A i j
                  · rw [if_pos hlt]
                    refine ihp fv (y + 1) _ (by omega) (by omega) (by omega) (Or.inr ⟨x, y, rfl, x0, hxH.2, y0, hyW.2, Or.inr ⟨rfl, by omega⟩, h0, fun i' k a b c d f => ?_, fun i' k a b c d => ?_⟩)
                    · by_cases q : i' = x ∧ k = y
                      · rw [q.1, q.2]; exact Or.inr (Int.le_refl _)
                      · rcases h1 i' k a (by omega) c d f with z | z
                        · exact Or.inl z
                        · exact Or.inr (by omega)
                    · rcases h1 i' k a (Or.inl b) c d (by omega) with z | z
                      · exact Or.inl z
                      · exact Or.inr (by omega)
                  · rw [if_neg hlt]
                    refine ihp fv (y + 1) _ (by omega) (by omega) (by omega) (Or.inr ⟨i, j, rfl, i0, i1, j0, j1, by omega, hn, fun i' k a b c d f => ?_, h2⟩)
                    by_cases q : i' = x ∧ k = y
                    · rw [q.1, q.2]; exact Or.inr (by omega)
                    · exact h1 i' k a (by omega) c d f
        exact inner (W - t).toNat zfu t ls (by unfold zfu; omega) (by omega) (by omega) hI
  unfold f_X2_bringLeast
  exact kL (H - t).toNat zfu t (-1) (by unfold zfu; omega) (by omega) (by omega) (Or.inl ⟨rfl, fun i k a b => by omega⟩)
