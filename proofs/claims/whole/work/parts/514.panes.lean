/-! rows of panes -/
def gsm (σ : Sp) (f e : Int) : Nat → Int
  | 0 => 0
  | m + 1 => gsm σ f e m + (if sR σ f m = 2 * e then 1 else if sR σ f m = 2 * e + 1 then -1 else 0)
def goE (σ : Sp) : Mx := fun f e => gsm σ f e (sL σ f).toNat
theorem gsm_b (σ : Sp) (f e : Int) (m : Nat) : -(m : Int) ≤ gsm σ f e m ∧ gsm σ f e m ≤ m := by
  induction m with
  | zero => exact ⟨(show -(0 : Int) ≤ 0 by decide), (show (0 : Int) ≤ 0 by decide)⟩
  | succ m ih =>
    unfold gsm
    split
    · omega
    · split <;> omega
theorem goE_b {σ : Sp} {mP f e : Int} (hp : WfP σ mP) (hf : 0 ≤ f ∧ f < sP σ) : -8 ≤ goE σ f e ∧ goE σ f e ≤ 8 := by
  have h1 := gsm_b σ f e (sL σ f).toNat
  have h2 := hp.2.2 f hf.1 hf.2
  unfold goE
  omega
theorem hwP {σ : Sp} {mC mE mP : Int} (hw : WfE σ mC mE) (hp : WfP σ mP) (h1 : mE ≤ 48) (h2 : mP ≤ 32) : HW (sP σ) (sE σ) := by
  obtain ⟨w1, w2, w3, w4, w5⟩ := hw
  obtain ⟨p1, p2, _⟩ := hp
  refine ⟨p1, by omega, w3, by omega, ?_⟩
  have a1 : sP σ * sE σ ≤ 32 * sE σ := Int.mul_le_mul_of_nonneg_right (by omega) (by omega)
  omega
theorem c_fillPanes {μ : zMem} {u mC mE mP : Int} {σ : Sp} (hu : u = 4 ∨ PK u) (hc : CS μ u σ) (hz : SZ u mC mE mP) (hw : WfE σ mC mE) (hp : WfP σ mP) : Ok (f_X2_fillPanes u μ) (fun μ' => FqR μ μ' ∧ CM μ' (sP σ) (sE σ) (goE σ)) := by
  have hz' := hz
  obtain ⟨z1, z2, z3, z4, z5, z6, z7, z8, z9⟩ := hz'
  have hHW := hwP hw hp z8 z9
  have hu' : u ≠ 24 ∧ u + 5 ≠ 24 ∧ u + 6 ≠ 24 ∧ u ≠ 23 ∧ ((u < 23 ∧ u + 6 < 23) ∨ 24 < u) := by unfold PK at hu; omega
  have hEm := hw.2.2.2.1
  obtain ⟨p1, p2, p3⟩ := hp
  unfold f_X2_fillPanes
  rw [hc.2.2.1, hc.2.1]
  refine ok_bnd.mpr (c_shape.imp fun μ0 q => ?_)
  obtain ⟨q1, q2, q3, q4⟩ := q
  have hc0 : CS μ0 u σ := hc.congr fun k a b => q1 k (by omega) (by omega)
  have key : ∀ (m fu : Nat) (f : Int) (μ1 : zMem), m < fu → 0 ≤ f → f + m = sP σ → Fr μ0 μ1 → (∀ i k, 0 ≤ i → i < sP σ → 0 ≤ k → k < sE σ → μ1 24 (i * sE σ + k) = if i < f then goE σ i k else 0) → Ok (f_X2_fillPanes_L14 u fu f μ1) (fun μ' => FqR μ μ' ∧ CM μ' (sP σ) (sE σ) (goE σ)) := by
    intro m
    induction m with
    | zero =>
      intro fu f μ1 hfu f0 hf g1 g2
      cases fu with
      | zero => omega
      | succ fu =>
        unfold f_X2_fillPanes_L14
        rw [g1 u hu'.1, hc0.2.2.1, if_neg (by omega)]
        refine ok_some.mpr ⟨fun k a b => by rw [g1 k b]; exact q1 k a b, by rw [g1 23 (by decide)]; exact q2, by rw [g1 23 (by decide)]; exact q3, fun i k i0 i1 k0 k1 => ?_⟩
        rw [g2 i k i0 i1 k0 k1, if_pos (by omega)]
    | succ m ih =>
      intro fu f μ1 hfu f0 hf g1 g2
      cases fu with
      | zero => omega
      | succ fu =>
        have hff : 0 ≤ f ∧ f < sP σ := ⟨f0, by omega⟩
        obtain ⟨r1, r2, r3, _⟩ := p3 f f0 hff.2
        have hlen := (hc0.2.2.2.2 f f0 hff.2).1
        unfold f_X2_fillPanes_L14
        rw [g1 u hu'.1, hc0.2.2.1, if_pos (by omega)]
        have inner : ∀ (q fv i : Nat) (μ2 : zMem), q < fv → (i : Int) + q = sL σ f → Fr μ0 μ2 → (∀ j k, 0 ≤ j → j < sP σ → 0 ≤ k → k < sE σ → μ2 24 (j * sE σ + k) = if j < f then goE σ j k else if j = f then gsm σ f k i else 0) → Ok (f_X2_fillPanes_L24 u f (f_X2_fillPanes_K81 f (f_X2_fillPanes_L14 u fu)) fv (i : Int) μ2) (fun μ' => FqR μ μ' ∧ CM μ' (sP σ) (sE σ) (goE σ)) := by
          intro q
          induction q with
          | zero =>
            intro fv i μ2 hfv hi k1 k2
            cases fv with
            | zero => omega
            | succ fv =>
              unfold f_X2_fillPanes_L24
              rw [chk_pos (by omega), k1 (u + 6) hu'.2.2.1, hlen, if_neg (by omega)]
              unfold f_X2_fillPanes_K81
              simp only [zlet]
              rw [zw_eq (by omega) (by omega)]
              refine ih fu (f + 1) μ2 (by omega) (by omega) (by omega) k1 fun j k j0 j1 k0 kk1 => ?_
              rw [k2 j k j0 j1 k0 kk1]
              by_cases e : j < f
              · rw [if_pos e, if_pos (by omega)]
              · rw [if_neg e]
                by_cases e2 : j = f
                · rw [if_pos e2, if_pos (by omega), e2]
                  unfold goE
                  rw [show (sL σ f).toNat = i by omega]
                · rw [if_neg e2, if_neg (by omega)]
          | succ q ihq =>
            intro fv i μ2 hfv hi k1 k2
            cases fv with
            | zero => omega
            | succ fv =>
              have hr := r3 i (by omega) (by omega)
              have hc2 : CS μ2 u σ := hc0.congr fun k a b => k1 k (by omega)
              have hkE : 0 ≤ sR σ f i / 2 ∧ sR σ f i / 2 < sE σ := by omega
              obtain ⟨a1, a2, a3, a4⟩ := hHW.ix hff hkE
              have v := k2 f (sR σ f i / 2) hff.1 hff.2 hkE.1 hkE.2
              rw [if_neg (by omega), if_pos rfl] at v
              have hgb := gsm_b σ f (sR σ f i / 2) i
              unfold f_X2_fillPanes_L24
              rw [chk_pos (by omega), k1 (u + 6) hu'.2.2.1, hlen, if_pos (by omega), bnd_pos (c_rimStep hc2 hz ⟨p1, p2, p3⟩ hff ⟨by omega, by omega⟩)]
              unfold f_X2_fillPanes_J73
              simp only [zlet]
              have hx : (if zand (sR σ f i) 1 = 0 then (1 : Int) else -1) = if sR σ f i % 2 = 0 then 1 else -1 := by rw [zand1 ⟨by omega, by omega⟩]
              rw [k1 23 (by decide), q3, zshr1 ⟨by omega, by omega⟩, a1, a2, chk_pos ⟨a3, a4⟩, chk_pos ⟨a3, a4⟩, v, hx, zw_eq (by omega) (by omega), zl_eq (by split <;> omega) (by split <;> omega), show (i : Int) + 1 = ((i + 1 : Nat) : Int) by omega]
              generalize hX : (if sR σ f i % 2 = 0 then (1 : Int) else -1) = X
              refine ihq fv (i + 1) _ (by omega) (by omega) (fun k hk => by rw [zup_n _ _ _ hk]; exact k1 k hk) (fun j k j0 j1 k0 kk1 => ?_)
              rw [zup_s]
              by_cases e : j = f ∧ k = sR σ f i / 2
              · rw [e.1, e.2, up1_s, if_neg (by omega), if_pos rfl]
                show _ = gsm σ f (sR σ f i / 2) i + _
                rw [← hX]
                by_cases h0 : sR σ f i % 2 = 0
                · rw [if_pos h0, if_pos (by omega)]
                · rw [if_neg h0, if_neg (by omega), if_pos (by omega)]
              · rw [up1_n _ _ (fun q => e (ix_inj ⟨k0, kk1⟩ hkE q)), k2 j k j0 j1 k0 kk1]
                by_cases e1 : j < f
                · rw [if_pos e1, if_pos e1]
                · rw [if_neg e1, if_neg e1]
                  by_cases e2 : j = f
                  · have hk : k ≠ sR σ f i / 2 := fun q => e ⟨e2, q⟩
                    rw [if_pos e2, if_pos e2]
                    show _ = gsm σ f k i + _
                    rw [if_neg (by omega), if_neg (by omega), Int.add_zero]
                  · rw [if_neg e2, if_neg e2]
        refine inner (sL σ f).toNat zfu 0 μ1 (by unfold zfu; omega) (by omega) g1 fun j k j0 j1 k0 kk1 => ?_
        rw [g2 j k j0 j1 k0 kk1]
        by_cases e1 : j < f
        · rw [if_pos e1, if_pos e1]
        · rw [if_neg e1, if_neg e1]
          split <;> rfl
  refine key (sP σ).toNat zfu 0 μ0 (by unfold zfu; omega) (by omega) (by omega) (fun _ _ => rfl) fun i k i0 i1 k0 k1 => ?_
  rw [if_neg (by omega)]
  obtain ⟨_, _, a3, a4⟩ := hHW.ix ⟨i0, i1⟩ ⟨k0, k1⟩
  exact q4 _ a3 a4
theorem m_goes {μ : zMem} {s f e : Int} {σ : Sp} (hs : 0 ≤ s ∧ s < 3) (hc : MS μ s σ) (hp : WfP σ 32) (hE : sE σ ≤ 48) (hf : 0 ≤ f ∧ f < sP σ) (he : 0 ≤ e ∧ e < sE σ) : f_X10_goes s f e μ = some (goE σ f e) := by
  obtain ⟨p1, p2, p3⟩ := hp
  obtain ⟨r1, r2, r3, _⟩ := p3 f hf.1 hf.2
  have hlen := (hc.2.2.2.2 f hf.1 hf.2).1
  have key : ∀ (q fu i : Nat), q < fu → (i : Int) + q = sL σ f → f_X10_goes_L6 s f e μ fu (gsm σ f e i) (i : Int) = some (goE σ f e) := by
    intro q
    induction q with
    | zero =>
      intro fu i hfu hi
      cases fu with
      | zero => omega
      | succ fu =>
        unfold f_X10_goes_L6
        rw [zw_eq (x := 32 * s) (by omega) (by omega), zw_eq (x := 32 * s + f) (by omega) (by omega), chk_pos (by omega), hlen, if_neg (by omega)]
        unfold goE
        rw [show (sL σ f).toNat = i by omega]
    | succ q ih =>
      intro fu i hfu hi
      cases fu with
      | zero => omega
      | succ fu =>
        have hr := r3 i (by omega) (by omega)
        have hgb := gsm_b σ f e i
        have hra := m_rimAt hc hs ⟨p1, p2, p3⟩ hf (i := i) ⟨by omega, by omega⟩
        unfold f_X10_goes_L6
        rw [zw_eq (x := 32 * s) (by omega) (by omega), zw_eq (x := 32 * s + f) (by omega) (by omega), chk_pos (by omega), hlen, if_pos (by omega), bnd_pos hra, bnd_pos hra, zw_eq (x := e + 1) (by omega) (by omega), zw_eq (x := -e) (by omega) (by omega), zw_eq (x := -e - 1) (by omega) (by omega)]
        unfold f_X10_goes_J62
        simp only [zlet]
        have nx : ∀ v, v = (if sR σ f i = 2 * e then (1 : Int) else if sR σ f i = 2 * e + 1 then -1 else 0) → f_X10_goes_L6 s f e μ fu (zw (gsm σ f e i + v)) (zw ((i : Int) + 1)) = some (goE σ f e) := by
          intro v hv
          have hvb : -1 ≤ v ∧ v ≤ 1 := by rw [hv]; split <;> (try split) <;> omega
          rw [zw_eq (x := gsm σ f e i + v) (by omega) (by omega), zw_eq (x := (i : Int) + 1) (by omega) (by omega), hv, show (i : Int) + 1 = ((i + 1 : Nat) : Int) by omega]
          exact ih fu (i + 1) (by omega) (by omega)
        by_cases h0 : sR σ f i % 2 = 0
        · have es : stp (sR σ f i) = sR σ f i / 2 + 1 := if_pos h0
          by_cases h1 : sR σ f i = 2 * e
          · rw [if_pos (by omega)]
            exact nx 1 (by rw [if_pos h1])
          · rw [if_neg (by omega), if_neg (by omega)]
            exact nx 0 (by rw [if_neg h1, if_neg (by omega)])
        · have es : stp (sR σ f i) = -(sR σ f i / 2) - 1 := if_neg h0
          rw [if_neg (by omega)]
          by_cases h1 : sR σ f i = 2 * e + 1
          · rw [if_pos (by omega)]
            exact nx (-1) (by rw [if_neg (by omega), if_pos h1])
          · rw [if_neg (by omega)]
            exact nx 0 (by rw [if_neg (by omega), if_neg h1])
  unfold f_X10_goes
  exact key (sL σ f).toNat zfu 0 (by unfold zfu; omega) (by omega)
