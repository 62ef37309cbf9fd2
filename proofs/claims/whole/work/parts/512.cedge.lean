/-! the class's rank of edges -/
def FqR (μ μ' : zMem) : Prop := ∀ k, k ≠ 23 → k ≠ 24 → μ' k = μ k
theorem c_shape {μ : zMem} {H W : Int} : Ok (f_X2_shape H W μ) (fun μ' => FqR μ μ' ∧ μ' 23 3 = H ∧ μ' 23 4 = W ∧ ∀ j, 0 ≤ j → j < 1536 → μ' 24 j = 0) := by
  unfold f_X2_shape
  simp only [zlet]
  refine ok_bnd.mpr ((c_fillL (k := 24) (v := 0) (by decide)).imp fun μ2 q => ok_some.mpr ?_)
  obtain ⟨q1, q2⟩ := q
  have hz : zlen 24 = 1536 := by decide
  refine ⟨fun k a b => by rw [q1 k b, zup_n _ _ _ a, zup_n _ _ _ a], ?_, ?_, fun j a b => by rw [q2, if_pos (by omega)]⟩
  · rw [q1 23 (by decide)]
    simp (disch := omega) only [zup_s, zup_n, up1_s, up1_n]
  · rw [q1 23 (by decide)]
    simp (disch := omega) only [zup_s, zup_n, up1_s, up1_n]
def incE (σ : Sp) : Mx := fun e k => (if k = sT σ e then 1 else 0) - (if k = sF σ e then 1 else 0)
theorem hwE {σ : Sp} {mC mE : Int} (hw : WfE σ mC mE) (h1 : mC ≤ 32) (h2 : mE ≤ 48) : HW (sE σ) (sC σ) := by
  obtain ⟨w1, w2, w3, w4, w5⟩ := hw
  refine ⟨w3, by omega, by omega, by omega, ?_⟩
  have a1 : sE σ * sC σ ≤ 48 * sC σ := Int.mul_le_mul_of_nonneg_right (by omega) (by omega)
  omega
theorem c_fillEdges {μ : zMem} {u mC mE mP : Int} {σ : Sp} {g : zMem → Option (Int × zMem)} {Q : Int × zMem → Prop} (hu : u = 4 ∨ PK u) (hc : CS μ u σ) (hz : SZ u mC mE mP) (hw : WfE σ mC mE) (h3 : μ 23 3 = sE σ) (h4 : μ 23 4 = sC σ) (h0 : ∀ j, 0 ≤ j → j < 1536 → μ 24 j = 0) (hg : ∀ μ', Fr μ μ' → CM μ' (sE σ) (sC σ) (incE σ) → Ok (g μ') Q) : Ok (f_X2_rankOfEdges_L14 u g zfu 0 μ) Q := by
  obtain ⟨z1, z2, z3, z4, z5, z6, z7, z8, z9⟩ := hz
  have hHW := hwE hw z7 z8
  obtain ⟨w1, w2, w3, w4, w5⟩ := hw
  have hu' : u ≠ 24 ∧ u + 1 ≠ 24 ∧ u + 2 ≠ 24 ∧ u ≠ 23 := by unfold PK at hu; omega
  have key : ∀ (m fu : Nat) (e : Int) (μ1 : zMem), m < fu → 0 ≤ e → e + m = sE σ → Fr μ μ1 → (∀ i k, 0 ≤ i → i < sE σ → 0 ≤ k → k < sC σ → μ1 24 (i * sC σ + k) = if i < e then incE σ i k else 0) → Ok (f_X2_rankOfEdges_L14 u g fu e μ1) Q := by
    intro m
    induction m with
    | zero =>
      intro fu e μ1 hfu e0 he g1 g2
      cases fu with
      | zero => omega
      | succ fu =>
        unfold f_X2_rankOfEdges_L14
        rw [g1 u hu'.1, hc.2.1, if_neg (by omega)]
        refine hg μ1 g1 ⟨by rw [g1 23 (by decide)]; exact h3, by rw [g1 23 (by decide)]; exact h4, fun i k i0 i1 k0 k1 => ?_⟩
        rw [g2 i k i0 i1 k0 k1, if_pos (by omega)]
    | succ m ih =>
      intro fu e μ1 hfu e0 he g1 g2
      cases fu with
      | zero => omega
      | succ fu =>
        have hee : 0 ≤ e ∧ e < sE σ := ⟨e0, by omega⟩
        have hb := w5 e e0 hee.2
        have hft := hc.2.2.2.1 e e0 hee.2
        obtain ⟨t1, t2, t3, t4⟩ := hHW.ix hee (k := sT σ e) ⟨hb.2.2.1, hb.2.2.2⟩
        obtain ⟨f1, f2, f3, f4⟩ := hHW.ix hee (k := sF σ e) ⟨hb.1, hb.2.1⟩
        have vT := g2 e (sT σ e) e0 hee.2 hb.2.2.1 hb.2.2.2
        rw [if_neg (by omega)] at vT
        have vF := g2 e (sF σ e) e0 hee.2 hb.1 hb.2.1
        rw [if_neg (by omega)] at vF
        unfold f_X2_rankOfEdges_L14
        simp only [zlet]
        rw [zup_n _ _ _ (Ne.symm (by decide : (24 : Int) ≠ 23)), zup_n (k' := u + 1) _ _ _ hu'.2.1, g1 u hu'.1, hc.2.1, if_pos (by omega), chk_pos (by omega), g1 23 (by decide), h4, g1 (u + 2) hu'.2.2.1, hft.2, t1, t2, chk_pos ⟨t3, t4⟩, chk_pos ⟨t3, t4⟩, vT, chk_pos (by omega), g1 (u + 1) hu'.2.1, hft.1, f2, chk_pos ⟨f3, f4⟩, chk_pos ⟨f3, f4⟩, zl_eq (x := (0 : Int) + 1) (by decide) (by decide), zw_eq (by omega) (by omega)]
        have v2 : zup μ1 24 (e * sC σ + sT σ e) (0 + 1) 24 (e * sC σ + sF σ e) = if sF σ e = sT σ e then 1 else 0 := by
          rw [zup_s]
          by_cases q : sF σ e = sT σ e
          · rw [if_pos q, q, up1_s]; rfl
          · rw [if_neg q, up1_n _ _ (by omega)]; exact vF
        rw [v2, zl_eq (by split <;> omega) (by split <;> omega)]
        generalize hX : (if sF σ e = sT σ e then (1 : Int) else 0) = X
        refine ih fu (e + 1) _ (by omega) (by omega) (by omega) (fun k hk => by rw [zup_n _ _ _ hk, zup_n _ _ _ hk]; exact g1 k hk) (fun i k i0 i1 k0 k1 => ?_)
        rw [zup_s, zup_s]
        by_cases hi : i = e
        · subst hi
          rw [if_pos (by omega)]
          unfold incE
          by_cases hkF : k = sF σ i
          · rw [hkF, up1_s, hX, if_pos rfl]
          · rw [up1_n _ _ (fun q => hkF (ix_inj ⟨k0, k1⟩ ⟨hb.1, hb.2.1⟩ q).2), if_neg hkF]
            by_cases hkT : k = sT σ i
            · rw [hkT, up1_s, if_pos rfl]; decide
            · rw [up1_n _ _ (fun q => hkT (ix_inj ⟨k0, k1⟩ ⟨hb.2.2.1, hb.2.2.2⟩ q).2), if_neg hkT, g2 i k i0 i1 k0 k1, if_neg (by omega)]; decide
        · rw [up1_n _ _ (fun q => hi (ix_inj ⟨k0, k1⟩ ⟨hb.1, hb.2.1⟩ q).1), up1_n _ _ (fun q => hi (ix_inj ⟨k0, k1⟩ ⟨hb.2.2.1, hb.2.2.2⟩ q).1), g2 i k i0 i1 k0 k1]
          by_cases q : i < e
          · rw [if_pos q, if_pos (by omega)]
          · rw [if_neg q, if_neg (by omega)]
  refine key (sE σ).toNat zfu 0 μ (by unfold zfu; omega) (by omega) (by omega) (fun _ _ => rfl) fun i k i0 i1 k0 k1 => ?_
  rw [if_neg (by omega)]
  obtain ⟨_, _, a3, a4⟩ := hHW.ix ⟨i0, i1⟩ ⟨k0, k1⟩
  exact h0 _ a3 a4
/-- what hangs together, by rows -/
theorem adg_KG {σ : Sp} {A : Mx} (hw : WfE σ 32 48) (hA : ∀ e k, 0 ≤ e → e < sE σ → 0 ≤ k → k < sC σ → (A e k ≠ 0 ↔ sF σ e ≠ sT σ e ∧ (k = sF σ e ∨ k = sT σ e))) : ∀ a b, 0 ≤ a → a < sC σ → 0 ≤ b → b < sC σ → (KG σ a b ↔ Cnn (AdG A 0 (sE σ) 0 (sC σ)) a b) := by
  intro a b a0 a1 b0 b1
  constructor
  · intro h
    refine h.mono fun x y e => ?_
    obtain ⟨e', e0, e1, e2, e3⟩ := e
    have hb := hw.2.2.2.2 e' e0 e1
    rw [e2, e3]
    by_cases q : sF σ e' = sT σ e'
    · rw [q]; exact Cnn.refl _ _
    · exact Cnn.one ⟨e', e0, e1, hb.1, hb.2.1, hb.2.2.1, hb.2.2.2, (hA e' _ e0 e1 hb.1 hb.2.1).mpr ⟨q, Or.inl rfl⟩, (hA e' _ e0 e1 hb.2.2.1 hb.2.2.2).mpr ⟨q, Or.inr rfl⟩⟩
  · intro h
    refine h.mono fun x y e => ?_
    obtain ⟨i, i0, i1, x0, x1, y0, y1, hx, hy⟩ := e
    have hx' := (hA i x i0 i1 x0 x1).mp hx
    have hy' := (hA i y i0 i1 y0 y1).mp hy
    have k := KG_e (σ := σ) (e := i) ⟨i0, i1⟩
    show KG σ x y
    rcases hx'.2 with e1 | e1 <;> rcases hy'.2 with e2 | e2 <;> rw [e1, e2]
    · exact Cnn.refl _ _
    · exact k
    · exact k.symm
    · exact Cnn.refl _ _
def InvE (H W : Int) (m r c : Int) (A : Mx) : Prop := (m = 1 ∨ m = -1) ∧ ∀ i, r ≤ i → i < H → ELr (fun x => x = 1 ∨ x = -1) (fun x => -x) c W (A i)
theorem kpsE (H W : Int) : Kps H W (InvE H W) := by
  refine ⟨fun m r c A h => ⟨by have := h.1; omega, fun i k i0 i1 k0 k1 => ?_⟩, fun m r c A h r0 r1 c0 c1 hz => ⟨h.1, fun i i0 i1 => (h.2 i i0 i1).drop opZ.1 (hz i i0 i1)⟩, fun m r c A v h r0 v0 v1 c0 c1 hv => ?_⟩
  · rcases h.2 i i0 i1 with q | ⟨a, b, a0, a1, b0, b1, hab, hU, hb, hk⟩
    · rw [q k k0 k1]; decide
    · have hU' : A i a = 1 ∨ A i a = -1 := hU
      by_cases e : k = a
      · rw [e]; omega
      · by_cases e' : k = b
        · rw [e', hb]
          show -33554432 ≤ -(A i a) ∧ -(A i a) ≤ 33554432
          omega
        · rw [hk k k0 k1 e e']; decide
  · have hrc : swp A v r r c = A v c := by
      unfold swp
      by_cases e : r = v
      · rw [if_pos e, e]
      · rw [if_neg e, if_pos rfl]
    have hB : ∀ i, r ≤ i → i < H → ELr (fun x => x = 1 ∨ x = -1) (fun x => -x) c W (swp A v r i) := by
      intro i i0 i1
      have : swp A v r i = if i = v then A r else if i = r then A v else A i := by
        funext k
        unfold swp
        split
        · rfl
        · split <;> rfl
      rw [this]
      split
      · exact h.2 r (by omega) (by omega)
      · split
        · exact h.2 v v0 v1
        · exact h.2 i i0 i1
    obtain ⟨s1, s2, _⟩ := el_step opZ.1 opZ.2 h.1 (by omega) c1 hB (by rw [hrc]; exact hv)
    rw [hrc] at s1
    exact ⟨s1, s2⟩
theorem c_rankOfEdges {μ : zMem} {u p mC mE mP : Int} {σ : Sp} (hu : u = 4 ∨ PK u) (hp : p = 0 ∨ Pr p) (hc : CS μ u σ) (hz : SZ u mC mE mP) (hw : WfE σ mC mE) : Ok (f_X2_rankOfEdges u p μ) (fun w => FqR μ w.2 ∧ w.1 = rkE σ) := by
  have hz' := hz
  obtain ⟨z1, z2, z3, z4, z5, z6, z7, z8, z9⟩ := hz'
  have hHW := hwE hw z7 z8
  have hw32 : WfE σ 32 48 := hw.mono z7 z8
  have hC0 : 0 ≤ sC σ := by have := hw.1; omega
  have hu' : (u < 23 ∧ u + 6 < 23) ∨ 24 < u := by unfold PK at hu; omega
  unfold f_X2_rankOfEdges
  rw [hc.1, hc.2.1]
  refine ok_bnd.mpr (c_shape.imp fun μ1 q => ?_)
  obtain ⟨q1, q2, q3, q4⟩ := q
  have hc1 : CS μ1 u σ := hc.congr fun k a b => q1 k (by omega) (by omega)
  have hval : ∀ e k, 0 ≤ e → e < sE σ → 0 ≤ k → k < sC σ → Rl (incE σ e k) := by
    intro e k _ _ _ _
    unfold incE Rl
    split <;> split <;> omega
  refine c_fillEdges hu hc1 hz hw q2 q3 q4 fun μ2 g1 g2 => ?_
  unfold f_X2_rankOfEdges_K72
  by_cases h0 : p = 0
  · rw [if_pos h0]
    have hI : InvE (sE σ) (sC σ) 1 0 0 (incE σ) := by
      refine ⟨Or.inl rfl, fun i i0 i1 => ?_⟩
      have hb := hw.2.2.2.2 i i0 i1
      by_cases q : sF σ i = sT σ i
      · refine Or.inl fun k k0 k1 => ?_
        unfold incE
        rw [q]
        split <;> omega
      · refine Or.inr ⟨sT σ i, sF σ i, hb.2.2.1, hb.2.2.2, hb.1, hb.2.1, Ne.symm q, ?_, ?_, fun k k0 k1 k2 k3 => ?_⟩
        · unfold incE
          rw [if_pos rfl, if_neg (Ne.symm q)]; decide
        · unfold incE
          rw [if_neg q, if_pos rfl, if_pos rfl, if_neg (Ne.symm q)]; decide
        · unfold incE
          rw [if_neg k2, if_neg k3]; decide
    refine ok_bnd2.mpr ((c_fractions hHW (kpsE _ _) g2 hI).imp fun w x => ok_some.mpr ?_)
    obtain ⟨x1, x2, _⟩ := x
    refine ⟨fun k a b => by rw [x1.1 k b a, g1 k b]; exact q1 k a b, ?_⟩
    rw [x2, ← rkE_cpv hC0]
    have := el_edges (K := KG σ) opZ.1 opZ.2 (sC σ).toNat 1 0 0 (incE σ) (Or.inl rfl) (by omega) hHW.1 (by omega) hI.2 (adg_KG hw32 fun e k e0 e1 k0 k1 => by
      unfold incE
      constructor
      · intro h
        by_cases a : k = sT σ e <;> by_cases b : k = sF σ e
        · rw [if_pos a, if_pos b] at h; exact absurd rfl h
        · exact ⟨by omega, Or.inr a⟩
        · exact ⟨by omega, Or.inl b⟩
        · rw [if_neg a, if_neg b] at h; exact absurd rfl h
      · rintro ⟨h, a | a⟩
        · rw [if_neg (by omega), if_pos a]; decide
        · rw [if_pos a, if_neg (by omega)]; decide)
    rw [this, Int.zero_add]
  · have hpp : Pr p := hp.resolve_left h0
    have hpb := hpp.b
    have vm1 : (-1 : Int) % p = p - 1 := by rcases hpp with e | e | e | e <;> subst e <;> decide
    have v1 : (1 : Int) % p = 1 := by rcases hpp with e | e | e | e <;> subst e <;> decide
    have v0 : (0 : Int) % p = 0 := Int.zero_emod p
    rw [if_neg h0]
    refine ok_bnd2.mpr ((c_rankModulo hHW hpp g2 hval).imp fun w x => ok_some.mpr ?_)
    obtain ⟨x1, x2⟩ := x
    refine ⟨fun k a b => by rw [x1 k b, g1 k b]; exact q1 k a b, ?_⟩
    rw [x2, ← rkE_cpv hC0]
    have := el_edges (K := KG σ) (opP hpp).1 (opP hpp).2 (sC σ).toNat 1 0 0 (fun i k => incE σ i k % p) trivial (by omega) hHW.1 (by omega) (fun i i0 i1 => by
      have hb := hw.2.2.2.2 i i0 i1
      by_cases q : sF σ i = sT σ i
      · refine Or.inl fun k k0 k1 => ?_
        show incE σ i k % p = 0
        unfold incE
        rw [q, Int.sub_self]
        exact v0
      · refine Or.inr ⟨sT σ i, sF σ i, hb.2.2.1, hb.2.2.2, hb.1, hb.2.1, Ne.symm q, ?_, ?_, fun k k0 k1 k2 k3 => ?_⟩
        · show 0 < incE σ i (sT σ i) % p ∧ incE σ i (sT σ i) % p < p
          unfold incE
          rw [if_pos rfl, if_neg (Ne.symm q)]
          show 0 < (1 : Int) % p ∧ (1 : Int) % p < p
          omega
        · show incE σ i (sF σ i) % p = p - incE σ i (sT σ i) % p
          unfold incE
          rw [if_neg q, if_pos rfl, if_pos rfl, if_neg (Ne.symm q)]
          show (-1 : Int) % p = p - (1 : Int) % p
          omega
        · show incE σ i k % p = 0
          unfold incE
          rw [if_neg k2, if_neg k3]
          exact v0) (adg_KG hw32 fun e k e0 e1 k0 k1 => by
      show incE σ e k % p ≠ 0 ↔ _
      unfold incE
      constructor
      · intro h
        by_cases a : k = sT σ e <;> by_cases b : k = sF σ e
        · rw [if_pos a, if_pos b] at h; exact absurd v0 h
        · exact ⟨by omega, Or.inr a⟩
        · exact ⟨by omega, Or.inl b⟩
        · rw [if_neg a, if_neg b] at h; exact absurd v0 h
      · rintro ⟨h, a | a⟩
        · rw [if_neg (by omega), if_pos a]
          show (-1 : Int) % p ≠ 0
          omega
        · rw [if_pos a, if_neg (by omega)]
          show (1 : Int) % p ≠ 0
          omega)
    rw [this, Int.zero_add]
