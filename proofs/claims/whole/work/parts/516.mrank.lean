/-! the reference's rank modulo p -/
def fRm (p : Int) (_m x h P R : Int) : Int := (x * R - h * P) % p
theorem tmodp {a p : Int} (hp : Pr p) (ha : -36 ≤ a ∧ a ≤ 36) : Int.tmod (Int.tmod a p + p) p = a % p ∧ -7 < Int.tmod a p ∧ Int.tmod a p < 7 := by
  have key : ∀ p : Fin 8, (p.val = 2 ∨ p.val = 3 ∨ p.val = 5 ∨ p.val = 7) → ∀ a : Fin 73, Int.tmod (Int.tmod (((a.val : Nat) : Int) - 36) ((p.val : Nat) : Int) + ((p.val : Nat) : Int)) ((p.val : Nat) : Int) = (((a.val : Nat) : Int) - 36) % ((p.val : Nat) : Int) ∧ -7 < Int.tmod (((a.val : Nat) : Int) - 36) ((p.val : Nat) : Int) ∧ Int.tmod (((a.val : Nat) : Int) - 36) ((p.val : Nat) : Int) < 7 := by decide +kernel
  have hpb := hp.b
  have k := key ⟨p.toNat, by omega⟩ (by unfold Pr at hp; simp only; omega) ⟨(a + 36).toNat, by omega⟩
  simp only at k
  rw [show ((p.toNat : Nat) : Int) = p by omega, show (((a + 36).toNat : Nat) : Int) - 36 = a by omega] at k
  exact k
theorem tmod0 {a p : Int} (hp : Pr p) (ha : 0 ≤ a ∧ a < p) : Int.tmod a p = 0 ↔ a = 0 := by
  rw [Int.tmod_eq_emod_of_nonneg ha.1, Int.emod_eq_of_lt ha.1 ha.2]
def RMc (μ : zMem) (H W r c : Int) (A : Mx) : Prop := ∀ i k, r ≤ i → i < H → c ≤ k → k < W → μ 124 (48 * i + k) = A i k
def BdC (p H W r c : Int) (A : Mx) : Prop := ∀ i k, r ≤ i → i < H → c ≤ k → k < W → 0 ≤ A i k ∧ A i k < p
theorem m_rankStep {H W p r c m v : Int} {A : Mx} {g : Int → Int → zMem → Option (Int × zMem)} {Q : Int × zMem → Prop} {μ : zMem} (hp : Pr p) (hH : H ≤ 48) (hW : W ≤ 48) (hr : 0 ≤ r ∧ r < H) (hc : 0 ≤ c ∧ c < W) (hv : r ≤ v ∧ v < H) (h : RMc μ H W r c A) (hb : BdC p H W r c A) (hg : ∀ μ', Fm [124] [] μ μ' → RMc μ' H W (r + 1) (c + 1) (nwR (fRm p) m (swp A v r) r c) → Ok (g (r + 1) (c + 1) μ') Q) : Ok (f_X10_rankOf_L61 W r v (f_X10_rankOf_K129 H W p r c g) zfu 0 μ) Q := by
  have hpb := hp.b
  have hsb : ∀ i k, r ≤ i → i < H → c ≤ k → k < W → 0 ≤ swp A v r i k ∧ swp A v r i k < p := by
    intro i k i0 i1 k0 k1
    unfold swp
    split
    · exact hb r k (by omega) hr.2 k0 k1
    · split
      · exact hb v k hv.1 hv.2 k0 k1
      · exact hb i k i0 i1 k0 k1
  generalize hB : swp A v r = B at *
  -- below the pivot
  have k135 : ∀ (m1 fu : Nat) (y : Int) (μ1 : zMem), m1 < fu → r < y → y + m1 = H → Fm [124] [] μ μ1 → (∀ i k, r ≤ i → i < H → c ≤ k → k < W → μ1 124 (48 * i + k) = if i < y then nwR (fRm p) m B r c i k else B i k) → Ok (f_X10_rankOf_L135 H W p r c (f_X10_rankOf_K244 r c g) fu y μ1) Q := by
    intro m1
    induction m1 with
    | zero =>
      intro fu y μ1 hfu y0 hy g1 g2
      cases fu with
      | zero => omega
      | succ fu =>
        unfold f_X10_rankOf_L135
        rw [if_neg (by omega)]
        unfold f_X10_rankOf_K244
        simp only [zlet]
        rw [zw_eq (x := r + 1) (by omega) (by omega), zw_eq (x := c + 1) (by omega) (by omega)]
        refine hg μ1 g1 fun i k i0 i1 k0 k1 => ?_
        rw [g2 i k (by omega) i1 (by omega) k1, if_pos (by omega)]
    | succ m1 ih =>
      intro fu y μ1 hfu y0 hy g1 g2
      cases fu with
      | zero => omega
      | succ fu =>
        have vy := g2 y c (by omega) (by omega) (by omega) hc.2
        rw [if_neg (by omega)] at vy
        have vr := g2 r c (by omega) hr.2 (by omega) hc.2
        rw [if_pos (by omega)] at vr
        have enr : ∀ k, nwR (fRm p) m B r c r k = B r k := fun k => by unfold nwR; rw [if_neg (by omega)]
        rw [enr] at vr
        unfold f_X10_rankOf_L135
        simp only [zlet]
        rw [if_pos (by omega), zw_eq (x := 48 * y) (by omega) (by omega), zw_eq (x := 48 * y + c) (by omega) (by omega), chk_pos (by omega), zw_eq (x := 48 * r) (by omega) (by omega), zw_eq (x := 48 * r + c) (by omega) (by omega), chk_pos (by omega), vy, vr]
        have inner : ∀ (q fv : Nat) (z : Int) (μ2 : zMem), q < fv → 0 ≤ z → z + q = W → Fm [124] [] μ μ2 → (∀ i k, r ≤ i → i < H → c ≤ k → k < W → μ2 124 (48 * i + k) = if i < y ∨ (i = y ∧ k < z) then nwR (fRm p) m B r c i k else B i k) → Ok (f_X10_rankOf_L174 W p r y (B y c) (B r c) (f_X10_rankOf_K238 y (f_X10_rankOf_L135 H W p r c (f_X10_rankOf_K244 r c g) fu)) fv z μ2) Q := by
          intro q
          induction q with
          | zero =>
            intro fv z μ2 hfv z0 hz k1 k2
            cases fv with
            | zero => omega
            | succ fv =>
              unfold f_X10_rankOf_L174
              rw [if_neg (by omega)]
              unfold f_X10_rankOf_K238
              simp only [zlet]
              rw [zw_eq (by omega) (by omega)]
              refine ih fu (y + 1) μ2 (by omega) (by omega) (by omega) k1 fun i k i0 i1 k0 kk1 => ?_
              rw [k2 i k i0 i1 k0 kk1]
              by_cases e : i < y + 1
              · rw [if_pos e, if_pos (by omega)]
              · rw [if_neg e, if_neg (by omega)]
          | succ q ihq =>
            intro fv z μ2 hfv z0 hz k1 k2
            cases fv with
            | zero => omega
            | succ fv =>
              unfold f_X10_rankOf_L174
              simp only [zlet]
              rw [if_pos (by omega), zw_eq (x := 48 * y) (by omega) (by omega), zw_eq (x := 48 * y + z) (by omega) (by omega), chk_pos (by omega), zw_eq (x := 48 * r) (by omega) (by omega), zw_eq (x := 48 * r + z) (by omega) (by omega), chk_pos (by omega), chk_pos (by omega), chk_pos (by omega), chk_pos (by omega), zw_eq (x := z + 1) (by omega) (by omega)]
              refine ihq fv (z + 1) _ (by omega) (by omega) (by omega) (k1.up (by decide) (by decide) _ _) (fun i k i0 i1 k0 kk1 => ?_)
              rw [zup_s]
              by_cases e : i = y ∧ k = z
              · rw [e.1, e.2, up1_s, if_pos (by omega)]
                have zc : c ≤ z := by omega
                have vyz := k2 y z (by omega) (by omega) zc (by omega)
                rw [if_neg (by omega)] at vyz
                have vrz := k2 r z (by omega) hr.2 zc (by omega)
                rw [if_pos (by omega), enr] at vrz
                have m1' := mul_bP (hsb y z (by omega) (by omega) zc (by omega)) (hsb r c (by omega) hr.2 (by omega) hc.2) hpb.2
                have m2' := mul_bP (hsb r z (by omega) hr.2 zc (by omega)) (hsb y c (by omega) (by omega) (by omega) hc.2) hpb.2
                have tm := tmodp hp (a := B y z * B r c - B r z * B y c) (by omega)
                rw [vyz, vrz, zw_eq (x := B y z * B r c) (by omega) (by omega), zw_eq (x := B r z * B y c) (by omega) (by omega), zw_eq (x := B y z * B r c - B r z * B y c) (by omega) (by omega), zw_eq (by omega) (by omega), tm.1]
                unfold nwR fRm
                rw [if_pos ⟨y0, zc⟩, Int.mul_comm (B r c), Int.mul_comm (B y c)]
              · rw [up1_n _ _ (by omega), k2 i k i0 i1 k0 kk1]
                by_cases e2 : i < y ∨ (i = y ∧ k < z)
                · rw [if_pos e2, if_pos (by omega)]
                · rw [if_neg e2, if_neg (by omega)]
        refine inner W.toNat zfu 0 μ1 (by unfold zfu; omega) (by omega) (by omega) g1 fun i k i0 i1 k0 kk1 => ?_
        rw [g2 i k i0 i1 k0 kk1]
        by_cases e2 : i < y
        · rw [if_pos e2, if_pos (by omega)]
        · rw [if_neg e2, if_neg (by omega)]
  -- the swap
  have k61 : ∀ (m1 fu : Nat) (x : Int) (μ1 : zMem), m1 < fu → 0 ≤ x → x + m1 = W → Fm [124] [] μ μ1 → (∀ i k, r ≤ i → i < H → c ≤ k → k < W → μ1 124 (48 * i + k) = if k < x then B i k else A i k) → Ok (f_X10_rankOf_L61 W r v (f_X10_rankOf_K129 H W p r c g) fu x μ1) Q := by
    intro m1
    induction m1 with
    | zero =>
      intro fu x μ1 hfu x0 hx g1 g2
      cases fu with
      | zero => omega
      | succ fu =>
        unfold f_X10_rankOf_L61
        rw [if_neg (by omega)]
        unfold f_X10_rankOf_K129
        simp only [zlet]
        rw [zw_eq (by omega) (by omega)]
        refine k135 (H - (r + 1)).toNat zfu (r + 1) μ1 (by unfold zfu; omega) (by omega) (by omega) g1 fun i k i0 i1 k0 k1 => ?_
        rw [g2 i k i0 i1 k0 k1, if_pos (by omega)]
        by_cases e : i < r + 1
        · have : nwR (fRm p) m B r c i k = B i k := by unfold nwR; rw [if_neg (by omega)]
          rw [if_pos e, this]
        · rw [if_neg e]
    | succ m1 ih =>
      intro fu x μ1 hfu x0 hx g1 g2
      cases fu with
      | zero => omega
      | succ fu =>
        unfold f_X10_rankOf_L61
        simp only [zlet]
        rw [if_pos (by omega), zw_eq (x := 48 * v) (by omega) (by omega), zw_eq (x := 48 * v + x) (by omega) (by omega), chk_pos (by omega), zw_eq (x := 48 * r) (by omega) (by omega), zw_eq (x := 48 * r + x) (by omega) (by omega), chk_pos (by omega), chk_pos (by omega), chk_pos (by omega), zw_eq (x := x + 1) (by omega) (by omega)]
        refine ih fu (x + 1) _ (by omega) (by omega) (by omega) ((g1.up (by decide) (by decide) _ _).up (by decide) (by decide) _ _) (fun i k i0 i1 k0 k1 => ?_)
        rw [zup_s, zup_s]
        by_cases hk : k = x
        · subst hk
          have vv := g2 v k hv.1 hv.2 k0 k1
          have vr := g2 r k (by omega) hr.2 k0 k1
          rw [if_neg (by omega)] at vv vr
          rw [if_pos (by omega), ← hB]
          unfold swp
          by_cases hir : i = r
          · rw [hir, up1_s, vv]
            by_cases e : r = v
            · rw [if_pos e, e]
            · rw [if_neg e, if_pos rfl]
          · rw [up1_n _ _ (by omega)]
            by_cases hiv : i = v
            · rw [hiv, up1_s, if_pos rfl, vr]
            · rw [up1_n _ _ (by omega), if_neg hiv, if_neg hir, g2 i k i0 i1 k0 k1, if_neg (by omega)]
        · rw [up1_n _ _ (by omega), up1_n _ _ (by omega), g2 i k i0 i1 k0 k1]
          by_cases q : k < x
          · rw [if_pos q, if_pos (by omega)]
          · rw [if_neg q, if_neg (by omega)]
  exact k61 W.toNat zfu 0 μ (by unfold zfu; omega) (by omega) (by omega) (Fm.refl _ _ _) fun i k i0 i1 k0 k1 => by rw [if_neg (by omega)]; exact h i k i0 i1 k0 k1
theorem m_rankOfL {H W p : Int} (hp : Pr p) (hH : 0 ≤ H ∧ H ≤ 48) (hW : 0 ≤ W ∧ W ≤ 48) : ∀ (n fu : Nat) (m r c : Int) (A : Mx) (μ : zMem), n < fu → 0 ≤ r ∧ r ≤ H → 0 ≤ c → c + n = W → RMc μ H W r c A → BdC p H W r c A → Ok (f_X10_rankOf_L6 H W p fu r c μ) (fun w => Fm [124] [] μ w.2 ∧ w.1 = elG (fRm p) H n m r c A) := by
  have hpb := hp.b
  intro n
  induction n with
  | zero =>
    intro fu m r c A μ hfu hr c0 hc h hb
    cases fu with
    | zero => omega
    | succ fu =>
      unfold f_X10_rankOf_L6
      rw [if_neg (by omega)]
      exact ok_some.mpr ⟨Fm.refl _ _ _, rfl⟩
  | succ n ih =>
    intro fu m r c A μ hfu hr c0 hc h hb
    cases fu with
    | zero => omega
    | succ fu =>
      unfold f_X10_rankOf_L6 elG
      rw [if_pos (by omega)]
      by_cases hrH : r < H
      · rw [if_pos hrH, if_pos hrH]
        have k22 : ∀ (g : Int → zMem → Option (Int × zMem)) (q fv : Nat) (x : Int), q < fv → r ≤ x → x + q = H → f_X10_rankOf_L22 H p c g fv x μ = g (if fsR A c q x = -1 then H else fsR A c q x) μ := by
          intro g q
          induction q with
          | zero =>
            intro fv x hfv x0 hx
            cases fv with
            | zero => omega
            | succ fv =>
              unfold f_X10_rankOf_L22
              rw [if_neg (by omega)]
              show g x μ = g (if (-1 : Int) = -1 then H else -1) μ
              rw [if_pos rfl, show x = H by omega]
          | succ q ihq =>
            intro fv x hfv x0 hx
            cases fv with
            | zero => omega
            | succ fv =>
              have hbx := hb x c (by omega) (by omega) (by omega) (by omega)
              unfold f_X10_rankOf_L22 fsR
              simp only [zlet]
              rw [if_pos (by omega), zw_eq (x := 48 * x) (by omega) (by omega), zw_eq (x := 48 * x + c) (by omega) (by omega), chk_pos (by omega), chk_pos (by omega), h x c (by omega) (by omega) (by omega) (by omega), zw_eq (by omega) (by omega)]
              by_cases q0 : A x c = 0
              · rw [if_pos ((tmod0 hp hbx).mpr q0), if_pos q0]
                exact ihq fv (x + 1) (by omega) (by omega) (by omega)
              · rw [if_neg (fun z => q0 ((tmod0 hp hbx).mp z)), if_neg q0, if_neg (by omega)]
        rw [k22 _ (H - r).toNat zfu r (by unfold zfu; omega) (by omega) (by omega)]
        have hs := fsR_spec A c (H - r).toNat r hr.1
        generalize fsR A c (H - r).toNat r = v at *
        unfold f_X10_rankOf_K52
        by_cases hv : v = -1
        · rw [if_pos hv, if_neg (by omega), if_pos hv]
          simp only [zlet]
          rw [zw_eq (by omega) (by omega)]
          exact ih fu m r (c + 1) A μ (by omega) hr (by omega) (by omega) (fun i k i0 i1 k0 k1 => h i k i0 i1 (by omega) k1) (fun i k i0 i1 k0 k1 => hb i k i0 i1 (by omega) k1)
        · rw [if_neg hv, if_neg hv]
          rcases hs with ⟨q, _⟩ | ⟨q1, q2, q3⟩
          · exact absurd q hv
          · rw [if_pos (by omega)]
            refine m_rankStep (m := m) hp hH.2 hW.2 ⟨hr.1, hrH⟩ ⟨c0, by omega⟩ ⟨q1, by omega⟩ h hb fun μ2 g1 g2 => ?_
            refine (ih fu (A v c) (r + 1) (c + 1) (nwR (fRm p) m (swp A v r) r c) μ2 (by omega) ⟨by omega, by omega⟩ (by omega) (by omega) g2 (fun i k i0 i1 k0 k1 => ?_)).imp fun w x => ⟨g1.trans x.1, x.2⟩
            unfold nwR
            rw [if_pos ⟨by omega, by omega⟩]
            unfold fRm
            exact ⟨Int.emod_nonneg _ (by omega), Int.emod_lt_of_pos _ (by omega)⟩
      · rw [if_neg hrH, if_neg hrH]
        exact ok_some.mpr ⟨Fm.refl _ _ _, rfl⟩
theorem m_faceRank {μ : zMem} {s p : Int} {σ : Sp} (hs : 0 ≤ s ∧ s < 3) (hp : Pr p) (hc : MS μ s σ) (hw : WfE σ 32 48) (hP : WfP σ 32) : Ok (f_X10_faceRank s p μ) (fun w => Fm [124] [] μ w.2 ∧ w.1 = elG (fRm p) (sP σ) (sE σ).toNat 1 0 0 (fun i k => goE σ i k % p)) := by
  have hpb := hp.b
  have hE := hw.2.2.2.1
  have hE0 := hw.2.2.1
  have hP0 := hP.1
  have hP32 := hP.2.1
  have key : ∀ (m fu : Nat) (f : Int) (μ1 : zMem), m < fu → 0 ≤ f → f + m = sP σ → Fm [124] [] μ μ1 → (∀ i k, 0 ≤ i → i < f → 0 ≤ k → k < sE σ → μ1 124 (48 * i + k) = goE σ i k % p) → Ok (f_X10_faceRank_L2 s p (f_X10_faceRank_K64 s p) fu f μ1) (fun w => Fm [124] [] μ w.2 ∧ w.1 = elG (fRm p) (sP σ) (sE σ).toNat 1 0 0 (fun i k => goE σ i k % p)) := by
    intro m
    induction m with
    | zero =>
      intro fu f μ1 hfu f0 hf g1 g2
      cases fu with
      | zero => omega
      | succ fu =>
        have hc1 : MS μ1 s σ := g1.ms (by unfold noSp; decide) hc
        unfold f_X10_faceRank_L2
        rw [chk_pos hs, hc1.2.2.1, if_neg (by omega)]
        unfold f_X10_faceRank_K64 f_X10_rankOf
        rw [chk_pos hs, chk_pos hs, hc1.2.2.1, hc1.2.1]
        refine ok_bnd2.mpr ((m_rankOfL hp ⟨hP0, by omega⟩ ⟨hE0, hE⟩ (sE σ).toNat zfu 1 0 0 (fun i k => goE σ i k % p) μ1 (by unfold zfu; omega) ⟨by omega, hP0⟩ (by omega) (by omega) (fun i k i0 i1 k0 k1 => g2 i k i0 (by omega) k0 k1) (fun i k _ _ _ _ => ⟨Int.emod_nonneg _ (by omega), Int.emod_lt_of_pos _ (by omega)⟩)).imp fun w x => ok_some.mpr ?_)
        exact ⟨g1.trans x.1, x.2⟩
    | succ m ih =>
      intro fu f μ1 hfu f0 hf g1 g2
      cases fu with
      | zero => omega
      | succ fu =>
        have hc1 : MS μ1 s σ := g1.ms (by unfold noSp; decide) hc
        unfold f_X10_faceRank_L2
        rw [chk_pos hs, hc1.2.2.1, if_pos (by omega)]
        have inner : ∀ (q fv : Nat) (e : Int) (μ2 : zMem), q < fv → 0 ≤ e → e + q = sE σ → Fm [124] [] μ μ2 → (∀ i k, 0 ≤ i → i ≤ f → 0 ≤ k → k < sE σ → (i = f → k < e) → μ2 124 (48 * i + k) = goE σ i k % p) → Ok (f_X10_faceRank_L15 s p f (f_X10_faceRank_K58 f (f_X10_faceRank_L2 s p (f_X10_faceRank_K64 s p) fu)) fv e μ2) (fun w => Fm [124] [] μ w.2 ∧ w.1 = elG (fRm p) (sP σ) (sE σ).toNat 1 0 0 (fun i k => goE σ i k % p)) := by
          intro q
          induction q with
          | zero =>
            intro fv e μ2 hfv e0 he k1 k2
            cases fv with
            | zero => omega
            | succ fv =>
              have hc2 : MS μ2 s σ := k1.ms (by unfold noSp; decide) hc
              unfold f_X10_faceRank_L15
              rw [chk_pos hs, hc2.2.1, if_neg (by omega)]
              unfold f_X10_faceRank_K58
              simp only [zlet]
              rw [zw_eq (by omega) (by omega)]
              exact ih fu (f + 1) μ2 (by omega) (by omega) (by omega) k1 fun i k i0 i1 k0 kk1 => k2 i k i0 (by omega) k0 kk1 (fun _ => by omega)
          | succ q ihq =>
            intro fv e μ2 hfv e0 he k1 k2
            cases fv with
            | zero => omega
            | succ fv =>
              have hc2 : MS μ2 s σ := k1.ms (by unfold noSp; decide) hc
              have hgb := goE_b (e := e) hP (f := f) ⟨f0, by omega⟩
              have tm := tmodp hp (a := goE σ f e) (by omega)
              unfold f_X10_faceRank_L15
              simp only [zlet]
              rw [chk_pos hs, hc2.2.1, if_pos (by omega), bnd_pos (m_goes hs hc2 hP hE ⟨f0, by omega⟩ ⟨e0, by omega⟩), chk_pos (by omega), chk_pos (by omega), zw_eq (x := 48 * f) (by omega) (by omega), zw_eq (x := 48 * f + e) (by omega) (by omega), chk_pos (by omega), zw_eq (x := Int.tmod (goE σ f e) p + p) (by omega) (by omega), tm.1, zw_eq (x := e + 1) (by omega) (by omega)]
              refine ihq fv (e + 1) _ (by omega) (by omega) (by omega) (k1.up (by decide) (by decide) _ _) fun i k i0 i1 k0 kk1 hh => ?_
              rw [zup_s]
              by_cases q : i = f ∧ k = e
              · rw [q.1, q.2, up1_s]
              · rw [up1_n _ _ (by omega)]
                exact k2 i k i0 i1 k0 kk1 (fun z => by have := hh z; omega)
        exact inner (sE σ).toNat zfu 0 μ1 (by unfold zfu; omega) (by omega) (by omega) g1 fun i k i0 i1 k0 kk1 hh => g2 i k i0 (by by_cases q : i = f <;> omega) k0 kk1
  unfold f_X10_faceRank
  exact key (sP σ).toNat zfu 0 μ (by unfold zfu; omega) (by omega) (by omega) (Fm.refl _ _ _) (fun i k i0 i1 => by omega)
