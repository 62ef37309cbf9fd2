/-! the class finds its factors -/
theorem c_nextFactor {n : Nat} {M H W t fp : Int} {D : Int → Int} {A0 A : Mx} {μ : zMem} (hM : Mok M) (hfM : fp ∣ M) (hf1 : 1 ≤ fp) (hW : W = n) (hw : HW H W) (hH8 : H ≤ 8) (ht : 0 ≤ t ∧ t < H ∧ t < W) (hC : CM μ H W A) (h6 : μ 23 6 = M) (hS : SS n M H W t fp D A0 A) : Ok (f_X2_nextFactor t μ) (fun w => NF n M H W t fp D A0 μ w.1 w.2) := by
  unfold f_X2_nextFactor
  have hM' := hM
  unfold Mok at hM'
  have hb := hS.1
  refine c_nextL hM hfM hf1 hW hw hH8 ht 234 zfu 25 0 M 0 A μ (by unfold zfu; omega) (by omega) (by omega) ?_ (by omega) hC h6 hS ⟨fun i k a b c d e => ⟨i, k, a, b, c, d, e, ?_⟩, fun _ => false, fun l hl => Bool.noConfusion hl, (cnt_le (fun _ => false) H.toNat).1⟩
  · have : (2 : Int) ^ 25 = 33554432 := by decide
    omega
  · have := (hb i k (by omega) b (by omega) d).2
    show A i k ≤ M
    omega
/-- t factors are found -/
def FcS (n : Nat) (M H W t : Int) (A0 : Mx) (μ : zMem) : Prop := ∃ (fp : Int) (D : Int → Int) (A : Mx), CM μ H W A ∧ SS n M H W t fp D A0 A ∧ 1 ≤ fp ∧ fp ∣ M ∧ ∀ i, 0 ≤ i → i < t → (D i = μ 25 i ∨ (μ 25 i = M ∧ D i = 0)) ∧ 1 ≤ μ 25 i ∧ μ 25 i ∣ fp ∧ ∀ j, i ≤ j → j < t → μ 25 i ∣ μ 25 j
theorem c_findL {n : Nat} {M H W rk : Int} {A0 : Mx} (hM : Mok M) (hW : W = n) (hw : HW H W) (hH8 : H ≤ 8) (hr : rk ≤ H ∧ rk ≤ W) : ∀ (m fu : Nat) (t : Int) (μ : zMem), m < fu → 0 ≤ t → t + m = rk → μ 23 6 = M → FcS n M H W t A0 μ → Ok (f_X2_findFactors_L45 rk fu t μ) (fun w => w.1 = rk ∧ (∀ k, k ≠ 24 → k ≠ 25 → w.2 k = μ k) ∧ FcS n M H W rk A0 w.2) := by
  intro m
  induction m with
  | zero =>
    intro fu t μ hfu t0 ht h6 hF
    cases fu with
    | zero => omega
    | succ fu =>
      unfold f_X2_findFactors_L45
      rw [if_neg (by omega)]
      have : t = rk := by omega
      rw [this] at hF
      exact ok_some.mpr ⟨rfl, fun _ _ _ => rfl, hF⟩
  | succ m ih =>
    intro fu t μ hfu t0 ht h6 hF
    cases fu with
    | zero => omega
    | succ fu =>
      obtain ⟨fp, D, A, f1, f2, f3, f4, f5⟩ := hF
      unfold f_X2_findFactors_L45
      simp only [zlet]
      rw [if_pos (by omega), zw_eq (x := t + 1) (by omega) (by omega)]
      refine ok_bnd2.mpr ((c_nextFactor hM f4 f3 hW hw hH8 ⟨t0, by omega, by omega⟩ f1 h6 f2).imp fun w q => ?_)
      obtain ⟨q1, A', q2, q3, q4, q5, q6, q7⟩ := q
      rw [chk_pos (by omega)]
      have hk : ∀ k, k ≠ 25 → zup w.2 25 t w.1 k = w.2 k := fun k hk => zup_n _ _ _ hk
      have hnew : ∀ j, j ≠ t → zup w.2 25 t w.1 25 j = μ 25 j := fun j hj => by rw [zup_s, up1_n _ _ hj, q1 25 (by decide)]
      have hself : zup w.2 25 t w.1 25 t = w.1 := by rw [zup_s, up1_s]
      generalize zup w.2 25 t w.1 = μ9 at *
      have hC9 : CM μ9 H W A' := ⟨by rw [hk 23 (by decide)]; exact q2.1, by rw [hk 23 (by decide)]; exact q2.2.1, fun i k a b c d => by rw [hk 24 (by decide)]; exact q2.2.2 i k a b c d⟩
      have h69 : μ9 23 6 = M := by rw [hk 23 (by decide), q1 23 (by decide)]; exact h6
      have hF9 : FcS n M H W (t + 1) A0 μ9 := by
        refine ⟨w.1, fun i => if i = t then A' t t else D i, A', hC9, q7, q3, q4, fun i i0 i1 => ?_⟩
        show ((if i = t then A' t t else D i) = μ9 25 i ∨ (μ9 25 i = M ∧ (if i = t then A' t t else D i) = 0)) ∧ _
        by_cases e : i = t
        · rw [if_pos e, e, hself]
          refine ⟨q6, q3, Int.dvd_refl _, fun j a b => ?_⟩
          rw [show j = t by omega, hself]
          exact Int.dvd_refl _
        · obtain ⟨g1, g2, g3, g4⟩ := f5 i i0 (by omega)
          rw [if_neg e, hnew i e]
          refine ⟨g1, g2, Int.dvd_trans g3 q5, fun j a b => ?_⟩
          by_cases z : j = t
          · rw [z, hself]; exact Int.dvd_trans g3 q5
          · rw [hnew j z]; exact g4 j a (by omega)
      refine (ih fu (t + 1) μ9 (by omega) (by omega) (by omega) h69 hF9).imp fun v r => ?_
      exact ⟨r.1, fun k a b => by rw [r.2.1 k a b, hk k b]; exact q1 k a, r.2.2⟩
/-! the panes filled leave 23.6 alone -/
theorem non_some {α : Type} {y : α} (h : none = some y) : False := by cases h
theorem chk_inv {α : Type} {c : Prop} [Decidable c] {x : Option α} {y : α} (h : chk c x = some y) : x = some y := by
  unfold chk at h
  by_cases q : c
  · rw [if_pos q] at h; exact h
  · rw [if_neg q] at h; exact (non_some h).elim
theorem fp_L24 {u f : Int} {g : zMem → Option zMem} (hg : ∀ μ μ', g μ = some μ' → μ' 23 = μ 23) : ∀ (fu : Nat) (i : Int) (μ μ' : zMem), f_X2_fillPanes_L24 u f g fu i μ = some μ' → μ' 23 = μ 23 := by
  intro fu
  induction fu with
  | zero => intro i μ μ' h; exact (non_some h).elim
  | succ fu ih =>
    intro i μ μ' h
    unfold f_X2_fillPanes_L24 at h
    have h1 := chk_inv h
    by_cases q : i < μ (u + 6) f
    · rw [if_pos q] at h1
      cases hr : f_X5_rimStep u f i μ with
      | none => rw [hr] at h1; exact (non_some h1).elim
      | some a =>
        rw [hr, bnd_pos rfl] at h1
        have h2 := chk_inv h1
        unfold f_X2_fillPanes_J73 at h2
        have h3 := chk_inv h2
        have h4 := ih _ _ _ h3
        rw [h4, zup_n _ _ _ (by decide)]
    · rw [if_neg q] at h1
      exact hg _ _ h1
theorem fp_L14 {u : Int} : ∀ (fu : Nat) (f : Int) (μ μ' : zMem), f_X2_fillPanes_L14 u fu f μ = some μ' → μ' 23 = μ 23 := by
  intro fu
  induction fu with
  | zero => intro i μ μ' h; exact (non_some h).elim
  | succ fu ih =>
    intro f μ μ' h
    unfold f_X2_fillPanes_L14 at h
    by_cases q : f < μ u 8
    · rw [if_pos q] at h
      refine fp_L24 (fun μ1 μ2 h1 => ?_) _ _ _ _ h
      unfold f_X2_fillPanes_K81 at h1
      exact ih _ _ _ h1
    · rw [if_neg q] at h
      rw [Option.some.inj h]
theorem fp_6 {u : Int} {μ μ' : zMem} (h : f_X2_fillPanes u μ = some μ') : μ' 23 6 = μ 23 6 := by
  unfold f_X2_fillPanes f_X2_shape at h
  simp only [zlet] at h
  obtain ⟨μ2, e, q1, q2⟩ := c_fillL (k := 24) (v := 0) (μ := zup (zup μ 23 3 (μ u 8)) 23 4 (μ u 7)) (by decide)
  rw [e, bnd_pos rfl, bnd_pos rfl] at h
  rw [fp_L14 _ _ _ _ h, q1 23 (by decide)]
  simp (disch := omega) only [zup_s, zup_n, up1_s, up1_n]
theorem c_findFactors {μ : zMem} {u : Int} {σ : Sp} (hu : PK u) (hc : CS μ u σ) (hz : SZ u 8 12 8) (hw : WfE σ 8 12) (hp : WfP σ 8) : Ok (f_X2_findFactors u μ) (fun w => (∀ k, k ≠ 23 → k ≠ 24 → k ≠ 25 → w.2 k = μ k) ∧ ∃ m M, FnB (sE σ).toNat (sP σ) (rwP σ) w.1 m ∧ 0 ≤ w.1 ∧ w.1 ≤ sP σ ∧ w.1 ≤ sE σ ∧ Mok M ∧ (M = m ∨ M = -m) ∧ FcS (sE σ).toNat M (sP σ) (sE σ) w.1 (fun i k => goE σ i k % M) w.2) := by
  have hE0 := hw.2.2.1
  have hE2 := hw.2.2.2.1
  have hP0 := hp.1
  have hP2 := hp.2.1
  have hHW := hwP hw hp (by decide) (by decide)
  unfold f_X2_findFactors
  simp only [zlet]
  refine ok_bnd2.mpr ((c_rankOfPanes (Or.inr hu) (Or.inl ⟨rfl, hP2⟩) hc hz hw hp).imp fun w q => ?_)
  obtain ⟨q1, _, q3⟩ := q
  obtain ⟨hF, r0, r1⟩ := q3 rfl
  generalize hm : w.2 23 5 = m at *
  have hF' := hF
  obtain ⟨us, C, u1, u2, u3, u4, u5, u6⟩ := hF'
  have hrE : w.1 ≤ sE σ := by
    by_cases z : pcb (sE σ).toNat C = us.length
    · have := pcb_le (sE σ).toNat C
      omega
    · exact absurd (u4.trans (wdl_deg us C u3 z)) u5
  have hb := wdl_b8 hp (by omega) u2 C u3
  rw [← u4] at hb
  have hmin : zmin w.1 8 = w.1 := by unfold zmin; split <;> omega
  obtain ⟨M, hMm, hMx, hM1, hM2⟩ : ∃ M, (M = m ∨ M = -m) ∧ zmax 1 (zlabs m) = M ∧ 1 ≤ M ∧ M ≤ 16777216 := by
    by_cases z : 0 < m
    · refine ⟨m, Or.inl rfl, ?_, by omega, by omega⟩
      unfold zmax zlabs
      rw [if_pos z]
      split <;> omega
    · refine ⟨-m, Or.inr rfl, ?_, by omega, by omega⟩
      unfold zmax zlabs
      rw [if_neg z, zl_eq (by omega) (by omega)]
      split <;> omega
  rw [hMx, hmin]
  have hk4 : ∀ k, k ≠ 23 → zup w.2 23 6 M k = w.2 k := fun k hk => zup_n _ _ _ hk
  have h64 : zup w.2 23 6 M 23 6 = M := by rw [zup_s, up1_s]
  generalize zup w.2 23 6 M = μ4 at *
  have hc4 : CS μ4 u σ := hc.congr fun k a b => by
    rw [hk4 k (by unfold PK at hu; omega)]
    exact q1 k (by unfold PK at hu; omega) (by unfold PK at hu; omega)
  obtain ⟨μ5, e5, p1, p2⟩ := c_fillPanes (Or.inr hu) hc4 hz hw hp
  have h65 := fp_6 e5
  rw [e5, bnd_pos rfl, h65, h64]
  refine ok_bnd.mpr ((c_keepBelow hHW p2 (by omega) (by omega) (fun i k i0 i1 k0 k1 => by
    have := goE_b (e := k) hp ⟨i0, i1⟩
    unfold Rl
    omega)).imp fun μ6 s => ?_)
  obtain ⟨s1, s2⟩ := s
  refine (c_findL (n := (sE σ).toNat) (M := M) (H := sP σ) (W := sE σ) (A0 := fun i k => goE σ i k % M) ⟨hM1, hM2⟩ (by omega) hHW hP2 ⟨r1, hrE⟩ w.1.toNat zfu 0 μ6 (by unfold zfu; omega) (by omega) (by omega) (by rw [s1 23 (by decide), h65]; exact h64) ⟨1, fun _ => 0, _, s2, ⟨fun i k _ _ _ _ => ⟨Int.emod_nonneg _ (by omega), Int.emod_lt_of_pos _ (by omega)⟩, fun i k i0 i1 k0 k1 hh _ => by omega, DvS.refl _ _ _ _, fun i k _ _ _ _ => Int.one_dvd _, fun i i0 i1 => by omega⟩, by omega, Int.one_dvd _, fun i i0 i1 => by omega⟩).imp fun v y => ?_
  obtain ⟨y1, y2, y3⟩ := y
  rw [y1]
  refine ⟨fun k a b c => ?_, m, M, hF, r0, r1, hrE, ⟨hM1, hM2⟩, hMm, y3⟩
  rw [y2 k b c, s1 k b, p1 k a b, hk4 k a]
  exact q1 k a b
