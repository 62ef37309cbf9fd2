/-! HOLES agree -/
theorem seen2 {μ : zMem} (h : Rel μ) (x : Int) : (f_X9_seenSpace x μ = some 0 ∧ f_X10_isAny x μ = 0) ∨ (∃ (t : Int) (σ : Sp) (mC mE mP : Int), f_X9_seenSpace x μ = some t ∧ f_X10_isAny x μ = 1 ∧ t ≠ 0 ∧ 0 ≤ x ∧ x < 3 ∧ SZ t mC mE mP ∧ CS μ t σ ∧ CP μ t σ ∧ MS μ x σ ∧ WfE σ mC mE ∧ WfP σ mP ∧ (t = 4 ∨ PK t) ∧ (x ≠ 2 → WfE σ 8 12 ∧ WfP σ 8)) := by
  unfold f_X9_seenSpace f_X10_isAny
  by_cases h1 : 0 ≤ x ∧ x ≤ 1
  · have hk := h.own h1
    have hb := hk.b
    obtain ⟨σ, c1, c2, c3, c4, c5⟩ := h.2.1 x h1.1 h1.2
    refine Or.inr ⟨μ 2 x, σ, 8, 12, 8, ?_, ?_, by omega, by omega, by omega, hk.sz, c1, c2, c3, c4, c5, Or.inr hk, fun _ => ⟨c4, c5⟩⟩
    · rw [if_neg (fun e => isOwn0.mp e h1), chk_pos (by omega), chk_pos (by omega)]
      rfl
    · rw [if_neg (fun e => isSpace0.mp e h1)]
  · rw [if_pos (isOwn0.mpr h1), if_pos (isSpace0.mpr h1)]
    by_cases h2 : x = 2
    · rw [if_pos h2, if_pos h2]
      unfold f_X1_isLaid
      rcases h.2.2.2.2.2 with ⟨e1, e2⟩ | ⟨n, a, b, c, d, e, f, g, i, j, k, l, m, σ, o1, o2, o3, o4, o5⟩
      · rw [if_pos e1, if_pos rfl, if_pos e2]
        exact Or.inl ⟨rfl, rfl⟩
      · rw [if_neg (by omega), if_neg (by omega)]
        subst h2
        exact Or.inr ⟨4, σ, 32, 48, 32, rfl, rfl, by decide, by decide, by decide, SZ4, o1, o2, o3, o4, o5, Or.inl rfl, fun q => absurd rfl q⟩
    · rw [if_neg h2, if_neg h2]
      exact Or.inl ⟨rfl, rfl⟩
theorem isMod0 {p : Int} : f_X9_isModulus p = 0 ↔ ¬ (p = 0 ∨ Pr p) := by
  unfold f_X9_isModulus Pr
  split
  · omega
  · split
    · omega
    · split
      · omega
      · split
        · omega
        · split <;> omega
theorem isPr0 {p : Int} : f_X10_isPrime p = 0 ↔ ¬ Pr p := by
  unfold f_X10_isPrime Pr
  split
  · omega
  · split
    · omega
    · split
      · omega
      · split <;> omega
theorem sim_holes {μ : zMem} {a b c : Int} (h : Rel μ) : Ok (f_X9_holes a b c μ) (fun v => Ok (f_X10_holes a b c v.2) (fun w => w.1 = v.1 ∧ Rel w.2)) := by
  rcases seen2 h a with ⟨e1, e2⟩ | ⟨t, σ, mC, mE, mP, e1, e2, ht, ha0, ha3, hz, cs, cp, msp, we, wp, htp, hown⟩
  · refine sim_same h (r := -1) ?_ ?_
    · unfold f_X9_holes; rw [e1, bnd_pos rfl, if_pos rfl]
    · unfold f_X10_holes; rw [if_pos e2]
  have hz' := hz
  obtain ⟨z1, z2, z3, z4, z5, z6, z7, z8, z9⟩ := hz'
  have we' : WfE σ 32 48 := we.mono (by omega) (by omega)
  have wp' : WfP σ 32 := wp.mono (by omega)
  have any1 : ¬ f_X10_isAny a μ = 0 := by omega
  by_cases hb : 0 ≤ b ∧ b ≤ 2
  rotate_left
  · refine sim_same h (r := -1) ?_ ?_
    · unfold f_X9_holes
      rw [e1, bnd_pos rfl, if_neg ht]
      by_cases q : b < 0
      · rw [if_pos q]
      · rw [if_neg q, if_neg (by omega)]
    · unfold f_X10_holes; rw [if_neg any1, if_pos (in0.mpr hb)]
  by_cases hp : c = 0 ∨ Pr c
  rotate_left
  · refine sim_same h (r := -1) ?_ ?_
    · unfold f_X9_holes
      rw [e1, bnd_pos rfl, if_neg ht, if_neg (by omega), if_pos hb.2, if_pos (isMod0.mpr hp)]
    · unfold f_X10_holes
      rw [if_neg any1, if_neg (fun q => in0.mp q hb), if_pos (isPr0.mpr (fun q => hp (Or.inr q))), if_neg (fun q => hp (Or.inl q))]
  by_cases hl : c = 0 ∧ a = 2
  · refine sim_same h (r := -1) ?_ ?_
    · unfold f_X9_holes
      rw [e1, bnd_pos rfl, if_neg ht, if_neg (by omega), if_pos hb.2, if_neg (fun q => isMod0.mp q hp), if_pos hl.1, if_pos hl.2]
    · unfold f_X10_holes
      rw [if_neg any1, if_neg (fun q => in0.mp q hb), if_pos (isPr0.mpr (fun q => by have := q.b; omega)), if_pos hl.1, if_pos hl.2]
  have hcls : f_X9_holes a b c μ = f_X9_holes_J39 b c t μ := by
    unfold f_X9_holes
    rw [e1, bnd_pos rfl, if_neg ht, if_neg (by omega), if_pos hb.2, if_neg (fun q => isMod0.mp q hp)]
    by_cases q : c = 0
    · rw [if_pos q, if_neg (by omega)]
    · rw [if_neg q]
  have href : ∀ v : zMem, v 101 7 = μ 101 7 → f_X10_holes a b c v = f_X10_holes_J35 a b c v := by
    intro v hv
    have hany : f_X10_isAny a v = f_X10_isAny a μ := by unfold f_X10_isAny; rw [hv]
    unfold f_X10_holes
    rw [hany, if_neg any1, if_neg (fun q => in0.mp q hb)]
    by_cases q : c = 0
    · rw [if_pos (isPr0.mpr (fun z => by have := z.b; omega)), if_pos q, if_neg (by omega)]
    · rw [if_neg (fun z => isPr0.mp z (hp.resolve_left q))]
  have hrk := cnt_le (bfB (KG σ)) (sC σ).toNat
  have hC1 := we'.1
  have hC2 := we'.2.1
  have hE0 := we'.2.2.1
  have hE2 := we'.2.2.2.1
  have hP0 := wp'.1
  have hP2 := wp'.2.1
  have hrkb : 0 ≤ rkE σ ∧ rkE σ ≤ sC σ := by unfold rkE; omega
  have hR : ∀ v : zMem, FqR μ v → Rel v := fun v q => h.scr ⟨fun k hk _ => q k (by unfold rlv at hk; omega) (by unfold rlv at hk; omega), by rw [q 1 (by decide) (by decide)], by rw [q 19 (by decide) (by decide)], fun i _ => by rw [q 101 (by decide) (by decide)]⟩
  have hMS : ∀ v : zMem, FqR μ v → MS v a σ := fun v q => msp.congr fun k x y => q k (by omega) (by omega)
  have hCS : ∀ v : zMem, FqR μ v → CS v t σ := fun v q => cs.congr fun k x y => q k (by unfold PK at htp; omega) (by unfold PK at htp; omega)
  -- the reference, up to the ranks
  have refR : ∀ (v : zMem) (r2 res : Int), FqR μ v → (b ≠ 0 → (Pr c → r2 = elG (fP c) (sP σ) (sE σ).toNat 1 0 0 (fun i k => goE σ i k % c)) ∧ (c = 0 → ∃ m, FnB (sE σ).toNat (sP σ) (rwP σ) r2 m ∧ 0 ≤ r2 ∧ r2 ≤ sP σ)) → res = (if b = 0 then zw (sC σ - rkE σ) else if b = 1 then zw (zw (sE σ - rkE σ) - r2) else zw (sP σ - r2)) → Ok (f_X10_holes a b c v) (fun w => w.1 = res ∧ Rel w.2) := by
    intro v r2 res hv h2 hres
    have hm0 := hMS v hv
    rw [href v (by rw [hv 101 (by decide) (by decide)])]
    unfold f_X10_holes_J35
    refine ok_bnd2.mpr ((m_edgeRank ⟨ha0, ha3⟩ hm0 we').imp fun w q => ?_)
    obtain ⟨q1, q2⟩ := q
    have hm1 : MS w.2 a σ := q1.ms (by unfold noSp; decide) hm0
    have hrel1 : Rel w.2 := (hR v hv).scr (q1.kpt (fun k hk => by simp at hk; subst hk; unfold rlv; omega) (by decide))
    rw [q2]
    by_cases b0 : b = 0
    · rw [if_pos b0, chk_pos ⟨ha0, ha3⟩, hm1.1]
      exact ok_some.mpr ⟨by rw [hres, if_pos b0], hrel1⟩
    · rw [if_neg b0]
      obtain ⟨p1, p2⟩ := h2 b0
      have fin : ∀ (v2 : zMem) (x : Int), Fm [124, 125, 126, 127] [] w.2 v2 → x = r2 → Ok (f_X10_holes_J82 a b (rkE σ) x v2) (fun w => w.1 = res ∧ Rel w.2) := by
        intro v2 x hF hx
        have hm2 : MS v2 a σ := hF.ms (by unfold noSp; decide) hm1
        have hrel2 : Rel v2 := hrel1.scr (hF.kpt (fun k hk => by unfold rlv; simp at hk; omega) (by decide))
        unfold f_X10_holes_J82
        rw [hx, chk_pos ⟨ha0, ha3⟩, chk_pos ⟨ha0, ha3⟩, hm2.2.1, hm2.2.2.1]
        by_cases b1 : b = 1
        · rw [if_pos b1]
          exact ok_some.mpr ⟨by rw [hres, if_neg b0, if_pos b1], hrel2⟩
        · rw [if_neg b1]
          exact ok_some.mpr ⟨by rw [hres, if_neg b0, if_neg b1], hrel2⟩
      by_cases c0 : c = 0
      · rw [if_pos c0]
        obtain ⟨m, f1, f2, f3⟩ := p2 c0
        obtain ⟨hw8, hp8⟩ := hown (by omega)
        have h8 := hp8.2.1
        refine ok_bnd.mpr ((m_layCommon ⟨ha0, ha3⟩ hm1 hw8 hp8).imp fun v2 r => ?_)
        obtain ⟨r1, r2'⟩ := r
        have hcr := cm_rank r2' f1 ⟨f2, by omega⟩
        rw [bnd_pos (m_wholeRank ⟨f2, by omega⟩ hcr.1 hcr.2)]
        exact fin v2 r2 r1 rfl
      · rw [if_neg c0]
        have hpc := hp.resolve_left c0
        refine ok_bnd2.mpr ((m_faceRank ⟨ha0, ha3⟩ hpc hm1 we' wp').imp fun v2 r => ?_)
        obtain ⟨r1, r2'⟩ := r
        exact fin v2.2 v2.1 (r1.sub (by decide) (by decide)) (by rw [r2', p1 hpc, rk_lock _ hpc])
  rw [hcls]
  unfold f_X9_holes_J39
  by_cases b0 : b = 0
  · rw [if_pos b0]
    refine ok_bnd2.mpr ((c_rankOfEdges htp hp cs hz we).imp fun w q => ok_some.mpr ?_)
    obtain ⟨q1, q2⟩ := q
    rw [cs.1, q2]
    exact refR w.2 0 _ q1 (fun q => absurd b0 q) (by rw [if_pos b0])
  · rw [if_neg b0]
    have hpp : (c = 0 ∧ sP σ ≤ 8) ∨ Pr c := by
      rcases hp with q | q
      · exact Or.inl ⟨q, (hown (by omega)).2.2.1⟩
      · exact Or.inr q
    refine ok_bnd2.mpr ((c_rankOfPanes htp hpp cs hz we wp).imp fun w q => ?_)
    obtain ⟨q1, q2, q3⟩ := q
    have h2 : b ≠ 0 → (Pr c → w.1 = elG (fP c) (sP σ) (sE σ).toNat 1 0 0 (fun i k => goE σ i k % c)) ∧ (c = 0 → ∃ m, FnB (sE σ).toNat (sP σ) (rwP σ) w.1 m ∧ 0 ≤ w.1 ∧ w.1 ≤ sP σ) := fun _ => ⟨q2, fun z => ⟨_, q3 z⟩⟩
    have hcs2 := hCS w.2 q1
    by_cases b2 : b = 2
    · rw [if_pos b2, hcs2.2.2.1]
      exact ok_some.mpr (refR w.2 w.1 _ q1 h2 (by rw [if_neg b0, if_neg (by omega)]))
    · rw [if_neg b2]
      refine ok_bnd2.mpr ((c_rankOfEdges htp hp hcs2 hz we).imp fun x y => ok_some.mpr ?_)
      obtain ⟨y1, y2⟩ := y
      rw [hcs2.2.1, y2]
      exact refR x.2 w.1 _ (fun k p q => (y1 k p q).trans (q1 k p q)) h2 (by rw [if_neg b0, if_pos (by omega)])
