/-! DRAWN agrees -/
theorem m_isListed {μ : zMem} {one two a : Int} {l : List Wr} (h : Lsd μ a l) (ha : 0 ≤ a ∧ a + l.length ≤ 4700) : ∃ v, f_X10_isListed one two a (l.length : Int) μ = some v ∧ (v = 0 ∨ v = 1) ∧ (v = 1 ↔ ∃ r ∈ l, oneM r = one ∧ twoM r = two) := by
  have key : ∀ (m fu k : Nat) (v0 : Int), m + 1 < fu → k + m = l.length → (v0 = 0 ∨ v0 = 1) → ∃ v, f_X10_isListed_L7 one two a (l.length : Int) μ fu v0 (a + k) = some v ∧ (v = 0 ∨ v = 1) ∧ (v = 1 ↔ v0 = 1 ∨ ∃ j, ∃ hj : j < l.length, k ≤ j ∧ oneM l[j] = one ∧ twoM l[j] = two) := by
    intro m
    induction m with
    | zero =>
      intro fu k v0 hfu hk hv
      cases fu with
      | zero => omega
      | succ fu =>
        refine ⟨v0, ?_, hv, fun q => Or.inl q, fun q => ?_⟩
        · unfold f_X10_isListed_L7
          rw [zw_eq (by omega) (by omega), if_neg (by omega), chk_pos (by omega)]
        · rcases q with q | ⟨j, hj, h1, _⟩
          · exact q
          · omega
    | succ m ih =>
      intro fu k v0 hfu hk hv
      cases fu with
      | zero => omega
      | succ fu =>
        rcases hv with hv | hv
        rotate_left
        · refine ⟨1, ?_, Or.inr rfl, fun _ => Or.inl hv, fun _ => rfl⟩
          unfold f_X10_isListed_L7
          rw [zw_eq (by omega) (by omega), if_pos (by omega), hv, if_neg (by decide), chk_pos (by decide)]
        · have hl := h k (by omega)
          have st : ∀ v1, (v1 = 0 ∨ v1 = 1) → (v1 = 1 ↔ oneM (l[k]'(by omega)) = one ∧ twoM (l[k]'(by omega)) = two) → ∃ v, f_X10_isListed_J51 (a + k) (f_X10_isListed_L7 one two a (l.length : Int) μ fu) v1 = some v ∧ (v = 0 ∨ v = 1) ∧ (v = 1 ↔ v0 = 1 ∨ ∃ j, ∃ hj : j < l.length, k ≤ j ∧ oneM l[j] = one ∧ twoM l[j] = two) := by
            intro v1 hv1 hv2
            obtain ⟨v, a1, a2, a3⟩ := ih fu (k + 1) v1 (by omega) (by omega) hv1
            refine ⟨v, ?_, a2, ?_⟩
            · unfold f_X10_isListed_J51
              simp only [zlet]
              rw [zw_eq (by omega) (by omega), show a + (k : Int) + 1 = a + ((k + 1 : Nat) : Int) by omega]
              exact a1
            · rw [a3, hv2]
              constructor
              · rintro (q | ⟨j, hj, h1, h2⟩)
                · exact Or.inr ⟨k, by omega, by omega, q⟩
                · exact Or.inr ⟨j, hj, by omega, h2⟩
              · rintro (q | ⟨j, hj, h1, h2⟩)
                · omega
                · by_cases hjk : j = k
                  · subst hjk; exact Or.inl h2
                  · exact Or.inr ⟨j, hj, by omega, h2⟩
          unfold f_X10_isListed_L7
          rw [zw_eq (by omega) (by omega), if_pos (by omega), if_pos hv, chk_pos (by omega), chk_pos (by omega), hl.1, hl.2]
          unfold f_X10_isListed_J50
          by_cases q1 : oneM (l[k]'(by omega)) = one
          · rw [if_pos q1]
            by_cases q2 : twoM (l[k]'(by omega)) = two
            · rw [if_pos q2]
              exact st 1 (Or.inr rfl) ⟨fun _ => ⟨q1, q2⟩, fun _ => rfl⟩
            · rw [if_neg q2]
              exact st 0 (Or.inl rfl) ⟨fun q => absurd q (by decide), fun q => absurd q.2 q2⟩
          · rw [if_neg q1]
            exact st 0 (Or.inl rfl) ⟨fun q => absurd q (by decide), fun q => absurd q.1 q1⟩
  obtain ⟨v, a1, a2, a3⟩ := key l.length zfu 0 0 (by unfold zfu; omega) (by omega) (Or.inl rfl)
  refine ⟨v, ?_, a2, ?_⟩
  · unfold f_X10_isListed
    rw [show a + ((0 : Nat) : Int) = a by omega] at a1
    exact a1
  · rw [a3]
    constructor
    · rintro (q | ⟨j, hj, _, h2⟩)
      · exact absurd q (by decide)
      · exact ⟨l[j], List.getElem_mem hj, h2⟩
    · rintro ⟨r, hr, h2⟩
      obtain ⟨j, hj, e⟩ := List.mem_iff_getElem.mp hr
      refine Or.inr ⟨j, hj, by omega, ?_⟩
      rw [e]
      exact h2
theorem all_mem {X : Int → Int → Nat → List Wr} {σ : Sp} {L : Int} {r : Wr} (hL : 0 ≤ L) : r ∈ (List.range' 0 (L + 1).toNat).flatMap (fun (a : Nat) => (List.range' 0 (sP σ).toNat).flatMap (fun (f : Nat) => (List.range' 0 (sL σ f).toNat).flatMap (X a f))) ↔ ∃ a f i : Nat, (a : Int) ≤ L ∧ (f : Int) < sP σ ∧ (i : Int) < sL σ f ∧ r ∈ X a f i := by
  rw [List.mem_flatMap]
  constructor
  · rintro ⟨a, ha, h⟩
    rw [List.mem_flatMap] at h
    obtain ⟨f, hf, h⟩ := h
    rw [List.mem_flatMap] at h
    obtain ⟨i, hi, h⟩ := h
    rw [List.mem_range'_1] at ha hf hi
    exact ⟨a, f, i, by omega, by omega, by omega, h⟩
  · rintro ⟨a, f, i, ha, hf, hi, h⟩
    refine ⟨a, by rw [List.mem_range'_1]; omega, ?_⟩
    rw [List.mem_flatMap]
    refine ⟨f, by rw [List.mem_range'_1]; omega, ?_⟩
    rw [List.mem_flatMap]
    exact ⟨i, by rw [List.mem_range'_1]; omega, h⟩
/-- the same words on both sides -/
theorem c_r_all {σ : Sp} {w : Int → Int} {L beg : Int} (hp : WfP σ 8) (hL : 0 ≤ L) (r : Wr) : r ∈ cAll σ w L beg ↔ r ∈ rAll σ w L beg := by
  have h1 := all_mem (X := cIn σ w L beg) (σ := σ) (r := r) hL
  have h2 := all_mem (X := rIn σ w L beg) (σ := σ) (r := r) hL
  have e1 : r ∈ cAll σ w L beg ↔ _ := h1
  have e2 : r ∈ rAll σ w L beg ↔ _ := h2
  rw [e1, e2]
  constructor
  · rintro ⟨a, f, i, ha, hf, hi, h⟩
    obtain ⟨p1, p2, p3, p4, p5⟩ := hp.2.2 f (by omega) hf
    unfold cIn at h
    rcases List.mem_append.mp h with h | h
    · by_cases hA : sA σ (sR σ f i) = crn σ w beg a
      · rw [if_pos hA] at h
        refine ⟨a, f, i, ha, hf, hi, ?_⟩
        unfold rIn
        rw [if_pos hA]
        exact List.mem_cons.mpr (Or.inl (List.mem_singleton.mp h))
      · rw [if_neg hA] at h
        simp at h
    · by_cases hB : sB σ (sR σ f i) = crn σ w beg a
      · rw [if_pos hB] at h
        by_cases hlast : (i : Int) + 1 < sL σ f
        · refine ⟨a, f, i + 1, ha, hf, by omega, ?_⟩
          have hA : sA σ (sR σ f ((i + 1 : Nat) : Int)) = crn σ w beg a := by
            rw [show ((i + 1 : Nat) : Int) = (i : Int) + 1 by omega, ← p4 i (by omega) hlast]; exact hB
          have eb : aB (sL σ f) ((i + 1 : Nat) : Int) = i := by unfold aB; rw [if_neg (by omega)]; omega
          unfold rIn
          rw [if_pos hA, eb]
          exact List.mem_cons.mpr (Or.inr h)
        · refine ⟨a, f, 0, ha, hf, by omega, ?_⟩
          have hA : sA σ (sR σ f ((0 : Nat) : Int)) = crn σ w beg a := by
            have : (i : Int) = sL σ f - 1 := by omega
            rw [this] at hB
            rw [show ((0 : Nat) : Int) = 0 from rfl, ← p5]; exact hB
          have eb : aB (sL σ f) ((0 : Nat) : Int) = i := by unfold aB; rw [if_pos (by decide)]; omega
          unfold rIn
          rw [if_pos hA, eb]
          exact List.mem_cons.mpr (Or.inr h)
      · rw [if_neg hB] at h
        simp at h
  · rintro ⟨a, f, i, ha, hf, hi, h⟩
    obtain ⟨p1, p2, p3, p4, p5⟩ := hp.2.2 f (by omega) hf
    unfold rIn at h
    by_cases hA : sA σ (sR σ f i) = crn σ w beg a
    · rw [if_pos hA] at h
      rcases List.mem_cons.mp h with h | h
      · refine ⟨a, f, i, ha, hf, hi, ?_⟩
        unfold cIn
        rw [if_pos hA]
        exact List.mem_append_left _ (List.mem_singleton.mpr h)
      · have hb : 0 ≤ aB (sL σ f) i ∧ aB (sL σ f) i < sL σ f := by unfold aB; split <;> omega
        have hB : sB σ (sR σ f (aB (sL σ f) i)) = crn σ w beg a := by
          unfold aB
          by_cases h0 : (i : Int) = 0
          · rw [if_pos h0, p5, ← h0]; exact hA
          · rw [if_neg h0, p4 ((i : Int) - 1) (by omega) (by omega), show (i : Int) - 1 + 1 = i by omega]; exact hA
        refine ⟨a, f, (aB (sL σ f) i).toNat, ha, hf, by omega, ?_⟩
        unfold cIn
        rw [show (((aB (sL σ f) i).toNat : Nat) : Int) = aB (sL σ f) i by omega, if_pos hB]
        exact List.mem_append_right _ h
    · rw [if_neg hA] at h
      simp at h
theorem m_drawnJ {μ : zMem} {a b s L1 L2 beg : Int} {σ : Sp} {w1 w2 : Int → Int} (hs : 0 ≤ s ∧ s < 2) (hc : MS μ s σ) (hw : WfE σ 8 12) (hp : WfP σ 8) (h1 : SlM μ a s L1 beg w1) (h2 : SlM μ b s L2 beg w2) (hE1 : ∀ i, 0 ≤ i → i < L1 → w1 i < 2 * sE σ) (hE2 : ∀ i, 0 ≤ i → i < L2 → w2 i < 2 * sE σ) : Ok (f_X10_drawn_J75 a b 1 μ) (fun v => Fm [154, 156, 157] [51, 53] μ v.2 ∧ DrR (fun r => r ∈ cAll σ w1 L1 beg ∧ r.1 ≤ 16) (fun r => r ∈ cAll σ w2 L2 beg ∧ r.1 ≤ 16) (pshs (0, fun _ => 0) w1 L1.toNat) (pshs (0, fun _ => 0) w2 L2.toNat) v.1) := by
  have r0 : Rb (0, fun _ => 0) 12 := ⟨Int.le_refl 0, fun i a b => by have : i < 0 := b; omega⟩
  have q0 : ((0 : Int), fun (_ : Int) => (0 : Int)).1 = 0 := rfl
  have hL1 := h1.2.2.2.2.2.1
  have hL1' := h1.2.2.2.2.2.2.1
  have hL2 := h2.2.2.2.2.2.1
  have hL2' := h2.2.2.2.2.2.2.1
  have hr1 := pshs_rb (w := w1) r0 L1.toNat (fun i x y => h1.2.2.2.2.2.2.2 i x (by omega))
  have hr2 := pshs_rb (w := w2) r0 L2.toNat (fun i x y => h2.2.2.2.2.2.2.2 i x (by omega))
  have hb1 := hr1.2
  have hb2 := hr2.2
  have hA := cAll_rb (beg := beg) hw hp h1.2.2.2.2.2.2.2 ⟨hL1, hL1'⟩
  have hB := cAll_rb (beg := beg) hw hp h2.2.2.2.2.2.2.2 ⟨hL2, hL2'⟩
  have hlr : ∀ (w : Int → Int) (L : Int), 0 ≤ L ∧ L ≤ 16 → (rAll σ w L beg).length ≤ 2176 := by
    intro w L hL
    have := fm_len (rPl σ w L beg) 128 (L + 1).toNat 0 (fun a _ _ => by
      have := fm_len (rPn σ w L beg a) 16 (sP σ).toNat 0 (fun j _ hj => by
        obtain ⟨p1, p2, p3, _⟩ := hp.2.2 j (by omega) (by have := hp.1; omega)
        have := fm_len (rIn σ w L beg a j) 2 (sL σ j).toNat 0 (fun j _ _ => rIn_len _ _ _ _ _ _ _)
        unfold rPn
        omega)
      have := hp.2.1
      unfold rPl
      omega)
    unfold rAll
    omega
  have hmA : ∀ r, r ∈ (rAll σ w1 L1 beg).filter shw ↔ r ∈ cAll σ w1 L1 beg ∧ r.1 ≤ 16 := by
    intro r
    rw [List.mem_filter, c_r_all hp hL1]
    simp [shw]
  have hmB : ∀ r, r ∈ (rAll σ w2 L2 beg).filter shw ↔ r ∈ cAll σ w2 L2 beg ∧ r.1 ≤ 16 := by
    intro r
    rw [List.mem_filter, c_r_all hp hL2]
    simp [shw]
  have l1 : (pshs (0, fun _ => 0) w1 L1.toNat).1 ≤ 16 := by omega
  have l2 : (pshs (0, fun _ => 0) w2 L2.toNat).1 ≤ 16 := by omega
  have hpk := packM hr1.1 hr2.1 l1 l2
  generalize hR1 : pshs (0, fun _ => 0) w1 L1.toNat = r1 at *
  generalize hR2 : pshs (0, fun _ => 0) w2 L2.toNat = r2 at *
  unfold f_X10_drawn_J75
  rw [if_neg (by decide)]
  refine ok_bnd.mpr ((m_makeSlot h1).imp fun μ3 q => ?_)
  obtain ⟨q1, q2⟩ := q
  rw [hR1] at q2
  refine ok_bnd.mpr ((m_list q2 hr1.1 (by omega) (k := 4799) (by decide)).imp fun μ4 e4 => ?_)
  simp only [zlet]
  have g4 : Fm [154, 156, 157] [51, 53] μ μ4 := by
    rw [e4]
    exact ((q1.sub (by decide) (by decide)).up (by decide) (by decide) _ _).up (by decide) (by decide) _ _
  have x5 : μ4 156 4799 = oneM r1 := by rw [e4, zup_n _ _ _ (by decide), zup_s, up1_s]
  have x6 : μ4 157 4799 = twoM r1 := by rw [e4, zup_s, up1_s]
  refine ok_bnd.mpr ((m_makeSlot (h2.cg fun c x y => g4.1 c (by simp; omega) (by omega))).imp fun μ7 p => ?_)
  obtain ⟨p1, p2⟩ := p
  rw [hR2] at p2
  refine ok_bnd.mpr ((m_list p2 hr2.1 (by omega) (k := 4799) (by decide)).imp fun μ8 e8 => ?_)
  have g8 : Fm [154, 156, 157] [51, 53] μ μ8 := by
    rw [e8]
    exact ((g4.trans (p1.sub (by decide) (by decide))).up (by decide) (by decide) _ _).up (by decide) (by decide) _ _
  have x9 : μ8 156 4799 = oneM r2 := by rw [e8, zup_n _ _ _ (by decide), zup_s, up1_s]
  have x10 : μ8 157 4799 = twoM r2 := by rw [e8, zup_s, up1_s]
  rw [x5, x6, x9, x10]
  have J : ¬ Weq r1 r2 → Ok (f_X10_drawn_J164 a b (oneM r1) (twoM r1) (oneM r2) (twoM r2) μ8) (fun v => Fm [154, 156, 157] [51, 53] μ v.2 ∧ DrR (fun r => r ∈ cAll σ w1 L1 beg ∧ r.1 ≤ 16) (fun r => r ∈ cAll σ w2 L2 beg ∧ r.1 ≤ 16) r1 r2 v.1) := by
    intro hne
    have fA := List.length_filter_le shw (rAll σ w1 L1 beg)
    have fB := List.length_filter_le shw (rAll σ w2 L2 beg)
    have lA := hlr w1 L1 ⟨hL1, hL1'⟩
    have lB := hlr w2 L2 ⟨hL2, hL2'⟩
    unfold f_X10_drawn_J164
    refine ok_bnd.mpr ((m_layNext (a := 0) (h1.cg fun c x y => g8.1 c (by simp; omega) (by omega)) hs (g8.ms (by unfold noSp; decide) hc) hw hp hE1 (by decide)).imp fun μa ja => ?_)
    obtain ⟨a1, a2, a3, a4⟩ := ja
    have ga := g8.trans a1
    simp only [zlet]
    rw [a2]
    refine ok_bnd.mpr ((m_layNext (a := 2400) (h2.cg fun c x y => ga.1 c (by simp; omega) (by omega)) hs (ga.ms (by unfold noSp; decide) hc) hw hp hE2 (by decide)).imp fun μb jb => ?_)
    obtain ⟨b1, b2, b3, b4⟩ := jb
    have gb := ga.trans b1
    have a3' : Lsd μb 0 ((rAll σ w1 L1 beg).filter shw) := a3.cg fun j x y => b4 j (by omega)
    obtain ⟨v1, v2, v3, v4⟩ := m_isListed (one := oneM r2) (two := twoM r2) a3' ⟨by omega, by omega⟩
    obtain ⟨y1, y2, y3, y4⟩ := m_isListed (one := oneM r1) (two := twoM r1) b3 ⟨by omega, by omega⟩
    have c1 : v1 = 1 ↔ ∃ r, (r ∈ cAll σ w1 L1 beg ∧ r.1 ≤ 16) ∧ Weq r r2 := by
      rw [v4]
      constructor
      · rintro ⟨r, hr, he⟩
        have hm := (hmA r).mp hr
        exact ⟨r, hm, (packM (hA.2 r hm.1) hr2.1 hm.2 l2).mp he⟩
      · rintro ⟨r, hm, he⟩
        exact ⟨r, (hmA r).mpr hm, (packM (hA.2 r hm.1) hr2.1 hm.2 l2).mpr he⟩
    have c2 : y1 = 1 ↔ ∃ r, (r ∈ cAll σ w2 L2 beg ∧ r.1 ≤ 16) ∧ Weq r r1 := by
      rw [y4]
      constructor
      · rintro ⟨r, hr, he⟩
        have hm := (hmB r).mp hr
        exact ⟨r, hm, (packM (hB.2 r hm.1) hr1.1 hm.2 l1).mp he⟩
      · rintro ⟨r, hm, he⟩
        exact ⟨r, (hmB r).mpr hm, (packM (hB.2 r hm.1) hr1.1 hm.2 l1).mpr he⟩
    rw [bnd_pos v2, b2, bnd_pos y2]
    by_cases hv : v1 = 0
    · rw [if_pos hv]
      by_cases hy : y1 = 0
      · rw [if_pos hy]
        have hno : ¬ ((∃ r, (r ∈ cAll σ w1 L1 beg ∧ r.1 ≤ 16) ∧ Weq r r2) ∨ ∃ r, (r ∈ cAll σ w2 L2 beg ∧ r.1 ≤ 16) ∧ Weq r r1) := by
          rintro (h | h)
          · have := c1.mpr h; omega
          · have := c2.mpr h; omega
        have key : ∀ (m fu k : Nat), m < fu → k + m = ((rAll σ w1 L1 beg).filter shw).length → (∀ j (hj : j < ((rAll σ w1 L1 beg).filter shw).length), j < k → ¬ ∃ r, (r ∈ cAll σ w2 L2 beg ∧ r.1 ≤ 16) ∧ Weq r ((rAll σ w1 L1 beg).filter shw)[j]) → Ok (f_X10_drawn_L221 (((rAll σ w1 L1 beg).filter shw).length : Int) fu (k : Int) μb) (fun v => Fm [154, 156, 157] [51, 53] μ v.2 ∧ DrR (fun r => r ∈ cAll σ w1 L1 beg ∧ r.1 ≤ 16) (fun r => r ∈ cAll σ w2 L2 beg ∧ r.1 ≤ 16) r1 r2 v.1) := by
          intro m
          induction m with
          | zero =>
            intro fu k hfu hk hj
            cases fu with
            | zero => omega
            | succ fu =>
              unfold f_X10_drawn_L221
              rw [if_neg (by omega)]
              refine ok_some.mpr ⟨gb, Or.inr (Or.inr (Or.inr ⟨hne, hno, ?_, rfl⟩))⟩
              rintro ⟨r, t, h3, h4, h5⟩
              obtain ⟨j, hj2, e⟩ := List.mem_iff_getElem.mp ((hmA t).mpr h4)
              refine hj j hj2 (by omega) ⟨r, h3, ?_⟩
              rw [e]; exact h5
          | succ m ih =>
            intro fu k hfu hk hj
            cases fu with
            | zero => omega
            | succ fu =>
              have hkl : k < ((rAll σ w1 L1 beg).filter shw).length := by omega
              have hl := a3' k hkl
              rw [Int.zero_add] at hl
              have hmk := (hmA _).mp (List.getElem_mem hkl)
              obtain ⟨z1, z2, z3, z4⟩ := m_isListed (one := oneM ((rAll σ w1 L1 beg).filter shw)[k]) (two := twoM ((rAll σ w1 L1 beg).filter shw)[k]) b3 ⟨by omega, by omega⟩
              have c3 : z1 = 1 ↔ ∃ r, (r ∈ cAll σ w2 L2 beg ∧ r.1 ≤ 16) ∧ Weq r ((rAll σ w1 L1 beg).filter shw)[k] := by
                rw [z4]
                constructor
                · rintro ⟨r, hr, he⟩
                  have hm := (hmB r).mp hr
                  exact ⟨r, hm, (packM (hB.2 r hm.1) (hA.2 _ hmk.1) hm.2 hmk.2).mp he⟩
                · rintro ⟨r, hm, he⟩
                  exact ⟨r, (hmB r).mpr hm, (packM (hB.2 r hm.1) (hA.2 _ hmk.1) hm.2 hmk.2).mpr he⟩
              unfold f_X10_drawn_L221
              simp only [zlet]
              rw [if_pos (by omega), chk_pos (by omega), chk_pos (by omega), hl.1, hl.2, b2, bnd_pos z2]
              by_cases hz : z1 = 0
              · rw [if_pos hz, zw_eq (by omega) (by omega), show (k : Int) + 1 = ((k + 1 : Nat) : Int) by omega]
                refine ih fu (k + 1) (by omega) (by omega) fun j hj2 hjk => ?_
                by_cases e : j = k
                · subst e
                  intro q
                  have := c3.mpr q
                  omega
                · exact hj j hj2 (by omega)
              · rw [if_neg hz]
                obtain ⟨r, h3, h4⟩ := c3.mp (z3.resolve_left hz)
                exact ok_some.mpr ⟨gb, Or.inr (Or.inr (Or.inl ⟨hne, hno, ⟨r, _, h3, hmk, h4⟩, rfl⟩))⟩
        exact key ((rAll σ w1 L1 beg).filter shw).length zfu 0 (by unfold zfu; omega) (by omega) (fun j _ hj => by omega)
      · rw [if_neg hy]
        exact ok_some.mpr ⟨gb, Or.inr (Or.inl ⟨hne, Or.inr (c2.mp (y3.resolve_left hy)), rfl⟩)⟩
    · rw [if_neg hv]
      exact ok_some.mpr ⟨gb, Or.inr (Or.inl ⟨hne, Or.inl (c1.mp (v3.resolve_left hv)), rfl⟩)⟩
  by_cases e1 : oneM r1 = oneM r2
  · rw [if_pos e1]
    by_cases e2 : twoM r1 = twoM r2
    · rw [if_pos e2]
      exact ok_some.mpr ⟨g8, Or.inl ⟨hpk.mp ⟨e1, e2⟩, rfl⟩⟩
    · rw [if_neg e2]
      exact J fun q => e2 (hpk.mpr q).2
  · rw [if_neg e1]
    exact J fun q => e1 (hpk.mpr q).1
