/-! the class tells how far two words are apart -/
theorem c_fillL {μ : zMem} {k v : Int} (hz : 0 ≤ zlen k ∧ zlen k ≤ 4096) : Ok (f_J7_fill_d0a16 k v μ) (fun μ' => (∀ k', k' ≠ k → μ' k' = μ k') ∧ ∀ i, μ' k i = if 0 ≤ i ∧ i < zlen k then v else μ k i) := by
  have key : ∀ (n : Nat) (x : Int) (μ1 : zMem), 0 ≤ x → x ≤ zlen k → (zlen k - x).toNat < n → (∀ k', k' ≠ k → μ1 k' = μ k') → (∀ i, μ1 k i = if 0 ≤ i ∧ i < x then v else μ k i) → Ok (f_J7_fill_d0a16_L6 k v (zlen k) n x μ1) (fun μ' => (∀ k', k' ≠ k → μ' k' = μ k') ∧ ∀ i, μ' k i = if 0 ≤ i ∧ i < zlen k then v else μ k i) := by
    intro n
    induction n with
    | zero => intro x μ1 _ _ h; omega
    | succ n ih =>
      intro x μ1 x0 x1 x2 g1 g2
      unfold f_J7_fill_d0a16_L6
      by_cases hx : x < zlen k
      · rw [if_pos hx, chk_pos (by omega)]
        simp only [zlet]
        rw [zw_eq (by omega) (by omega)]
        refine ih (x + 1) _ (by omega) (by omega) (by omega) (fun k' h => by rw [zup_n _ _ _ h]; exact g1 k' h) (fun i => ?_)
        rw [zup_s, up1_e]
        by_cases hi : i = x
        · rw [if_pos hi, if_pos (by omega)]
        · rw [if_neg hi, g2]
          by_cases h2 : 0 ≤ i ∧ i < x
          · rw [if_pos h2, if_pos (by omega)]
          · rw [if_neg h2, if_neg (by omega)]
      · rw [if_neg hx]
        have : x = zlen k := by omega
        subst this
        exact ok_some.mpr ⟨g1, g2⟩
  unfold f_J7_fill_d0a16
  simp only [zlet]
  exact key zfu 0 μ (by omega) (by omega) (by unfold zfu; omega) (fun _ _ => rfl) (fun i => by rw [if_neg (by omega)])
/-- how far apart: v, from the next words of both -/
def DrR (PA PB : Wr → Prop) (r1 r2 : Wr) (v : Int) : Prop := (Weq r1 r2 ∧ v = 0) ∨ (¬ Weq r1 r2 ∧ ((∃ r, PA r ∧ Weq r r2) ∨ (∃ r, PB r ∧ Weq r r1)) ∧ v = 1) ∨ (¬ Weq r1 r2 ∧ ¬ ((∃ r, PA r ∧ Weq r r2) ∨ (∃ r, PB r ∧ Weq r r1)) ∧ (∃ r s, PB r ∧ PA s ∧ Weq r s) ∧ v = 2) ∨ (¬ Weq r1 r2 ∧ ¬ ((∃ r, PA r ∧ Weq r r2) ∨ (∃ r, PB r ∧ Weq r r1)) ∧ ¬ (∃ r s, PB r ∧ PA s ∧ Weq r s) ∧ v = -5)
theorem DrR.uniq {PA PB : Wr → Prop} {r1 r2 : Wr} {v v' : Int} (h : DrR PA PB r1 r2 v) (h' : DrR PA PB r1 r2 v') : v = v' := by
  rcases h with ⟨a, b⟩ | ⟨a, b, c⟩ | ⟨a, b, c, d⟩ | ⟨a, b, c, d⟩ <;> rcases h' with ⟨a', b'⟩ | ⟨a', b', c'⟩ | ⟨a', b', c', d'⟩ | ⟨a', b', c', d'⟩ <;> first | omega | (exact absurd a a') | (exact absurd a' a) | (exact absurd b b') | (exact absurd b' b) | (exact absurd c c') | (exact absurd c' c)
theorem slt_rb {μ : zMem} {x L : Int} {w : Int → Int} (hs : Slt μ x L w) : Rb (pshs (0, fun _ => 0) w L.toNat) 12 ∧ (pshs (0, fun _ => 0) w L.toNat).1 ≤ 16 := by
  obtain ⟨s1, s2, s3, s4, s5, s6, s7, s8⟩ := hs
  have r0 : Rb (0, fun _ => 0) 12 := ⟨Int.le_refl 0, fun i a b => by have : i < 0 := b; omega⟩
  have h := pshs_rb (w := w) r0 L.toNat (fun i a b => s8 i a (by omega))
  have q0 : ((0 : Int), fun (_ : Int) => (0 : Int)).1 = 0 := rfl
  exact ⟨h.1, by have := h.2; omega⟩
theorem cAll_rb {σ : Sp} {w : Int → Int} {L beg : Int} (hw : WfE σ 8 12) (hp : WfP σ 8) (h8 : ∀ i, 0 ≤ i → i < L → 0 ≤ w i ∧ w i < 24) (hL : 0 ≤ L ∧ L ≤ 16) : (cAll σ w L beg).length ≤ 2176 ∧ ∀ r ∈ cAll σ w L beg, Rb r 12 := by
  constructor
  · have := fm_len (cPl σ w L beg) 128 (L + 1).toNat 0 (fun a _ _ => by
      have := fm_len (cPn σ w L beg a) 16 (sP σ).toNat 0 (fun j _ hj => by
        obtain ⟨p1, p2, p3, _⟩ := hp.2.2 j (by omega) (by have := hp.1; omega)
        have := fm_len (cIn σ w L beg a j) 2 (sL σ j).toNat 0 (fun j _ _ => cIn_len _ _ _ _ _ _ _)
        unfold cPn
        omega)
      have := hp.2.1
      unfold cPl
      omega)
    unfold cAll
    omega
  · intro r hr
    unfold cAll at hr
    rw [List.mem_flatMap] at hr
    obtain ⟨a, ha, hr⟩ := hr
    unfold cPl at hr
    rw [List.mem_flatMap] at hr
    obtain ⟨f, hf, hr⟩ := hr
    unfold cPn at hr
    rw [List.mem_flatMap] at hr
    obtain ⟨i, hi, hr⟩ := hr
    rw [List.mem_range'_1] at ha hf hi
    have hff : 0 ≤ (f : Int) ∧ (f : Int) < sP σ := ⟨by omega, by omega⟩
    have hl := (hp.2.2 f hff.1 hff.2).1
    have hrot := rot_rg hw hp hff (a := i) ⟨by omega, by omega⟩
    unfold cIn at hr
    rcases List.mem_append.mp hr with h | h
    · split at h
      · rw [List.mem_singleton.mp h]
        exact (nxw_rb h8 (fun j p q => (hrot j p q).1) ⟨by omega, by omega⟩ (by omega)).1
      · simp at h
    · split at h
      · rw [List.mem_singleton.mp h]
        exact (nxw_rb h8 (fun j p q => (hrot j p q).2) ⟨by omega, by omega⟩ (by omega)).1
      · simp at h
theorem c_findApart {μ : zMem} {u x y L1 L2 beg : Int} {σ : Sp} {w1 w2 : Int → Int} (hu : 36 < u ∧ u < 58) (hc : CS μ u σ) (hz : SZ u 8 12 8) (hw : WfE σ 8 12) (hp : WfP σ 8) (hs1 : Slt μ x L1 w1) (hs2 : Slt μ y L2 w2) (hE1 : ∀ i, 0 ≤ i → i < L1 → w1 i < 2 * sE σ) (hE2 : ∀ i, 0 ≤ i → i < L2 → w2 i < 2 * sE σ) (hb1 : μ x 3 = beg) (hb2 : μ y 3 = beg) : Ok (f_X0_findApart u x y μ) (fun v => (∀ k, ¬ (33 ≤ k ∧ k ≤ 36) → v.2 k = μ k) ∧ DrR (fun r => r ∈ cAll σ w1 L1 beg ∧ r.1 ≤ 16) (fun r => r ∈ cAll σ w2 L2 beg ∧ r.1 ≤ 16) (pshs (0, fun _ => 0) w1 L1.toNat) (pshs (0, fun _ => 0) w2 L2.toNat) v.1) := by
  have hr1 := slt_rb hs1
  have hr2 := slt_rb hs2
  have hx := hs1.2.2.2.2.2.1
  have hx2 := hs1.2.2.2.2.2.2.1
  have hy := hs2.2.2.2.2.2.1
  have hy2 := hs2.2.2.2.2.2.2.1
  have hpk := packC hr1.1 hr2.1 hr1.2 hr2.2
  have hA := cAll_rb (beg := beg) hw hp hs1.2.2.2.2.2.2.2 ⟨hs1.2.2.1, hs1.2.2.2.1⟩
  generalize hR1 : pshs (0, fun _ => 0) w1 L1.toNat = r1 at *
  generalize hR2 : pshs (0, fun _ => 0) w2 L2.toNat = r2 at *
  unfold f_X0_findApart
  refine ok_bnd.mpr ((c_fillL (k := 35) (v := 0) (by decide)).imp fun μ1 q => ?_)
  obtain ⟨q1, q2⟩ := q
  simp only [zlet]
  have hz35 : zlen 35 = 4096 := by decide
  have f2 : ∀ k, k ≠ 35 → k ≠ 33 → zup μ1 33 9 0 k = μ k := fun k a b => by rw [zup_n _ _ _ b]; exact q1 k a
  have f9 : zup μ1 33 9 0 33 9 = 0 := by rw [zup_s, up1_s]
  have f35 : ∀ i, 0 ≤ i → i < 4096 → zup μ1 33 9 0 35 i = 0 := fun i a b => by rw [zup_n _ _ _ (by decide), q2, if_pos (by omega)]
  generalize zup μ1 33 9 0 = μ2 at *
  have t2 : Tbl (μ2 34) (μ2 35) [] := by
    refine ⟨fun j a b hj => absurd (f35 j a b) hj, fun K hK => absurd hK (by simp), ?_⟩
    have := cnt_congr (r := fun i => !(decide (μ2 35 i = 0))) (q := fun _ => false) 4096 (fun c a b => by simp [f35 c a b])
    rw [this]
    have h0 : ∀ n : Nat, cnt (fun _ => false) n = 0 := by
      intro n
      induction n with
      | zero => rfl
      | succ n ih => unfold cnt; rw [ih]; rfl
    rw [h0]
    simp
  refine ok_bnd.mpr ((c_seek (hs1.cg fun k a b => f2 k (by omega) (by omega))).imp fun μ3 p => ?_)
  obtain ⟨p1, p2, p3, p4, p5, p6⟩ := p
  rw [hR1] at p2 p3
  have f3 : ∀ k, ¬ (33 ≤ k ∧ k ≤ 36) → μ3 k = μ k := fun k a => by rw [p1.1 k (by simp; omega) (by omega)]; exact f2 k (by omega) (by omega)
  refine ok_bnd.mpr ((c_seek (hs2.cg fun k a b => f3 k (by omega))).imp fun μ6 s => ?_)
  obtain ⟨s1, s2, s3, s4, s5, s6⟩ := s
  rw [hR2] at s2 s3 s4 s5
  have f6 : ∀ k, ¬ (33 ≤ k ∧ k ≤ 36) → μ6 k = μ k := fun k a => by rw [s1.1 k (by simp; omega) (by omega)]; exact f3 k a
  rw [p2, p3, s2, s3]
  have J : ¬ Weq r1 r2 → Ok (f_X0_findApart_J57 u x y μ6) (fun v => (∀ k, ¬ (33 ≤ k ∧ k ≤ 36) → v.2 k = μ k) ∧ DrR (fun r => r ∈ cAll σ w1 L1 beg ∧ r.1 ≤ 16) (fun r => r ∈ cAll σ w2 L2 beg ∧ r.1 ≤ 16) r1 r2 v.1) := by
    intro hne
    have hJ0 : Jd 1 r2 [] [] μ6 μ6 := by
      refine ⟨Fw.refl _ _ _, s4, s5, ⟨Or.inl s6, ?_⟩, ⟨Or.inl ?_, ?_⟩, ?_⟩
      · rw [s6]
        exact ⟨fun q => absurd q (by decide), fun ⟨r, hr, _⟩ => absurd hr (by simp)⟩
      · rw [s1.2 9 (by decide), p1.2 9 (by decide)]; exact f9
      · rw [s1.2 9 (by decide), p1.2 9 (by decide), f9]
        exact ⟨fun q => absurd q (by decide), fun ⟨q, _⟩ => absurd q (by decide)⟩
      · rw [s1.1 34 (by decide) (by decide), s1.1 35 (by decide) (by decide), p1.1 34 (by decide) (by decide), p1.1 35 (by decide) (by decide)]
        exact t2
    unfold f_X0_findApart_J57
    refine ok_bnd.mpr ((c_drawAll (beg := beg) hu (hc.congr fun k a b => f6 k (by omega)) hz hw hp (hs1.cg fun k a b => f6 k (by omega)) hE1 (by rw [f6 x (by omega)]; exact hb1) (Or.inr rfl) hr2 (fun s hs => absurd hs (by simp)) (by simp) hJ0).imp fun μ8 j => ?_)
    obtain ⟨j1, j2, j3, ⟨j4, j5⟩, ⟨j6, j7⟩, j8⟩ := j
    have f8 : ∀ k, ¬ (33 ≤ k ∧ k ≤ 36) → μ8 k = μ k := fun k a => by rw [j1.1 k (by simp; omega) (by omega)]; exact f6 k a
    by_cases h8 : μ8 33 8 = 0
    · rw [if_pos h8]
      have hn1 : ¬ ∃ r, (r ∈ cAll σ w1 L1 beg ∧ r.1 ≤ 16) ∧ Weq r r2 := by
        rintro ⟨r, ⟨a, b⟩, c⟩
        have := j5.mpr ⟨r, a, b, c⟩
        omega
      have h9 : μ8 33 9 = 0 := by
        rcases j6 with h | h
        · exact h
        · exact absurd (j7.mp h).1 (by decide)
      refine ok_bnd.mpr ((c_seek (hs1.cg fun k a b => f8 k (by omega))).imp fun μ9 v => ?_)
      obtain ⟨v1, v2, v3, v4, v5, v6⟩ := v
      rw [hR1] at v4 v5
      have f9' : ∀ k, ¬ (33 ≤ k ∧ k ≤ 36) → μ9 k = μ k := fun k a => by rw [v1.1 k (by simp; omega) (by omega)]; exact f8 k a
      have hS : ∀ s ∈ (cAll σ w1 L1 beg).filter shw, Rb s 12 ∧ s.1 ≤ 16 := by
        intro s hs
        rw [List.mem_filter] at hs
        exact ⟨hA.2 s hs.1, by simpa [shw] using hs.2⟩
      have hSl : ((cAll σ w1 L1 beg).filter shw).length < 4096 := by
        have := List.length_filter_le shw (cAll σ w1 L1 beg)
        have := hA.1
        omega
      have hJ9 : Jd 0 r1 ((cAll σ w1 L1 beg).filter shw) [] μ9 μ9 := by
        refine ⟨Fw.refl _ _ _, v4, v5, ⟨Or.inl v6, ?_⟩, ⟨Or.inl ?_, ?_⟩, ?_⟩
        · rw [v6]
          exact ⟨fun q => absurd q (by decide), fun ⟨r, hr, _⟩ => absurd hr (by simp)⟩
        · rw [v1.2 9 (by decide)]; exact h9
        · rw [v1.2 9 (by decide), h9]
          exact ⟨fun q => absurd q (by decide), fun ⟨_, r, hr, _⟩ => absurd hr (by simp)⟩
        · rw [v1.1 34 (by decide) (by decide), v1.1 35 (by decide) (by decide)]
          exact j8
      refine ok_bnd.mpr ((c_drawAll (beg := beg) hu (hc.congr fun k a b => f9' k (by omega)) hz hw hp (hs2.cg fun k a b => f9' k (by omega)) hE2 (by rw [f9' y (by omega)]; exact hb2) (Or.inl rfl) hr1 hS hSl hJ9).imp fun μ10 t => ?_)
      obtain ⟨t1, t2, t3, ⟨t4, t5⟩, ⟨t6, t7⟩, t8⟩ := t
      have f10 : ∀ k, ¬ (33 ≤ k ∧ k ≤ 36) → μ10 k = μ k := fun k a => by rw [t1.1 k (by simp; omega) (by omega)]; exact f9' k a
      by_cases h10 : μ10 33 8 = 0
      · rw [if_pos h10]
        have hn2 : ¬ ((∃ r, (r ∈ cAll σ w1 L1 beg ∧ r.1 ≤ 16) ∧ Weq r r2) ∨ ∃ r, (r ∈ cAll σ w2 L2 beg ∧ r.1 ≤ 16) ∧ Weq r r1) := by
          rintro (h | ⟨r, ⟨a, b⟩, c⟩)
          · exact hn1 h
          · have := t5.mpr ⟨r, a, b, c⟩
            omega
        by_cases h11 : μ10 33 9 = 0
        · rw [if_pos h11]
          refine ok_some.mpr ⟨f10, Or.inr (Or.inr (Or.inr ⟨hne, hn2, ?_, rfl⟩))⟩
          rintro ⟨r, s, ⟨a, b⟩, ⟨c, d⟩, e⟩
          have := t7.mpr ⟨rfl, r, a, b, s, List.mem_filter.mpr ⟨c, by simpa [shw] using d⟩, e⟩
          omega
        · rw [if_neg h11]
          refine ok_some.mpr ⟨f10, Or.inr (Or.inr (Or.inl ⟨hne, hn2, ?_, rfl⟩))⟩
          obtain ⟨_, r, a, b, s, c, e⟩ := t7.mp (by omega)
          rw [List.mem_filter] at c
          exact ⟨r, s, ⟨a, b⟩, ⟨c.1, by simpa [shw] using c.2⟩, e⟩
      · rw [if_neg h10]
        obtain ⟨r, a, b, c⟩ := t5.mp (t4.resolve_left h10)
        exact ok_some.mpr ⟨f10, Or.inr (Or.inl ⟨hne, Or.inr ⟨r, ⟨a, b⟩, c⟩, rfl⟩)⟩
    · rw [if_neg h8]
      obtain ⟨r, a, b, c⟩ := j5.mp (by omega)
      exact ok_some.mpr ⟨f8, Or.inr (Or.inl ⟨hne, Or.inl ⟨r, ⟨a, b⟩, c⟩, rfl⟩)⟩
  by_cases e1 : hdC r1 = hdC r2
  · rw [if_pos e1]
    by_cases e2 : tlC r1 = tlC r2
    · rw [if_pos e2]
      exact ok_some.mpr ⟨f6, Or.inl ⟨hpk.mp ⟨e1, e2⟩, rfl⟩⟩
    · rw [if_neg e2]
      exact J fun q => e2 (hpk.mpr q).2
  · rw [if_neg e1]
    exact J fun q => e1 (hpk.mpr q).1
