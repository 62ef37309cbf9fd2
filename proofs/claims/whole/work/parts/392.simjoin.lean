theorem stp_add {c E : Int} (h : 0 ≤ c) (hE : 0 ≤ E) : stp (c + 2 * E) = if stp c ≤ 0 then stp c - E else stp c + E := by
  unfold stp
  by_cases h0 : c % 2 = 0
  · rw [if_pos (show (c + 2 * E) % 2 = 0 by omega), if_pos h0, if_neg (by omega)]
    omega
  · rw [if_neg (show ¬ (c + 2 * E) % 2 = 0 by omega), if_neg h0, if_pos (by omega)]
    omega
def Fj : List Int := [102, 103, 104, 105, 106, 107, 108, 116, 148]
set_option maxHeartbeats 2000000 in
theorem m_join {μ : zMem} {σ σ1 : Sp} (hs : MS μ 0 σ) (hu : MS μ 1 σ1) (w0 : WfE σ 8 12) (p0 : WfP σ 8) (w1 : WfE σ1 8 12) (p1 : WfP σ1 8) (hC : sC σ + sC σ1 - 1 ≤ 8) (hE : sE σ + sE σ1 ≤ 12) (hP : sP σ + sP σ1 ≤ 8) : Ok (f_X10_join μ) (fun w => w.1 = sC σ + sC σ1 - 1 ∧ MS w.2 0 (jnP (jnE (setC σ (sC σ + sC σ1 - 1)) σ1 (sC σ) (sE σ1).toNat) σ1 (sE σ) (sP σ1).toNat) ∧ Ms 0 μ w.2 ∧ MEm 0 μ w.2 ∧ Fm Fj [13] μ w.2) := by
  have w0' := w0
  have w1' := w1
  have p0' := p0
  have p1' := p1
  obtain ⟨a1, a2, a3, a4, a5⟩ := w0
  obtain ⟨b1, b2, b3, b4, b5⟩ := w1
  obtain ⟨c1, c2, c3⟩ := p0
  obtain ⟨d1, d2, d3⟩ := p1
  have hj := jnE_n σ σ1 (sC σ)
  have u2 : WfE σ1 32 48 := w1'.mono (by decide) (by decide)
  have v2 : WfP σ1 32 := p1'.mono (by decide)
  -- the end
  have k200 : ∀ μ1 : zMem, Fm [102, 103, 104, 105, 106, 107, 108, 116] [13] μ μ1 → Ms 0 μ μ1 → MS μ1 0 (jnP (jnE σ σ1 (sC σ) (sE σ1).toNat) σ1 (sE σ) (sP σ1).toNat) → Ok (f_X10_join_K200 μ1) (fun w => w.1 = sC σ + sC σ1 - 1 ∧ MS w.2 0 (jnP (jnE (setC σ (sC σ + sC σ1 - 1)) σ1 (sC σ) (sE σ1).toNat) σ1 (sE σ) (sP σ1).toNat) ∧ Ms 0 μ w.2 ∧ MEm 0 μ w.2 ∧ Fm Fj [13] μ w.2) := by
    intro μ1 g1 g2 g3
    have hC0 : sC (jnP (jnE σ σ1 (sC σ) (sE σ1).toNat) σ1 (sE σ) (sP σ1).toNat) = sC σ := by rw [(jnP_n _ _ _ _).1, (hj _).1]
    have e102 : μ1 102 0 = sC σ := by rw [g3.1, hC0]
    have e1021 : μ1 102 1 = sC σ1 := by rw [(g2.1 1 (by decide)).1]; exact hu.1
    unfold f_X10_join_K200
    simp only [zlet]
    rw [e102, e1021, zw_eq (x := sC σ1 - 1) (by omega) (by omega), zw_eq (by omega) (by omega)]
    refine ok_bnd.mpr (m_emptySlots.imp fun μ2 q => ok_some.mpr ?_)
    obtain ⟨q1, q2⟩ := q
    have f2 : ∀ c, c ≠ 102 → c ≠ 148 → μ2 c = μ1 c := fun c x y => by rw [q1 c y, zup_n _ _ _ x]
    have e2 : μ2 102 = up1 (μ1 102) 0 (sC σ + (sC σ1 - 1)) := by rw [q1 102 (by decide), zup_s]
    rw [jnE_set, jnP_set]
    obtain ⟨m1, m2, m3, m4, m5⟩ := g3
    refine ⟨?_, ⟨?_, ?_, ?_, fun e x y => ?_, fun f x y => ?_⟩, g2.trans ⟨fun x hx => ?_, fun i hi => ?_, fun i hi => ?_, fun i hi => ?_⟩, fun q x y => ?_, ⟨fun c x y => ?_, fun i x => ?_⟩⟩
    · simp only; rw [e2, up1_s]; omega
    · simp only; rw [e2, up1_s]
      show sC σ + (sC σ1 - 1) = sC σ + sC σ1 - 1
      omega
    · simp only; rw [f2 103 (by decide) (by decide)]; exact m2
    · simp only; rw [f2 104 (by decide) (by decide)]; exact m3
    · simp only; rw [f2 105 (by decide) (by decide), f2 106 (by decide) (by decide)]; exact m4 e x y
    · simp only; rw [f2 107 (by decide) (by decide), f2 108 (by decide) (by decide)]; exact m5 f x y
    · simp only; rw [e2, up1_n _ _ hx, f2 103 (by decide) (by decide), f2 104 (by decide) (by decide)]; exact ⟨rfl, rfl, rfl⟩
    · simp only; rw [f2 105 (by decide) (by decide), f2 106 (by decide) (by decide)]; exact ⟨rfl, rfl⟩
    · simp only; rw [f2 107 (by decide) (by decide)]
    · simp only; rw [f2 108 (by decide) (by decide)]
    · have := q2 q x y
      rw [zup_n _ _ _ (by decide), g1.1 148 (by decide) (by decide)] at this
      exact this
    · unfold Fj at x
      simp at x
      simp only
      rw [f2 c (by omega) (by omega), g1.1 c (by simp; omega) y]
    · simp only; rw [q1 101 (by decide), zup_n _ _ _ (by decide), g1.2 i x]
  -- the panes
  have panes : ∀ (n : Nat) (f : Int) (μ1 : zMem), 0 ≤ f → f ≤ sP σ1 → (sP σ1 - f).toNat < n → Fm [102, 103, 104, 105, 106, 107, 108, 116] [13] μ μ1 → Ms 0 μ μ1 → MS μ1 0 (jnP (jnE σ σ1 (sC σ) (sE σ1).toNat) σ1 (sE σ) f.toNat) → Ok (f_X10_join_L118 (sE σ) f_X10_join_K200 n f μ1) (fun w => w.1 = sC σ + sC σ1 - 1 ∧ MS w.2 0 (jnP (jnE (setC σ (sC σ + sC σ1 - 1)) σ1 (sC σ) (sE σ1).toNat) σ1 (sE σ) (sP σ1).toNat) ∧ Ms 0 μ w.2 ∧ MEm 0 μ w.2 ∧ Fm Fj [13] μ w.2) := by
    intro n
    induction n with
    | zero => intro f μ1 _ _ h; omega
    | succ n ih =>
      intro f μ1 f0 f1 f2 g1 g2 g3
      have msu : MS μ1 1 σ1 := g2.ms (by decide) u2 v2 hu
      unfold f_X10_join_L118
      rw [msu.2.2.1]
      by_cases hf : f < sP σ1
      · obtain ⟨q1, q2, q3, q4, q5⟩ := d3 f f0 hf
        have hst := jnP_s (jnE σ σ1 (sC σ) (sE σ1).toNat) σ1 (sE σ) f0
        have hp := jnP_n (jnE σ σ1 (sC σ) (sE σ1).toNat) σ1 (sE σ) f.toNat
        have hj2 := hj (sE σ1).toNat
        have hwt := jnP_wfP (σ := σ) (σ1 := σ1) (C0 := sC σ) a3 b3 f.toNat (by omega) p0' p1' (by omega)
        rw [if_pos hf, zw_eq (x := 32 + f) (by omega) (by omega), chk_pos (by omega), show (32 : Int) + f = 32 * 1 + f by omega, (msu.2.2.2.2 f f0 hf).1]
        simp only [zlet]
        have steps : ∀ (m : Nat) (i : Int) (μ2 : zMem), 0 ≤ i → i ≤ sL σ1 f → (sL σ1 f - i).toNat < m → Fm [116] [13] μ1 μ2 → μ2 101 13 = sL σ1 f → (∀ x, 0 ≤ x → x < i → μ2 116 x = stp (sR σ1 f x + 2 * sE σ)) → Ok (f_X10_join_L143 (sE σ) f (f_X10_join_K188 f (f_X10_join_L118 (sE σ) f_X10_join_K200 n)) m i μ2) (fun w => w.1 = sC σ + sC σ1 - 1 ∧ MS w.2 0 (jnP (jnE (setC σ (sC σ + sC σ1 - 1)) σ1 (sC σ) (sE σ1).toNat) σ1 (sE σ) (sP σ1).toNat) ∧ Ms 0 μ w.2 ∧ MEm 0 μ w.2 ∧ Fm Fj [13] μ w.2) := by
          intro m
          induction m with
          | zero => intro i μ2 _ _ h; omega
          | succ m ihm =>
            intro i μ2 i0 i1 i2 k1 k2 k3
            have ns : noSp [116] := by unfold noSp; decide
            unfold f_X10_join_L143
            rw [k2]
            by_cases hi : i < sL σ1 f
            · have hr := q3 i i0 hi
              have hsr : -100 ≤ stp (sR σ1 f i) ∧ stp (sR σ1 f i) ≤ 100 := by unfold stp; split <;> omega
              rw [if_pos hi, m_rimAt (k1.ms ns msu) (by omega) v2 ⟨f0, hf⟩ ⟨i0, hi⟩, bnd_pos rfl]
              unfold f_X10_join_J181
              rw [chk_pos (by omega), zw_eq (x := stp (sR σ1 f i) - sE σ) (by omega) (by omega), zw_eq (x := stp (sR σ1 f i) + sE σ) (by omega) (by omega), ← stp_add hr.1 a3]
              simp only [zlet]
              rw [zw_eq (by omega) (by omega)]
              refine ihm (i + 1) _ (by omega) (by omega) (by omega) (k1.up (by decide) (by decide) _ _) (by rw [zup_n _ _ _ (by decide)]; exact k2) (fun x x0 x1 => ?_)
              rw [zup_s]
              by_cases hx : x = i
              · rw [hx, up1_s]
              · rw [up1_n _ _ hx]; exact k3 x x0 (by omega)
            · rw [if_neg hi]
              have hie : i = sL σ1 f := by omega
              subst hie
              unfold f_X10_join_K188
              refine ok_bnd2.mpr ((m_addFace (k := sL σ1 f) (w := fun i => sR σ1 f i + 2 * sE σ) (k1.ms ns g3) (by omega) hwt.1 (by rw [hp.2.2.1, hj2.2.2.1]; omega) (fun x y z => (hwt.2.2 x y z).2.1) ⟨by omega, q2⟩ ⟨k2, k3⟩).imp fun w q => ?_)
              obtain ⟨r1, r2, r3, r4⟩ := q
              simp only [zlet]
              rw [zw_eq (by omega) (by omega)]
              refine ih (f + 1) w.2 (by omega) (by omega) (by omega) ⟨fun c x y => ?_, fun i x => ?_⟩ ((g2.trans (k1.mso ns)).trans r4) (by rw [hst]; exact r2)
              · simp at x
                rw [r3 c (by omega) (by omega) (by omega), k1.1 c (by simp; omega) y, g1.1 c (by simp; omega) y]
              · rw [r3 101 (by decide) (by decide) (by decide), k1.2 i x, g1.2 i x]
        exact steps zfu 0 _ (by omega) (by omega) (by unfold zfu; omega) ((Fm.refl _ _ μ1).upo (by decide) _) (by rw [zup_s, up1_s]) (fun x x0 x1 => by omega)
      · rw [if_neg hf]
        have : f = sP σ1 := by omega
        subst this
        exact k200 μ1 g1 g2 g3
  -- the edges
  have edges : ∀ (n : Nat) (e : Int) (μ1 : zMem), 0 ≤ e → e ≤ sE σ1 → (sE σ1 - e).toNat < n → Fm [102, 103, 104, 105, 106, 107, 108, 116] [13] μ μ1 → Ms 0 μ μ1 → MS μ1 0 (jnE σ σ1 (sC σ) e.toNat) → Ok (f_X10_join_L68 (f_X10_join_K116 (sE σ)) n e μ1) (fun w => w.1 = sC σ + sC σ1 - 1 ∧ MS w.2 0 (jnP (jnE (setC σ (sC σ + sC σ1 - 1)) σ1 (sC σ) (sE σ1).toNat) σ1 (sE σ) (sP σ1).toNat) ∧ Ms 0 μ w.2 ∧ MEm 0 μ w.2 ∧ Fm Fj [13] μ w.2) := by
    intro n
    induction n with
    | zero => intro e μ1 _ _ h; omega
    | succ n ih =>
      intro e μ1 e0 e1 e2 g1 g2 g3
      have msu : MS μ1 1 σ1 := g2.ms (by decide) u2 v2 hu
      have hje := hj e.toNat
      unfold f_X10_join_L68
      rw [msu.2.1]
      by_cases he : e < sE σ1
      · have hb := b5 e e0 he
        have hft := msu.2.2.2.1 e e0 he
        have e102 : μ1 102 0 = sC σ := by rw [g3.1, hje.1]
        have hjo : ∀ x, 0 ≤ x → x < sC σ1 → f_X10_joinedCorner x μ1 = jc (sC σ) x := by
          intro x x0 x1
          unfold f_X10_joinedCorner jc
          rw [e102]
          by_cases h0 : x = 0
          · rw [if_pos h0, if_pos h0]
          · rw [if_neg h0, if_neg h0, zw_eq (x := sC σ + x) (by omega) (by omega), zw_eq (by omega) (by omega)]
        rw [if_pos he, zw_eq (x := 48 + e) (by omega) (by omega), chk_pos (by omega), chk_pos (by omega), show (48 : Int) + e = 48 * 1 + e by omega, hft.1, hft.2, hjo _ hb.1 hb.2.1, hjo _ hb.2.2.1 hb.2.2.2]
        refine ok_bnd2.mpr ((m_addEdge g3 (by omega) (by rw [hje.2.1]; omega) (by rw [hje.2.1]; omega)).imp fun w q => ?_)
        obtain ⟨r1, r2, r3, r4⟩ := q
        simp only [zlet]
        rw [zw_eq (by omega) (by omega)]
        refine ih (e + 1) w.2 (by omega) (by omega) (by omega) ⟨fun c x y => ?_, fun i x => ?_⟩ (g2.trans r4) (by rw [jnE_s _ _ _ e0]; exact r2)
        · simp at x
          rw [r3 c (by omega) (by omega) (by omega), g1.1 c (by simp; omega) y]
        · rw [r3 101 (by decide) (by decide) (by decide), g1.2 i x]
      · rw [if_neg he]
        have : e = sE σ1 := by omega
        subst this
        unfold f_X10_join_K116
        exact panes zfu 0 μ1 (by omega) d1 (by unfold zfu; omega) g1 g2 g3
  unfold f_X10_join
  rw [hs.1, hu.1, hs.2.1, hu.2.1, hs.2.2.1, hu.2.2.1, zw_eq (x := sC σ + sC σ1) (by omega) (by omega), zw_eq (by omega) (by omega), zw_eq (by omega) (by omega), zw_eq (by omega) (by omega), if_pos hC, if_pos hE, if_pos hP]
  simp only [zlet]
  exact edges zfu 0 μ (by omega) b3 (by unfold zfu; omega) (Fm.refl _ _ μ) (Ms.refl 0 μ) hs
theorem sim_join {μ : zMem} (h : Rel μ) : Ok (f_X9_join μ) (fun v => Ok (f_X10_join v.2) (fun w => w.1 = v.1 ∧ Rel w.2)) := by
  have h0 := h.own (s := 0) (by omega)
  have h1 := h.own (s := 1) (by omega)
  have hb0 := h0.b
  have hb1 := h1.b
  have hne := h.1.2.1.2.2.2.1
  obtain ⟨σ, s1, s2, s3, s4, s5⟩ := h.2.1 0 (by omega) (by omega)
  obtain ⟨σ1, t1, t2, t3, t4, t5⟩ := h.2.1 1 (by omega) (by omega)
  have a1 := s4.1
  have a2 := s4.2.1
  have a3 := s4.2.2.1
  have a4 := s4.2.2.2.1
  have b1 := t4.1
  have b2 := t4.2.1
  have b3 := t4.2.2.1
  have b4 := t4.2.2.2.1
  have c1 := s5.1
  have c2 := s5.2.1
  have d1 := t5.1
  have d2 := t5.2.1
  have cc : f_X9_join μ = if sC σ + sC σ1 - 1 ≤ 8 then if sE σ + sE σ1 ≤ 12 then if sP σ + sP σ1 ≤ 8 then bnd (f_X5_takeIn (μ 2 0) (μ 2 1) μ) fun μ_3 => bnd (f_X5_findPart (μ 2 0) μ_3) fun μ_4 => bnd (f_X9_emptySlots 0 μ_4) fun μ_5 => some (μ_5 (μ 2 0) 6, μ_5) else some (-3, μ) else some (-3, μ) else some (-3, μ) := by
    unfold f_X9_join
    rw [chk_pos (by omega)]
    simp only [zlet]
    rw [chk_pos (by omega), s1.1, t1.1, s1.2.1, t1.2.1, s1.2.2.1, t1.2.2.1, zw_eq (x := sC σ + sC σ1) (by omega) (by omega), zw_eq (x := sC σ + sC σ1 - 1) (by omega) (by omega), zw_eq (x := sE σ + sE σ1) (by omega) (by omega), zw_eq (x := sP σ + sP σ1) (by omega) (by omega)]
  have mm : ¬ (sC σ + sC σ1 - 1 ≤ 8 ∧ sE σ + sE σ1 ≤ 12 ∧ sP σ + sP σ1 ≤ 8) → f_X10_join μ = some (-3, μ) := by
    intro hn
    unfold f_X10_join
    rw [s3.1, t3.1, s3.2.1, t3.2.1, s3.2.2.1, t3.2.2.1, zw_eq (x := sC σ + sC σ1) (by omega) (by omega), zw_eq (x := sC σ + sC σ1 - 1) (by omega) (by omega), zw_eq (x := sE σ + sE σ1) (by omega) (by omega), zw_eq (x := sP σ + sP σ1) (by omega) (by omega)]
    by_cases x1 : sC σ + sC σ1 - 1 ≤ 8
    · rw [if_pos x1]
      by_cases x2 : sE σ + sE σ1 ≤ 12
      · rw [if_pos x2, if_neg (by omega)]
      · rw [if_neg x2]
    · rw [if_neg x1]
  by_cases x1 : sC σ + sC σ1 - 1 ≤ 8
  rotate_left
  · exact sim_same (fM := f_X10_join) h (by rw [cc, if_neg x1]) (mm (by omega))
  by_cases x2 : sE σ + sE σ1 ≤ 12
  rotate_left
  · exact sim_same (fM := f_X10_join) h (by rw [cc, if_pos x1, if_neg x2]) (mm (by omega))
  by_cases x3 : sP σ + sP σ1 ≤ 8
  rotate_left
  · exact sim_same (fM := f_X10_join) h (by rw [cc, if_pos x1, if_pos x2, if_neg x3]) (mm (by omega))
  rw [cc, if_pos x1, if_pos x2, if_pos x3]
  have wS : WfE (setC σ (sC σ + sC σ1 - 1)) 8 12 := by
    refine ⟨show 1 ≤ sC σ + sC σ1 - 1 by omega, x1, a3, a4, fun e y z => ?_⟩
    have := s4.2.2.2.2 e y z
    show 0 ≤ sF σ e ∧ sF σ e < sC σ + sC σ1 - 1 ∧ 0 ≤ sT σ e ∧ sT σ e < sC σ + sC σ1 - 1
    omega
  have wE := jnE_wf (σ := setC σ (sC σ + sC σ1 - 1)) (σ1 := σ1) (C0 := sC σ) (sE σ1).toNat rfl a1 (show sE σ + ((sE σ1).toNat : Int) ≤ 12 by omega) wS t4 (by omega)
  have wP := jnP_wfP (σ := setC σ (sC σ + sC σ1 - 1)) (σ1 := σ1) (C0 := sC σ) a3 b3 (sP σ1).toNat (show sP σ + ((sP σ1).toNat : Int) ≤ 8 by omega) s5 t5 (by omega)
  have hjp := jnP_n (jnE (setC σ (sC σ + sC σ1 - 1)) σ1 (sC σ) (sE σ1).toNat) σ1 (sE σ) (sP σ1).toNat
  have wE2 : WfE (jnP (jnE (setC σ (sC σ + sC σ1 - 1)) σ1 (sC σ) (sE σ1).toNat) σ1 (sE σ) (sP σ1).toNat) 8 12 := by
    unfold WfE at *
    rw [hjp.1, hjp.2.1, hjp.2.2.2.1, hjp.2.2.2.2]
    exact wE
  refine ok_bnd.mpr ((c_takeIn s1 t1 h0.sz h1.sz (by omega) s4 s5 t4 t5 x2 x3).imp fun μa q => ?_)
  obtain ⟨q1, q2⟩ := q
  refine ok_bnd.mpr ((c_tail (s := 0) h (by omega) (fun c hc => q2 c hc) q1 wE2).imp fun μb g => ok_bnd.mpr (g.imp fun μ1 g => ok_some.mpr ?_))
  obtain ⟨g1, g2, g3, g4⟩ := g
  show Ok (f_X10_join μ1) _
  have m0 : MS μ1 0 σ := s3.congr fun k x y => g3 k (by omega) (by omega)
  have m1 : MS μ1 1 σ1 := t3.congr fun k x y => g3 k (by omega) (by omega)
  refine (m_join m0 m1 s4 s5 t4 t5 x1 x2 x3).imp fun w q => ?_
  obtain ⟨k1, k2, k3, k4, k5⟩ := q
  refine ⟨?_, h.spcE (s := 0) (by omega) g1 g2 (fun c x y _ => g3 c x y) g4 ⟨fun c x => k5.1 c (by unfold Fj; simp; omega) (by omega), fun c x y z => ?_, fun i hi => k5.2 i (by simp; omega)⟩ k3 k4 k2 wE2 wP (k5.2 9 (by decide)) (k5.1 110 (by decide) (by decide))⟩
  · rw [k1]
    simp only
    rw [g1.1, hjp.1, (jnE_n _ _ _ _).1]
    rfl
  · unfold spmX at z
    unfold rlv at x
    exact k5.1 c (by unfold Fj; simp; omega) (by omega)
