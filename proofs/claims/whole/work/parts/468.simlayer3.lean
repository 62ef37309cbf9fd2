/-! LAYER agrees: the end -/
theorem zw_wrap : zw (2147483647 + 1) = -2147483648 := by decide
theorem lyr_new {μ : zMem} {s n : Int} {σ : Sp} {t : Int → Int} (hs : 0 ≤ s ∧ s < 2) (hn : 2 ≤ n ∧ n ≤ 4) (hw : WfE σ 8 12) (hp : WfP σ 8) (ht : TbR n (sN σ) t) (hh : hld σ n t 0) (c1 : CS μ 4 (Lay σ n t)) (c2 : CP μ 4 (Lay σ n t)) (c3 : MS μ 2 (Lay σ n t)) (l6 : μ 3 6 = s) (l7 : μ 3 7 = sN σ) (hl : LC μ n σ t) (l12 : ∀ e, sE σ ≤ e → e < 12 → μ 12 e = -2) (m7 : μ 101 7 = 1) (m37 : μ 101 37 = s) (m38 : μ 101 38 = n) (m39 : μ 101 39 = sN σ) (hb : ∀ j k, 0 ≤ j → j < sN σ → 0 ≤ k → k < n → μ 142 (4 * j + k) = prm n (t j) k ∧ μ 143 (4 * j + k) = prm n (bak n (t j)) k) (hk : ∀ e, 0 ≤ e → e < 12 → μ 145 e = b2i (hasE σ e) ∧ μ 144 e = if hasE σ e then (if isTn σ e then cnt (isTn σ) e.toNat else -4) else -4) : LyR μ := by
  have hE0 := hw.2.2.1
  have hE := hw.2.2.2.1
  have hNb := cnt_le (isTn σ) (sE σ).toNat
  have hN : 0 ≤ sN σ ∧ sN σ ≤ 12 := by unfold sN; omega
  have hwf := lyP_wf hn hw hp ht hh (sP σ).toNat (by have := hp.1; omega)
  refine Or.inr ⟨n, hn.1, hn.2, hl.1, m7, m38, by omega, by omega, by rw [m37, l6], by omega, by omega, by rw [m39, l7], ⟨fun j a b => ?_, fun e a b => ?_⟩, Lay σ n t, c1, c2, c3, hwf.2, hwf.1⟩
  · rw [l7] at b
    have htj := ht j a b
    rw [hl.2.1 j a b]
    refine ⟨htj.1, htj.2, fun k k0 k1 => ⟨(hb j k a b k0 k1).1, ?_⟩⟩
    have hpr := prm_rg hn htj ⟨k0, k1⟩
    rw [(hb j _ a b hpr.1 hpr.2).2]
    exact (bak_prm hn htj ⟨k0, k1⟩).1
  · obtain ⟨k1, k2⟩ := hk e a b
    by_cases he : e < sE σ
    · have hw12 := hl.2.2 e a he
      have hsw := sW_tn σ e
      by_cases hi : inE σ e = true
      · have hh2 : hasE σ e = true := by unfold hasE; rw [hi]; simp [he]
        rw [hh2] at k1 k2
        rw [if_pos rfl] at k2
        by_cases htn : isTn σ e = true
        · have hcn := cnt_in (σ := σ) ⟨a, he⟩ htn
          rw [if_pos htn] at k2
          right; right
          rw [hw12, hsw.1 htn, l7, k1, k2]
          exact ⟨hcn.1, hcn.2, rfl, rfl⟩
        · rw [if_neg htn] at k2
          right; left
          have htt : tT σ e = true := by
            have hi2 : tR σ (sF σ e) = true := hi
            unfold isTn at htn
            rw [hi2] at htn
            simpa using htn
          refine ⟨?_, k1, k2⟩
          rw [hw12]
          unfold sW
          rw [if_pos htt]
      · have hh2 : hasE σ e = false := by unfold hasE; rw [Bool.eq_false_iff.mpr hi, Bool.and_false]
        rw [hh2] at k1
        left
        refine ⟨?_, k1⟩
        rw [hw12]
        unfold sW
        have hi2 : tR σ (sF σ e) = false := Bool.eq_false_iff.mpr hi
        have htt : ¬ tT σ e = true := fun q => by rw [tT_in q] at hi2; exact absurd hi2 (by decide)
        rw [if_neg htt, hi2, if_neg (by decide)]
    · have hh2 : hasE σ e = false := by unfold hasE; simp [he]
      rw [hh2] at k1
      exact Or.inl ⟨l12 e (by omega) b, k1⟩
theorem zlet_q {α β : Type} (x : α) (f : α → β) : zlet x f = f x := rfl
theorem m_layerL {μ : zMem} {s n : Int} {σ : Sp} {t : Int → Int} (hs : 0 ≤ s ∧ s < 2) (hn : 2 ≤ n ∧ n ≤ 4) (hc : MS μ s σ) (hw : WfE σ 8 12) (hp : WfP σ 8) (hm : MT μ σ) (h28 : μ 101 28 = n) (h29 : μ 101 29 = sN σ) (hb : MTb μ n (sN σ) t) (ht : TbR n (sN σ) t) (hh : hld σ n t 0) : Ok (bnd (f_X10_layLayer s μ) fun μ_5 => zlet (zup μ_5 101 7 1) fun μ_6 => zlet (zup μ_6 101 37 s) fun μ_7 => zlet (zup μ_7 101 38 (μ_7 101 28)) fun μ_8 => zlet (zup μ_8 101 39 (μ_8 101 29)) fun μ_9 => (f_X10_layer_L80 (f_X10_layer_K121 s)) zfu 0 μ_9) (fun w => w.1 = sN (Lay σ n t) ∧ (∀ k, ¬ (102 ≤ k ∧ k ≤ 108) → ¬ (116 ≤ k ∧ k ≤ 147) → k ≠ 101 → w.2 k = μ k) ∧ w.2 101 9 = μ 101 9 ∧ Ms 2 μ w.2 ∧ MS w.2 2 (Lay σ n t) ∧ w.2 101 7 = 1 ∧ w.2 101 37 = s ∧ w.2 101 38 = n ∧ w.2 101 39 = sN σ ∧ (∀ j k, 0 ≤ j → j < sN σ → 0 ≤ k → k < n → w.2 142 (4 * j + k) = prm n (t j) k ∧ w.2 143 (4 * j + k) = prm n (bak n (t j)) k) ∧ ∀ e, 0 ≤ e → e < 12 → w.2 145 e = b2i (hasE σ e) ∧ w.2 144 e = if hasE σ e then (if isTn σ e then cnt (isTn σ) e.toNat else -4) else -4) := by
  have hE := hw.2.2.2.1
  have hNb := cnt_le (isTn σ) (sE σ).toNat
  have hN : 0 ≤ sN σ ∧ sN σ ≤ 12 := by unfold sN; omega
  have hwf := lyP_wf hn hw hp ht hh (sP σ).toNat (by have := hp.1; omega)
  refine ok_bnd.mpr ((m_layLayer hs hn hc hw hp hm h28 hb ht hh).imp fun μ5 q => ?_)
  obtain ⟨q1, q2⟩ := q
  rw [zlet_q]
  rw [zlet_q]
  rw [zlet_q]
  rw [zlet_q]
  have e28 : μ5 101 28 = n := by rw [q1.1.2 28 (by decide)]; exact h28
  have e29 : μ5 101 29 = sN σ := by rw [q1.1.2 29 (by decide)]; exact h29
  have f28 : zup (zup μ5 101 7 1) 101 37 s 101 28 = n := by simp (disch := omega) only [zup_s, zup_n, up1_s, up1_n]; exact e28
  rw [f28]
  have f29 : zup (zup (zup μ5 101 7 1) 101 37 s) 101 38 n 101 29 = sN σ := by simp (disch := omega) only [zup_s, zup_n, up1_s, up1_n]; exact e29
  rw [f29]
  have g1 : Fm [] [7, 37, 38, 39] μ5 (zup (zup (zup (zup μ5 101 7 1) 101 37 s) 101 38 n) 101 39 (sN σ)) := ((((Fm.refl _ _ μ5).upo (by decide) _).upo (by decide) _).upo (by decide) _).upo (by decide) _
  have a7 : zup (zup (zup (zup μ5 101 7 1) 101 37 s) 101 38 n) 101 39 (sN σ) 101 7 = 1 := by simp (disch := omega) only [zup_s, zup_n, up1_s, up1_n]
  have a37 : zup (zup (zup (zup μ5 101 7 1) 101 37 s) 101 38 n) 101 39 (sN σ) 101 37 = s := by simp (disch := omega) only [zup_s, zup_n, up1_s, up1_n]
  have a38 : zup (zup (zup (zup μ5 101 7 1) 101 37 s) 101 38 n) 101 39 (sN σ) 101 38 = n := by simp (disch := omega) only [zup_s, zup_n, up1_s, up1_n]
  have a39 : zup (zup (zup (zup μ5 101 7 1) 101 37 s) 101 38 n) 101 39 (sN σ) 101 39 = sN σ := by simp (disch := omega) only [zup_s, zup_n, up1_s, up1_n]
  generalize zup (zup (zup (zup μ5 101 7 1) 101 37 s) 101 38 n) 101 39 (sN σ) = μ9 at *
  refine m_copyTab fun μa b1 b2 => ?_
  unfold f_X10_layer_K121
  have hw32 : WfE σ 32 48 := hw.mono (by omega) (by omega)
  have hp32 : WfP σ 32 := hp.mono (by omega)
  have c5 : MS μ5 s σ := q1.2.ms (by omega) hw32 hp32 hc
  have ca : MS μa s σ := b1.ms (by unfold noSp; decide) (g1.ms (by unfold noSp; decide) c5)
  have ta : MT μa σ := by
    have := q1.mt hm
    unfold MT
    rw [b1.1 120 (by decide) (by decide), b1.1 121 (by decide) (by decide), b1.1 123 (by decide) (by decide), b1.2 20 (by decide), g1.1 120 (by decide) (by decide), g1.1 121 (by decide) (by decide), g1.1 123 (by decide) (by decide), g1.2 20 (by decide)]
    exact this
  refine m_knows hs ca hw ta fun μb d1 d2 => ?_
  unfold f_X10_layer_K208
  have s2 : MS μb 2 (Lay σ n t) := d1.ms (by unfold noSp; decide) (b1.ms (by unfold noSp; decide) (g1.ms (by unfold noSp; decide) q2))
  refine ok_bnd.mpr ((m_layTree s2 (by omega) hwf.2).imp fun μc r => ?_)
  obtain ⟨r1, r2⟩ := r
  have hmtb := q1.mtb hb
  refine ok_some.mpr ⟨r2.2.2.1, fun k x y z => ?_, ?_, ?_, r1.ms (by unfold noSp; decide) s2, ?_, ?_, ?_, ?_, fun j k x y z v => ?_, fun e x y => ?_⟩
  · show μc k = μ k
    rw [r1.1 k (by simp; omega) z, d1.1 k (by simp; omega) z, b1.1 k (by simp; omega) z, g1.1 k (by simp) z, q1.1.1 k (by unfold Fl; simp; omega) z]
  · show μc 101 9 = μ 101 9
    rw [r1.2 9 (by decide), d1.2 9 (by decide), b1.2 9 (by decide), g1.2 9 (by decide), q1.1.2 9 (by decide)]
  · show Ms 2 μ μc
    exact (((q1.2.trans (g1.mso (by unfold noSp; decide))).trans (b1.mso (by unfold noSp; decide))).trans (d1.mso (by unfold noSp; decide))).trans (r1.mso (by unfold noSp; decide))
  · show μc 101 7 = 1
    rw [r1.2 7 (by decide), d1.2 7 (by decide), b1.2 7 (by decide)]; exact a7
  · show μc 101 37 = s
    rw [r1.2 37 (by decide), d1.2 37 (by decide), b1.2 37 (by decide)]; exact a37
  · show μc 101 38 = n
    rw [r1.2 38 (by decide), d1.2 38 (by decide), b1.2 38 (by decide)]; exact a38
  · show μc 101 39 = sN σ
    rw [r1.2 39 (by decide), d1.2 39 (by decide), b1.2 39 (by decide)]; exact a39
  · show μc 142 (4 * j + k) = _ ∧ μc 143 (4 * j + k) = _
    rw [r1.1 142 (by decide) (by decide), d1.1 142 (by decide) (by decide), r1.1 143 (by decide) (by decide), d1.1 143 (by decide) (by decide), (b2 (4 * j + k) (by omega) (by omega)).1, (b2 (4 * j + k) (by omega) (by omega)).2, g1.1 128 (by decide) (by decide), g1.1 129 (by decide) (by decide)]
    exact hmtb j k x y z v
  · show μc 145 e = _ ∧ μc 144 e = _
    rw [r1.1 145 (by decide) (by decide), r1.1 144 (by decide) (by decide), (d2 e x y).1, (d2 e x y).2]
    refine ⟨rfl, ?_⟩
    by_cases hE2 : hasE σ e = true
    · have he : e < sE σ := by
        unfold hasE at hE2
        rw [Bool.and_eq_true] at hE2
        simpa using hE2.1
      rw [if_pos hE2, if_pos hE2]
      exact ta.2.2.2 e x he
    · rw [if_neg hE2, if_neg hE2]
