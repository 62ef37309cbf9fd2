/-- as Rel.wipe; the space that is a draft may have changed -/
theorem Rel.wipe2 {μ μ' : zMem} (h : Rel μ) (hk : ∀ k, rlv k → k ≠ 20 → k ≠ 110 → ¬ (μ 1 10 ≤ k ∧ k ≤ μ 1 10 + 6) → μ' k = μ k) (h10 : μ' 1 10 = μ 1 10) (ho : ∀ i, i = 7 ∨ i = 37 ∨ i = 38 ∨ i = 39 → μ' 101 i = μ 101 i) (h1 : μ' 19 1 = 0) (h9 : μ' 101 9 = 0) : Rel μ' := by
  obtain ⟨⟨r1, r2, r3⟩, r4, r5, r6, r7, r8⟩ := h
  have hd := r2.2.2.1.b
  have hk2 : ∀ k, rlv k → k ≠ 20 → k ≠ 110 → ¬ (37 ≤ k ∧ k ≤ 57) → μ' k = μ k := fun k a b c d => hk k a b c (by omega)
  unfold rlv at hk2
  refine ⟨⟨r1.congr fun k a => hk2 k (by omega) (by omega) (by omega) (by omega), r2.congr (hk2 2 (by omega) (by omega) (by omega) (by omega)) h10, r3.congr fun k a => hk2 k (by omega) (by omega) (by omega) (by omega)⟩, fun s a b => ?_, ⟨by rw [h1, h9], by rw [h1]; decide, by rw [h1]; decide, fun i a b => by rw [h1] at b; omega⟩, fun q a b => (r6 q a b).congr ⟨a, b⟩ (fun k c => hk2 k (by omega) (by omega) (by omega) (by omega)), fun q a b => (r7 q a b).congr ⟨a, b⟩ (fun k c => hk2 k (by omega) (by omega) (by omega) (by omega)), r8.congr (fun k c => hk2 k (by omega) (by omega) (by omega) (by omega)) (ho 7 (by omega)) (ho 37 (by omega)) (ho 38 (by omega)) (ho 39 (by omega))⟩
  obtain ⟨σ, q⟩ := r4 s a b
  have hb : 37 ≤ μ 2 s ∧ μ 2 s ≤ 51 ∧ (μ 2 s - 37) % 7 = 0 ∧ μ 2 s ≠ μ 1 10 := by
    have h01 : s = 0 ∨ s = 1 := by omega
    rcases h01 with h | h <;> subst h
    · exact ⟨r2.1.b.1, r2.1.b.2.1, r2.1.b.2.2, r2.2.2.2.2.1⟩
    · exact ⟨r2.2.1.b.1, r2.2.1.b.2.1, r2.2.1.b.2.2, r2.2.2.2.2.2⟩
  exact ⟨σ, q.congr (by rw [hk2 2 (by omega) (by omega) (by omega) (by omega)]) (fun k a b => hk k (by unfold rlv; omega) (by omega) (by omega) (by omega)) (fun k a b => hk k (by unfold rlv; omega) (by omega) (by omega) (by omega))⟩
theorem m_text {μ : zMem} {s : Int} {T : Int → Int} {N : Int} (hs : 0 ≤ s ∧ s ≤ 1) (hT : TP T N) (hc : MTp μ T N) : ((rdT T N).1 = none → Ok (f_X10_text s μ) (fun w => w.1 = -20 - (rdT T N).2 ∧ w.2 101 9 = 0 ∧ (∀ c, c ≠ 101 → c ≠ 116 → c ≠ 117 → c ≠ 118 → c ≠ 119 → w.2 c = μ c) ∧ (∀ i, i = 7 ∨ i = 37 ∨ i = 38 ∨ i = 39 → w.2 101 i = μ 101 i))) ∧ (∀ σ', (rdT T N).1 = some σ' → Ok (f_X10_text s μ) (fun w => w.1 = sP σ' ∧ MS w.2 s σ' ∧ Ms s μ w.2 ∧ MEm s μ w.2 ∧ w.2 101 9 = 0 ∧ (∀ c, ¬ (101 ≤ c ∧ c ≤ 108) → ¬ (116 ≤ c ∧ c ≤ 119) → c ≠ 148 → w.2 c = μ c) ∧ (∀ i, i = 7 ∨ i = 37 ∨ i = 38 ∨ i = 39 → w.2 101 i = μ 101 i))) := by
  have h3 : 0 ≤ s ∧ s < 3 := by omega
  obtain ⟨μ4, e4, k1, k2, k3, k4⟩ := m_keep (μ := μ) h3
  have t5 : MTp (zup μ4 101 10 0) T N := by
    unfold MTp at *
    rw [zup_s, up1_n _ _ (by decide), zup_n _ _ _ (by decide), k1 101 (by decide) (by decide) (by decide), k1 110 (by decide) (by decide) (by decide)]
    exact hc
  obtain ⟨v, ev, q1, q2, q3, q4⟩ := m_readSpace (s := s) hT t5 h3 (by rw [zup_s, up1_s])
  have hb : f_X10_text s μ = (if v.1 = 0 then bnd (f_X10_putBack s (zup v.2 101 9 0)) fun μ_10 => chk (0 ≤ s ∧ s < 3) (zlet (zup μ_10 102 s (μ 102 s)) fun μ_11 => chk (0 ≤ s ∧ s < 3) (zlet (zup μ_11 103 s (μ 103 s)) fun μ_12 => chk (0 ≤ s ∧ s < 3) (zlet (zup μ_12 104 s (μ 104 s)) fun μ_13 => some (μ_13 101 11, μ_13)))) else bnd (f_X10_emptySlots s (zup v.2 101 9 0)) fun μ_9 => chk (0 ≤ s ∧ s < 3) (some (μ_9 104 s, μ_9))) := by
    unfold f_X10_text
    rw [if_neg (fun e => isSpace0.mp e hs), chk_pos h3]
    simp only [zlet]
    rw [chk_pos h3, chk_pos h3, e4, bnd_pos rfl, ev, bnd2_pos rfl]
  have fr : ∀ c, c ∉ Fq → c ≠ 101 → c ≠ 117 → c ≠ 118 → c ≠ 119 → v.2 c = μ c := fun c a b d e f => by
    rw [q1.1 c a b, zup_n _ _ _ b, k1 c d e f]
  have fo : ∀ i, i = 7 ∨ i = 37 ∨ i = 38 ∨ i = 39 → v.2 101 i = μ 101 i := fun i hi => by
    rw [q1.2 i (by unfold Gq; simp; omega), zup_s, up1_n _ _ (by omega), k1 101 (by decide) (by decide) (by decide)]
  have e117 : v.2 117 = μ4 117 := by rw [q1.1 117 (by decide) (by decide), zup_n _ _ _ (by decide)]
  have e118 : v.2 118 = μ4 118 := by rw [q1.1 118 (by decide) (by decide), zup_n _ _ _ (by decide)]
  have e119 : v.2 119 = μ4 119 := by rw [q1.1 119 (by decide) (by decide), zup_n _ _ _ (by decide)]
  have mm : Ms s μ v.2 := (Ms.of fun c a b => by rw [zup_n _ _ _ (by omega), k1 c (by omega) (by omega) (by omega)]).trans q2
  rw [hb]
  refine ⟨fun hn => ?_, fun σ' hσ => ?_⟩
  · rw [(q3 hn).1, if_pos rfl]
    refine ok_bnd.mpr ((m_putBack h3).imp fun μb g => ?_)
    obtain ⟨g1, g2, g3, g4, g5⟩ := g
    rw [chk_pos h3]
    simp only [zlet]
    rw [chk_pos h3, chk_pos h3]
    have z : ∀ c, c ≠ 101 → zup v.2 101 9 0 c = v.2 c := fun c hc => zup_n _ _ _ hc
    refine ok_some.mpr ⟨?_, ?_, fun c c1 c2 c3 c4 c5 => ?_, fun i hi => ?_⟩
    · simp only
      rw [zup_n _ _ _ (by decide), zup_n _ _ _ (by decide), zup_n _ _ _ (by decide), g1 101 (by decide) (by decide) (by decide) (by decide), zup_s, up1_n _ _ (by decide)]
      exact (q3 hn).2
    · simp only
      rw [zup_n _ _ _ (by decide), zup_n _ _ _ (by decide), zup_n _ _ _ (by decide), g1 101 (by decide) (by decide) (by decide) (by decide), zup_s, up1_s]
    · simp only
      by_cases h108 : 102 ≤ c ∧ c ≤ 108
      · have hcc : c = 102 ∨ c = 103 ∨ c = 104 ∨ c = 105 ∨ c = 106 ∨ c = 107 ∨ c = 108 := by omega
        rcases hcc with e | e | e | e | e | e | e <;> subst e
        · funext i
          rw [zup_n _ _ _ (by decide), zup_n _ _ _ (by decide), zup_s, up1_e, g1 102 (by decide) (by decide) (by decide) (by decide), z 102 (by decide)]
          by_cases hi : i = s
          · rw [if_pos hi, hi]
          · rw [if_neg hi]; exact (mm.1 i hi).1
        · funext i
          rw [zup_n _ _ _ (by decide), zup_s, up1_e, zup_n _ _ _ (by decide), g1 103 (by decide) (by decide) (by decide) (by decide), z 103 (by decide)]
          by_cases hi : i = s
          · rw [if_pos hi, hi]
          · rw [if_neg hi]; exact (mm.1 i hi).2.1
        · funext i
          rw [zup_s, up1_e, zup_n _ _ _ (by decide), zup_n _ _ _ (by decide), g1 104 (by decide) (by decide) (by decide) (by decide), z 104 (by decide)]
          by_cases hi : i = s
          · rw [if_pos hi, hi]
          · rw [if_neg hi]; exact (mm.1 i hi).2.2
        · funext i
          rw [zup_n _ _ _ (by decide), zup_n _ _ _ (by decide), zup_n _ _ _ (by decide), g2, z 117 (by decide), z 105 (by decide), e117]
          by_cases hi : 48 * s ≤ i ∧ i < 48 * s + 48
          · rw [if_pos hi, (k2 (i - 48 * s) (by omega) (by omega)).1, show 48 * s + (i - 48 * s) = i by omega]
          · rw [if_neg hi]; exact (mm.2.1 i hi).1
        · funext i
          rw [zup_n _ _ _ (by decide), zup_n _ _ _ (by decide), zup_n _ _ _ (by decide), g3, z 117 (by decide), z 106 (by decide), e117]
          by_cases hi : 48 * s ≤ i ∧ i < 48 * s + 48
          · rw [if_pos hi, (k2 (i - 48 * s) (by omega) (by omega)).2, show 48 * s + (i - 48 * s) = i by omega]
          · rw [if_neg hi]; exact (mm.2.1 i hi).2
        · funext i
          rw [zup_n _ _ _ (by decide), zup_n _ _ _ (by decide), zup_n _ _ _ (by decide), g4, z 119 (by decide), z 107 (by decide), e119]
          by_cases hi : 32 * s ≤ i ∧ i < 32 * s + 32
          · rw [if_pos hi, k3 (i - 32 * s) (by omega) (by omega), show 32 * s + (i - 32 * s) = i by omega]
          · rw [if_neg hi]; exact mm.2.2.1 i hi
        · funext i
          rw [zup_n _ _ _ (by decide), zup_n _ _ _ (by decide), zup_n _ _ _ (by decide), g5, z 118 (by decide), z 108 (by decide), e118]
          by_cases hi : 256 * s ≤ i ∧ i < 256 * s + 256
          · rw [if_pos hi, k4 (i - 256 * s) (by omega) (by omega), show 256 * s + (i - 256 * s) = i by omega]
          · rw [if_neg hi]; exact mm.2.2.2 i hi
      · rw [zup_n _ _ _ (by omega), zup_n _ _ _ (by omega), zup_n _ _ _ (by omega), g1 c (by omega) (by omega) (by omega) (by omega), z c c1, fr c (by unfold Fq; simp; omega) c1 c3 c4 c5]
    · simp only
      rw [zup_n _ _ _ (by decide), zup_n _ _ _ (by decide), zup_n _ _ _ (by decide), g1 101 (by decide) (by decide) (by decide) (by decide), zup_s, up1_n _ _ (by omega)]
      exact fo i hi
  · obtain ⟨j1, j2⟩ := q4 σ' hσ
    rw [j1, if_neg (by decide)]
    refine ok_bnd.mpr (m_emptySlots.imp fun μ9 g => ?_)
    obtain ⟨g1, g2⟩ := g
    rw [chk_pos h3]
    have z : ∀ c, c ≠ 101 → c ≠ 148 → μ9 c = v.2 c := fun c a b => by rw [g1 c b, zup_n _ _ _ a]
    refine ok_some.mpr ⟨?_, j2.congr fun k a b => z k (by omega) (by omega), mm.trans (Ms.of fun k a b => z k (by omega) (by omega)), fun q a b => ?_, ?_, fun c c1 c2 c3 => ?_, fun i hi => ?_⟩
    · simp only; rw [z 104 (by decide) (by decide)]; exact j2.2.2.1
    · have := g2 q a b
      rw [zup_n _ _ _ (by decide), fr 148 (by decide) (by decide) (by decide) (by decide) (by decide)] at this
      exact this
    · simp only; rw [g1 101 (by decide), zup_s, up1_s]
    · simp only
      rw [z c (by omega) c3, fr c (by unfold Fq; simp; omega) (by omega) (by omega) (by omega) (by omega)]
    · simp only; rw [g1 101 (by decide), zup_s, up1_n _ _ (by omega)]; exact fo i hi
theorem sim_text {μ : zMem} {a : Int} (h : Rel μ) : Ok (f_X9_text a μ) (fun v => Ok (f_X10_text a v.2) (fun w => w.1 = v.1 ∧ Rel w.2)) := by
  by_cases h1 : 0 ≤ a ∧ a ≤ 1
  rotate_left
  · refine sim_same h (r := -1) ?_ ?_
    · unfold f_X9_text; rw [if_pos (isOwn0.mpr h1)]
    · unfold f_X10_text; rw [if_pos (isSpace0.mpr h1)]
  have hk := h.own h1
  have hkb := hk.b
  have hdk := h.1.2.1.2.2.1
  have hdb := hdk.b
  have hz := hdk.sz
  have hko : PK (μ 2 (1 - a)) := h.own (by omega)
  have hkob := hko.b
  have hne : μ 2 a ≠ μ 2 (1 - a) ∧ μ 2 a ≠ μ 1 10 ∧ μ 2 (1 - a) ≠ μ 1 10 := by
    obtain ⟨_, _, _, n1, n2, n3⟩ := h.1.2.1
    have h01 : a = 0 ∨ a = 1 := by omega
    rcases h01 with h | h <;> subst h
    · exact ⟨n1, n2, n3⟩
    · exact ⟨Ne.symm n1, n3, n2⟩
  obtain ⟨hT, hCT, hMT⟩ := h.tape
  generalize hTT : μ 20 = T at *
  generalize hNN : μ 19 1 = N at *
  have hrs := rdT_spec hT
  unfold f_X9_text
  rw [if_neg (fun e => isOwn0.mp e h1)]
  unfold f_X7_rewind
  simp only [zlet]
  rw [bnd_pos rfl, zup_n _ _ _ (by decide), chk_pos (by omega)]
  have g0 : FTx (μ 1 10) μ (zup μ 19 2 0) := (FTx.refl _ μ).pl 0
  obtain ⟨v, ev, q1, q2, q3, q4, q5, q6⟩ := c_readSpace (t := μ 1 10) hT (g0.tp hdb.1 hCT) hz hdb.1 (by rw [zup_s, up1_s])
  rw [ev, bnd2_pos (v := v.1) (μ := v.2) rfl]
  have g1 := g0.trans q1
  rw [c_faultHere hT (g1.tp hdb.1 hCT) ⟨q2, q3⟩ rfl, q4, hrs.2.2.1, bnd2_pos rfl]
  unfold f_X7_wipe
  simp only [zlet]
  rw [bnd_pos rfl]
  generalize hμ7 : zup (zup v.2 19 2 (rdT T N).2) 19 1 0 = μ7
  have cf : ∀ c, ¬ (μ 1 10 ≤ c ∧ c ≤ μ 1 10 + 6) → c ≠ 19 → c ≠ 21 → c ≠ 22 → μ7 c = μ c := fun c c0 c1 c2 c3 => by rw [← hμ7, zup_n _ _ _ c1, zup_n _ _ _ c1]; exact g1.1 c c0 c1 c2 c3
  have c91 : μ7 19 1 = 0 := by rw [← hμ7, zup_s, up1_s]
  have mtp : ∀ μd : zMem, (∀ c, 101 ≤ c → μd c = μ c) → MTp μd T N := fun μd hd => by
    unfold MTp at *
    rw [hd 101 (by decide), hd 110 (by decide)]
    exact hMT
  cases hr : (rdT T N).1 with
  | none =>
    rw [q5 hr, if_pos rfl]
    refine ok_some.mpr ?_
    show Ok (f_X10_text a μ7) _
    refine ((m_text h1 hT (mtp μ7 fun c hc => cf c (by omega) (by omega) (by omega) (by omega))).1 hr).imp fun w g => ?_
    obtain ⟨k1, k2, k3, k4⟩ := g
    refine ⟨k1, h.wipe2 (fun k x y z u => ?_) ?_ (fun i hi => ?_) ?_ k2⟩
    · unfold rlv at x
      rw [k3 k (by omega) (by omega) (by omega) (by omega) (by omega), cf k u (by omega) (by omega) (by omega)]
    · rw [k3 1 (by decide) (by decide) (by decide) (by decide) (by decide), cf 1 (by omega) (by decide) (by decide) (by decide)]
    · rw [k4 i hi, cf 101 (by omega) (by decide) (by decide) (by decide)]
    · rw [k3 19 (by decide) (by decide) (by decide) (by decide) (by decide)]; exact c91
  | some σ =>
    obtain ⟨j1, j2⟩ := q6 σ hr
    obtain ⟨we, wp⟩ := hrs.2.2.2 σ hr
    have cs7 : CS μ7 (μ 1 10) σ := j2.congr fun k x y => by rw [← hμ7, zup_n _ _ _ (by omega), zup_n _ _ _ (by omega)]
    have e2 : μ7 2 = μ 2 := cf 2 (by omega) (by decide) (by decide) (by decide)
    have e1 : μ7 1 = μ 1 := cf 1 (by omega) (by decide) (by decide) (by decide)
    rw [j1, if_neg (by decide), chk_pos (by omega), e2, e1, chk_pos (by omega), chk_pos (by omega), chk_pos (by omega)]
    have e12 : zup (zup μ7 2 a (μ 1 10)) 1 10 (μ 2 a) 2 a = μ 1 10 := by rw [zup_n _ _ _ (by decide), zup_s, up1_s]
    rw [chk_pos (by omega), e12, chk_pos (by omega)]
    have cs11 : CS (zup (zup μ7 2 a (μ 1 10)) 1 10 (μ 2 a)) (μ 1 10) σ := cs7.congr fun k x y => by rw [zup_n _ _ _ (by omega), zup_n _ _ _ (by omega)]
    refine ok_bnd.mpr ((c_findPart cs11 hz we).imp fun μ13 g => ?_)
    obtain ⟨f1, f2⟩ := g
    have c13 : ∀ c, ¬ (μ 1 10 ≤ c ∧ c ≤ μ 1 10 + 6) → c ≠ 19 → c ≠ 21 → c ≠ 22 → c ≠ 1 → c ≠ 2 → μ13 c = μ c := fun c c0 c1 c2 c3 c4 c5 => by
      rw [f1.1 c (by omega) (by omega) (by omega), zup_n _ _ _ c4, zup_n _ _ _ c5, cf c c0 c1 c2 c3]
    have e13 : μ13 2 = up1 (μ 2) a (μ 1 10) := by rw [f1.1 2 (by omega) (by omega) (by omega), zup_n _ _ _ (by decide), zup_s, e2]
    have e131 : μ13 1 10 = μ 2 a := by rw [f1.1 1 (by omega) (by omega) (by omega), zup_s, up1_s]
    refine ok_bnd.mpr ((c_emptySlots (h.1.2.2.congr fun k x => c13 k (by omega) (by omega) (by omega) (by omega) (by omega) (by omega)) h1.1).imp fun μ14 g => ?_)
    obtain ⟨k1, k2⟩ := g
    have e14 : μ14 2 = up1 (μ 2) a (μ 1 10) := by rw [k1 2 (by omega)]; exact e13
    have e14a : μ14 2 a = μ 1 10 := by rw [e14, up1_s]
    have cs14 : CS μ14 (μ 1 10) σ := (f1.cs cs11).congr fun k x y => k1 k (by omega)
    have cp14 : CP μ14 (μ 1 10) σ := f2.congr fun k x y => k1 k (by omega)
    rw [chk_pos (by omega), e14a, chk_pos (by omega), cs14.2.2.1]
    refine ok_some.mpr ?_
    show Ok (f_X10_text a μ14) _
    have c14 : ∀ c, ¬ (μ 1 10 ≤ c ∧ c ≤ μ 1 10 + 6) → ¬ (58 ≤ c ∧ c ≤ 65) → c ≠ 19 → c ≠ 21 → c ≠ 22 → c ≠ 1 → c ≠ 2 → μ14 c = μ c := fun c c0 cs c1 c2 c3 c4 c5 => (k1 c cs).trans (c13 c c0 c1 c2 c3 c4 c5)
    refine ((m_text h1 hT (mtp μ14 fun c hc => c14 c (by omega) (by omega) (by omega) (by omega) (by omega) (by omega) (by omega))).2 σ hr).imp fun w g => ?_
    obtain ⟨l1, l2, l3, l4, l5, l6, l7⟩ := g
    refine ⟨l1, h.spc (μ1 := μ14) h1 ⟨fun c x => c14 c (by omega) (by omega) (by omega) (by omega) (by omega) (by omega) (by omega), fun c x y z => ?_⟩ ?_ ?_ ⟨fun c x => l6 c (by omega) (by omega) (by omega), fun c x y z => ?_, l7⟩ l3 (σ := σ) (by rw [e14a]; exact cs14) (by rw [e14a]; exact cp14) l2 we wp ⟨?_, ?_, ?_, fun i x y => ?_⟩ (fun q x y => ?_)⟩
    · unfold spcX at z
      unfold rlv at x
      exact c14 c (by omega) (by omega) (by omega) (by omega) (by omega) (by omega) (by omega)
    · have e110 : μ14 1 10 = μ 2 a := by rw [k1 1 (by omega)]; exact e131
      have h01 : a = 0 ∨ a = 1 := by omega
      unfold K3
      rw [e110, e14]
      rcases h01 with h0 | h0 <;> subst h0
      · rw [up1_s, up1_n _ _ (by decide)]
        rw [show (1 : Int) - 0 = 1 by decide] at hne hko
        exact ⟨hdk, hko, hk, Ne.symm hne.2.2, Ne.symm hne.2.1, Ne.symm hne.1⟩
      · rw [up1_s, up1_n _ _ (by decide)]
        rw [show (1 : Int) - 1 = 0 by decide] at hne hko
        exact ⟨hko, hdk, hk, hne.2.2, Ne.symm hne.1, Ne.symm hne.2.1⟩
    · rw [e14, up1_n _ _ (by omega)]
    · unfold rlv at x
      unfold spmX at z
      exact l6 c (by omega) (by omega) (by omega)
    · have : μ14 19 1 = 0 := by
        rw [k1 19 (by omega), f1.1 19 (by omega) (by omega) (by omega), zup_n _ _ _ (by decide), zup_n _ _ _ (by decide)]; exact c91
      rw [l6 19 (by decide) (by decide) (by decide), this, l5]
    · have : μ14 19 1 = 0 := by
        rw [k1 19 (by omega), f1.1 19 (by omega) (by omega) (by omega), zup_n _ _ _ (by decide), zup_n _ _ _ (by decide)]; exact c91
      rw [l6 19 (by decide) (by decide) (by decide), this]; decide
    · have : μ14 19 1 = 0 := by
        rw [k1 19 (by omega), f1.1 19 (by omega) (by omega) (by omega), zup_n _ _ _ (by decide), zup_n _ _ _ (by decide)]; exact c91
      rw [l6 19 (by decide) (by decide) (by decide), this]; decide
    · have : μ14 19 1 = 0 := by
        rw [k1 19 (by omega), f1.1 19 (by omega) (by omega) (by omega), zup_n _ _ _ (by decide), zup_n _ _ _ (by decide)]; exact c91
      rw [l6 19 (by decide) (by decide) (by decide), this] at y
      omega
    · refine (h.2.2.2.1 q x y).emp ⟨x, y⟩ h1 (μ1 := μ14) (fun q' x' y' => ?_) (fun k b c => l6 k (by omega) (by omega) (by omega)) (c14 148 (by omega) (by omega) (by decide) (by decide) (by decide) (by decide) (by decide)) l4 (fun k b c => ?_) (fun y hy => ?_)
      · have := k2 q' x' y'
        rw [c13 (58 + 2 * q') (by omega) (by omega) (by omega) (by omega) (by omega) (by omega), c13 (58 + 2 * q' + 1) (by omega) (by omega) (by omega) (by omega) (by omega) (by omega)] at this
        exact this
      · rw [l6 k (by omega) (by omega) (by omega), c14 k (by omega) (by omega) (by omega) (by omega) (by omega) (by omega) (by omega)]
      · rw [(l3.1 y hy).2.1, c14 103 (by omega) (by omega) (by decide) (by decide) (by decide) (by decide) (by decide)]
