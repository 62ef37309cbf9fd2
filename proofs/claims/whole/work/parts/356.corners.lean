theorem c_tail {μ0 μ1 : zMem} {s : Int} {σ : Sp} (h : Rel μ0) (hs : 0 ≤ s ∧ s ≤ 1) (hf : ∀ c, ¬ (μ0 2 s ≤ c ∧ c ≤ μ0 2 s + 6) → μ1 c = μ0 c) (hc : CS μ1 (μ0 2 s) σ) (hw : WfE σ 8 12) : Ok (f_X5_findPart (μ0 2 s) μ1) (fun μa => Ok (f_X9_emptySlots s μa) (fun μ' => CS μ' (μ0 2 s) σ ∧ CP μ' (μ0 2 s) σ ∧ (∀ c, ¬ (μ0 2 s ≤ c ∧ c ≤ μ0 2 s + 6) → ¬ (58 ≤ c ∧ c ≤ 65) → μ' c = μ0 c) ∧ CEm s μ0 μ')) := by
  have hk := h.own hs
  have hb := hk.b
  refine (c_findPart hc hk.sz hw).imp fun μa q => ?_
  obtain ⟨q1, q2⟩ := q
  have ha : ∀ c, ¬ (μ0 2 s ≤ c ∧ c ≤ μ0 2 s + 6) → μa c = μ0 c := fun c a => (q1.1 c (by omega) (by omega) (by omega)).trans (hf c a)
  refine (c_emptySlots (h.1.2.2.congr fun k a => ha k (by omega)) hs.1).imp fun μ' g => ?_
  obtain ⟨g1, g2⟩ := g
  refine ⟨(q1.cs hc).congr fun k a b => g1 k (by omega), q2.congr fun k a b => g1 k (by omega), fun c a b => (g1 c b).trans (ha c a), fun q a b => ?_⟩
  have g3 := g2 q a b
  rw [ha _ (by omega), ha _ (by omega)] at g3
  exact g3
theorem Rel.spcE {μ μ1 μ2 : zMem} (h : Rel μ) {s : Int} (hs : 0 ≤ s ∧ s ≤ 1) {σ : Sp} (n1 : CS μ1 (μ 2 s) σ) (n2 : CP μ1 (μ 2 s) σ) (cf : ∀ c, ¬ (μ 2 s ≤ c ∧ c ≤ μ 2 s + 6) → ¬ (58 ≤ c ∧ c ≤ 65) → rlv c ∨ 100 ≤ c ∨ c = 1 ∨ c = 19 → μ1 c = μ c) (ce : CEm s μ μ1) (mf : Mf spmX μ1 μ2) (hm : Ms s μ1 μ2) (me : MEm s μ1 μ2) (n3 : MS μ2 s σ) (n4 : WfE σ 8 12) (n5 : WfP σ 8) (t9 : μ2 101 9 = μ1 101 9) (t0 : μ2 110 = μ1 110) : Rel μ2 := by
  have hb := (h.own hs).b
  have hko : PK (μ 2 (1 - s)) := h.own (by omega)
  have hb2 := hko.b
  have hne : μ 2 s ≠ μ 2 (1 - s) := by
    have h01 : s = 0 ∨ s = 1 := by omega
    have := h.1.2.1.2.2.2.1
    rcases h01 with h | h <;> subst h
    · exact this
    · exact Ne.symm this
  have e2 : μ1 2 = μ 2 := cf 2 (by omega) (by omega) (by unfold rlv; omega)
  have e1 : μ1 1 = μ 1 := cf 1 (by omega) (by omega) (by omega)
  refine h.spc hs ⟨fun c a => cf c (by omega) (by omega) (by omega), fun c a b d => cf c (fun e => d ?_) (fun e => d ?_) (Or.inl a)⟩ (h.1.2.1.congr e2 (by rw [e1])) (by rw [e2]) mf hm (σ := σ) (by rw [e2]; exact n1) (by rw [e2]; exact n2) n3 n4 n5 ?_ (fun q a b => ?_)
  · unfold spcX; omega
  · unfold spcX; omega
  · exact h.2.2.1.congr (by rw [mf.1 19 (by decide), cf 19 (by omega) (by omega) (by omega)]) (by rw [t9, cf 101 (by omega) (by omega) (by omega)]) (by rw [mf.1 20 (by decide), cf 20 (by omega) (by omega) (by unfold rlv; omega)]) (by rw [t0, cf 110 (by omega) (by omega) (by unfold rlv; omega)])
  · refine (h.2.2.2.1 q a b).emp ⟨a, b⟩ hs ce (fun k c d => mf.1 k (by omega)) (cf 148 (by omega) (by omega) (by omega)) me (fun k c d => ?_) (fun x hx => ?_)
    · rw [mf.2.1 k (by unfold rlv; omega) (by omega) (by unfold spmX; omega), cf k (by omega) (by omega) (by omega)]
    · rw [(hm.1 x hx).2.1, cf 103 (by omega) (by omega) (by omega)]
theorem sim_corners {μ : zMem} {a b : Int} (h : Rel μ) : Ok (f_X9_corners a b μ) (fun v => Ok (f_X10_corners a b v.2) (fun w => w.1 = v.1 ∧ Rel w.2)) := by
  by_cases h1 : 0 ≤ a ∧ a ≤ 1
  · by_cases h2 : 1 ≤ b ∧ b ≤ 8
    · have hk := h.own h1
      have hb := hk.b
      obtain ⟨z1, z2, z3, z4, z5, z6, z7, z8, z9⟩ := hk.sz
      obtain ⟨σ, s1, s2, s3, s4, s5⟩ := h.2.1 a h1.1 h1.2
      have hw : WfE ((b, 0, 0), σ.2) 8 12 := ⟨h2.1, h2.2, Int.le_refl 0, show (0 : Int) ≤ 12 by decide, fun e a b => by have : e < 0 := b; omega⟩
      unfold f_X9_corners
      rw [if_neg (fun e => isOwn0.mp e h1), if_neg (by omega), if_pos h2.2, chk_pos (by omega), chk_pos (by omega)]
      simp only [zlet]
      rw [chk_pos (by omega), chk_pos (by omega)]
      unfold f_X5_clear
      simp only [zlet]
      rw [bnd_pos rfl, show zmin b (zlen (μ 2 a + 4)) = b by unfold zmin; rw [z4]; split <;> omega]
      simp (disch := omega) only [zup_n]
      rw [chk_pos (by omega), chk_pos (by omega)]
      refine ok_bnd.mpr ((c_tail (σ := ((b, 0, 0), σ.2)) h h1 (fun c hc => ?_) ?_ hw).imp fun μa q => ok_bnd.mpr (q.imp fun μ1 q => ok_some.mpr ?_))
      · simp (disch := omega) only [zup_n]
      · refine ⟨?_, ?_, ?_, fun e h0 h1 => ?_, fun f h0 h1 => ?_⟩
        · simp (disch := omega) only [zup_s, up1_n, up1_s]; rfl
        · simp (disch := omega) only [zup_s, up1_n, up1_s]; rfl
        · simp (disch := omega) only [zup_s, up1_n, up1_s]; rfl
        · have : e < 0 := h1; omega
        · have : f < 0 := h1; omega
      obtain ⟨g1, g2, g3, g4⟩ := q
      show Ok (f_X10_corners a b μ1) _
      unfold f_X10_corners
      rw [if_neg (fun e => isSpace0.mp e h1), if_neg (fun e => in0.mp e h2), chk_pos (by omega)]
      simp only [zlet]
      unfold f_X10_clear
      simp only [zlet]
      rw [chk_pos (by omega), chk_pos (by omega), chk_pos (by omega), bnd_pos rfl]
      refine ok_bnd.mpr (m_emptySlots.imp fun μ2 q => ok_some.mpr ⟨?_, ?_⟩)
      · simp only
        rw [g3 102 (by omega) (by omega), s3.1, s1.1]
      · obtain ⟨q1, q2⟩ := q
        show Rel μ2
        refine h.spcE h1 (σ := ((b, 0, 0), σ.2)) g1 g2 (fun c a b _ => g3 c a b) g4 ⟨fun c hc => ?_, fun c hc hc2 hx => ?_, fun i hi => ?_⟩ ⟨fun x hx => ?_, fun i hi => ?_, fun i hi => ?_, fun i hi => ?_⟩ (fun q c d => ?_) ⟨?_, ?_, ?_, fun e h0 h1 => ?_, fun f h0 h1 => ?_⟩ hw ⟨Int.le_refl 0, show (0 : Int) ≤ 8 by decide, fun f h0 h1 => by have : f < 0 := h1; omega⟩ ?_ ?_
        · rw [q1 c (by omega)]; simp (disch := omega) only [zup_n]
        · unfold spmX at hx; rw [q1 c (by omega)]; simp (disch := omega) only [zup_n]
        · rw [q1 101 (by omega)]; simp (disch := omega) only [zup_n]
        · rw [q1 102 (by omega), q1 103 (by omega), q1 104 (by omega)]; simp (disch := omega) only [zup_s, zup_n, up1_n]; exact ⟨trivial, trivial, trivial⟩
        · rw [q1 105 (by omega), q1 106 (by omega)]; simp (disch := omega) only [zup_n]; exact ⟨trivial, trivial⟩
        · rw [q1 107 (by omega)]; simp (disch := omega) only [zup_n]
        · rw [q1 108 (by omega)]; simp (disch := omega) only [zup_n]
        · have := q2 q c d
          simp (disch := omega) only [zup_n] at this
          exact this
        · rw [q1 102 (by omega)]; simp (disch := omega) only [zup_s, zup_n, up1_s]; rfl
        · rw [q1 103 (by omega)]; simp (disch := omega) only [zup_s, zup_n, up1_s]; rfl
        · rw [q1 104 (by omega)]; simp (disch := omega) only [zup_s, zup_n, up1_s]; rfl
        · have : e < 0 := h1; omega
        · have : f < 0 := h1; omega
        · rw [q1 101 (by omega)]; simp (disch := omega) only [zup_n]
        · rw [q1 110 (by omega)]; simp (disch := omega) only [zup_n]
    · refine sim_same h (r := -1) ?_ ?_
      · unfold f_X9_corners
        rw [if_neg (fun e => isOwn0.mp e h1)]
        by_cases hb : b < 1
        · rw [if_pos hb]
        · rw [if_neg hb, if_neg (by omega)]
      · unfold f_X10_corners
        rw [if_neg (fun e => isSpace0.mp e h1), if_pos (in0.mpr h2)]
  · refine sim_same h (r := -1) ?_ ?_
    · unfold f_X9_corners; rw [if_pos (isOwn0.mpr h1)]
    · unfold f_X10_corners; rw [if_pos (isSpace0.mpr h1)]
/-! an edge more -/
def addE (σ : Sp) (a b : Int) : Sp := ((sC σ, sE σ + 1, sP σ), (fun e => if e = sE σ then a else sF σ e), (fun e => if e = sE σ then b else sT σ e), sL σ, sR σ)
section
variable {μ : zMem} {t s a b mC mE mP : Int} {σ : Sp}
theorem c_addEdge (h : CS μ t σ) (hz : SZ t mC mE mP) (hE0 : 0 ≤ sE σ) (hE : sE σ < mE) : Ok (f_X5_addEdge t a b μ) (fun μ' => CS μ' t (addE σ a b) ∧ (∀ k, k ≠ t → k ≠ t + 1 → k ≠ t + 2 → μ' k = μ k) ∧ (∀ i, i ≠ 7 → μ' t i = μ t i)) := by
  obtain ⟨hC, hEE, hP, hFT, hLR⟩ := h
  obtain ⟨z1, z2, z3, z4, z5, z6, z7, z8, z9⟩ := hz
  unfold f_X5_addEdge
  rw [if_pos (by omega)]
  simp (disch := omega) only [ok_chk, ok_zlet, ok_some, zup_s, zup_n, up1_s, up1_n, zw_eq, hEE, z1, z2]
  refine ⟨by omega, by omega, ?_, fun k a b c => ?_, fun i a => ?_⟩
  · unfold CS
    simp (disch := omega) only [zup_s, zup_n, up1_s, up1_n]
    refine ⟨hC, rfl, hP, fun e h0 h1 => ?_, hLR⟩
    have : e < sE σ + 1 := h1
    simp only [up1_e]
    by_cases he : e = sE σ
    · subst he
      simp [addE, sF, sT]
    · have := hFT e h0 (by omega)
      simp [addE, sF, sT, he] at *
      exact this
  · simp (disch := omega) only [zup_n]
  · first | trivial | (simp (disch := omega) only [zup_s, zup_n, up1_n])
theorem m_addEdge (h : MS μ s σ) (hs : 0 ≤ s ∧ s < 3) (hE0 : 0 ≤ sE σ) (hE : sE σ < 48) : Ok (f_X10_addEdge s a b μ) (fun w => w.1 = sE σ ∧ MS w.2 s (addE σ a b) ∧ (∀ k, k ≠ 103 → k ≠ 105 → k ≠ 106 → w.2 k = μ k) ∧ Ms s μ w.2) := by
  obtain ⟨hC, hEE, hP, hFT, hLR⟩ := h
  unfold f_X10_addEdge
  simp (disch := omega) only [ok_chk, ok_zlet, ok_some, zup_s, zup_n, up1_s, up1_n, zw_eq, hEE]
  refine ⟨hs, by omega, hs, by omega, hs, hs, hs, by omega, ?_, fun k a b c => ?_, ?_⟩
  · unfold MS
    simp (disch := omega) only [zup_s, zup_n, up1_s, up1_n]
    refine ⟨hC, rfl, hP, fun e h0 h1 => ?_, hLR⟩
    have : e < sE σ + 1 := h1
    simp only [up1_e]
    by_cases he : e = sE σ
    · subst he
      simp [addE, sF, sT]
    · have := hFT e h0 (by omega)
      simp [addE, sF, sT, he] at *
      exact this
  · simp (disch := omega) only [zup_n]
  · refine ⟨fun x hx => ?_, fun i hi => ?_, fun i hi => ?_, fun i hi => ?_⟩
    · simp (disch := omega) only [zup_s, zup_n, up1_n]; exact ⟨trivial, trivial, trivial⟩
    · simp (disch := omega) only [zup_s, zup_n, up1_n]; exact ⟨trivial, trivial⟩
    · simp (disch := omega) only [zup_n]
    · simp (disch := omega) only [zup_n]
theorem addE_wfE (hw : WfE σ mC mE) (hE : sE σ < mE) (ha : 0 ≤ a ∧ a < sC σ) (hb : 0 ≤ b ∧ b < sC σ) : WfE (addE σ a b) mC mE := by
  obtain ⟨w1, w2, w3, w4, w5⟩ := hw
  refine ⟨w1, w2, show 0 ≤ sE σ + 1 by omega, show sE σ + 1 ≤ mE by omega, fun e h0 h1 => ?_⟩
  have h2 : e < sE σ + 1 := h1
  show 0 ≤ (if e = sE σ then a else sF σ e) ∧ (if e = sE σ then a else sF σ e) < sC σ ∧ 0 ≤ (if e = sE σ then b else sT σ e) ∧ (if e = sE σ then b else sT σ e) < sC σ
  by_cases he : e = sE σ
  · rw [if_pos he, if_pos he]
    omega
  · rw [if_neg he, if_neg he]
    exact w5 e h0 (by omega)
theorem addE_AB {c : Int} (h : 0 ≤ c ∧ c < 2 * sE σ) : sA (addE σ a b) c = sA σ c ∧ sB (addE σ a b) c = sB σ c := by
  have h1 : ¬ c / 2 = sE σ := by omega
  unfold sA sB
  refine ⟨?_, ?_⟩
  · show (if c % 2 = 0 then (if c / 2 = sE σ then a else sF σ (c / 2)) else (if c / 2 = sE σ then b else sT σ (c / 2))) = _
    rw [if_neg h1, if_neg h1]
  · show (if c % 2 = 0 then (if c / 2 = sE σ then b else sT σ (c / 2)) else (if c / 2 = sE σ then a else sF σ (c / 2))) = _
    rw [if_neg h1, if_neg h1]
theorem addE_wfP (hp : WfP σ mP) : WfP (addE σ a b) mP := by
  obtain ⟨p1, p2, p3⟩ := hp
  refine ⟨p1, p2, fun f h0 h1 => ?_⟩
  obtain ⟨q1, q2, q3, q4, q5⟩ := p3 f h0 h1
  refine ⟨q1, q2, fun i i0 i1 => ⟨(q3 i i0 i1).1, ?_⟩, fun i i0 i1 => ?_, ?_⟩
  · show sR σ f i < 2 * (sE σ + 1)
    have := (q3 i i0 i1).2
    omega
  · have i2 : i + 1 < sL σ f := i1
    show sB (addE σ a b) (sR σ f i) = sA (addE σ a b) (sR σ f (i + 1))
    rw [(addE_AB (q3 i i0 (by omega))).2, (addE_AB (q3 (i + 1) (by omega) i2)).1]
    exact q4 i i0 i2
  · show sB (addE σ a b) (sR σ f (sL σ f - 1)) = sA (addE σ a b) (sR σ f 0)
    rw [(addE_AB (q3 (sL σ f - 1) (by omega) (by omega))).2, (addE_AB (q3 0 (by omega) (by omega))).1]
    exact q5
end
theorem hasC {μ : zMem} {t x : Int} : f_X5_hasCorner t x μ = 0 ↔ ¬ (0 ≤ x ∧ x < μ t 6) := by
  unfold f_X5_hasCorner
  split
  · exact ⟨fun _ => by omega, fun _ => rfl⟩
  · split
    · exact ⟨fun h => by omega, fun h => by omega⟩
    · exact ⟨fun _ => by omega, fun _ => rfl⟩
theorem Rel.spcG {μ μ1 μ2 : zMem} (h : Rel μ) {s : Int} (hs : 0 ≤ s ∧ s ≤ 1) {σ : Sp} (n1 : CS μ1 (μ 2 s) σ) (n2 : CP μ1 (μ 2 s) σ) (cf : ∀ c, ¬ (μ 2 s ≤ c ∧ c ≤ μ 2 s + 6) → (rlv c ∧ c ≠ 20) ∨ 100 ≤ c ∨ c = 1 → μ1 c = μ c) (mf : Mf (fun c => spmX c ∧ c ≠ 148) μ1 μ2) (hm : Ms s μ1 μ2) (n3 : MS μ2 s σ) (n4 : WfE σ 8 12) (n5 : WfP σ 8) (hE : μ 103 s ≤ sE σ) (tp : TpR μ2) : Rel μ2 := by
  have hb := (h.own hs).b
  have hko : PK (μ 2 (1 - s)) := h.own (by omega)
  have hb2 := hko.b
  have hne : μ 2 s ≠ μ 2 (1 - s) := by
    have h01 : s = 0 ∨ s = 1 := by omega
    have := h.1.2.1.2.2.2.1
    rcases h01 with h | h <;> subst h
    · exact this
    · exact Ne.symm this
  have e2 : μ1 2 = μ 2 := cf 2 (by omega) (by unfold rlv; omega)
  have e1 : μ1 1 = μ 1 := cf 1 (by omega) (by omega)
  refine h.spc hs ⟨fun c a => cf c (by omega) (by omega), fun c a b d => cf c (fun e => d ?_) (Or.inl ⟨a, fun e => d ?_⟩)⟩ (h.1.2.1.congr e2 (by rw [e1])) (by rw [e2]) ⟨mf.1, fun c a b d => mf.2.1 c a b (fun e => d e.1), mf.2.2⟩ hm (σ := σ) (by rw [e2]; exact n1) (by rw [e2]; exact n2) n3 n4 n5 tp (fun q a b => ?_)
  · unfold spcX; omega
  · unfold spcX; omega
  · refine (h.2.2.2.1 q a b).grow ⟨a, b⟩ (fun k c => ?_) (fun x x0 x1 => ?_)
    · rcases c with c | c
      · rw [mf.1 k (by omega), cf k (by omega) (by unfold rlv; omega)]
      · rw [mf.2.1 k (by unfold rlv; omega) (by omega) (by unfold spmX; omega), cf k (by omega) (by omega)]
    · by_cases hx : x = s
      · subst hx
        rw [n3.2.1]
        exact hE
      · rw [(hm.1 x hx).2.1, cf 103 (by omega) (by omega)]
        exact Int.le_refl _
theorem sim_edge {μ : zMem} {a b c : Int} (h : Rel μ) : Ok (f_X9_edge a b c μ) (fun v => Ok (f_X10_edge a b c v.2) (fun w => w.1 = v.1 ∧ Rel w.2)) := by
  by_cases h1 : 0 ≤ a ∧ a ≤ 1
  · have hk := h.own h1
    have hb := hk.b
    have hz := hk.sz
    obtain ⟨σ, s1, s2, s3, s4, s5⟩ := h.2.1 a h1.1 h1.2
    have s4' := s4
    obtain ⟨w1, w2, w3, w4, w5⟩ := s4
    have hC : f_X9_edge a b c μ = if f_X5_hasCorner (μ 2 a) b μ = 0 then some (-1, μ) else if f_X5_hasCorner (μ 2 a) c μ = 0 then some (-1, μ) else if μ (μ 2 a) 7 < 12 then bnd (f_X5_addEdge (μ 2 a) b c μ) fun μ_2 => bnd (f_X5_findPart (μ 2 a) μ_2) fun μ_3 => some (zw (μ_3 (μ 2 a) 7 - 1), μ_3) else some (-3, μ) := by
      unfold f_X9_edge
      rw [if_neg (fun e => isOwn0.mp e h1), chk_pos (by omega), chk_pos (by omega)]
      rfl
    have hM : ∀ μ' : zMem, μ' 102 a = sC σ → μ' 103 a = sE σ → f_X10_edge a b c μ' = if f_X10_in b 0 (sC σ - 1) = 0 then some (-1, μ') else if f_X10_in c 0 (sC σ - 1) = 0 then some (-1, μ') else if sE σ = 12 then some (-3, μ') else bnd2 (f_X10_addEdge a b c μ') fun x_1 μ_2 => some (x_1, μ_2) := by
      intro μ' m1 m2
      unfold f_X10_edge
      rw [if_neg (fun e => isSpace0.mp e h1), chk_pos (by omega), chk_pos (by omega), chk_pos (by omega), m1, m2, zw_eq (x := sC σ - 1) (by omega) (by omega)]
    by_cases h2 : 0 ≤ b ∧ b < sC σ
    · by_cases h3 : 0 ≤ c ∧ c < sC σ
      · by_cases h4 : sE σ < 12
        · rw [hC, if_neg (fun e => hasC.mp e (by rw [s1.1]; exact h2)), if_neg (fun e => hasC.mp e (by rw [s1.1]; exact h3)), if_pos (by rw [s1.2.1]; exact h4)]
          refine ok_bnd.mpr ((c_addEdge s1 hz w3 h4).imp fun μa q => ?_)
          obtain ⟨q1, q2, q3⟩ := q
          have hw := addE_wfE s4' h4 h2 h3
          refine ok_bnd.mpr ((c_findPart q1 hz hw).imp fun μ1 g => ok_some.mpr ?_)
          obtain ⟨g1, g2⟩ := g
          have cf : ∀ k, ¬ (μ 2 a ≤ k ∧ k ≤ μ 2 a + 6) → μ1 k = μ k := fun k hk => (g1.1 k (by omega) (by omega) (by omega)).trans (q2 k (by omega) (by omega) (by omega))
          have e7 : μ1 (μ 2 a) 7 = sE σ + 1 := (g1.cs q1).2.1
          rw [e7, zw_eq (by omega) (by omega)]
          show Ok (f_X10_edge a b c μ1) _
          have ms1 : MS μ1 a σ := s3.congr fun k x y => cf k (by omega)
          rw [hM μ1 ms1.1 ms1.2.1, if_neg (fun e => in0.mp e (by omega)), if_neg (fun e => in0.mp e (by omega)), if_neg (by omega)]
          refine ok_bnd2.mpr ((m_addEdge ms1 (by omega) w3 (by omega)).imp fun w r => ok_some.mpr ?_)
          obtain ⟨r1, r2, r3, r4⟩ := r
          refine ⟨by simp only; omega, h.spcG h1 (g1.cs q1) g2 (fun k x _ => cf k x) ⟨fun k hk => r3 k (by omega) (by omega) (by omega), fun k x y z => r3 k (fun e => z ?_) (fun e => z ?_) (fun e => z ?_), fun i _ => by rw [r3 101 (by omega) (by omega) (by omega)]⟩ r4 r2 hw (addE_wfP s5) (by rw [s3.2.1]; show sE σ ≤ sE σ + 1; omega) ?_⟩
          · unfold spmX; omega
          · unfold spmX; omega
          · unfold spmX; omega
          · exact h.2.2.1.congr (by rw [r3 19 (by omega) (by omega) (by omega), cf 19 (by omega)]) (by rw [r3 101 (by omega) (by omega) (by omega), cf 101 (by omega)]) (by rw [r3 20 (by omega) (by omega) (by omega), cf 20 (by omega)]) (by rw [r3 110 (by omega) (by omega) (by omega), cf 110 (by omega)])
        · refine sim_same h (r := -3) ?_ ?_
          · rw [hC, if_neg (fun e => hasC.mp e (by rw [s1.1]; exact h2)), if_neg (fun e => hasC.mp e (by rw [s1.1]; exact h3)), if_neg (by rw [s1.2.1]; exact h4)]
          · rw [hM μ s3.1 s3.2.1, if_neg (fun e => in0.mp e (by omega)), if_neg (fun e => in0.mp e (by omega)), if_pos (by omega)]
      · refine sim_same h (r := -1) ?_ ?_
        · rw [hC, if_neg (fun e => hasC.mp e (by rw [s1.1]; exact h2)), if_pos (hasC.mpr (by rw [s1.1]; exact h3))]
        · rw [hM μ s3.1 s3.2.1, if_neg (fun e => in0.mp e (by omega)), if_pos (in0.mpr (by omega))]
    · refine sim_same h (r := -1) ?_ ?_
      · rw [hC, if_pos (hasC.mpr (by rw [s1.1]; exact h2))]
      · rw [hM μ s3.1 s3.2.1, if_pos (in0.mpr (by omega))]
  · refine sim_same h (r := -1) ?_ ?_
    · unfold f_X9_edge; rw [if_pos (isOwn0.mpr h1)]
    · unfold f_X10_edge; rw [if_pos (isSpace0.mpr h1)]
