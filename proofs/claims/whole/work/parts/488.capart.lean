/-! the class: all next words, and how far two words are apart -/
def cPn (σ : Sp) (w : Int → Int) (L beg at' : Int) (f : Nat) : List Wr := (List.range' 0 (sL σ f).toNat).flatMap (cIn σ w L beg at' f)
def cPl (σ : Sp) (w : Int → Int) (L beg : Int) (a : Nat) : List Wr := (List.range' 0 (sP σ).toNat).flatMap (cPn σ w L beg a)
def cAll (σ : Sp) (w : Int → Int) (L beg : Int) : List Wr := (List.range' 0 (L + 1).toNat).flatMap (cPl σ w L beg)
theorem rot_rg {σ : Sp} {f a : Int} (hw : WfE σ 8 12) (hp : WfP σ 8) (hf : 0 ≤ f ∧ f < sP σ) (ha : 0 ≤ a ∧ a < sL σ f) : ∀ i, 0 ≤ i → i < sL σ f → (0 ≤ rotF σ f a i ∧ rotF σ f a i < 24) ∧ (0 ≤ rotC σ f a i ∧ rotC σ f a i < 24) := by
  obtain ⟨p1, p2, p3, _⟩ := hp.2.2 f hf.1 hf.2
  have hE := hw.2.2.2.1
  intro i i0 i1
  have b1 : 0 ≤ iF (sL σ f) a i ∧ iF (sL σ f) a i < sL σ f := by unfold iF; split <;> omega
  have b2 : 0 ≤ iC (sL σ f) a i ∧ iC (sL σ f) a i < sL σ f := by unfold iC; split <;> omega
  have h1 := p3 _ b1.1 b1.2
  have h2 := bck_rg (p3 _ b2.1 b2.2)
  unfold rotF rotC
  omega
theorem c_drawMeet {μ0 μ : zMem} {u x L at' f k kk : Int} {i : Nat} {σ : Sp} {w : Int → Int} {r0 : Wr} {S dn : List Wr} {g : zMem → Option zMem} {Q : zMem → Prop} (hu : 36 < u ∧ u < 58) (hc : CS μ0 u σ) (hz : SZ u 8 12 8) (hw : WfE σ 8 12) (hp : WfP σ 8) (hs : Slt μ0 x L w) (hk : k = 0 ∨ k = 1) (hr0 : Rb r0 12 ∧ r0.1 ≤ 16) (hS : ∀ s ∈ S, Rb s 12 ∧ s.1 ≤ 16) (hSl : S.length < 4096) (hdl : dn.length < 4096) (hat : 0 ≤ at' ∧ at' ≤ L) (hf : 0 ≤ f ∧ f < sP σ) (hi : (i : Int) < sL σ f) (hkk : kk = 0 ∨ kk = 1) (hJ : Jd k r0 S dn μ0 μ) (hg : ∀ μ', Jd k r0 S (dn ++ [nxw σ w L at' f (if kk = 0 then rotF σ f i else rotC σ f i)]) μ0 μ' → Ok (g μ') Q) : Ok (bnd (f_X0_draw u x at' f i kk μ) fun μ2 => bnd (f_X0_meet k μ2) g) Q := by
  obtain ⟨j1, j2, j3, j4, j5, j6⟩ := hJ
  obtain ⟨p1, p2, _⟩ := hp.2.2 f hf.1 hf.2
  have e : ∀ c, ¬ (33 ≤ c ∧ c ≤ 36) → μ c = μ0 c := fun c hh => j1.1 c (by simp; omega) (by omega)
  have hc1 : CS μ u σ := hc.congr fun c a b => e c (by omega)
  have hs1 : Slt μ x L w := hs.cg fun c a b => e c (by omega)
  have hrr : ∀ j, 0 ≤ j → j < sL σ f → 0 ≤ (if kk = 0 then rotF σ f i else rotC σ f i) j ∧ (if kk = 0 then rotF σ f i else rotC σ f i) j < 24 := by
    intro j a b
    have := rot_rg hw hp hf (a := i) ⟨by omega, hi⟩ j a b
    split
    · exact this.1
    · exact this.2
  have hrb := nxw_rb (σ := σ) (f := f) (rot := if kk = 0 then rotF σ f i else rotC σ f i) hs.2.2.2.2.2.2.2 hrr hat (by omega)
  refine ok_bnd.mpr ((c_draw (k := kk) hu hc1 hz hw hp hs1 hat hf (a := i) ⟨by omega, hi⟩ hkk).imp fun μ2 q => ?_)
  obtain ⟨q1, q2⟩ := q
  have hJ2 : Jd k r0 S dn μ0 μ2 := by
    refine ⟨j1.trans (q1.sub (by decide) (by decide)), by rw [q1.2 6 (by decide)]; exact j2, by rw [q1.2 7 (by decide)]; exact j3, by rw [q1.2 8 (by decide)]; exact j4, by rw [q1.2 9 (by decide)]; exact j5, ?_⟩
    rw [q1.1 34 (by decide) (by decide), q1.1 35 (by decide) (by decide)]
    exact j6
  exact ok_bnd.mpr ((c_meet hk hr0 hrb.1 hS hSl hdl q2 hJ2).imp fun μ3 r => hg μ3 r)
theorem c_drawAll {μ0 : zMem} {u x L beg k : Int} {σ : Sp} {w : Int → Int} {r0 : Wr} {S : List Wr} (hu : 36 < u ∧ u < 58) (hc : CS μ0 u σ) (hz : SZ u 8 12 8) (hw : WfE σ 8 12) (hp : WfP σ 8) (hs : Slt μ0 x L w) (hwE : ∀ i, 0 ≤ i → i < L → w i < 2 * sE σ) (hbeg : μ0 x 3 = beg) (hk : k = 0 ∨ k = 1) (hr0 : Rb r0 12 ∧ r0.1 ≤ 16) (hS : ∀ s ∈ S, Rb s 12 ∧ s.1 ≤ 16) (hSl : S.length < 4096) (hJ : Jd k r0 S [] μ0 μ0) : Ok (f_X0_drawAll u x k μ0) (fun μ' => Jd k r0 S (cAll σ w L beg) μ0 μ') := by
  have hP0 := hp.1
  have hP8 := hp.2.1
  have hs' := hs
  obtain ⟨s1, s2, s3, s4, s5, s6, s7, s8⟩ := hs'
  have hz' := hz
  obtain ⟨z1, z2, z3, z4, z5, z6, z7, z8, z9⟩ := hz'
  have E : ∀ (dn : List Wr) (μ : zMem), Jd k r0 S dn μ0 μ → ∀ c, ¬ (33 ≤ c ∧ c ≤ 36) → μ c = μ0 c := fun dn μ h c hh => h.1.1 c (by simp; omega) (by omega)
  -- one pane
  have k33 : ∀ (a f : Nat) (g : zMem → Option zMem) (Q : zMem → Prop), (a : Int) ≤ L → (f : Int) < sP σ → ∀ (m fu i : Nat) (dn : List Wr) (μ : zMem), m < fu → (i : Int) + m = sL σ f → dn.length + 2 * m ≤ 4000 → Jd k r0 S dn μ0 μ → (∀ μ', Jd k r0 S (dn ++ (List.range' i m).flatMap (cIn σ w L beg a f)) μ0 μ' → Ok (g μ') Q) → Ok (f_X0_drawAll_L33 u x k (crn σ w beg a) a f g fu (i : Int) μ) Q := by
    intro a f g Q ha hf m
    obtain ⟨p1, p2, p3, _⟩ := hp.2.2 f (by omega) hf
    induction m with
    | zero =>
      intro fu i dn μ hfu hi hdl hJ hg
      cases fu with
      | zero => omega
      | succ fu =>
        unfold f_X0_drawAll_L33
        rw [chk_pos (by omega), E dn μ hJ (u + 6) (by omega), (hc.2.2.2.2 f (by omega) hf).1, if_neg (by omega)]
        refine hg μ ?_
        rw [show (List.range' i 0).flatMap (cIn σ w L beg a f) = [] by simp, List.append_nil]
        exact hJ
    | succ m ih =>
      intro fu i dn μ hfu hi hdl hJ hg
      cases fu with
      | zero => omega
      | succ fu =>
        have hr := p3 i (by omega) (by omega)
        have hcs : ∀ (dn : List Wr) (μ : zMem), Jd k r0 S dn μ0 μ → CS μ u σ := fun dn μ h => hc.congr fun c p q => E dn μ h c (by omega)
        rw [List.range'_succ, List.flatMap_cons] at hg
        -- the way back
        have back : ∀ (dn' : List Wr) (μ' : zMem), dn'.length ≤ dn.length + 1 → dn' = dn ++ (if sA σ (sR σ f i) = crn σ w beg a then [nxw σ w L a f (rotF σ f i)] else []) → Jd k r0 S dn' μ0 μ' → Ok (f_X0_drawAll_J84 u x k (crn σ w beg a) a f i (sR σ f i) (f_X0_drawAll_L33 u x k (crn σ w beg a) a f g fu) μ') Q := by
          intro dn' μ' hl he hJ'
          have fin : ∀ (dn2 : List Wr) (μ2 : zMem), dn2.length ≤ dn.length + 2 → dn2 = dn' ++ (if sB σ (sR σ f i) = crn σ w beg a then [nxw σ w L a f (rotC σ f i)] else []) → Jd k r0 S dn2 μ0 μ2 → Ok (f_X0_drawAll_L33 u x k (crn σ w beg a) a f g fu ((i : Int) + 1) μ2) Q := by
            intro dn2 μ2 hl2 he2 hJ2
            have := ih fu (i + 1) dn2 μ2 (by omega) (by omega) (by omega) hJ2 (fun μ3 h3 => hg μ3 (by
              have : dn ++ (cIn σ w L beg a f i ++ (List.range' (i + 1) m).flatMap (cIn σ w L beg a f)) = dn2 ++ (List.range' (i + 1) m).flatMap (cIn σ w L beg a f) := by
                rw [he2, he]
                unfold cIn
                simp only [List.append_assoc]
              rw [this]
              exact h3))
            rw [show ((i + 1 : Nat) : Int) = (i : Int) + 1 by omega] at this
            exact this
          unfold f_X0_drawAll_J84
          rw [bnd_pos (c_endOf (hcs dn' μ' hJ') hz hw hr)]
          by_cases hB : sB σ (sR σ f i) = crn σ w beg a
          · rw [if_pos hB]
            refine c_drawMeet (kk := 1) hu hc hz hw hp hs hk hr0 hS hSl (by omega) ⟨by omega, ha⟩ ⟨by omega, hf⟩ (by omega) (Or.inr rfl) hJ' fun μ2 h2 => ?_
            simp only [zlet]
            rw [zw_eq (by omega) (by omega)]
            rw [if_neg (by decide)] at h2
            refine fin _ μ2 ?_ ?_ h2
            · rw [List.length_append]
              show dn'.length + 1 ≤ _
              omega
            · rw [if_pos hB]
          · rw [if_neg hB]
            simp only [zlet]
            rw [zw_eq (by omega) (by omega)]
            refine fin dn' μ' (by omega) ?_ hJ'
            rw [if_neg hB, List.append_nil]
        unfold f_X0_drawAll_L33
        rw [chk_pos (by omega), E dn μ hJ (u + 6) (by omega), (hc.2.2.2.2 f (by omega) hf).1, if_pos (by omega), bnd_pos (c_rimStep (hcs dn μ hJ) hz hp ⟨by omega, hf⟩ ⟨by omega, by omega⟩), bnd_pos (c_startOf (hcs dn μ hJ) hz hw hr)]
        by_cases hA : sA σ (sR σ f i) = crn σ w beg a
        · rw [if_pos hA]
          refine c_drawMeet (kk := 0) hu hc hz hw hp hs hk hr0 hS hSl (by omega) ⟨by omega, ha⟩ ⟨by omega, hf⟩ (by omega) (Or.inl rfl) hJ fun μ2 h2 => ?_
          rw [if_pos rfl] at h2
          refine back _ μ2 ?_ ?_ h2
          · rw [List.length_append]
            show dn.length + 1 ≤ _
            omega
          · rw [if_pos hA]
        · rw [if_neg hA]
          refine back dn μ (by omega) ?_ hJ
          rw [if_neg hA, List.append_nil]
  -- all panes at a place
  have k21 : ∀ (a : Nat) (g : zMem → Option zMem) (Q : zMem → Prop), (a : Int) ≤ L → ∀ (m fu f : Nat) (dn : List Wr) (μ : zMem), m < fu → (f : Int) + m = sP σ → dn.length + 16 * m ≤ 4000 → Jd k r0 S dn μ0 μ → (∀ μ', Jd k r0 S (dn ++ (List.range' f m).flatMap (cPn σ w L beg a)) μ0 μ' → Ok (g μ') Q) → Ok (f_X0_drawAll_L21 u x k (crn σ w beg a) a g fu (f : Int) μ) Q := by
    intro a g Q ha m
    induction m with
    | zero =>
      intro fu f dn μ hfu hf hdl hJ hg
      cases fu with
      | zero => omega
      | succ fu =>
        unfold f_X0_drawAll_L21
        rw [E dn μ hJ u (by omega), hc.2.2.1, if_neg (by omega)]
        refine hg μ ?_
        rw [show (List.range' f 0).flatMap (cPn σ w L beg a) = [] by simp, List.append_nil]
        exact hJ
    | succ m ih =>
      intro fu f dn μ hfu hf hdl hJ hg
      cases fu with
      | zero => omega
      | succ fu =>
        obtain ⟨p1, p2, p3, _⟩ := hp.2.2 f (by omega) (by omega)
        have hlen : (cPn σ w L beg a f).length ≤ 16 := by
          have := fm_len (cIn σ w L beg a f) 2 (sL σ f).toNat 0 (fun j _ _ => cIn_len _ _ _ _ _ _ _)
          unfold cPn
          omega
        unfold f_X0_drawAll_L21
        rw [E dn μ hJ u (by omega), hc.2.2.1, if_pos (by omega)]
        refine k33 a f _ Q ha (by omega) (sL σ f).toNat zfu 0 dn μ (by unfold zfu; omega) (by omega) (by omega) hJ fun μ2 h2 => ?_
        unfold f_X0_drawAll_K119
        simp only [zlet]
        rw [zw_eq (by omega) (by omega), show (f : Int) + 1 = ((f + 1 : Nat) : Int) by omega]
        refine ih fu (f + 1) (dn ++ cPn σ w L beg a f) μ2 (by omega) (by omega) (by rw [List.length_append]; omega) h2 fun μ3 h3 => hg μ3 ?_
        rw [List.range'_succ, List.flatMap_cons, ← List.append_assoc]
        exact h3
  -- all places
  have k9 : ∀ (m fu a : Nat) (dn : List Wr) (μ : zMem), m < fu → (a : Int) + m = L + 1 → dn.length + 128 * m ≤ 3000 → Jd k r0 S dn μ0 μ → Ok (f_X0_drawAll_L9 u x k fu (crn σ w beg a) (a : Int) μ) (fun μ' => Jd k r0 S (dn ++ (List.range' a m).flatMap (cPl σ w L beg)) μ0 μ') := by
    intro m
    induction m with
    | zero =>
      intro fu a dn μ hfu ha hdl hJ
      cases fu with
      | zero => omega
      | succ fu =>
        unfold f_X0_drawAll_L9
        rw [E dn μ hJ x (by omega), s1, if_neg (by omega)]
        refine ok_some.mpr ?_
        rw [show (List.range' a 0).flatMap (cPl σ w L beg) = [] by simp, List.append_nil]
        exact hJ
    | succ m ih =>
      intro fu a dn μ hfu ha hdl hJ
      cases fu with
      | zero => omega
      | succ fu =>
        have hlen : (cPl σ w L beg a).length ≤ 128 := by
          have := fm_len (cPn σ w L beg a) 16 (sP σ).toNat 0 (fun j _ hj => by
            obtain ⟨p1, p2, p3, _⟩ := hp.2.2 j (by omega) (by omega)
            have := fm_len (cIn σ w L beg a j) 2 (sL σ j).toNat 0 (fun j _ _ => cIn_len _ _ _ _ _ _ _)
            unfold cPn
            omega)
          unfold cPl
          omega
        unfold f_X0_drawAll_L9
        rw [E dn μ hJ x (by omega), s1, if_pos (by omega)]
        refine k21 a _ _ (by omega) (sP σ).toNat zfu 0 dn μ (by unfold zfu; omega) (by omega) (by omega) hJ fun μ2 h2 => ?_
        unfold f_X0_drawAll_K125
        simp only [zlet]
        rw [E _ μ2 h2 x (by omega), s1, zw_eq (x := (a : Int) + 1) (by omega) (by omega)]
        have e1 : ∀ c, c = crn σ w beg ((a + 1 : Nat) : Int) ∨ L < (a : Int) + 1 → Ok (f_X0_drawAll_L9 u x k fu c ((a : Int) + 1) μ2) (fun μ' => Jd k r0 S (dn ++ (List.range' a (m + 1)).flatMap (cPl σ w L beg)) μ0 μ') := by
          intro c hcc
          have hli : dn ++ (List.range' a (m + 1)).flatMap (cPl σ w L beg) = (dn ++ cPl σ w L beg a) ++ (List.range' (a + 1) m).flatMap (cPl σ w L beg) := by
            rw [List.range'_succ, List.flatMap_cons, List.append_assoc]
          rw [hli]
          rcases hcc with hcc | hcc
          · rw [hcc, show (a : Int) + 1 = ((a + 1 : Nat) : Int) by omega]
            exact ih fu (a + 1) (dn ++ cPl σ w L beg a) μ2 (by omega) (by omega) (by rw [List.length_append]; omega) h2
          · cases fu with
            | zero => omega
            | succ fu =>
              have hm0 : m = 0 := by omega
              subst hm0
              unfold f_X0_drawAll_L9
              rw [E _ μ2 h2 x (by omega), s1, if_neg (by omega)]
              refine ok_some.mpr ?_
              rw [show (List.range' (a + 1) 0).flatMap (cPl σ w L beg) = [] by simp, List.append_nil]
              exact h2
        by_cases haL : (a : Int) < L
        · have hwa := s8 a (by omega) haL
          have hcs2 : CS μ2 u σ := hc.congr fun c p q => E _ μ2 h2 c (by omega)
          rw [if_pos haL, chk_pos (by omega), E _ μ2 h2 (x + 1) (by omega), s2 a (by omega) haL, bnd_pos (c_endOf hcs2 hz hw ⟨hwa.1, hwE a (by omega) haL⟩)]
          refine e1 _ (Or.inl ?_)
          unfold crn
          rw [if_neg (by omega), show ((a + 1 : Nat) : Int) - 1 = a by omega]
        · rw [if_neg haL]
          exact e1 _ (Or.inr (by omega))
  unfold f_X0_drawAll
  simp only [zlet]
  rw [hbeg]
  have := k9 (L + 1).toNat zfu 0 [] μ0 (by unfold zfu; omega) (by omega) (by simp; omega) hJ
  rw [List.nil_append] at this
  have e0 : crn σ w beg ((0 : Nat) : Int) = beg := if_pos rfl
  rw [e0] at this
  exact this
