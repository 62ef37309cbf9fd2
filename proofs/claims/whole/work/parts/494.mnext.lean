/-! the reference: all next words listed -/
def rIn (σ : Sp) (w : Int → Int) (L beg at' f : Int) (i : Nat) : List Wr := if sA σ (sR σ f i) = crn σ w beg at' then [nxw σ w L at' f (rotF σ f i), nxw σ w L at' f (rotC σ f (aB (sL σ f) i))] else []
def rPn (σ : Sp) (w : Int → Int) (L beg at' : Int) (f : Nat) : List Wr := (List.range' 0 (sL σ f).toNat).flatMap (rIn σ w L beg at' f)
def rPl (σ : Sp) (w : Int → Int) (L beg : Int) (a : Nat) : List Wr := (List.range' 0 (sP σ).toNat).flatMap (rPn σ w L beg a)
def rAll (σ : Sp) (w : Int → Int) (L beg : Int) : List Wr := (List.range' 0 (L + 1).toNat).flatMap (rPl σ w L beg)
theorem rIn_len (σ : Sp) (w : Int → Int) (L beg at' f : Int) (i : Nat) : (rIn σ w L beg at' f i).length ≤ 2 := by
  unfold rIn
  split <;> simp
/-- listed from a place on -/
def Lsd (μ : zMem) (from' : Int) (l : List Wr) : Prop := ∀ k (h : k < l.length), μ 156 (from' + k) = oneM l[k] ∧ μ 157 (from' + k) = twoM l[k]
theorem Lsd.cg {μ μ' : zMem} {a : Int} {l : List Wr} (h : Lsd μ a l) (he : ∀ j, a ≤ j → j < a + l.length → μ' 156 j = μ 156 j ∧ μ' 157 j = μ 157 j) : Lsd μ' a l := by
  intro k hk
  have := he (a + k) (by omega) (by omega)
  rw [this.1, this.2]
  exact h k hk
/-- while listing: what is kept beside it -/
def Jm (a : Int) (dn : List Wr) (μ0 μ : zMem) : Prop := Fm [154, 156, 157] [51, 53] μ0 μ ∧ μ 101 53 = (dn.filter shw).length ∧ Lsd μ a (dn.filter shw) ∧ (∀ j, j < a → μ 156 j = μ0 156 j ∧ μ 157 j = μ0 157 j)
theorem m_cornerAt {μ : zMem} {q s L beg at' : Int} {σ : Sp} {w : Int → Int} (hs : SlM μ q s L beg w) (hs2 : 0 ≤ s ∧ s < 2) (hc : MS μ s σ) (hw : WfE σ 8 12) (hE : ∀ i, 0 ≤ i → i < L → w i < 2 * sE σ) (hat : 0 ≤ at' ∧ at' ≤ L) : f_X10_cornerAt q at' μ = some (crn σ w beg at') := by
  obtain ⟨s0, s1, s2, s3, s4, s5, s6, s7⟩ := hs
  unfold f_X10_cornerAt crn
  by_cases h0 : at' = 0
  · rw [if_pos h0, if_pos h0, chk_pos (by omega), s3]
  · have h7 := s7 (at' - 1) (by omega) (by omega)
    rw [if_neg h0, if_neg h0, chk_pos (by omega), zw_eq (x := 16 * q) (by omega) (by omega), zw_eq (x := 16 * q + at') (by omega) (by omega), zw_eq (x := 16 * q + at' - 1) (by omega) (by omega), chk_pos (by omega), s1, show 16 * q + at' - 1 = 16 * q + (at' - 1) by omega, s4 _ (by omega) (by omega), bnd_pos (m_toOf hc ⟨hs2.1, by omega⟩ (hw.mono (by omega) (by omega)) ⟨h7.1, hE _ (by omega) (by omega)⟩)]
theorem m_putList {μ0 μ : zMem} {q s L beg at' f a k : Int} {i : Nat} {σ : Sp} {w : Int → Int} {dn : List Wr} {g : Int → zMem → Option zMem} {Q : zMem → Prop} {x19 : Int} (hs : SlM μ0 q s L beg w) (hs2 : 0 ≤ s ∧ s < 2) (hc : MS μ0 s σ) (hw : WfE σ 8 12) (hp : WfP σ 8) (hat : 0 ≤ at' ∧ at' ≤ L) (hf : 0 ≤ f ∧ f < sP σ) (hi : (i : Int) < sL σ f) (hk : k = 0 ∨ k = 1) (ha : 0 ≤ a ∧ a ≤ 2400) (hdl : dn.length ≤ 2300) (hx : 0 ≤ x19 ∧ x19 < 2) (hJ : Jm a dn μ0 μ) (hg : ∀ μ', Jm a (dn ++ [nxw σ w L at' f (if k = 0 then rotF σ f i else rotC σ f (aB (sL σ f) i))]) μ0 μ' → Ok (g (x19 + 1) μ') Q) : Ok (f_X10_layNext_J112 q a at' f i x19 g k μ) Q := by
  obtain ⟨j1, j2, j3, j4⟩ := hJ
  obtain ⟨p1, p2, _⟩ := hp.2.2 f hf.1 hf.2
  have hs1 : SlM μ q s L beg w := hs.cg fun c x y => j1.1 c (by simp; omega) (by omega)
  have hc1 : MS μ s σ := j1.ms (by unfold noSp; decide) hc
  have haB : 0 ≤ aB (sL σ f) i ∧ aB (sL σ f) i < sL σ f := by unfold aB; split <;> omega
  have hfl := List.length_filter_le shw dn
  have hrr : ∀ j, 0 ≤ j → j < sL σ f → 0 ≤ (if k = 0 then rotF σ f i else rotC σ f (aB (sL σ f) i)) j ∧ (if k = 0 then rotF σ f i else rotC σ f (aB (sL σ f) i)) j < 24 := by
    intro j x y
    have h1 := (rot_rg hw hp hf (a := i) ⟨by omega, hi⟩ j x y).1
    have h2 := (rot_rg hw hp hf haB j x y).2
    split
    · exact h1
    · exact h2
  have hrb := nxw_rb (σ := σ) (f := f) (rot := if k = 0 then rotF σ f i else rotC σ f (aB (sL σ f) i)) hs.2.2.2.2.2.2.2 hrr hat (by omega)
  unfold f_X10_layNext_J112
  refine ok_bnd.mpr ((m_putIn hs1 hs2 hc1 hw hp hat hf (b := i) ⟨by omega, hi⟩ hk).imp fun μ2 r => ?_)
  obtain ⟨r1, r2⟩ := r
  generalize hnx : nxw σ w L at' f (if k = 0 then rotF σ f i else rotC σ f (aB (sL σ f) i)) = nx at *
  have e53 : μ2 101 53 = (dn.filter shw).length := by rw [r1.2 53 (by decide)]; exact j2
  have e156 : μ2 156 = μ 156 := r1.1 156 (by decide) (by decide)
  have e157 : μ2 157 = μ 157 := r1.1 157 (by decide) (by decide)
  rw [r2.1]
  by_cases hl : nx.1 ≤ 16
  · rw [if_pos hl, e53, zw_eq (x := a + ((dn.filter shw).length : Int)) (by omega) (by omega)]
    refine ok_bnd.mpr ((m_list r2 hrb.1 hl (k := a + ((dn.filter shw).length : Int)) ⟨by omega, by omega⟩).imp fun μ3 e => ?_)
    simp only [zlet]
    rw [e]
    have e53' : zup (zup μ2 156 (a + ((dn.filter shw).length : Int)) (oneM nx)) 157 (a + ((dn.filter shw).length : Int)) (twoM nx) 101 53 = (dn.filter shw).length := by
      rw [zup_n _ _ _ (by decide), zup_n _ _ _ (by decide)]; exact e53
    rw [e53', zw_eq (x := ((dn.filter shw).length : Int) + 1) (by omega) (by omega), zw_eq (x := x19 + 1) (by omega) (by omega)]
    have hff : (dn ++ [nx]).filter shw = dn.filter shw ++ [nx] := by
      rw [List.filter_append]
      have : List.filter shw [nx] = [nx] := List.filter_cons_of_pos (by unfold shw; simp [hl])
      rw [this]
    refine hg _ ⟨?_, ?_, ?_, fun j hj => ?_⟩
    · exact (((j1.trans (r1.sub (by decide) (by decide))).up (by decide) (by decide) _ _).up (by decide) (by decide) _ _).upo (by decide) _
    · rw [zup_s, up1_s, hff, List.length_append]
      rfl
    · rw [hff]
      intro k' hk'
      rw [List.length_append] at hk'
      simp at hk'
      rw [zup_n _ _ _ (by decide), zup_n _ _ _ (by decide), zup_s, zup_n _ _ _ (by decide), zup_s]
      by_cases hkl : k' = (dn.filter shw).length
      · subst hkl
        rw [up1_s, up1_s]
        simp
      · rw [up1_n _ _ (by omega), up1_n _ _ (by omega), List.getElem_append_left (by omega), e156, zup_n _ _ _ (by decide), e157]
        exact j3 k' (by omega)
    · rw [zup_n _ _ _ (by decide), zup_n _ _ _ (by decide), zup_s, zup_n _ _ _ (by decide), zup_s, up1_n _ _ (by omega), up1_n _ _ (by omega), e156, zup_n _ _ _ (by decide), e157]
      exact j4 j hj
  · rw [if_neg hl]
    simp only [zlet]
    rw [zw_eq (x := x19 + 1) (by omega) (by omega)]
    have hff : (dn ++ [nx]).filter shw = dn.filter shw := by
      rw [List.filter_append]
      have : List.filter shw [nx] = [] := List.filter_cons_of_neg (by unfold shw; simp [hl])
      rw [this, List.append_nil]
    refine hg _ ⟨j1.trans (r1.sub (by decide) (by decide)), by rw [hff]; exact e53, ?_, fun j hj => by rw [e156, e157]; exact j4 j hj⟩
    rw [hff]
    exact j3.cg fun j _ _ => by rw [e156, e157]; exact ⟨rfl, rfl⟩
theorem m_layNext {μ : zMem} {q s L beg a : Int} {σ : Sp} {w : Int → Int} (hs : SlM μ q s L beg w) (hs2 : 0 ≤ s ∧ s < 2) (hc : MS μ s σ) (hw : WfE σ 8 12) (hp : WfP σ 8) (hE : ∀ i, 0 ≤ i → i < L → w i < 2 * sE σ) (ha : 0 ≤ a ∧ a ≤ 2400) : Ok (f_X10_layNext q a μ) (fun μ' => Jm a (rAll σ w L beg) μ μ') := by
  have hP0 := hp.1
  have hP8 := hp.2.1
  have hs' := hs
  obtain ⟨s0, s1, s2, s3, s4, s5, s6, s7⟩ := hs'
  have hp32 : WfP σ 32 := hp.mono (by omega)
  have hw32 : WfE σ 32 48 := hw.mono (by omega) (by omega)
  have hcs : ∀ (dn : List Wr) (μ1 : zMem), Jm a dn μ μ1 → MS μ1 s σ ∧ SlM μ1 q s L beg w := fun dn μ1 h => ⟨h.1.ms (by unfold noSp; decide) hc, hs.cg fun c x y => h.1.1 c (by simp; omega) (by omega)⟩
  -- one pane
  have k43 : ∀ (t f : Nat) (g : zMem → Option zMem) (Q : zMem → Prop), (t : Int) ≤ L → (f : Int) < sP σ → ∀ (m fu i : Nat) (dn : List Wr) (μ1 : zMem), m < fu → (i : Int) + m = sL σ f → dn.length + 2 * m ≤ 2290 → Jm a dn μ μ1 → (∀ μ', Jm a (dn ++ (List.range' i m).flatMap (rIn σ w L beg t f)) μ μ' → Ok (g μ') Q) → Ok (f_X10_layNext_L43 q a s t f g fu (i : Int) μ1) Q := by
    intro t f g Q ht hf m
    obtain ⟨p1, p2, p3, _⟩ := hp.2.2 f (by omega) hf
    induction m with
    | zero =>
      intro fu i dn μ1 hfu hi hdl hJ hg
      cases fu with
      | zero => omega
      | succ fu =>
        have hc1 := (hcs dn μ1 hJ).1
        unfold f_X10_layNext_L43
        rw [zw_eq (x := 32 * s) (by omega) (by omega), zw_eq (x := 32 * s + (f : Int)) (by omega) (by omega), chk_pos (by omega), (hc1.2.2.2.2 f (by omega) hf).1, if_neg (by omega)]
        refine hg μ1 ?_
        rw [show (List.range' i 0).flatMap (rIn σ w L beg t f) = [] by simp, List.append_nil]
        exact hJ
    | succ m ih =>
      intro fu i dn μ1 hfu hi hdl hJ hg
      cases fu with
      | zero => omega
      | succ fu =>
        have hr := p3 i (by omega) (by omega)
        have hc1 := (hcs dn μ1 hJ).1
        rw [List.range'_succ, List.flatMap_cons] at hg
        unfold f_X10_layNext_L43
        simp only [zlet]
        rw [zw_eq (x := 32 * s) (by omega) (by omega), zw_eq (x := 32 * s + (f : Int)) (by omega) (by omega), chk_pos (by omega), (hc1.2.2.2.2 f (by omega) hf).1, if_pos (by omega), bnd_pos (m_rimAt hc1 ⟨hs2.1, by omega⟩ hp32 ⟨by omega, hf⟩ ⟨by omega, by omega⟩), bnd_pos (m_fromOf hc1 ⟨hs2.1, by omega⟩ hw32 hr), bnd_pos (m_cornerAt (hcs dn μ1 hJ).2 hs2 hc1 hw hE (at' := t) ⟨by omega, ht⟩), zw_eq (x := (i : Int) + 1) (by omega) (by omega)]
        by_cases hA : sA σ (sR σ f i) = crn σ w beg t
        · have hrI : rIn σ w L beg t f i = [nxw σ w L t f (rotF σ f i), nxw σ w L t f (rotC σ f (aB (sL σ f) i))] := by unfold rIn; rw [if_pos hA]
          rw [if_pos hA]
          have z3 : zfu = (zfu - 3) + 1 + 1 + 1 := by unfold zfu; omega
          rw [z3]
          unfold f_X10_layNext_L87
          rw [if_pos (by decide), if_neg (by decide)]
          refine m_putList (k := 0) hs hs2 hc hw hp ⟨by omega, ht⟩ ⟨by omega, hf⟩ (by omega) (Or.inl rfl) ha (by omega) ⟨by decide, by decide⟩ hJ fun μ2 h2 => ?_
          rw [if_pos rfl] at h2
          rw [show (0 : Int) + 1 = 1 by decide]
          unfold f_X10_layNext_L87
          rw [if_pos (by decide), if_pos rfl]
          refine m_putList (k := 1) hs hs2 hc hw hp ⟨by omega, ht⟩ ⟨by omega, hf⟩ (by omega) (Or.inr rfl) ha (by rw [List.length_append]; show dn.length + 1 ≤ _; omega) ⟨by decide, by decide⟩ h2 fun μ3 h3 => ?_
          rw [if_neg (by decide)] at h3
          rw [show (1 : Int) + 1 = 2 by decide]
          unfold f_X10_layNext_L87
          rw [if_neg (by decide)]
          unfold f_X10_layNext_K150
          simp only [zlet]
          rw [zw_eq (by omega) (by omega), show (i : Int) + 1 = ((i + 1 : Nat) : Int) by omega]
          refine ih fu (i + 1) _ μ3 (by omega) (by omega) (by rw [List.length_append, List.length_append]; show dn.length + 1 + 1 + 2 * m ≤ _; omega) h3 fun μ4 h4 => hg μ4 ?_
          rw [hrI]
          rw [List.append_assoc, List.append_assoc] at h4
          exact h4
        · rw [if_neg hA, show (i : Int) + 1 = ((i + 1 : Nat) : Int) by omega]
          have hrI : rIn σ w L beg t f i = [] := by unfold rIn; rw [if_neg hA]
          refine ih fu (i + 1) dn μ1 (by omega) (by omega) (by omega) hJ fun μ4 h4 => hg μ4 ?_
          rw [hrI]
          exact h4
  have k29 : ∀ (t : Nat) (g : zMem → Option zMem) (Q : zMem → Prop), (t : Int) ≤ L → ∀ (m fu f : Nat) (dn : List Wr) (μ1 : zMem), m < fu → (f : Int) + m = sP σ → dn.length + 16 * m ≤ 2290 → Jm a dn μ μ1 → (∀ μ', Jm a (dn ++ (List.range' f m).flatMap (rPn σ w L beg t)) μ μ' → Ok (g μ') Q) → Ok (f_X10_layNext_L29 q a s t g fu (f : Int) μ1) Q := by
    intro t g Q ht m
    induction m with
    | zero =>
      intro fu f dn μ1 hfu hf hdl hJ hg
      cases fu with
      | zero => omega
      | succ fu =>
        have hc1 := (hcs dn μ1 hJ).1
        unfold f_X10_layNext_L29
        rw [chk_pos (by omega), hc1.2.2.1, if_neg (by omega)]
        refine hg μ1 ?_
        rw [show (List.range' f 0).flatMap (rPn σ w L beg t) = [] by simp, List.append_nil]
        exact hJ
    | succ m ih =>
      intro fu f dn μ1 hfu hf hdl hJ hg
      cases fu with
      | zero => omega
      | succ fu =>
        have hc1 := (hcs dn μ1 hJ).1
        obtain ⟨p1, p2, p3, _⟩ := hp.2.2 f (by omega) (by omega)
        have hlen : (rPn σ w L beg t f).length ≤ 16 := by
          have := fm_len (rIn σ w L beg t f) 2 (sL σ f).toNat 0 (fun j _ _ => rIn_len _ _ _ _ _ _ _)
          unfold rPn
          omega
        unfold f_X10_layNext_L29
        rw [chk_pos (by omega), hc1.2.2.1, if_pos (by omega)]
        refine k43 t f _ Q ht (by omega) (sL σ f).toNat zfu 0 dn μ1 (by unfold zfu; omega) (by omega) (by omega) hJ fun μ2 h2 => ?_
        unfold f_X10_layNext_K156
        simp only [zlet]
        rw [zw_eq (by omega) (by omega), show (f : Int) + 1 = ((f + 1 : Nat) : Int) by omega]
        refine ih fu (f + 1) (dn ++ rPn σ w L beg t f) μ2 (by omega) (by omega) (by rw [List.length_append]; omega) h2 fun μ3 h3 => hg μ3 ?_
        rw [List.range'_succ, List.flatMap_cons, ← List.append_assoc]
        exact h3
  have k15 : ∀ (m fu t : Nat) (dn : List Wr) (μ1 : zMem), m < fu → (t : Int) + m = L + 1 → dn.length + 128 * m ≤ 2176 → Jm a dn μ μ1 → Ok (f_X10_layNext_L15 q a s fu (t : Int) μ1) (fun μ' => Jm a (dn ++ (List.range' t m).flatMap (rPl σ w L beg)) μ μ') := by
    intro m
    induction m with
    | zero =>
      intro fu t dn μ1 hfu ht hdl hJ
      cases fu with
      | zero => omega
      | succ fu =>
        unfold f_X10_layNext_L15
        rw [chk_pos (by omega), (hcs dn μ1 hJ).2.2.2.1, if_neg (by omega)]
        refine ok_some.mpr ?_
        rw [show (List.range' t 0).flatMap (rPl σ w L beg) = [] by simp, List.append_nil]
        exact hJ
    | succ m ih =>
      intro fu t dn μ1 hfu ht hdl hJ
      cases fu with
      | zero => omega
      | succ fu =>
        have hlen : (rPl σ w L beg t).length ≤ 128 := by
          have := fm_len (rPn σ w L beg t) 16 (sP σ).toNat 0 (fun j _ hj => by
            obtain ⟨p1, p2, p3, _⟩ := hp.2.2 j (by omega) (by omega)
            have := fm_len (rIn σ w L beg t j) 2 (sL σ j).toNat 0 (fun j _ _ => rIn_len _ _ _ _ _ _ _)
            unfold rPn
            omega)
          unfold rPl
          omega
        unfold f_X10_layNext_L15
        rw [chk_pos (by omega), (hcs dn μ1 hJ).2.2.2.1, if_pos (by omega)]
        refine k29 t _ _ (by omega) (sP σ).toNat zfu 0 dn μ1 (by unfold zfu; omega) (by omega) (by omega) hJ fun μ2 h2 => ?_
        unfold f_X10_layNext_K162
        simp only [zlet]
        rw [zw_eq (by omega) (by omega), show (t : Int) + 1 = ((t + 1 : Nat) : Int) by omega]
        have hli : dn ++ (List.range' t (m + 1)).flatMap (rPl σ w L beg) = (dn ++ rPl σ w L beg t) ++ (List.range' (t + 1) m).flatMap (rPl σ w L beg) := by
          rw [List.range'_succ, List.flatMap_cons, List.append_assoc]
        rw [hli]
        exact ih fu (t + 1) (dn ++ rPl σ w L beg t) μ2 (by omega) (by omega) (by rw [List.length_append]; omega) h2
  unfold f_X10_layNext
  simp only [zlet]
  rw [chk_pos (by omega), s1]
  have hJ0 : Jm a [] μ (zup μ 101 53 0) := ⟨(Fm.refl _ _ μ).upo (by decide) _, by rw [zup_s, up1_s]; rfl, fun k hk => absurd hk (by simp), fun j _ => by rw [zup_n _ _ _ (by decide), zup_n _ _ _ (by decide)]; exact ⟨rfl, rfl⟩⟩
  have := k15 (L + 1).toNat zfu 0 [] (zup μ 101 53 0) (by unfold zfu; omega) (by omega) (by simp; omega) hJ0
  rw [List.nil_append] at this
  exact this
