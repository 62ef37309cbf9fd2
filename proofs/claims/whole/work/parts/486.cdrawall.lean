/-! the class draws all and meets -/
def shw (r : Wr) : Bool := decide (r.1 ≤ 16)
def qC (k : Int) (S dn : List Wr) : List (Int × Int) := if k = 0 then S.map kyC else (dn.filter shw).map kyC
def Jd (k : Int) (r0 : Wr) (S dn : List Wr) (μ0 μ : zMem) : Prop := Fw [34, 35, 36] [3, 4, 5, 8, 9] μ0 μ ∧ μ 33 6 = hdC r0 ∧ μ 33 7 = tlC r0 ∧ ((μ 33 8 = 0 ∨ μ 33 8 = 1) ∧ (μ 33 8 = 1 ↔ ∃ r ∈ dn, r.1 ≤ 16 ∧ Weq r r0)) ∧ ((μ 33 9 = 0 ∨ μ 33 9 = 1) ∧ (μ 33 9 = 1 ↔ k = 0 ∧ ∃ r ∈ dn, r.1 ≤ 16 ∧ ∃ s ∈ S, Weq r s)) ∧ Tbl (μ 34) (μ 35) (qC k S dn)
theorem zor01 {a b : Int} (ha : a = 0 ∨ a = 1) (hb : b = 0 ∨ b = 1) : (zor a b = 0 ∨ zor a b = 1) ∧ (zor a b = 1 ↔ a = 1 ∨ b = 1) := by
  rcases ha with h | h <;> rcases hb with h' | h' <;> subst h <;> subst h' <;> decide
theorem c_meet {μ0 μ : zMem} {k : Int} {r0 r : Wr} {S dn : List Wr} (hk : k = 0 ∨ k = 1) (hr0 : Rb r0 12 ∧ r0.1 ≤ 16) (hr : Rb r 12) (hS : ∀ s ∈ S, Rb s 12 ∧ s.1 ≤ 16) (hSl : S.length < 4096) (hdl : dn.length < 4096) (hc : CRw μ 33 36 3 r) (hJ : Jd k r0 S dn μ0 μ) : Ok (f_X0_meet k μ) (fun μ' => Jd k r0 S (dn ++ [r]) μ0 μ') := by
  obtain ⟨j1, j2, j3, ⟨j4, j5⟩, ⟨j6, j7⟩, j8⟩ := hJ
  have mem1 : ∀ P : Wr → Prop, (∃ x ∈ dn ++ [r], P x) ↔ (∃ x ∈ dn, P x) ∨ P r := by
    intro P
    constructor
    · rintro ⟨x, hx, px⟩
      rcases List.mem_append.mp hx with h | h
      · exact Or.inl ⟨x, h, px⟩
      · rw [List.mem_singleton.mp h] at px; exact Or.inr px
    · rintro (⟨x, hx, px⟩ | px)
      · exact ⟨x, List.mem_append_left _ hx, px⟩
      · exact ⟨r, List.mem_append_right _ (List.mem_singleton.mpr rfl), px⟩
  unfold f_X0_meet
  rw [hc.1]
  by_cases hl : r.1 ≤ 16
  · rw [if_pos hl]
    refine ok_bnd.mpr ((c_pack hc hr hl).imp fun μ1 p => ?_)
    obtain ⟨p1, p2, p3⟩ := p
    have e6 : μ1 33 6 = hdC r0 := by rw [p1.2 6 (by decide)]; exact j2
    have e7 : μ1 33 7 = tlC r0 := by rw [p1.2 7 (by decide)]; exact j3
    have e8 : μ1 33 8 = μ 33 8 := p1.2 8 (by decide)
    have e9 : μ1 33 9 = μ 33 9 := p1.2 9 (by decide)
    have hpk := packC hr hr0.1 hl hr0.2
    have J : ∀ v : Int, (v = 0 ∨ v = 1) → (v = 1 ↔ Weq r r0) → Ok (f_X0_meet_J48 k μ1 v μ1) (fun μ' => Jd k r0 S (dn ++ [r]) μ0 μ') := by
      intro v hv hvw
      have z8 := zor01 (a := μ1 33 8) (b := v) (by rw [e8]; exact j4) hv
      unfold f_X0_meet_J48
      simp only [zlet]
      rw [chk_pos (by omega)]
      generalize hg : zup μ1 33 8 (zor (μ1 33 8) v) = μ4
      have f1 : Fw [] [8] μ1 μ4 := by rw [← hg]; exact (Fw.refl _ _ μ1).upo (by decide) _
      have f8 : μ4 33 8 = zor (μ1 33 8) v := by rw [← hg, zup_s, up1_s]
      have f4 : μ4 33 4 = (kyC r).1 := by rw [f1.2 4 (by decide)]; exact p2
      have f5 : μ4 33 5 = (kyC r).2 := by rw [f1.2 5 (by decide)]; exact p3
      have f9 : μ4 33 9 = μ 33 9 := by rw [f1.2 9 (by decide)]; exact e9
      have fT : Tbl (μ4 34) (μ4 35) (qC k S dn) := by
        rw [f1.1 34 (by decide) (by decide), f1.1 35 (by decide) (by decide), p1.1 34 (by decide) (by decide), p1.1 35 (by decide) (by decide)]
        exact j8
      have hql : (qC k S dn).length < 4096 := by
        unfold qC
        split
        · rw [List.length_map]; exact hSl
        · rw [List.length_map]
          have := List.length_filter_le shw dn
          omega
      obtain ⟨i, i1, i2⟩ := c_placeOf fT hql (kyC r) f4 f5
      have fr : Fw [34, 35, 36] [3, 4, 5, 8, 9] μ0 μ4 := (j1.trans (p1.sub (by decide) (by decide))).trans (f1.sub (by decide) (by decide))
      have hh8 : (μ4 33 8 = 0 ∨ μ4 33 8 = 1) ∧ (μ4 33 8 = 1 ↔ ∃ x ∈ dn ++ [r], x.1 ≤ 16 ∧ Weq x r0) := by
        rw [f8]
        refine ⟨z8.1, ?_⟩
        rw [z8.2, e8, j5, hvw, mem1]
        constructor
        · rintro (h | h)
          · exact Or.inl h
          · exact Or.inr ⟨hl, h⟩
        · rintro (h | h)
          · exact Or.inl h
          · exact Or.inr h.2
      rw [bnd_pos i1]
      rcases hk with hk | hk
      · subst hk
        have hth := tbl_has fT i2
        have hin : kyC r ∈ qC 0 S dn ↔ ∃ s ∈ S, Weq r s := by
          unfold qC
          rw [if_pos rfl, List.mem_map]
          constructor
          · rintro ⟨s, hs, he⟩
            refine ⟨s, hs, (packC hr (hS s hs).1 hl (hS s hs).2).mp ?_⟩
            unfold kyC at he
            rw [Prod.mk.injEq] at he
            exact ⟨he.1.symm, he.2.symm⟩
          · rintro ⟨s, hs, he⟩
            refine ⟨s, hs, ?_⟩
            have := (packC hr (hS s hs).1 hl (hS s hs).2).mpr he
            unfold kyC
            rw [this.1, this.2]
        have hx01 : (if μ4 35 i = 0 then (0 : Int) else 1) = 0 ∨ (if μ4 35 i = 0 then (0 : Int) else 1) = 1 := by split <;> simp
        have hx1 : (if μ4 35 i = 0 then (0 : Int) else 1) = 1 ↔ ∃ s ∈ S, Weq r s := by
          rw [← hin, ← hth]
          split
          · exact ⟨fun q => absurd q (by decide), fun q => absurd (by assumption) q⟩
          · exact ⟨fun _ => by assumption, fun _ => rfl⟩
        have z9 := zor01 (a := μ4 33 9) (by rw [f9]; exact j6) hx01
        rw [if_pos rfl, chk_pos ⟨i2.1, i2.2.1⟩]
        unfold f_X0_meet_J105
        simp only [zlet]
        generalize (if μ4 35 i = 0 then (0 : Int) else 1) = xx at *
        rw [chk_pos (by omega)]
        refine ok_some.mpr ⟨fr.upo (by decide) _, ?_, ?_, ?_, ?_, ?_⟩
        · rw [zup_s, up1_n _ _ (by decide), f1.2 6 (by decide)]; exact e6
        · rw [zup_s, up1_n _ _ (by decide), f1.2 7 (by decide)]; exact e7
        · rw [zup_s, up1_n _ _ (by decide)]; exact hh8
        · rw [zup_s, up1_s]
          refine ⟨z9.1, ?_⟩
          rw [z9.2, f9, j7, hx1, mem1]
          constructor
          · rintro (⟨h1, h2⟩ | h)
            · exact ⟨rfl, Or.inl h2⟩
            · exact ⟨rfl, Or.inr ⟨hl, h⟩⟩
          · rintro ⟨_, h | h⟩
            · exact Or.inl ⟨rfl, h⟩
            · exact Or.inr h.2
        · rw [zup_n _ _ _ (by decide), zup_n _ _ _ (by decide)]
          have : qC 0 S (dn ++ [r]) = qC 0 S dn := rfl
          rw [this]
          exact fT
      · subst hk
        have hput := tbl_put fT i2 (tlC_ne hr)
        rw [if_neg (by decide), chk_pos ⟨i2.1, i2.2.1⟩, chk_pos ⟨i2.1, i2.2.1⟩]
        have e5 : zup μ4 34 i (μ4 33 4) 33 5 = (kyC r).2 := by rw [zup_n _ _ _ (by decide)]; exact f5
        rw [e5, f4]
        refine ok_some.mpr ⟨(fr.up (by decide) (by decide) _ _).up (by decide) (by decide) _ _, ?_, ?_, ?_, ?_, ?_⟩
        · rw [zup_n _ _ _ (by decide), zup_n _ _ _ (by decide), f1.2 6 (by decide)]; exact e6
        · rw [zup_n _ _ _ (by decide), zup_n _ _ _ (by decide), f1.2 7 (by decide)]; exact e7
        · rw [zup_n _ _ _ (by decide), zup_n _ _ _ (by decide)]; exact hh8
        · rw [zup_n _ _ _ (by decide), zup_n _ _ _ (by decide), f9]
          refine ⟨j6, ?_⟩
          rw [j7]
          exact ⟨fun q => absurd q.1 (by decide), fun q => absurd q.1 (by decide)⟩
        · rw [zup_n _ _ _ (by decide), zup_s, zup_s, zup_n _ _ _ (by decide)]
          have : qC 1 S (dn ++ [r]) = qC 1 S dn ++ [kyC r] := by
            unfold qC
            rw [if_neg (by decide), if_neg (by decide), List.filter_append, List.map_append]
            have : List.filter shw [r] = [r] := List.filter_cons_of_pos (by unfold shw; simp [hl])
            rw [this]
            rfl
          rw [this]
          exact hput
    unfold f_X0_meet_J47
    rw [p2, p3, e6, e7]
    by_cases q1 : hdC r = hdC r0
    · rw [if_pos q1]
      by_cases q2 : tlC r = tlC r0
      · rw [if_pos q2]
        exact J 1 (Or.inr rfl) ⟨fun _ => hpk.mp ⟨q1, q2⟩, fun _ => rfl⟩
      · rw [if_neg q2]
        exact J 0 (Or.inl rfl) ⟨fun q => absurd q (by decide), fun q => absurd (hpk.mpr q).2 q2⟩
    · rw [if_neg q1]
      exact J 0 (Or.inl rfl) ⟨fun q => absurd q (by decide), fun q => absurd (hpk.mpr q).1 q1⟩
  · rw [if_neg hl]
    refine ok_some.mpr ⟨j1, j2, j3, ⟨j4, ?_⟩, ⟨j6, ?_⟩, ?_⟩
    · rw [j5, mem1]
      exact ⟨fun q => Or.inl q, fun q => q.elim id fun q => absurd q.1 hl⟩
    · rw [j7]
      refine and_congr_right fun _ => ?_
      rw [mem1]
      exact ⟨fun q => Or.inl q, fun q => q.elim id fun q => absurd q.1 hl⟩
    · have : qC k S (dn ++ [r]) = qC k S dn := by
        unfold qC
        split
        · rfl
        · rw [List.filter_append]
          have : List.filter shw [r] = [] := List.filter_cons_of_neg (by unfold shw; simp [hl])
          rw [this, List.append_nil]
      rw [this]
      exact j8
def crn (σ : Sp) (w : Int → Int) (beg at' : Int) : Int := if at' = 0 then beg else sB σ (w (at' - 1))
def cIn (σ : Sp) (w : Int → Int) (L beg at' f : Int) (i : Nat) : List Wr := (if sA σ (sR σ f i) = crn σ w beg at' then [nxw σ w L at' f (rotF σ f i)] else []) ++ (if sB σ (sR σ f i) = crn σ w beg at' then [nxw σ w L at' f (rotC σ f i)] else [])
theorem cIn_len (σ : Sp) (w : Int → Int) (L beg at' f : Int) (i : Nat) : (cIn σ w L beg at' f i).length ≤ 2 := by
  unfold cIn
  rw [List.length_append]
  split <;> split <;> simp
theorem fm_len {α : Type} (g : Nat → List α) (b : Nat) : ∀ (m i : Nat), (∀ j, i ≤ j → j < i + m → (g j).length ≤ b) → ((List.range' i m).flatMap g).length ≤ b * m := by
  intro m
  induction m with
  | zero => intro i _; simp
  | succ m ih =>
    intro i h
    rw [List.range'_succ, List.flatMap_cons, List.length_append, Nat.mul_succ]
    have h1 := h i (by omega) (by omega)
    have h2 := ih (i + 1) (fun j a b => h j (by omega) (by omega))
    omega
