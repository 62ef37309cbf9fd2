/-! a clause of a text: the reference -/
def Fq : List Int := [102, 103, 104, 105, 106, 107, 108, 116]
def Gq : List Int := [10, 11, 12, 13]
/-- the reference's reading: it goes on behind Q, or it fails there (a letter that can't stand may stop it already) -/
def MRes (μ : zMem) (s : Int) (T : Int → Int) (N : Int) (r : Option Sp × Int) (v : Int × zMem) : Prop := Fm Fq Gq μ v.2 ∧ Ms s μ v.2 ∧ (r.1 = none → v.1 = 0 ∧ v.2 101 11 = -20 - r.2) ∧ (∀ σ', r.1 = some σ' → (v.1 = 1 ∧ MS v.2 s σ' ∧ v.2 101 10 = r.2) ∨ (v.1 = 0 ∧ v.2 101 11 = -20 - r.2 ∧ sgc T N r.2 ≠ -1 ∧ skp T N r.2 = r.2))
section
variable {μ : zMem} {s : Int} {T : Int → Int} {N : Int} {σ : Sp}
theorem Ms.zo (h : Ms s μ μ) (i v : Int) : Ms s μ (zup μ 101 i v) := Ms.of fun c a b => by rw [zup_n _ _ _ (by omega)]
theorem Fm.mso {cs ss : List Int} {μ μ1 : zMem} (h : Fm cs ss μ μ1) (hn : noSp cs) : Ms s μ μ1 := by
  obtain ⟨n2, n3, n4, n5, n6, n7, n8⟩ := hn
  refine Ms.of fun c a b => ?_
  have hc : c = 102 ∨ c = 103 ∨ c = 104 ∨ c = 105 ∨ c = 106 ∨ c = 107 ∨ c = 108 := by omega
  rcases hc with e | e | e | e | e | e | e <;> subst e
  · exact h.1 _ n2 (by decide)
  · exact h.1 _ n3 (by decide)
  · exact h.1 _ n4 (by decide)
  · exact h.1 _ n5 (by decide)
  · exact h.1 _ n6 (by decide)
  · exact h.1 _ n7 (by decide)
  · exact h.1 _ n8 (by decide)
theorem m_readClause {p : Int} (hT : TP T N) (hc : MTp μ T N) (hs : MS μ s σ) (h3 : 0 ≤ s ∧ s < 3) (he : WfE σ 8 12) (hw : WfP σ 8) (hp : 0 ≤ p ∧ p ≤ N) (h : μ 101 10 = p) : Ok (f_X10_readClause s μ) (MRes μ s T N (rdC T N σ p)) := by
  have he' := he
  have he2 : WfE σ 32 48 := he.mono (by decide) (by decide)
  obtain ⟨w1, w2, w3, w4, w5⟩ := he
  have hN := hT.2.1
  have hp0 := hw.1
  have hp8 := hw.2.1
  have ns0 : noSp [] := by unfold noSp; decide
  have hs1 := skp_spec hT hp
  -- it fails at Q, whatever scratch has changed
  have fail : ∀ (μ1 : zMem) (Q : Int), Fm [] Gq μ μ1 → μ1 101 10 = Q → 0 ≤ Q → Q ≤ N → Ok (bnd2 (f_X10_fails (μ1 101 10) μ1) fun x y => some (x, y)) (MRes μ s T N (none, Q)) := by
    intro μ1 Q f1 f2 q0 q1
    unfold f_X10_fails
    simp only [zlet]
    rw [bnd2_pos rfl, f2, zw_eq (by omega) (by omega)]
    have f3 : Fm [] Gq μ (zup μ1 101 11 (-20 - Q)) := f1.upo (by decide) _
    exact ok_some.mpr ⟨f3.sub (by decide) (fun _ x => x), f3.mso ns0, fun _ => ⟨rfl, by simp only; rw [zup_s, up1_s]⟩, fun σ' e => by simp at e⟩
  unfold f_X10_readClause
  rw [m_pass hT hc hp h, bnd_pos rfl]
  generalize hP : skp T N p = P at *
  have hPr : 0 ≤ P ∧ P ≤ N := by omega
  have g1 : Fm [] Gq μ (zup μ 101 10 P) := (Fm.refl _ _ μ).upo (by decide) _
  have t1 := g1.tp (by decide) (by decide) hc
  have m1 := g1.ms ns0 hs
  rw [m_now hT t1 hPr (by rw [zup_s, up1_s]), bnd_pos rfl, chk_pos h3, chk_pos h3, m1.2.2.1, m1.2.1]
  unfold rdC
  rw [hP]
  by_cases h58 : (if P < N then T P else 0) = 58
  · have h58' : P < N ∧ T P = 58 := by
      by_cases hl : P < N
      · rw [if_pos hl] at h58; exact ⟨hl, h58⟩
      · rw [if_neg hl] at h58; omega
    rw [if_pos h58]
    by_cases h8 : sP σ = 8
    · rw [if_pos h8, if_neg (by omega), if_neg (by omega)]
      exact fail _ P g1 (by rw [zup_s, up1_s]) hPr.1 hPr.2
    · rw [if_neg h8, if_pos ⟨h58'.1, h58'.2, by omega⟩]
      simp only [zlet]
      rw [zup_s, up1_s, zw_eq (by omega) (by omega), zup_zup]
      have g2 : Fm [] Gq μ (zup μ 101 10 (P + 1)) := (Fm.refl _ _ μ).upo (by decide) _
      have hsp := rds_spec (σ := σ) hT 8 0 (fun _ => 0) (P + 1) (by omega) (by omega) (by omega) ⟨fun i a b => by omega, fun i a b => by omega⟩
      refine ok_bnd2.mpr ((m_readRim hT (g2.tp (by decide) (by decide) hc) (g2.ms ns0 hs) h3 he2 (p := P + 1) ⟨by omega, by omega⟩ (by rw [zup_s, up1_s])).imp fun v q => ?_)
      generalize rds σ T N 8 0 (fun _ => 0) (P + 1) = r at *
      obtain ⟨q1, q2, q3, q4, q5⟩ := q
      unfold rok at q4 q5
      have g3 : Fm [116] Gq μ v.2 := (g2.sub (by decide) (fun _ x => x)).trans (q1.sub (fun _ x => x) (by decide))
      have ns1 : noSp [116] := by unfold noSp; decide
      by_cases hk : 0 < r.1 ∧ sB σ (r.2.1 (r.1 - 1)) = sA σ (r.2.1 0)
      · rw [if_pos hk]
        by_cases hl : sgc T N r.2.2 = -1
        · rw [q4 ⟨hl, hk⟩, if_neg (by decide)]
          refine ok_bnd2.mpr ((m_addFace (g3.ms ns1 hs) h3 hp0 (by omega) (fun f x y => (hw.2.2 f x y).2.1) ⟨by omega, by omega⟩ q2).imp fun w g => ok_some.mpr ?_)
          obtain ⟨k1, k2, k3, k4⟩ := g
          refine ⟨⟨fun c a b => ?_, fun i a => ?_⟩, (g3.mso ns1).trans k4, fun e => by simp at e, fun σ' e => Or.inl ?_⟩
          · have ha : c ≠ 104 ∧ c ≠ 107 ∧ c ≠ 108 ∧ c ≠ 116 := by
              unfold Fq at a
              simp at a
              omega
            simp only
            rw [k3 c ha.1 ha.2.1 ha.2.2.1, g3.1 c (by simp; exact ha.2.2.2) b]
          · simp only
            rw [k3 101 (by decide) (by decide) (by decide), g3.2 i a]
          · simp only [Option.some.injEq] at e
            subst e
            exact ⟨rfl, k2, by simp only; rw [k3 101 (by decide) (by decide) (by decide)]; exact q3⟩
        · have hq := q5 (fun e => hl e.1)
          rw [hq.1, if_pos rfl]
          exact ok_some.mpr ⟨g3.sub (by decide) (fun _ x => x), g3.mso ns1, fun e => by simp at e, fun σ' e => Or.inr ⟨rfl, hq.2, hl, hsp.2.2.2.2.2⟩⟩
      · have hq := q5 (fun e => hk e.2)
        rw [hq.1, if_pos rfl, if_neg hk]
        exact ok_some.mpr ⟨g3.sub (by decide) (fun _ x => x), g3.mso ns1, fun _ => ⟨rfl, hq.2⟩, fun σ' e => by simp at e⟩
  · have h58' : ¬ (P < N ∧ T P = 58 ∧ sP σ < 8) := by
      intro e
      rw [if_pos e.1] at h58
      exact h58 e.2.1
    rw [if_neg h58, if_neg h58']
    unfold f_X10_readClause_J88
    by_cases h12 : sE σ = 12
    · rw [if_pos h12, if_neg (by omega)]
      exact fail _ P g1 (by rw [zup_s, up1_s]) hPr.1 hPr.2
    rw [if_neg h12]
    rw [bnd_pos rfl, chk_pos h3, zw_eq (x := 97 + sE σ) (by omega) (by omega)]
    by_cases h97 : (if P < N then T P else 0) = 97 + sE σ
    rotate_left
    · rw [if_neg h97, if_neg (fun e => h97 (by rw [if_pos e.1]; exact e.2.1))]
      exact fail _ P g1 (by rw [zup_s, up1_s]) hPr.1 hPr.2
    have h97' : P < N ∧ T P = 97 + sE σ := by
      by_cases hl : P < N
      · rw [if_pos hl] at h97; exact ⟨hl, h97⟩
      · rw [if_neg hl] at h97; omega
    rw [if_pos h97, if_pos ⟨h97'.1, h97'.2, by omega⟩]
    simp only [zlet]
    rw [zup_s, up1_s, zw_eq (x := P + 1) (by omega) (by omega), zup_zup]
    have g2 : Fm [] Gq μ (zup μ 101 10 (P + 1)) := (Fm.refl _ _ μ).upo (by decide) _
    have hs2 := skp_spec hT (p := P + 1) ⟨by omega, by omega⟩
    rw [m_pass hT (g2.tp (by decide) (by decide) hc) (p := P + 1) ⟨by omega, by omega⟩ (by rw [zup_s, up1_s]), zup_zup, bnd_pos rfl]
    generalize hP1 : skp T N (P + 1) = P1 at *
    have g3 : Fm [] Gq μ (zup μ 101 10 P1) := (Fm.refl _ _ μ).upo (by decide) _
    rw [m_now hT (g3.tp (by decide) (by decide) hc) (p := P1) ⟨by omega, by omega⟩ (by rw [zup_s, up1_s]), bnd_pos rfl]
    by_cases h61 : (if P1 < N then T P1 else 0) = 61
    rotate_left
    · rw [if_neg h61, if_neg (fun e => h61 (by rw [if_pos e.1]; exact e.2))]
      exact fail _ P1 g3 (by rw [zup_s, up1_s]) (by omega) (by omega)
    have h61' : P1 < N ∧ T P1 = 61 := by
      by_cases hl : P1 < N
      · rw [if_pos hl] at h61; exact ⟨hl, h61⟩
      · rw [if_neg hl] at h61; omega
    rw [if_pos h61, if_pos h61', zup_s, up1_s, zw_eq (x := P1 + 1) (by omega) (by omega), zup_zup]
    have g4 : Fm [] Gq μ (zup μ 101 10 (P1 + 1)) := (Fm.refl _ _ μ).upo (by decide) _
    rw [chk_pos h3, (g4.ms ns0 hs).1, zw_eq (x := sC σ - 1) (by omega) (by omega)]
    unfold rdC.rdE
    have hs3 := skp_spec hT (p := P1 + 1) ⟨by omega, by omega⟩
    have hd3 := dge_spec hT (p := skp T N (P1 + 1)) ⟨by omega, hs3.2.1⟩
    refine ok_bnd2.mpr ((m_readNumber (lo := 0) (hi := sC σ - 1) hT (g4.tp (by decide) (by decide) hc) (p := P1 + 1) ⟨by omega, by omega⟩ (by rw [zup_s, up1_s]) (by omega) (by omega)).imp fun v q => ?_)
    obtain ⟨q1, q2, q3⟩ := q
    unfold nok at q2 q3
    have g5 : Fm [] Gq μ v.2 := g4.trans (q1.sub (fun _ x => x) (by decide))
    by_cases hn1 : skp T N (P1 + 1) < dge T N (skp T N (P1 + 1)) ∧ 0 ≤ dvl T (skp T N (P1 + 1)) (dge T N (skp T N (P1 + 1)) - skp T N (P1 + 1)).toNat ∧ dvl T (skp T N (P1 + 1)) (dge T N (skp T N (P1 + 1)) - skp T N (P1 + 1)).toNat ≤ sC σ - 1
    rotate_left
    · rw [(q3 hn1).1, if_pos rfl, if_neg hn1]
      exact ok_some.mpr ⟨g5.sub (by decide) (fun _ x => x), g5.mso ns0, fun _ => ⟨rfl, (q3 hn1).2⟩, fun σ' e => by simp at e⟩
    obtain ⟨k1, k2, k3⟩ := q2 hn1
    rw [k1, if_neg (by decide), if_pos hn1, k3]
    generalize hv2 : dvl T (skp T N (P1 + 1)) (dge T N (skp T N (P1 + 1)) - skp T N (P1 + 1)).toNat = v2 at *
    generalize hP2 : dge T N (skp T N (P1 + 1)) = P2 at *
    have hP2r : 0 ≤ P2 ∧ P2 ≤ N := by omega
    have hs4 := skp_spec hT hP2r
    rw [m_pass hT (g5.tp (by decide) (by decide) hc) hP2r k2, bnd_pos rfl]
    generalize hP3 : skp T N P2 = P3 at *
    have g6 : Fm [] Gq μ (zup v.2 101 10 P3) := g5.upo (by decide) _
    rw [m_now hT (g6.tp (by decide) (by decide) hc) (p := P3) ⟨by omega, by omega⟩ (by rw [zup_s, up1_s]), bnd_pos rfl]
    by_cases h62 : (if P3 < N then T P3 else 0) = 62
    rotate_left
    · rw [if_neg h62, if_neg (fun e => h62 (by rw [if_pos e.1]; exact e.2))]
      exact fail _ P3 g6 (by rw [zup_s, up1_s]) (by omega) (by omega)
    have h62' : P3 < N ∧ T P3 = 62 := by
      by_cases hl : P3 < N
      · rw [if_pos hl] at h62; exact ⟨hl, h62⟩
      · rw [if_neg hl] at h62; omega
    rw [if_pos h62, if_pos h62', zup_s, up1_s, zw_eq (x := P3 + 1) (by omega) (by omega), zup_zup]
    have g7 : Fm [] Gq μ (zup v.2 101 10 (P3 + 1)) := g5.upo (by decide) _
    rw [chk_pos h3, (g7.ms ns0 hs).1, zw_eq (x := sC σ - 1) (by omega) (by omega)]
    unfold rdC.rdF
    have hs5 := skp_spec hT (p := P3 + 1) ⟨by omega, by omega⟩
    have hd5 := dge_spec hT (p := skp T N (P3 + 1)) ⟨by omega, hs5.2.1⟩
    refine ok_bnd2.mpr ((m_readNumber (lo := 0) (hi := sC σ - 1) hT (g7.tp (by decide) (by decide) hc) (p := P3 + 1) ⟨by omega, by omega⟩ (by rw [zup_s, up1_s]) (by omega) (by omega)).imp fun u l => ?_)
    obtain ⟨l1, l2, l3⟩ := l
    unfold nok at l2 l3
    have g8 : Fm [] Gq μ u.2 := g7.trans (l1.sub (fun _ x => x) (by decide))
    by_cases hn2 : skp T N (P3 + 1) < dge T N (skp T N (P3 + 1)) ∧ 0 ≤ dvl T (skp T N (P3 + 1)) (dge T N (skp T N (P3 + 1)) - skp T N (P3 + 1)).toNat ∧ dvl T (skp T N (P3 + 1)) (dge T N (skp T N (P3 + 1)) - skp T N (P3 + 1)).toNat ≤ sC σ - 1
    rotate_left
    · rw [(l3 hn2).1, if_pos rfl, if_neg hn2]
      exact ok_some.mpr ⟨g8.sub (by decide) (fun _ x => x), g8.mso ns0, fun _ => ⟨rfl, (l3 hn2).2⟩, fun σ' e => by simp at e⟩
    obtain ⟨j1, j2, j3⟩ := l2 hn2
    rw [j1, if_neg (by decide), if_pos hn2, j3]
    generalize hv4 : dvl T (skp T N (P3 + 1)) (dge T N (skp T N (P3 + 1)) - skp T N (P3 + 1)).toNat = v4 at *
    refine ok_bnd2.mpr ((m_addEdge (a := v2) (b := v4) (g8.ms ns0 hs) h3 w3 (by omega)).imp fun w g => ok_some.mpr ?_)
    obtain ⟨i1, i2, i3, i4⟩ := g
    refine ⟨⟨fun c a b => ?_, fun i a => ?_⟩, (g8.mso ns0).trans i4, fun e => by simp at e, fun σ' e => Or.inl ?_⟩
    · have ha : c ≠ 103 ∧ c ≠ 105 ∧ c ≠ 106 := by
        unfold Fq at a
        simp at a
        omega
      simp only
      rw [i3 c ha.1 ha.2.1 ha.2.2, g8.1 c (by simp) b]
    · simp only
      rw [i3 101 (by decide) (by decide) (by decide), g8.2 i a]
    · simp only [Option.some.injEq] at e
      subst e
      exact ⟨rfl, i2, by simp only; rw [i3 101 (by decide) (by decide) (by decide)]; exact j2⟩
end
/-! all clauses of a text -/
def rdL (T : Int → Int) (N : Int) : Nat → Sp → Int → Option Sp × Int
  | 0, _, p => (none, p)
  | n + 1, σ, p => if skp T N p < N then (if T (skp T N p) = 59 then (match rdC T N σ (skp T N p + 1) with | (some σ', Q) => rdL T N n σ' Q | (none, Q) => (none, Q)) else (none, skp T N p)) else (some σ, skp T N p)
section
variable {μ : zMem} {t s : Int} {T : Int → Int} {N : Int}
theorem rdL_spec (hT : TP T N) : ∀ (n : Nat) (σ : Sp) (p : Int), 0 ≤ p → p ≤ N → (N - p).toNat < n → WfE σ 8 12 → WfP σ 8 → p ≤ (rdL T N n σ p).2 ∧ (rdL T N n σ p).2 ≤ N ∧ skp T N (rdL T N n σ p).2 = (rdL T N n σ p).2 ∧ ∀ σ', (rdL T N n σ p).1 = some σ' → WfE σ' 8 12 ∧ WfP σ' 8 := by
  intro n
  induction n with
  | zero => intro σ p _ _ h; omega
  | succ n ih =>
    intro σ p p0 p1 hn he hw
    have hs := skp_spec hT ⟨p0, p1⟩
    unfold rdL
    by_cases hP : skp T N p < N
    · rw [if_pos hP]
      by_cases h59 : T (skp T N p) = 59
      · rw [if_pos h59]
        have hcl := rdC_spec (σ := σ) (p := skp T N p + 1) hT he hw ⟨by omega, by omega⟩
        cases hr : rdC T N σ (skp T N p + 1) with
        | mk o Q =>
          rw [hr] at hcl
          obtain ⟨c1, c2, c3, c4⟩ := hcl
          simp only at c1 c2 c3
          cases o with
          | none => exact ⟨by simp only; omega, c2, c3 rfl, fun σ' e => by simp at e⟩
          | some σ' =>
            have := ih σ' Q (by omega) c2 (by omega) (c4 σ' rfl).1 (c4 σ' rfl).2
            exact ⟨by simp only; omega, this.2.1, this.2.2.1, this.2.2.2⟩
      · rw [if_neg h59]
        exact ⟨hs.1, hs.2.1, skp_skp hT ⟨p0, p1⟩, fun σ' e => by simp at e⟩
    · rw [if_neg hP]
      refine ⟨hs.1, hs.2.1, skp_skp hT ⟨p0, p1⟩, fun σ' e => ?_⟩
      simp only [Option.some.injEq] at e
      subst e
      exact ⟨he, hw⟩
theorem c_readL (hT : TP T N) (hc : CTp μ T N) (hz : SZ t 8 12 8) (ht : 37 ≤ t) : ∀ (n fu : Nat) (σ : Sp) (p x : Int) (μ1 : zMem), n ≤ fu → 0 ≤ x → x ≤ p → p ≤ N → (N - p).toNat < n → WfE σ 8 12 → WfP σ 8 → FTx t μ μ1 → CS μ1 t σ → 0 ≤ μ1 19 2 → μ1 19 2 ≤ N → skp T N (μ1 19 2) = skp T N p → Ok (f_X7_readSpace_L23 t 21 f_X7_readSpace_K56 fu x μ1) (CRes μ t T N (rdL T N n σ p)) := by
  intro n
  induction n with
  | zero => intro fu σ p x μ1 _ _ _ _ h; omega
  | succ n ih =>
    intro fu σ p x μ1 hf x0 x1 p1 hn he hw f1 f2 f3 f4 f5
    cases fu with
    | zero => omega
    | succ fu =>
      have hs := skp_spec hT (p := p) ⟨by omega, p1⟩
      have hN := hT.2.1
      -- the end
      have k56 : ∀ μ2 : zMem, FTx t μ μ2 → CS μ2 t σ → 0 ≤ μ2 19 2 → μ2 19 2 ≤ N → skp T N (μ2 19 2) = skp T N p → ¬ (skp T N p < N ∧ T (skp T N p) = 59) → Ok (f_X7_readSpace_K56 μ2) (CRes μ t T N (rdL T N (n + 1) σ p)) := by
        intro μ2 e1 e2 e3 e4 e5 e6
        unfold f_X7_readSpace_K56
        rw [c_isRead hT (e1.tp ht hc) ⟨e3, e4⟩ rfl, bnd2_pos rfl, e5]
        unfold rdL
        by_cases hP : skp T N p < N
        · rw [if_pos hP, if_neg (fun e => e6 ⟨hP, e⟩), if_neg (show ¬ skp T N p = N by omega)]
          exact ok_some.mpr ⟨e1.pl _, by simp only; rw [zup_s, up1_s]; omega, by simp only; rw [zup_s, up1_s]; exact hs.2.1, by simp only; rw [zup_s, up1_s], fun _ => rfl, fun σ' e => by simp at e⟩
        · rw [if_neg hP, if_pos (show skp T N p = N by omega)]
          refine ok_some.mpr ⟨e1.pl _, by simp only; rw [zup_s, up1_s]; omega, by simp only; rw [zup_s, up1_s]; exact hs.2.1, by simp only; rw [zup_s, up1_s], fun e => by simp at e, fun σ' e => ?_⟩
          simp only [Option.some.injEq] at e
          subst e
          exact ⟨rfl, e2.pl ht _⟩
      unfold f_X7_readSpace_L23
      by_cases hx : x < 120
      · rw [if_pos hx, c_pass hT (f1.tp ht hc) ⟨f3, f4⟩ rfl (by decide), f5]
        by_cases h1 : skp T N p < N ∧ T (skp T N p) = 59
        · rw [if_pos h1, bnd2_pos rfl, if_neg (by decide)]
          have g1 := f1.pl (skp T N p + 1)
          have hcl := rdC_spec (σ := σ) (p := skp T N p + 1) hT he hw ⟨by omega, by omega⟩
          refine ok_bnd2.mpr ((c_readClause hT (g1.tp ht hc) (f2.pl ht _) hz ht he hw (p := skp T N p + 1) ⟨by omega, by omega⟩ (by rw [zup_s, up1_s])).imp fun v q => ?_)
          obtain ⟨q1, q2, q3, q4, q5, q6⟩ := q
          have er : rdL T N (n + 1) σ p = (match rdC T N σ (skp T N p + 1) with | (some σ', Q) => rdL T N n σ' Q | (none, Q) => (none, Q)) := by
            show (if _ then _ else _) = _
            rw [if_pos h1.1, if_pos h1.2]
          rw [er]
          cases hr : rdC T N σ (skp T N p + 1) with
          | mk o Q =>
            rw [hr] at q4 q5 q6 hcl
            obtain ⟨c1, c2, c3, c4⟩ := hcl
            simp only at c1 c2 c3
            cases o with
            | none =>
              rw [q5 rfl, if_pos rfl]
              exact ok_some.mpr ⟨g1.trans q1, q2, q3, q4, fun _ => rfl, fun σ' e => by simp at e⟩
            | some σ' =>
              rw [(q6 σ' rfl).1, if_neg (by decide), zw_eq (by omega) (by omega)]
              exact ih fu σ' Q (x + 1) v.2 (by omega) (by omega) (by omega) c2 (by omega) (c4 σ' rfl).1 (c4 σ' rfl).2 (g1.trans q1) (q6 σ' rfl).2 q2 q3 q4
        · rw [if_neg h1, bnd2_pos rfl, if_pos rfl]
          refine k56 _ (f1.pl _) (f2.pl ht _) (by rw [zup_s, up1_s]; omega) (by rw [zup_s, up1_s]; exact hs.2.1) (by rw [zup_s, up1_s]; exact skp_skp hT ⟨by omega, p1⟩) h1
      · rw [if_neg hx]
        exact k56 μ1 f1 f2 f3 f4 f5 (by omega)
theorem m_readL (hT : TP T N) (hc : MTp μ T N) (h3 : 0 ≤ s ∧ s < 3) : ∀ (n fu : Nat) (σ : Sp) (p : Int) (μ1 : zMem), n ≤ fu → 0 ≤ p → p ≤ N → skp T N p = p → (N - p).toNat < n → WfE σ 8 12 → WfP σ 8 → Fm Fq Gq μ μ1 → Ms s μ μ1 → MS μ1 s σ → μ1 101 10 = p → Ok (f_X10_readSpace_L25 s f_X10_readSpace_K45 fu μ1) (fun v => Fm Fq Gq μ v.2 ∧ Ms s μ v.2 ∧ ((rdL T N n σ p).1 = none → v.1 = 0 ∧ v.2 101 11 = -20 - (rdL T N n σ p).2) ∧ (∀ σ', (rdL T N n σ p).1 = some σ' → v.1 = 1 ∧ MS v.2 s σ')) := by
  intro n
  induction n with
  | zero => intro fu σ p μ1 _ _ _ _ h; omega
  | succ n ih =>
    intro fu σ p μ1 hf p0 p1 hps hn he hw f1 fm f2 f3
    cases fu with
    | zero => omega
    | succ fu =>
      have hN := hT.2.1
      have t1 : MTp μ1 T N := f1.tp (by decide) (by decide) hc
      unfold f_X10_readSpace_L25
      rw [f3, t1.1]
      by_cases hP : p < N
      · rw [if_pos hP, m_now hT t1 ⟨p0, p1⟩ f3, bnd_pos rfl, if_pos hP]
        by_cases h59 : T p = 59
        · rw [if_pos h59]
          simp only [zlet]
          rw [zw_eq (by omega) (by omega)]
          have g1 : Fm Fq Gq μ (zup μ1 101 10 (p + 1)) := f1.upo (by decide) _
          have ms1 : MS (zup μ1 101 10 (p + 1)) s σ := f2.congr fun k a b => by rw [zup_n _ _ _ (by omega)]
          have mm1 : Ms s μ (zup μ1 101 10 (p + 1)) := fm.trans (Ms.of fun k a b => by rw [zup_n _ _ _ (by omega)])
          have hcl := rdC_spec (σ := σ) (p := p + 1) hT he hw ⟨by omega, by omega⟩
          refine ok_bnd2.mpr ((m_readClause hT (g1.tp (by decide) (by decide) hc) ms1 h3 he hw (p := p + 1) ⟨by omega, by omega⟩ (by rw [zup_s, up1_s])).imp fun v q => ?_)
          obtain ⟨q1, q2, q3, q4⟩ := q
          have er : rdL T N (n + 1) σ p = (match rdC T N σ (p + 1) with | (some σ', Q) => rdL T N n σ' Q | (none, Q) => (none, Q)) := by
            show (if _ then _ else _) = _
            rw [hps, if_pos hP, if_pos h59]
          rw [er]
          cases hr : rdC T N σ (p + 1) with
          | mk o Q =>
            rw [hr] at q3 q4 hcl
            obtain ⟨c1, c2, c3, c4⟩ := hcl
            simp only at c1 c2 c3
            cases o with
            | none =>
              rw [(q3 rfl).1, if_pos rfl]
              exact ok_some.mpr ⟨g1.trans q1, mm1.trans q2, fun _ => ⟨rfl, (q3 rfl).2⟩, fun σ' e => by simp at e⟩
            | some σ' =>
              rcases q4 σ' rfl with ⟨k1, k2, k3⟩ | ⟨k1, k2, k3, k4⟩
              · rw [k1, if_neg (by decide)]
                have g2 := g1.trans q1
                have hsQ := skp_spec hT (p := Q) ⟨by omega, c2⟩
                rw [m_pass hT (g2.tp (by decide) (by decide) hc) ⟨by omega, c2⟩ k3, bnd_pos rfl]
                have erq : rdL T N n σ' Q = rdL T N n σ' (skp T N Q) := by
                  cases n with
                  | zero => omega
                  | succ n => unfold rdL; rw [skp_skp hT ⟨by omega, c2⟩]
                simp only
                rw [erq]
                exact ih fu σ' (skp T N Q) _ (by omega) (by omega) hsQ.2.1 (skp_skp hT ⟨by omega, c2⟩) (by omega) (c4 σ' rfl).1 (c4 σ' rfl).2 (g2.upo (by decide) _) ((mm1.trans q2).trans (Ms.of fun k a b => by rw [zup_n _ _ _ (by omega)])) (k2.congr fun k a b => by rw [zup_n _ _ _ (by omega)]) (by rw [zup_s, up1_s])
              · rw [k1, if_pos rfl]
                have hsg := sgc_rg k3
                have erq : rdL T N n σ' Q = (none, Q) := by
                  cases n with
                  | zero => omega
                  | succ n =>
                    have h59q : T Q ≠ 59 := by
                      intro e
                      apply k3
                      unfold sgc
                      rw [if_pos hsg.2.2, e]
                      decide
                    unfold rdL
                    simp only at k4
                    rw [k4, if_pos hsg.2.2, if_neg h59q]
                simp only
                rw [erq]
                exact ok_some.mpr ⟨g1.trans q1, mm1.trans q2, fun _ => ⟨rfl, k2⟩, fun σ' e => by simp at e⟩
        · rw [if_neg h59]
          unfold f_X10_readSpace_K45 f_X10_fails
          simp only [zlet]
          rw [bnd2_pos rfl, f3, zw_eq (by omega) (by omega)]
          unfold rdL
          rw [hps, if_pos hP, if_neg h59]
          exact ok_some.mpr ⟨f1.upo (by decide) _, fm.trans (Ms.of fun k a b => by simp only; rw [zup_n _ _ _ (by omega)]), fun _ => ⟨rfl, by simp only; rw [zup_s, up1_s]⟩, fun σ' e => by simp at e⟩
      · rw [if_neg hP]
        unfold rdL
        rw [hps, if_neg hP]
        refine ok_some.mpr ⟨f1, fm, fun e => by simp at e, fun σ' e => ?_⟩
        simp only [Option.some.injEq] at e
        subst e
        exact ⟨rfl, f2⟩
end
