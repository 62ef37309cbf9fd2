/-! a clause of a text, on both sides -/
def rdC (T : Int → Int) (N : Int) (σ : Sp) (p : Int) : Option Sp × Int :=
  if skp T N p < N ∧ T (skp T N p) = 58 ∧ sP σ < 8 then
    if 0 < (rds σ T N 8 0 (fun _ => 0) (skp T N p + 1)).1 ∧ sB σ ((rds σ T N 8 0 (fun _ => 0) (skp T N p + 1)).2.1 ((rds σ T N 8 0 (fun _ => 0) (skp T N p + 1)).1 - 1)) = sA σ ((rds σ T N 8 0 (fun _ => 0) (skp T N p + 1)).2.1 0) then (some (addP σ (rds σ T N 8 0 (fun _ => 0) (skp T N p + 1)).1 (rds σ T N 8 0 (fun _ => 0) (skp T N p + 1)).2.1), (rds σ T N 8 0 (fun _ => 0) (skp T N p + 1)).2.2) else (none, (rds σ T N 8 0 (fun _ => 0) (skp T N p + 1)).2.2)
  else if skp T N p < N ∧ T (skp T N p) = 97 + sE σ ∧ sE σ < 12 then
    if skp T N (skp T N p + 1) < N ∧ T (skp T N (skp T N p + 1)) = 61 then rdE T N σ (skp T N (skp T N p + 1) + 1) else (none, skp T N (skp T N p + 1))
  else (none, skp T N p)
where
  rdE (T : Int → Int) (N : Int) (σ : Sp) (p : Int) : Option Sp × Int :=
    if skp T N p < dge T N (skp T N p) ∧ 0 ≤ dvl T (skp T N p) (dge T N (skp T N p) - skp T N p).toNat ∧ dvl T (skp T N p) (dge T N (skp T N p) - skp T N p).toNat ≤ sC σ - 1 then
      if skp T N (dge T N (skp T N p)) < N ∧ T (skp T N (dge T N (skp T N p))) = 62 then rdF T N σ (dvl T (skp T N p) (dge T N (skp T N p) - skp T N p).toNat) (skp T N (dge T N (skp T N p)) + 1) else (none, skp T N (dge T N (skp T N p)))
    else (none, skp T N p)
  rdF (T : Int → Int) (N : Int) (σ : Sp) (a p : Int) : Option Sp × Int :=
    if skp T N p < dge T N (skp T N p) ∧ 0 ≤ dvl T (skp T N p) (dge T N (skp T N p) - skp T N p).toNat ∧ dvl T (skp T N p) (dge T N (skp T N p) - skp T N p).toNat ≤ sC σ - 1 then (some (addE σ a (dvl T (skp T N p) (dge T N (skp T N p) - skp T N p).toNat)), dge T N (skp T N p)) else (none, skp T N p)
/-- what a clause may be -/
def Clo (T : Int → Int) (N p : Int) (r : Option Sp × Int) : Prop := p ≤ r.2 ∧ r.2 ≤ N ∧ (r.1 = none → skp T N r.2 = r.2) ∧ ∀ σ', r.1 = some σ' → WfE σ' 8 12 ∧ WfP σ' 8
section
variable {T : Int → Int} {N : Int} {σ : Sp}
theorem rdF_spec {a p : Int} (hT : TP T N) (he : WfE σ 8 12) (hp : WfP σ 8) (hE : sE σ < 12) (ha : 0 ≤ a ∧ a ≤ sC σ - 1) (h : 0 ≤ p ∧ p ≤ N) : Clo T N p (rdC.rdF T N σ a p) := by
  have h1 := skp_spec hT h
  have h2 := dge_spec hT (p := skp T N p) ⟨by omega, h1.2.1⟩
  unfold rdC.rdF
  split
  · rename_i hc
    refine ⟨by simp only; omega, h2.2.1, fun e => by simp at e, fun σ' e => ?_⟩
    simp only [Option.some.injEq] at e
    subst e
    exact ⟨addE_wfE he hE ⟨ha.1, by omega⟩ ⟨hc.2.1, by omega⟩, addE_wfP hp⟩
  · exact ⟨h1.1, h1.2.1, fun _ => skp_skp hT h, fun σ' e => by simp at e⟩
theorem rdE_spec {p : Int} (hT : TP T N) (he : WfE σ 8 12) (hp : WfP σ 8) (hE : sE σ < 12) (h : 0 ≤ p ∧ p ≤ N) : Clo T N p (rdC.rdE T N σ p) := by
  have h1 := skp_spec hT h
  have h2 := dge_spec hT (p := skp T N p) ⟨by omega, h1.2.1⟩
  have h3 := skp_spec hT (p := dge T N (skp T N p)) ⟨by omega, h2.2.1⟩
  unfold rdC.rdE
  split
  · rename_i hc
    split
    · rename_i hd
      have := rdF_spec (a := dvl T (skp T N p) (dge T N (skp T N p) - skp T N p).toNat) (p := skp T N (dge T N (skp T N p)) + 1) hT he hp hE hc.2 ⟨by omega, by omega⟩
      exact ⟨by have := this.1; omega, this.2.1, this.2.2.1, this.2.2.2⟩
    · exact ⟨by simp only; omega, h3.2.1, fun _ => skp_skp hT ⟨by omega, h2.2.1⟩, fun σ' e => by simp at e⟩
  · exact ⟨h1.1, h1.2.1, fun _ => skp_skp hT h, fun σ' e => by simp at e⟩
theorem rdC_spec {p : Int} (hT : TP T N) (he : WfE σ 8 12) (hp : WfP σ 8) (h : 0 ≤ p ∧ p ≤ N) : Clo T N p (rdC T N σ p) := by
  have h1 := skp_spec hT h
  unfold rdC
  split
  · rename_i hc
    have hs := rds_spec (σ := σ) hT 8 0 (fun _ => 0) (skp T N p + 1) (by omega) (by omega) (by omega) ⟨fun i a b => by omega, fun i a b => by omega⟩
    split
    · rename_i hr
      refine ⟨by simp only; omega, hs.2.2.2.2.1, fun e => by simp at e, fun σ' e => ?_⟩
      simp only [Option.some.injEq] at e
      subst e
      exact ⟨addP_wfE he, addP_wfP hp hc.2.2 (by omega) hs.2.2.1 hr⟩
    · exact ⟨by simp only; omega, hs.2.2.2.2.1, fun _ => hs.2.2.2.2.2, fun σ' e => by simp at e⟩
  · split
    · rename_i hc
      have h2 := skp_spec hT (p := skp T N p + 1) ⟨by omega, by omega⟩
      split
      · have := rdE_spec (p := skp T N (skp T N p + 1) + 1) hT he hp hc.2.2 ⟨by omega, by omega⟩
        exact ⟨by have := this.1; omega, this.2.1, this.2.2.1, this.2.2.2⟩
      · exact ⟨by simp only; omega, h2.2.1, fun _ => skp_skp hT ⟨by omega, by omega⟩, fun σ' e => by simp at e⟩
    · exact ⟨h1.1, h1.2.1, fun _ => skp_skp hT h, fun σ' e => by simp at e⟩
end
/-! the class -/
def FTx (t : Int) (μ μ' : zMem) : Prop := (∀ c, ¬ (t ≤ c ∧ c ≤ t + 6) → c ≠ 19 → c ≠ 21 → c ≠ 22 → μ' c = μ c) ∧ (∀ i, i ≠ 2 → μ' 19 i = μ 19 i)
theorem FTx.refl (t : Int) (μ : zMem) : FTx t μ μ := ⟨fun _ _ _ _ _ => rfl, fun _ _ => rfl⟩
theorem FTx.trans {t : Int} {μ μ1 μ2 : zMem} (h : FTx t μ μ1) (h' : FTx t μ1 μ2) : FTx t μ μ2 := ⟨fun c a b d e => (h'.1 c a b d e).trans (h.1 c a b d e), fun i a => (h'.2 i a).trans (h.2 i a)⟩
theorem FTx.pl {t : Int} {μ μ1 : zMem} (h : FTx t μ μ1) (v : Int) : FTx t μ (zup μ1 19 2 v) := ⟨fun c a b d e => by rw [zup_n _ _ _ b]; exact h.1 c a b d e, fun i a => by rw [zup_s, up1_n _ _ a]; exact h.2 i a⟩
theorem FTx.pn {t : Int} {μ μ1 μ2 : zMem} (h : FTx t μ μ1) (h' : FPn μ1 μ2) : FTx t μ μ2 := ⟨fun c a b d e => (h'.1 c b d e).trans (h.1 c a b d e), fun i a => (h'.2 i a).trans (h.2 i a)⟩
theorem FTx.tp {t : Int} {μ μ1 : zMem} {T : Int → Int} {N : Int} (h : FTx t μ μ1) (ht : 37 ≤ t) (c : CTp μ T N) : CTp μ1 T N := by
  unfold CTp at *
  rw [h.2 1 (by decide), h.1 20 (by omega) (by decide) (by decide) (by decide)]
  exact c
theorem CS.pl {μ : zMem} {t : Int} {σ : Sp} (h : CS μ t σ) (ht : 37 ≤ t) (v : Int) : CS (zup μ 19 2 v) t σ := h.congr fun k a b => by rw [zup_n _ _ _ (by omega)]
/-- the class's reading: either it goes on behind Q, or it stops at Q -/
def CRes (μ : zMem) (t : Int) (T : Int → Int) (N : Int) (r : Option Sp × Int) (v : Int × zMem) : Prop := FTx t μ v.2 ∧ 0 ≤ v.2 19 2 ∧ v.2 19 2 ≤ N ∧ skp T N (v.2 19 2) = skp T N r.2 ∧ (r.1 = none → v.1 = 0) ∧ (∀ σ', r.1 = some σ' → v.1 = 1 ∧ CS v.2 t σ')
theorem zc97 {x : Int} (h : 0 ≤ x ∧ x ≤ 255) : zc x = x := by
  have : ∀ m : Fin 256, zc (m.val : Nat) = (m.val : Nat) := by decide +kernel
  have h1 := this ⟨x.toNat, by omega⟩
  simp only [show ((x.toNat : Nat) : Int) = x by omega] at h1
  exact h1
section
variable {μ : zMem} {t : Int} {T : Int → Int} {N : Int} {σ : Sp}
theorem c_readEdge {p : Int} (hT : TP T N) (hc : CTp μ T N) (hs : CS μ t σ) (hz : SZ t 8 12 8) (ht : 37 ≤ t) (he : WfE σ 8 12) (hE : sE σ < 12) (hp : 0 ≤ p ∧ p ≤ N) (h : μ 19 2 = p) : Ok (f_X7_readEdge t μ) (CRes μ t T N (if skp T N p < N ∧ T (skp T N p) = 61 then rdC.rdE T N σ (skp T N p + 1) else (none, skp T N p))) := by
  obtain ⟨w1, w2, w3, w4, w5⟩ := he
  have hs1 := skp_spec hT hp
  -- it stops at Q, the place there
  have stop : ∀ (μ1 : zMem) (Q : Int), FTx t μ μ1 → 0 ≤ Q → Q ≤ N → skp T N Q = Q → Ok (some (0, zup μ1 19 2 Q)) (CRes μ t T N (none, Q)) := fun μ1 Q f1 q0 q1 q2 => ok_some.mpr ⟨f1.pl Q, by simp only; rw [zup_s, up1_s]; exact q0, by simp only; rw [zup_s, up1_s]; exact q1, by simp only; rw [zup_s, up1_s], fun _ => rfl, fun σ' e => by simp at e⟩
  unfold f_X7_readEdge
  rw [c_pass hT hc hp h (by decide)]
  by_cases h1 : skp T N p < N ∧ T (skp T N p) = 61
  rotate_left
  · rw [if_neg h1, if_neg h1, bnd2_pos rfl, if_pos rfl]
    exact stop μ _ (FTx.refl t μ) (by omega) hs1.2.1 (skp_skp hT hp)
  rw [if_pos h1, if_pos h1, bnd2_pos rfl, if_neg (by decide)]
  generalize hP1 : skp T N p + 1 = P1
  have hP1r : 0 ≤ P1 ∧ P1 ≤ N := by omega
  have f1 : FTx t μ (zup μ 19 2 P1) := (FTx.refl t μ).pl P1
  rw [(hs.pl ht P1).1, zw_eq (by omega) (by omega)]
  have hs2 := skp_spec hT hP1r
  have hd2 := dge_spec hT (p := skp T N P1) ⟨by omega, hs2.2.1⟩
  have rn := c_readNumber (lo := 0) (hi := sC σ - 1) hT (f1.tp ht hc) hP1r (by rw [zup_s, up1_s]) (by omega) ⟨by omega, by omega⟩
  rw [zup_zup, zup_zup] at rn
  unfold rdC.rdE
  by_cases h2 : skp T N P1 < dge T N (skp T N P1) ∧ 0 ≤ dvl T (skp T N P1) (dge T N (skp T N P1) - skp T N P1).toNat ∧ dvl T (skp T N P1) (dge T N (skp T N P1) - skp T N P1).toNat ≤ sC σ - 1
  rotate_left
  · rw [rn.2 h2, bnd2_pos rfl, if_pos rfl, if_neg h2]
    exact stop μ _ (FTx.refl t μ) (by omega) hs2.2.1 (skp_skp hT hP1r)
  rw [rn.1 h2, bnd2_pos rfl, if_pos h2]
  generalize hv2 : dvl T (skp T N P1) (dge T N (skp T N P1) - skp T N P1).toNat = v2 at *
  generalize hP2 : dge T N (skp T N P1) = P2 at *
  have hP2r : 0 ≤ P2 ∧ P2 ≤ N := by omega
  have f2 : FTx t μ (zup μ 19 2 P2) := (FTx.refl t μ).pl P2
  have hs3 := skp_spec hT hP2r
  rw [if_neg (by omega), c_pass hT (f2.tp ht hc) hP2r (by rw [zup_s, up1_s]) (by decide), zup_zup, zup_zup]
  by_cases h3 : skp T N P2 < N ∧ T (skp T N P2) = 62
  rotate_left
  · rw [if_neg h3, if_neg h3, bnd2_pos rfl, if_pos rfl]
    exact stop μ _ (FTx.refl t μ) (by omega) hs3.2.1 (skp_skp hT hP2r)
  rw [if_pos h3, if_pos h3, bnd2_pos rfl, if_neg (by decide)]
  generalize hP3 : skp T N P2 + 1 = P3
  have hP3r : 0 ≤ P3 ∧ P3 ≤ N := by omega
  have f3 : FTx t μ (zup μ 19 2 P3) := (FTx.refl t μ).pl P3
  rw [(hs.pl ht P3).1, zw_eq (by omega) (by omega)]
  have hs4 := skp_spec hT hP3r
  have hd4 := dge_spec hT (p := skp T N P3) ⟨by omega, hs4.2.1⟩
  have rn4 := c_readNumber (lo := 0) (hi := sC σ - 1) hT (f3.tp ht hc) hP3r (by rw [zup_s, up1_s]) (by omega) ⟨by omega, by omega⟩
  rw [zup_zup, zup_zup] at rn4
  unfold rdC.rdF
  by_cases h4 : skp T N P3 < dge T N (skp T N P3) ∧ 0 ≤ dvl T (skp T N P3) (dge T N (skp T N P3) - skp T N P3).toNat ∧ dvl T (skp T N P3) (dge T N (skp T N P3) - skp T N P3).toNat ≤ sC σ - 1
  rotate_left
  · rw [rn4.2 h4, bnd2_pos rfl, if_pos rfl, if_neg h4]
    exact stop μ _ (FTx.refl t μ) (by omega) hs4.2.1 (skp_skp hT hP3r)
  rw [rn4.1 h4, bnd2_pos rfl, if_pos h4]
  generalize hv4 : dvl T (skp T N P3) (dge T N (skp T N P3) - skp T N P3).toNat = v4 at *
  generalize hP4 : dge T N (skp T N P3) = P4 at *
  rw [if_neg (by omega)]
  refine ok_bnd.mpr ((c_addEdge (hs.pl ht P4) hz w3 hE).imp fun μ1 q => ok_some.mpr ?_)
  obtain ⟨q1, q2, q3⟩ := q
  have e19 : μ1 19 = zup μ 19 2 P4 19 := q2 19 (by omega) (by omega) (by omega)
  refine ⟨⟨fun c a b d e => ?_, fun i a => ?_⟩, ?_, ?_, ?_, fun e => by simp at e, fun σ' e => ?_⟩
  · simp only; rw [q2 c (by omega) (by omega) (by omega), zup_n _ _ _ b]
  · simp only; rw [e19, zup_s, up1_n _ _ a]
  · simp only; rw [e19, zup_s, up1_s]; omega
  · simp only; rw [e19, zup_s, up1_s]; omega
  · simp only; rw [e19, zup_s, up1_s]
  · simp only [Option.some.injEq] at e
    subst e
    exact ⟨rfl, q1⟩
theorem c_readClause {p : Int} (hT : TP T N) (hc : CTp μ T N) (hs : CS μ t σ) (hz : SZ t 8 12 8) (ht : 37 ≤ t) (he : WfE σ 8 12) (hw : WfP σ 8) (hp : 0 ≤ p ∧ p ≤ N) (h : μ 19 2 = p) : Ok (f_X7_readClause t 21 μ) (CRes μ t T N (rdC T N σ p)) := by
  have he' := he
  obtain ⟨w1, w2, w3, w4, w5⟩ := he
  have hs1 := skp_spec hT hp
  -- no pane
  have j43 : ∀ (μ1 : zMem) (p1 : Int), μ1 = zup μ 19 2 p1 → 0 ≤ p1 → p1 ≤ N → skp T N p1 = skp T N p → Ok (f_X7_readClause_J43 t μ1) (CRes μ t T N (if skp T N p < N ∧ T (skp T N p) = 97 + sE σ ∧ sE σ < 12 then (if skp T N (skp T N p + 1) < N ∧ T (skp T N (skp T N p + 1)) = 61 then rdC.rdE T N σ (skp T N (skp T N p + 1) + 1) else (none, skp T N (skp T N p + 1))) else (none, skp T N p))) := by
    intro μ1 p1 e1 p0 p2 p3
    subst e1
    have f1 : FTx t μ (zup μ 19 2 p1) := (FTx.refl t μ).pl p1
    unfold f_X7_readClause_J43
    rw [(hs.pl ht p1).2.1]
    by_cases hE : sE σ < 12
    · rw [if_pos hE, zw_eq (x := 97 + sE σ) (by omega) (by omega), zc97 (by omega), c_pass hT (f1.tp ht hc) ⟨p0, p2⟩ (by rw [zup_s, up1_s]) (by omega), zup_zup, zup_zup, p3]
      by_cases h1 : skp T N p < N ∧ T (skp T N p) = 97 + sE σ
      · rw [if_pos h1, bnd2_pos rfl, if_neg (by decide), if_pos ⟨h1.1, h1.2, hE⟩]
        have f2 : FTx t μ (zup μ 19 2 (skp T N p + 1)) := (FTx.refl t μ).pl _
        refine ok_bnd2.mpr ((c_readEdge hT (f2.tp ht hc) (hs.pl ht _) hz ht he' hE (p := skp T N p + 1) ⟨by omega, by omega⟩ (by rw [zup_s, up1_s])).imp fun v q => ?_)
        obtain ⟨q1, q2, q3, q4, q5, q6⟩ := q
        cases hr : (if skp T N (skp T N p + 1) < N ∧ T (skp T N (skp T N p + 1)) = 61 then rdC.rdE T N σ (skp T N (skp T N p + 1) + 1) else (none, skp T N (skp T N p + 1))) with
        | mk o Q =>
          rw [hr] at q4 q5 q6
          cases o with
          | none =>
            rw [q5 rfl, if_pos rfl]
            exact ok_some.mpr ⟨f2.trans q1, q2, q3, q4, fun _ => rfl, fun σ' e => by simp at e⟩
          | some σ' =>
            rw [(q6 σ' rfl).1, if_neg (by decide)]
            refine ok_some.mpr ⟨f2.trans q1, q2, q3, q4, fun e => by simp at e, fun σ'' e => ?_⟩
            simp only [Option.some.injEq] at e
            subst e
            exact ⟨rfl, (q6 _ rfl).2⟩
      · rw [if_neg h1, bnd2_pos rfl, if_pos rfl, if_neg (fun e => h1 ⟨e.1, e.2.1⟩)]
        exact ok_some.mpr ⟨(FTx.refl t μ).pl _, by simp only; rw [zup_s, up1_s]; omega, by simp only; rw [zup_s, up1_s]; exact hs1.2.1, by simp only; rw [zup_s, up1_s], fun _ => rfl, fun σ' e => by simp at e⟩
    · rw [if_neg hE, if_neg (fun e => hE e.2.2)]
      exact ok_some.mpr ⟨f1, by simp only; rw [zup_s, up1_s]; omega, by simp only; rw [zup_s, up1_s]; exact p2, by simp only; rw [zup_s, up1_s, p3, skp_skp hT hp], fun _ => rfl, fun σ' e => by simp at e⟩
  unfold f_X7_readClause rdC
  rw [hs.2.2.1]
  by_cases h8 : sP σ < 8
  · rw [if_pos h8, c_pass hT hc hp h (by decide)]
    by_cases h1 : skp T N p < N ∧ T (skp T N p) = 58
    · rw [if_pos h1, bnd2_pos rfl, if_neg (by decide), if_pos ⟨h1.1, h1.2, h8⟩]
      generalize hP1 : skp T N p + 1 = P1
      have hP1r : 0 ≤ P1 ∧ P1 ≤ N := by omega
      have f1 : FTx t μ (zup μ 19 2 P1) := (FTx.refl t μ).pl P1
      have hsp := rds_spec (σ := σ) hT 8 0 (fun _ => 0) P1 (by omega) hP1r.1 hP1r.2 ⟨fun i a b => by omega, fun i a b => by omega⟩
      unfold f_X7_readRim
      obtain ⟨μa, ea, qa⟩ := c_readSteps (most := 8) hT (f1.tp ht hc) (hs.pl ht P1) hz he' ht hP1r (by rw [zup_s, up1_s]) (by omega)
      rw [show (8 : Int).toNat = 8 from rfl] at qa
      rw [ea, bnd_pos rfl, bnd2_pos rfl]
      generalize rds σ T N 8 0 (fun _ => 0) P1 = r at *
      obtain ⟨a1, a2, a3, a4, a5⟩ := qa
      have hrim := c_isRim (by omega) a2
      unfold rok at hrim
      by_cases hk : 0 < r.1 ∧ sB σ (r.2.1 (r.1 - 1)) = sA σ (r.2.1 0)
      · rw [if_neg (fun e => hrim.mp e hk), if_pos hk, a2.1]
        have csa : CS μa t σ := a1.cs (hs.pl ht P1) ht
        refine ok_bnd.mpr ((c_addPane (a := 21 + 1) csa hz hw.1 h8 (fun f x y => (hw.2.2 f x y).2.1) ⟨by omega, by omega⟩ ⟨by omega, by omega, by omega⟩ (by decide) a2.2.1).imp fun μ1 q => ok_some.mpr ?_)
        obtain ⟨q1, q2, q3⟩ := q
        have e19 : μ1 19 = μa 19 := q2 19 (by omega) (by omega) (by omega)
        refine ⟨⟨fun c a b d e => ?_, fun i a => ?_⟩, ?_, ?_, ?_, fun e => by simp at e, fun σ' e => ?_⟩
        · simp only; rw [q2 c (by omega) (by omega) (by omega), a1.1 c b d e, zup_n _ _ _ b]
        · simp only; rw [e19, a1.2 i a, zup_s, up1_n _ _ a]
        · simp only; rw [e19]; exact a3
        · simp only; rw [e19]; exact a4
        · simp only; rw [e19, a5, hsp.2.2.2.2.2]
        · simp only [Option.some.injEq] at e
          subst e
          exact ⟨rfl, q1⟩
      · rw [if_pos (hrim.mpr hk), if_neg hk]
        exact ok_some.mpr ⟨f1.pn a1, a3, a4, by simp only; rw [a5, hsp.2.2.2.2.2], fun _ => rfl, fun σ' e => by simp at e⟩
    · rw [if_neg h1, bnd2_pos rfl, if_pos rfl, if_neg (fun e => h1 ⟨e.1, e.2.1⟩)]
      exact j43 _ _ rfl (by omega) hs1.2.1 (skp_skp hT hp)
  · rw [if_neg h8, if_neg (fun e => h8 e.2.2)]
    exact j43 μ p (zup_id h).symm hp.1 hp.2 rfl
end
