/-! a pane more; face -/
def addP (σ : Sp) (k : Int) (w : Int → Int) : Sp := ((sC σ, sE σ, sP σ + 1), sF σ, sT σ, (fun f => if f = sP σ then k else sL σ f), (fun f i => if f = sP σ then w i else sR σ f i))
theorem trs_cg {σ τ : Sp} (hE : sE σ = sE τ) (hF : sF σ = sF τ) (hT : sT σ = sT τ) (n : Nat) : trs σ n = trs τ n := by
  have ht : ∀ r, tou σ r = tou τ r := fun r => by unfold tou; rw [hE, hF, hT]
  induction n with
  | zero => rfl
  | succ n ih =>
    unfold trs
    rw [ih, ht, hF, hT]
theorem CP.cg {μ : zMem} {t : Int} {σ τ : Sp} (hC : sC σ = sC τ) (hE : sE σ = sE τ) (hF : sF σ = sF τ) (hT : sT σ = sT τ) (h : CP μ t σ) : CP μ t τ := by
  have e1 : tR σ = tR τ := by unfold tR; rw [trs_cg hE hF hT]
  have e2 : tT σ = tT τ := by unfold tT; rw [trs_cg hE hF hT]
  have e3 : isTn σ = isTn τ := by funext e; unfold isTn; rw [e1, e2, hF]
  have e4 : sW σ = sW τ := by funext e; unfold sW; rw [e1, e2, e3, hF]
  have e5 : sN σ = sN τ := by unfold sN; rw [e3, hE]
  have e6 : sQ σ = sQ τ := by unfold sQ; rw [e1, hC]
  unfold CP at *
  rw [← e1, ← e4, ← e5, ← e6, ← hC, ← hE]
  exact h
def rok (σ : Sp) (k : Int) (w : Int → Int) : Prop := 0 < k ∧ sB σ (w (k - 1)) = sA σ (w 0)
theorem addP_wfE {σ : Sp} {mC mE k : Int} {w : Int → Int} (h : WfE σ mC mE) : WfE (addP σ k w) mC mE := h
theorem addP_wfP {σ : Sp} {mP k : Int} {w : Int → Int} (h : WfP σ mP) (hP : sP σ < mP) (hk : k ≤ 8) (hw : Wd σ k w) (hr : rok σ k w) : WfP (addP σ k w) mP := by
  obtain ⟨p1, p2, p3⟩ := h
  refine ⟨show 0 ≤ sP σ + 1 by omega, show sP σ + 1 ≤ mP by omega, fun f h0 h1 => ?_⟩
  have h2 : f < sP σ + 1 := h1
  by_cases hf : f = sP σ
  · have e1 : sL (addP σ k w) f = k := if_pos hf
    have e2 : ∀ i, sR (addP σ k w) f i = w i := fun i => if_pos hf
    rw [e1]
    simp only [e2]
    exact ⟨hr.1, hk, fun i a b => hw.1 i a b, fun i a b => hw.2 i a b, hr.2⟩
  · have e1 : sL (addP σ k w) f = sL σ f := if_neg hf
    have e2 : ∀ i, sR (addP σ k w) f i = sR σ f i := fun i => if_neg hf
    rw [e1]
    simp only [e2]
    exact p3 f h0 (by omega)
section
variable {μ : zMem} {t s mC mE mP : Int} {σ : Sp}
theorem c_addPane {a k : Int} {w : Int → Int} (h : CS μ t σ) (hz : SZ t mC mE mP) (hp0 : 0 ≤ sP σ) (hP : sP σ < mP) (hpl : ∀ f, 0 ≤ f → f < sP σ → sL σ f ≤ 8) (hk : 0 ≤ k ∧ k ≤ 8) (ha : a ≠ t ∧ a ≠ t + 5 ∧ a ≠ t + 6) (hl : 8 ≤ zlen a) (hw : ∀ i, 0 ≤ i → i < k → μ a i = w i) : Ok (f_X5_addPane t a k μ) (fun μ' => CS μ' t (addP σ k w) ∧ (∀ c, c ≠ t → c ≠ t + 5 → c ≠ t + 6 → μ' c = μ c) ∧ (∀ i, i ≠ 8 → μ' t i = μ t i)) := by
  obtain ⟨c1, c2, c3, c4, c5⟩ := h
  obtain ⟨z1, z2, z3, z4, z5, z6, z7, z8, z9⟩ := hz
  have zc : ∀ (c : Int), c ≠ t + 5 → zcpy μ a 0 (t + 5) (sP σ * 8) k c = μ c := fun c hc => by
    funext i
    rw [zcpy_eq, if_neg (fun e => hc e.1)]
  unfold f_X5_addPane
  rw [c3, if_pos (by omega), if_pos hk.2, zw_eq (x := sP σ * 8) (by omega) (by omega), chk_pos (by omega)]
  simp only [zlet]
  rw [zc t (by omega), c3, chk_pos (by omega), zup_n _ _ _ (by omega), zc t (by omega), c3, zw_eq (by omega) (by omega)]
  refine ok_some.mpr ⟨⟨?_, ?_, ?_, fun e h0 h1 => ?_, fun f h0 h1 => ⟨?_, fun i i0 i1 => ?_⟩⟩, fun c a b d => ?_, fun i hi => ?_⟩
  · rw [zup_s, up1_n _ _ (by decide), zup_n _ _ _ (by omega), zc t (by omega)]; exact c1
  · rw [zup_s, up1_n _ _ (by decide), zup_n _ _ _ (by omega), zc t (by omega)]; exact c2
  · rw [zup_s, up1_s]; rfl
  · rw [zup_n _ _ _ (by omega), zup_n _ _ _ (by omega), zc (t + 1) (by omega), zup_n _ _ _ (by omega), zup_n _ _ _ (by omega), zc (t + 2) (by omega)]
    exact c4 e h0 h1
  · have h2 : f < sP σ + 1 := h1
    rw [zup_n _ _ _ (by omega), zup_s]
    by_cases hf : f = sP σ
    · rw [hf, up1_s]; exact (if_pos rfl).symm
    · rw [up1_n _ _ hf, zc (t + 6) (by omega)]
      rw [(c5 f h0 (by omega)).1]
      exact (if_neg hf).symm
  · have h2 : f < sP σ + 1 := h1
    rw [zup_n _ _ _ (by omega), zup_n _ _ _ (by omega), zcpy_eq]
    by_cases hf : f = sP σ
    · have i2 : i < k := by have : sL (addP σ k w) f = k := if_pos hf; omega
      rw [if_pos (by omega), show 0 + (8 * f + i - sP σ * 8) = i by omega, hw i i0 i2]
      exact (if_pos hf).symm
    · have i2 : i < sL σ f := by have : sL (addP σ k w) f = sL σ f := if_neg hf; omega
      have := hpl f h0 (by omega)
      rw [if_neg (by omega), (c5 f h0 (by omega)).2 i i0 i2]
      exact (if_neg hf).symm
  · rw [zup_n _ _ _ a, zup_n _ _ _ d, zc c b]
  · rw [zup_s, up1_n _ _ hi, zup_n _ _ _ (by omega), zc t (by omega)]
theorem m_addFace {k : Int} {w : Int → Int} (h : MS μ s σ) (hs : 0 ≤ s ∧ s < 3) (hp0 : 0 ≤ sP σ) (hP : sP σ < 32) (hpl : ∀ f, 0 ≤ f → f < sP σ → sL σ f ≤ 8) (hk : 0 ≤ k ∧ k ≤ 8) (hr : MRd μ k w) : Ok (f_X10_addFace s μ) (fun v => v.1 = sP σ ∧ MS v.2 s (addP σ k w) ∧ (∀ c, c ≠ 104 → c ≠ 107 → c ≠ 108 → v.2 c = μ c) ∧ Ms s μ v.2) := by
  obtain ⟨c1, c2, c3, c4, c5⟩ := h
  obtain ⟨r1, r2⟩ := hr
  have key : ∀ (n : Nat) (x : Int) (μ1 : zMem), 0 ≤ x → x ≤ k → (k - x).toNat < n → (∀ c, c ≠ 107 → c ≠ 108 → μ1 c = μ c) → μ1 107 = up1 (μ 107) (32 * s + sP σ) k → (∀ i, μ1 108 i = if 8 * (32 * s + sP σ) ≤ i ∧ i < 8 * (32 * s + sP σ) + x then stp (w (i - 8 * (32 * s + sP σ))) else μ 108 i) → Ok (f_X10_addFace_L24 s (sP σ) (f_X10_addFace_K60 s (sP σ)) n x μ1) (fun v => v.1 = sP σ ∧ MS v.2 s (addP σ k w) ∧ (∀ c, c ≠ 104 → c ≠ 107 → c ≠ 108 → v.2 c = μ c) ∧ Ms s μ v.2) := by
    intro n
    induction n with
    | zero => intro x μ1 _ _ h; omega
    | succ n ih =>
      intro x μ1 x0 x1 x2 f1 f2 f3
      unfold f_X10_addFace_L24
      rw [f1 101 (by decide) (by decide), r1, zw_eq (x := 32 * s) (by omega) (by omega), zw_eq (x := 32 * s + sP σ) (by omega) (by omega), zw_eq (x := 8 * (32 * s + sP σ)) (by omega) (by omega)]
      by_cases hx : x < k
      · rw [if_pos hx, chk_pos (by omega), zw_eq (x := 8 * (32 * s + sP σ) + x) (by omega) (by omega), chk_pos (by omega), f1 116 (by decide) (by decide), r2 x x0 hx]
        simp only [zlet]
        rw [zw_eq (by omega) (by omega)]
        refine ih (x + 1) _ (by omega) (by omega) (by omega) (fun c a b => by rw [zup_n _ _ _ b]; exact f1 c a b) (by rw [zup_n _ _ _ (by decide)]; exact f2) (fun i => ?_)
        rw [zup_s, up1_e]
        by_cases hi : i = 8 * (32 * s + sP σ) + x
        · rw [if_pos hi, if_pos (by omega), hi, show 8 * (32 * s + sP σ) + x - 8 * (32 * s + sP σ) = x by omega]
        · rw [if_neg hi, f3]
          by_cases hi2 : 8 * (32 * s + sP σ) ≤ i ∧ i < 8 * (32 * s + sP σ) + x
          · rw [if_pos hi2, if_pos (by omega)]
          · rw [if_neg hi2, if_neg (by omega)]
      · rw [if_neg hx]
        have hxk : x = k := by omega
        subst hxk
        unfold f_X10_addFace_K60
        rw [chk_pos hs, chk_pos hs, f1 104 (by decide) (by decide), c3, zw_eq (by omega) (by omega)]
        simp only [zlet]
        refine ok_some.mpr ⟨rfl, ⟨?_, ?_, ?_, fun e h0 h1 => ?_, fun f h0 h1 => ⟨?_, fun i i0 i1 => ?_⟩⟩, fun c a b d => ?_, fun y hy => ?_, fun i hi => ?_, fun i hi => ?_, fun i hi => ?_⟩
        · simp only; rw [zup_n _ _ _ (by decide), f1 102 (by decide) (by decide)]; exact c1
        · simp only; rw [zup_n _ _ _ (by decide), f1 103 (by decide) (by decide)]; exact c2
        · simp only; rw [zup_s, up1_s]; rfl
        · simp only; rw [zup_n _ _ _ (by decide), zup_n _ _ _ (by decide), f1 105 (by decide) (by decide), f1 106 (by decide) (by decide)]; exact c4 e h0 h1
        · have h2 : f < sP σ + 1 := h1
          simp only
          rw [zup_n _ _ _ (by decide), f2, up1_e]
          by_cases hf : f = sP σ
          · rw [if_pos (by omega)]; exact (if_pos hf).symm
          · rw [if_neg (by omega), (c5 f h0 (by omega)).1]; exact (if_neg hf).symm
        · have h2 : f < sP σ + 1 := h1
          simp only
          rw [zup_n _ _ _ (by decide), f3]
          by_cases hf : f = sP σ
          · have i2 : i < x := by have : sL (addP σ x w) f = x := if_pos hf; omega
            rw [if_pos (by omega), show 8 * (32 * s + f) + i - 8 * (32 * s + sP σ) = i by omega]
            exact congrArg stp (if_pos hf).symm
          · have i2 : i < sL σ f := by have : sL (addP σ x w) f = sL σ f := if_neg hf; omega
            have := hpl f h0 (by omega)
            rw [if_neg (by omega), (c5 f h0 (by omega)).2 i i0 i2]
            exact congrArg stp (if_neg hf).symm
        · simp only; rw [zup_n _ _ _ a, f1 c b d]
        · simp only
          rw [zup_n _ _ _ (by decide), zup_n _ _ _ (by decide), zup_s, up1_n _ _ hy, f1 102 (by decide) (by decide), f1 103 (by decide) (by decide), f1 104 (by decide) (by decide)]
          exact ⟨rfl, rfl, rfl⟩
        · simp only; rw [zup_n _ _ _ (by decide), zup_n _ _ _ (by decide), f1 105 (by decide) (by decide), f1 106 (by decide) (by decide)]; exact ⟨rfl, rfl⟩
        · simp only; rw [zup_n _ _ _ (by decide), f2, up1_n _ _ (by omega)]
        · simp only; rw [zup_n _ _ _ (by decide), f3, if_neg (by omega)]
  unfold f_X10_addFace
  rw [chk_pos hs, c3]
  simp only [zlet]
  rw [zw_eq (x := 32 * s) (by omega) (by omega), zw_eq (x := 32 * s + sP σ) (by omega) (by omega), chk_pos (by omega), r1]
  exact key zfu 0 _ (by omega) hk.1 (by unfold zfu; omega) (fun c a b => by rw [zup_n _ _ _ a]) (by rw [zup_s]) (fun i => by rw [zup_n _ _ _ (by decide), if_neg (by omega)])
theorem c_isRim {k : Int} {w : Int → Int} (hk : 0 ≤ k) (h : CPn μ σ k w) : f_X8_isRim 21 μ = 0 ↔ ¬ rok σ k w := by
  obtain ⟨p1, p2, p3, p4⟩ := h
  unfold f_X8_isRim rok
  rw [p1, p3, p4]
  by_cases h0 : k ≤ 0
  · rw [if_pos h0]
    exact ⟨fun _ => by omega, fun _ => rfl⟩
  · rw [if_neg h0, if_neg (show ¬ k = 0 by omega), if_neg (show ¬ k = 0 by omega)]
    by_cases h1 : sA σ (w 0) = sB σ (w (k - 1))
    · rw [if_pos h1]
      exact ⟨fun e => by omega, fun e => absurd ⟨by omega, h1.symm⟩ e⟩
    · rw [if_neg h1]
      exact ⟨fun _ e => h1 e.2.symm, fun _ => rfl⟩
theorem m_readRim {T : Int → Int} {N p : Int} (hT : TP T N) (hc : MTp μ T N) (hs : MS μ s σ) (h3 : 0 ≤ s ∧ s < 3) (hw : WfE σ 32 48) (hp : 0 ≤ p ∧ p ≤ N) (h : μ 101 10 = p) : Ok (f_X10_readRim s μ) (fun v => Fm [116] [10, 11, 13] μ v.2 ∧ MRd v.2 (rds σ T N 8 0 (fun _ => 0) p).1 (rds σ T N 8 0 (fun _ => 0) p).2.1 ∧ v.2 101 10 = (rds σ T N 8 0 (fun _ => 0) p).2.2 ∧ ((sgc T N (rds σ T N 8 0 (fun _ => 0) p).2.2 = -1 ∧ rok σ (rds σ T N 8 0 (fun _ => 0) p).1 (rds σ T N 8 0 (fun _ => 0) p).2.1) → v.1 = 1) ∧ (¬ (sgc T N (rds σ T N 8 0 (fun _ => 0) p).2.2 = -1 ∧ rok σ (rds σ T N 8 0 (fun _ => 0) p).1 (rds σ T N 8 0 (fun _ => 0) p).2.1) → v.1 = 0 ∧ v.2 101 11 = -20 - (rds σ T N 8 0 (fun _ => 0) p).2.2)) := by
  have hsp := rds_spec (σ := σ) hT 8 0 (fun _ => 0) p (by omega) hp.1 hp.2 ⟨fun i a b => by omega, fun i a b => by omega⟩
  have hN := hT.2.1
  unfold f_X10_readRim
  refine ok_bnd2.mpr ((m_readWord hT hc hs h3 hw hp h (most := 8) (by omega)).imp fun v q => ?_)
  rw [show (8 : Int).toNat = 8 from rfl] at q
  obtain ⟨q1, q2, q3, q4, q5⟩ := q
  generalize rds σ T N 8 0 (fun _ => 0) p = r at *
  have hms := q1.ms (by unfold noSp; decide) hs
  by_cases hl : sgc T N r.2.2 = -1
  · rw [q4 hl, if_neg (by decide), q2.1]
    have bad : ¬ rok σ r.1 r.2.1 → Ok (f_X10_readRim_J53 f_X10_readRim_J54 v.2) (fun v => Fm [116] [10, 11, 13] μ v.2 ∧ MRd v.2 r.1 r.2.1 ∧ v.2 101 10 = r.2.2 ∧ ((sgc T N r.2.2 = -1 ∧ rok σ r.1 r.2.1) → v.1 = 1) ∧ (¬ (sgc T N r.2.2 = -1 ∧ rok σ r.1 r.2.1) → v.1 = 0 ∧ v.2 101 11 = -20 - r.2.2)) := by
      intro hb
      unfold f_X10_readRim_J53 f_X10_readRim_J54 f_X10_fails
      rw [if_pos rfl]
      simp only [zlet]
      rw [bnd2_pos rfl, if_pos rfl, q3, zw_eq (by omega) (by omega)]
      refine ok_some.mpr ⟨q1.upo (by decide) _, ?_, ?_, fun e => absurd e.2 hb, fun _ => ⟨rfl, by simp only; rw [zup_s, up1_s]⟩⟩
      · unfold MRd at *
        simp only
        rw [zup_s, up1_n _ _ (by decide), zup_n _ _ _ (by decide)]
        exact q2
      · simp only
        rw [zup_s, up1_n _ _ (by decide)]
        exact q3
    by_cases h0 : r.1 ≤ 0
    · rw [if_pos h0]
      exact bad (fun e => by unfold rok at e; omega)
    · have w1 := hsp.2.2.1.1 (r.1 - 1) (by omega) (by omega)
      have w0 := hsp.2.2.1.1 0 (by omega) (by omega)
      rw [if_neg h0, zw_eq (by omega) (by omega), chk_pos (by omega), q2.2 (r.1 - 1) (by omega) (by omega), q2.2 0 (by omega) (by omega), m_toOf hms h3 hw w1, bnd_pos rfl, m_fromOf hms h3 hw w0, bnd_pos rfl]
      by_cases h1 : sB σ (r.2.1 (r.1 - 1)) = sA σ (r.2.1 0)
      · rw [if_pos h1]
        unfold f_X10_readRim_J54
        rw [if_neg (by decide)]
        exact ok_some.mpr ⟨q1, q2, q3, fun _ => rfl, fun e => absurd ⟨hl, by omega, h1⟩ e⟩
      · rw [if_neg h1]
        exact bad (fun e => h1 e.2)
  · rw [(q5 hl).1, if_pos rfl]
    exact ok_some.mpr ⟨q1, q2, q3, fun e => absurd e.1 hl, fun _ => ⟨rfl, (q5 hl).2⟩⟩
end
/-- the tape of both sides -/
theorem Rel.tape {μ : zMem} (h : Rel μ) : TP (μ 20) (μ 19 1) ∧ CTp μ (μ 20) (μ 19 1) ∧ MTp μ (μ 20) (μ 19 1) := by
  obtain ⟨t1, t2, t3, t4⟩ := h.2.2.1
  exact ⟨⟨t2, t3, fun i a b => (t4 i a b).2⟩, ⟨rfl, fun _ _ _ => rfl⟩, ⟨t1.symm, fun i a b => (t4 i a b).1.symm⟩⟩
theorem sgc_end {T : Int → Int} {N : Int} : sgc T N N = -1 := by unfold sgc; rw [if_neg (by omega)]
theorem Rel.wipe {μ μ' : zMem} (h : Rel μ) (hk : ∀ k, rlv k → k ≠ 20 → k ≠ 110 → μ' k = μ k) (h10 : μ' 1 10 = μ 1 10) (ho : ∀ i, i = 7 ∨ i = 37 ∨ i = 38 ∨ i = 39 → μ' 101 i = μ 101 i) (h1 : μ' 19 1 = 0) (h9 : μ' 101 9 = 0) : Rel μ' := by
  have hv : Rel (zup (zup (zup (zup μ 19 1 0) 101 9 0) 19 1 0) 101 9 0) := by
    obtain ⟨⟨r1, r2, r3⟩, r4, r5, r6, r7, r8⟩ := h
    have e : ∀ k, k ≠ 19 → k ≠ 101 → zup (zup (zup (zup μ 19 1 0) 101 9 0) 19 1 0) 101 9 0 k = μ k := fun k a b => by rw [zup_n _ _ _ b, zup_n _ _ _ a, zup_n _ _ _ b, zup_n _ _ _ a]
    have eo : ∀ i, i ≠ 9 → zup (zup (zup (zup μ 19 1 0) 101 9 0) 19 1 0) 101 9 0 101 i = μ 101 i := fun i a => by
      rw [zup_s, up1_n _ _ a, zup_n _ _ _ (by decide), zup_s, up1_n _ _ a, zup_n _ _ _ (by decide)]
    refine ⟨⟨r1.congr fun k a => e k (by omega) (by omega), r2.congr (e 2 (by decide) (by decide)) (by rw [e 1 (by decide) (by decide)]), r3.congr fun k a => e k (by omega) (by omega)⟩, fun s a b => ?_, ?_, fun q a b => (r6 q a b).congr ⟨a, b⟩ (fun k c => e k (by omega) (by omega)), fun q a b => (r7 q a b).congr ⟨a, b⟩ (fun k c => e k (by omega) (by omega)), r8.congr (fun k c => e k (by omega) (by omega)) (eo 7 (by decide)) (eo 37 (by decide)) (eo 38 (by decide)) (eo 39 (by decide))⟩
    · obtain ⟨σ, q⟩ := r4 s a b
      have hb : 37 ≤ μ 2 s ∧ μ 2 s ≤ 51 := by
        have h01 : s = 0 ∨ s = 1 := by omega
        rcases h01 with h | h <;> subst h
        · have := r2.1.b; omega
        · have := r2.2.1.b; omega
      exact ⟨σ, q.congr (by rw [e 2 (by decide) (by decide)]) (fun k a b => e k (by omega) (by omega)) (fun k a b => e k (by omega) (by omega))⟩
    · have e1 : zup (zup (zup (zup μ 19 1 0) 101 9 0) 19 1 0) 101 9 0 19 1 = 0 := by rw [zup_n _ _ _ (by decide), zup_s, up1_s]
      have e2 : zup (zup (zup (zup μ 19 1 0) 101 9 0) 19 1 0) 101 9 0 101 9 = 0 := by rw [zup_s, up1_s]
      refine ⟨by rw [e1, e2], by rw [e1]; decide, by rw [e1]; decide, fun i a b => by rw [e1] at b; omega⟩
  obtain ⟨⟨r1, r2, r3⟩, r4, r5, r6, r7, r8⟩ := h
  refine ⟨⟨r1.congr fun k a => hk k (by unfold rlv; omega) (by omega) (by omega), r2.congr (hk 2 (by unfold rlv; omega) (by omega) (by omega)) h10, r3.congr fun k a => hk k (by unfold rlv; omega) (by omega) (by omega)⟩, fun s a b => ?_, ⟨by rw [h1, h9], by rw [h1]; decide, by rw [h1]; decide, fun i a b => by rw [h1] at b; omega⟩, fun q a b => (r6 q a b).congr ⟨a, b⟩ (fun k c => hk k (by unfold rlv; omega) (by omega) (by omega)), fun q a b => (r7 q a b).congr ⟨a, b⟩ (fun k c => hk k (by unfold rlv; omega) (by omega) (by omega)), r8.congr (fun k c => hk k (by unfold rlv; omega) (by omega) (by omega)) (ho 7 (by omega)) (ho 37 (by omega)) (ho 38 (by omega)) (ho 39 (by omega))⟩
  obtain ⟨σ, q⟩ := r4 s a b
  have hb : 37 ≤ μ 2 s ∧ μ 2 s ≤ 51 := by
    have h01 : s = 0 ∨ s = 1 := by omega
    rcases h01 with h | h <;> subst h
    · have := r2.1.b; omega
    · have := r2.2.1.b; omega
  exact ⟨σ, q.congr (by rw [hk 2 (by unfold rlv; omega) (by omega) (by omega)]) (fun k a b => hk k (by unfold rlv; omega) (by omega) (by omega)) (fun k a b => hk k (by unfold rlv; omega) (by omega) (by omega))⟩
set_option maxHeartbeats 4000000 in
theorem m_face {μ : zMem} {a : Int} {σ : Sp} {T : Int → Int} {N : Int} {r : Int × (Int → Int) × Int} (h1 : 0 ≤ a ∧ a ≤ 1) (hT : TP T N) (hMT : MTp μ T N) (s3 : MS μ a σ) (s4 : WfE σ 8 12) (s5 : WfP σ 8) (hr : rds σ T N 8 0 (fun _ => 0) 0 = r) : ∀ μd : zMem, (∀ c, 101 ≤ c → μd c = μ c) → Ok (f_X10_face a μd) (fun w => Fm [104, 107, 108, 116] [9, 10, 11, 13] μd w.2 ∧ w.2 101 9 = 0 ∧ (¬ (rok σ r.1 r.2.1 ∧ r.2.2 = N) → w.1 = -20 - r.2.2 ∧ ∀ c, 102 ≤ c → c ≤ 108 → w.2 c = μ c) ∧ ((rok σ r.1 r.2.1 ∧ r.2.2 = N) → sP σ = 8 → w.1 = -3 ∧ ∀ c, 102 ≤ c → c ≤ 108 → w.2 c = μ c) ∧ ((rok σ r.1 r.2.1 ∧ r.2.2 = N) → sP σ ≠ 8 → w.1 = sP σ ∧ MS w.2 a (addP σ r.1 r.2.1) ∧ Ms a μ w.2)) := by
  have hsp := rds_spec (σ := σ) hT 8 0 (fun _ => 0) 0 (by omega) (by omega) hT.1 ⟨fun i a b => by omega, fun i a b => by omega⟩
  rw [hr] at hsp
  have hN := hT.2.1
  have hp0 := s5.1
  have hp8 := s5.2.1
  intro μd hd
  unfold f_X10_face
  rw [if_neg (fun e => isSpace0.mp e h1)]
  simp only [zlet]
  have e0 : Fm [104, 107, 108, 116] [9, 10, 11, 13] μd (zup μd 101 10 0) := (Fm.refl _ _ μd).upo (by decide) _
  have mt : MTp (zup μd 101 10 0) T N := by
    unfold MTp at *
    rw [zup_s, up1_n _ _ (by decide), zup_n _ _ _ (by decide), hd 101 (by decide), hd 110 (by decide)]
    exact hMT
  have msd : MS (zup μd 101 10 0) a σ := s3.congr fun k a b => by rw [zup_n _ _ _ (by omega), hd k (by omega)]
  refine ok_bnd2.mpr ((m_readRim hT mt msd (by omega) (s4.mono (by decide) (by decide)) ⟨by omega, hT.1⟩ (by rw [zup_s, up1_s])).imp fun v q => ?_)
  rw [hr] at q
  obtain ⟨q1, q2, q3, q4, q5⟩ := q
  have e1 := e0.trans (q1.sub (cs' := [104, 107, 108, 116]) (ss' := [9, 10, 11, 13]) (by decide) (by decide))
  have msv := q1.ms (by unfold noSp; decide) msd
  have p9 : v.2 101 9 = N := by rw [q1.2 9 (by decide)]; exact mt.1
  have keep : ∀ c, 102 ≤ c → c ≤ 108 → v.2 c = μ c := fun c x y => by
    rw [q1.1 c (by simp; omega) (by omega), zup_n _ _ _ (by omega), hd c (by omega)]
  -- it failed
  have bad : ∀ μe : zMem, Fm [104, 107, 108, 116] [9, 10, 11, 13] μd μe → (∀ c, 102 ≤ c → c ≤ 108 → μe c = μ c) → μe 101 11 = -20 - r.2.2 → ¬ (rok σ r.1 r.2.1 ∧ r.2.2 = N) → Ok (f_X10_face_J48 (f_X10_face_J49 a) μe) (fun w => Fm [104, 107, 108, 116] [9, 10, 11, 13] μd w.2 ∧ w.2 101 9 = 0 ∧ (¬ (rok σ r.1 r.2.1 ∧ r.2.2 = N) → w.1 = -20 - r.2.2 ∧ ∀ c, 102 ≤ c → c ≤ 108 → w.2 c = μ c) ∧ ((rok σ r.1 r.2.1 ∧ r.2.2 = N) → sP σ = 8 → w.1 = -3 ∧ ∀ c, 102 ≤ c → c ≤ 108 → w.2 c = μ c) ∧ ((rok σ r.1 r.2.1 ∧ r.2.2 = N) → sP σ ≠ 8 → w.1 = sP σ ∧ MS w.2 a (addP σ r.1 r.2.1) ∧ Ms a μ w.2)) := by
    intro μe f1 f2 f3 hb
    unfold f_X10_face_J48 f_X10_face_J49
    simp only [zlet, if_true]
    exact ok_some.mpr ⟨f1.upo (by decide) _, by simp only; rw [zup_s, up1_s], fun _ => ⟨by simp only; rw [zup_s, up1_n _ _ (by decide)]; exact f3, fun c x y => by simp only; rw [zup_n _ _ _ (by omega)]; exact f2 c x y⟩, fun e => absurd e hb, fun e => absurd e hb⟩
  by_cases hok : sgc T N r.2.2 = -1 ∧ rok σ r.1 r.2.1
  · rw [q4 hok, if_neg (by decide), q3, p9]
    by_cases hPN : r.2.2 = N
    · rw [if_pos hPN]
      unfold f_X10_face_J44 f_X10_face_J49
      simp only [zlet]
      have e2 : Fm [104, 107, 108, 116] [9, 10, 11, 13] μd (zup v.2 101 9 0) := e1.upo (by decide) _
      have ms2 : MS (zup v.2 101 9 0) a σ := msv.congr fun k x y => by rw [zup_n _ _ _ (by omega)]
      rw [if_neg (by decide), chk_pos (by omega), ms2.2.2.1]
      by_cases h8 : sP σ = 8
      · rw [if_pos h8]
        exact ok_some.mpr ⟨e2, by simp only; rw [zup_s, up1_s], fun e => absurd ⟨hok.2, hPN⟩ e, fun _ _ => ⟨rfl, fun c x y => by simp only; rw [zup_n _ _ _ (by omega)]; exact keep c x y⟩, fun _ e => absurd h8 e⟩
      · rw [if_neg h8]
        have hmr : MRd (zup v.2 101 9 0) r.1 r.2.1 := by
          unfold MRd at *
          rw [zup_s, up1_n _ _ (by decide), zup_n _ _ _ (by decide)]
          exact q2
        refine ok_bnd2.mpr ((m_addFace ms2 (by omega) s5.1 (by have := s5.2.1; omega) (fun f x y => (s5.2.2 f x y).2.1) ⟨by omega, by omega⟩ hmr).imp fun w g => ok_some.mpr ?_)
        obtain ⟨g1, g2, g3, g4⟩ := g
        refine ⟨e2.trans ⟨fun c x y => g3 c (fun e => x (by rw [e]; decide)) (fun e => x (by rw [e]; decide)) (fun e => x (by rw [e]; decide)), fun i _ => by rw [g3 101 (by decide) (by decide) (by decide)]⟩, by simp only; rw [g3 101 (by decide) (by decide) (by decide), zup_s, up1_s], fun e => absurd ⟨hok.2, hPN⟩ e, fun _ e => absurd e h8, fun _ _ => ⟨g1, g2, (Ms.of fun c x y => ?_).trans g4⟩⟩
        rw [zup_n _ _ _ (by omega)]; exact keep c x y
    · rw [if_neg hPN]
      unfold f_X10_fails
      simp only [zlet]
      rw [bnd2_pos rfl, if_pos rfl, zw_eq (by omega) (by omega)]
      exact bad _ (e1.upo (by decide) _) (fun c x y => by rw [zup_n _ _ _ (by omega)]; exact keep c x y) (by rw [zup_s, up1_s]) (fun e => hPN e.2)
  · rw [(q5 hok).1, if_pos rfl]
    refine bad _ e1 keep (q5 hok).2 (fun e => hok ⟨?_, e.1⟩)
    rw [e.2]; exact sgc_end
