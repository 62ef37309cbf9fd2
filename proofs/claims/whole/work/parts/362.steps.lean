/-! letters read from the tape, as long as they go on -/
def lc (x : Int) : Int := if 97 ≤ x ∧ x ≤ 122 then 2 * (x - 97) else if 65 ≤ x ∧ x ≤ 90 then 2 * (x - 65) + 1 else -1
def sgc (T : Int → Int) (N P : Int) : Int := if P < N then lc (T P) else -1
def rds (σ : Sp) (T : Int → Int) (N : Int) : Nat → Int → (Int → Int) → Int → Int × (Int → Int) × Int
  | 0, k, w, p => (k, w, skp T N p)
  | m + 1, k, w, p => if sgc T N (skp T N p) ≠ -1 ∧ sgc T N (skp T N p) / 2 < sE σ ∧ (k = 0 ∨ sA σ (sgc T N (skp T N p)) = sB σ (w (k - 1))) then rds σ T N m (k + 1) (up1 w k (sgc T N (skp T N p))) (skp T N p + 1) else (k, w, skp T N p)
theorem sgc_rg {T : Int → Int} {N P : Int} (h : sgc T N P ≠ -1) : 0 ≤ sgc T N P ∧ sgc T N P < 52 ∧ P < N := by
  unfold sgc lc at *
  split at h
  · rw [if_pos (by assumption)]
    split at h
    · rw [if_pos (by assumption)]; omega
    · split at h
      · rw [if_neg (by assumption), if_pos (by assumption)]; omega
      · exact absurd rfl h
  · exact absurd rfl h
/-- a word as far as it is read: steps that are there, each from where the one ahead leads to -/
def Wd (σ : Sp) (k : Int) (w : Int → Int) : Prop := (∀ i, 0 ≤ i → i < k → 0 ≤ w i ∧ w i < 2 * sE σ) ∧ (∀ i, 0 ≤ i → i + 1 < k → sB σ (w i) = sA σ (w (i + 1)))
theorem Wd.add {σ : Sp} {k c : Int} {w : Int → Int} (h : Wd σ k w) (h0 : 0 ≤ k) (hc : 0 ≤ c ∧ c < 2 * sE σ) (hk : k = 0 ∨ sA σ c = sB σ (w (k - 1))) : Wd σ (k + 1) (up1 w k c) := by
  refine ⟨fun i a b => ?_, fun i a b => ?_⟩
  · by_cases hi : i = k
    · rw [hi, up1_s]; exact hc
    · rw [up1_n _ _ hi]; exact h.1 i a (by omega)
  · rw [up1_n _ _ (show i ≠ k by omega)]
    by_cases hi : i + 1 = k
    · rw [hi, up1_s]
      rcases hk with hk | hk
      · omega
      · rw [hk, show i = k - 1 by omega]
    · rw [up1_n _ _ hi]; exact h.2 i a (by omega)
theorem rds_spec {σ : Sp} {T : Int → Int} {N : Int} (hT : TP T N) : ∀ (m : Nat) (k : Int) (w : Int → Int) (p : Int), 0 ≤ k → 0 ≤ p → p ≤ N → Wd σ k w → k ≤ (rds σ T N m k w p).1 ∧ (rds σ T N m k w p).1 ≤ k + m ∧ Wd σ (rds σ T N m k w p).1 (rds σ T N m k w p).2.1 ∧ p ≤ (rds σ T N m k w p).2.2 ∧ (rds σ T N m k w p).2.2 ≤ N ∧ skp T N (rds σ T N m k w p).2.2 = (rds σ T N m k w p).2.2 := by
  intro m
  induction m with
  | zero =>
    intro k w p k0 p0 p1 hw
    have hs := skp_spec hT ⟨p0, p1⟩
    exact ⟨Int.le_refl _, by show k ≤ k + 0; omega, hw, hs.1, hs.2.1, skp_skp hT ⟨p0, p1⟩⟩
  | succ m ih =>
    intro k w p k0 p0 p1 hw
    have hs := skp_spec hT ⟨p0, p1⟩
    unfold rds
    split
    · rename_i h
      have hr := sgc_rg h.1
      have := ih (k + 1) (up1 w k (sgc T N (skp T N p))) (skp T N p + 1) (by omega) (by omega) (by omega) (hw.add k0 ⟨hr.1, by omega⟩ h.2.2)
      refine ⟨by omega, by omega, this.2.2.1, by omega, this.2.2.2.2.1, this.2.2.2.2.2⟩
    · exact ⟨Int.le_refl _, by omega, hw, hs.1, hs.2.1, skp_skp hT ⟨p0, p1⟩⟩
/-! the class's pen -/
def CPn (μ : zMem) (σ : Sp) (k : Int) (w : Int → Int) : Prop := μ 21 2 = k ∧ (∀ i, 0 ≤ i → i < k → μ 22 i = w i) ∧ (μ 21 3 = if k = 0 then 0 else sA σ (w 0)) ∧ (μ 21 4 = if k = 0 then 0 else sB σ (w (k - 1)))
def FPn (μ μ' : zMem) : Prop := (∀ c, c ≠ 19 → c ≠ 21 → c ≠ 22 → μ' c = μ c) ∧ (∀ i, i ≠ 2 → μ' 19 i = μ 19 i)
theorem FPn.refl (μ : zMem) : FPn μ μ := ⟨fun _ _ _ _ => rfl, fun _ _ => rfl⟩
theorem FPn.trans {μ μ1 μ2 : zMem} (h : FPn μ μ1) (h' : FPn μ1 μ2) : FPn μ μ2 := ⟨fun c a b d => (h'.1 c a b d).trans (h.1 c a b d), fun i a => (h'.2 i a).trans (h.2 i a)⟩
theorem FPn.pl {μ μ1 : zMem} (h : FPn μ μ1) (v : Int) : FPn μ (zup μ1 19 2 v) := ⟨fun c a b d => by rw [zup_n _ _ _ a]; exact h.1 c a b d, fun i a => by rw [zup_s, up1_n _ _ a]; exact h.2 i a⟩
theorem FPn.p21 {μ μ1 : zMem} (h : FPn μ μ1) (i v : Int) : FPn μ (zup μ1 21 i v) := ⟨fun c a b d => by rw [zup_n _ _ _ b]; exact h.1 c a b d, fun i a => by rw [zup_n _ _ _ (by decide)]; exact h.2 i a⟩
theorem FPn.p22 {μ μ1 : zMem} (h : FPn μ μ1) (i v : Int) : FPn μ (zup μ1 22 i v) := ⟨fun c a b d => by rw [zup_n _ _ _ d]; exact h.1 c a b d, fun i a => by rw [zup_n _ _ _ (by decide)]; exact h.2 i a⟩
theorem FPn.tp {μ μ1 : zMem} {T : Int → Int} {N : Int} (h : FPn μ μ1) (c : CTp μ T N) : CTp μ1 T N := by
  unfold CTp at *
  rw [h.2 1 (by decide), h.1 20 (by decide) (by decide) (by decide)]
  exact c
theorem FPn.cs {μ μ1 : zMem} {t : Int} {σ : Sp} (h : FPn μ μ1) (c : CS μ t σ) (ht : 37 ≤ t) : CS μ1 t σ := c.congr fun k a b => h.1 k (by omega) (by omega) (by omega)
theorem sosE {x : Int} (h : -1 ≤ x ∧ x ≤ 200) : f_X7_stepOfSign x = lc x := by
  unfold f_X7_stepOfSign f_X7_stepOfSign_J19 lc
  by_cases h1 : 97 ≤ x ∧ x ≤ 122
  · rw [if_neg (by omega), if_pos h1.2, if_pos h1, zw_eq (x := x - 97) (by omega) (by omega), zw_eq (by omega) (by omega)]
  · rw [if_neg h1]
    by_cases h2 : 65 ≤ x ∧ x ≤ 90
    · rw [if_pos (by omega), if_neg (by omega), if_pos h2.2, if_pos h2, zw_eq (x := x - 65) (by omega) (by omega), zw_eq (x := 2 * (x - 65)) (by omega) (by omega), zw_eq (by omega) (by omega)]
    · rw [if_neg h2]
      by_cases h3 : x < 65
      · rw [if_pos (by omega), if_pos h3]
      · by_cases h4 : x < 97
        · rw [if_pos h4, if_neg h3, if_neg (by omega)]
        · rw [if_neg h4, if_neg (by omega), if_neg h3, if_neg (by omega)]
section
variable {μ : zMem} {t mC mE mP : Int} {σ : Sp}
theorem c_goOn {k c : Int} {w : Int → Int} (hs : CS μ t σ) (hz : SZ t mC mE mP) (hw : WfE σ mC mE) (ht : 37 ≤ t) (hp : CPn μ σ k w) (hk : 0 ≤ k ∧ k < 16) (hc : 0 ≤ c ∧ c < 2 * sE σ) : ((k = 0 ∨ sA σ c = sB σ (w (k - 1))) → Ok (f_X8_goOn 21 t c μ) (fun v => v.1 = 1 ∧ FPn μ v.2 ∧ v.2 19 2 = μ 19 2 ∧ CPn v.2 σ (k + 1) (up1 w k c))) ∧ (¬ (k = 0 ∨ sA σ c = sB σ (w (k - 1))) → f_X8_goOn 21 t c μ = some (0, μ)) := by
  obtain ⟨p1, p2, p3, p4⟩ := hp
  have hl : zlen (21 + 1) = 16 := by decide
  have j46 : ∀ μ1 : zMem, FPn μ μ1 → μ1 19 2 = μ 19 2 → μ1 21 2 = k → (∀ i, 0 ≤ i → i < k → μ1 22 i = w i) → μ1 21 3 = sA σ (up1 w k c 0) → Ok (f_X8_goOn_J46 21 t c μ1) (fun v => v.1 = 1 ∧ FPn μ v.2 ∧ v.2 19 2 = μ 19 2 ∧ CPn v.2 σ (k + 1) (up1 w k c)) := by
    intro μ1 f1 f0 f2 f3 f4
    unfold f_X8_goOn_J46
    simp only [zlet]
    rw [f2, hl, chk_pos (by omega), zup_n _ _ _ (show (21 : Int) ≠ 21 + 1 by decide), f2, zw_eq (by omega) (by omega)]
    have g : FPn μ (zup (zup μ1 (21 + 1) k c) 21 2 (k + 1)) := (f1.p22 k c).p21 2 (k + 1)
    rw [c_endOf (g.cs hs ht) hz hw hc, bnd_pos rfl]
    refine ok_some.mpr ⟨rfl, g.p21 4 _, ?_, ?_, ?_, ?_, ?_⟩
    · simp (disch := omega) only [zup_n]; exact f0
    · simp (disch := omega) only [zup_s, up1_s, up1_n]
    · intro i a b
      show zup (zup (zup μ1 22 k c) 21 2 (k + 1)) 21 4 (sB σ c) 22 i = _
      rw [zup_n _ _ _ (by decide), zup_n _ _ _ (by decide), zup_s]
      by_cases hi : i = k
      · rw [hi, up1_s, up1_s]
      · rw [up1_n _ _ hi, up1_n _ _ hi]; exact f3 i a (by omega)
    · simp (disch := omega) only [zup_s, zup_n, up1_n]
      rw [f4, if_neg (by omega)]
    · simp (disch := omega) only [zup_s, up1_s]
      rw [if_neg (by omega), show k + 1 - 1 = k by omega, up1_s]
  have j30 : Ok (f_X8_goOn_J30 21 t c μ) (fun v => v.1 = 1 ∧ FPn μ v.2 ∧ v.2 19 2 = μ 19 2 ∧ CPn v.2 σ (k + 1) (up1 w k c)) := by
    unfold f_X8_goOn_J30
    rw [p1]
    by_cases h0 : k = 0
    · rw [if_pos h0, c_startOf hs hz hw hc, bnd_pos rfl]
      simp only [zlet]
      refine j46 _ ((FPn.refl μ).p21 3 _) (by rw [zup_n _ _ _ (by decide)]) (by rw [zup_s, up1_n _ _ (by decide)]; exact p1) (fun i a b => by rw [zup_n _ _ _ (by decide)]; exact p2 i a b) (by rw [zup_s, up1_s, h0, up1_s])
    · rw [if_neg h0]
      refine j46 _ (FPn.refl μ) rfl p1 p2 ?_
      rw [p3, if_neg h0, up1_n _ _ (Ne.symm h0)]
  unfold f_X8_goOn
  rw [p1, if_pos hk.2]
  refine ⟨fun h => ?_, fun h => ?_⟩
  · by_cases h0 : k ≤ 0
    · rw [if_pos h0]
      exact j30
    · rw [if_neg h0, c_startOf hs hz hw hc, bnd_pos rfl, p4, if_neg (show ¬ k = 0 by omega), if_pos (by rcases h with h | h <;> omega)]
      exact j30
  · rw [if_neg (show ¬ k ≤ 0 by omega), c_startOf hs hz hw hc, bnd_pos rfl, p4, if_neg (show ¬ k = 0 by omega), if_neg (fun e => h (Or.inr e))]
theorem c_readSteps {T : Int → Int} {N p most : Int} (hT : TP T N) (hc : CTp μ T N) (hs : CS μ t σ) (hz : SZ t mC mE mP) (hw : WfE σ mC mE) (ht : 37 ≤ t) (hp : 0 ≤ p ∧ p ≤ N) (h : μ 19 2 = p) (hm : 0 ≤ most ∧ most ≤ 16) : Ok (f_X7_readSteps t 21 most μ) (fun μ' => FPn μ μ' ∧ CPn μ' σ (rds σ T N most.toNat 0 (fun _ => 0) p).1 (rds σ T N most.toNat 0 (fun _ => 0) p).2.1 ∧ 0 ≤ μ' 19 2 ∧ μ' 19 2 ≤ N ∧ skp T N (μ' 19 2) = (rds σ T N most.toNat 0 (fun _ => 0) p).2.2) := by
  have ht2 := hT.2.1
  have key : ∀ (m n : Nat) (k p : Int) (w : Int → Int) (μ1 : zMem), m < n → k + m = most → 0 ≤ k → 0 ≤ p → p ≤ N → μ1 19 2 = p → FPn μ μ1 → CPn μ1 σ k w → Ok (f_X7_readSteps_L7 t 21 most n k μ1) (fun μ' => FPn μ μ' ∧ CPn μ' σ (rds σ T N m k w p).1 (rds σ T N m k w p).2.1 ∧ 0 ≤ μ' 19 2 ∧ μ' 19 2 ≤ N ∧ skp T N (μ' 19 2) = (rds σ T N m k w p).2.2) := by
    intro m
    induction m with
    | zero =>
      intro n k p w μ1 hn hk k0 p0 p1 h1 f1 f2
      cases n with
      | zero => omega
      | succ n =>
        unfold f_X7_readSteps_L7
        rw [if_neg (by omega)]
        exact ok_some.mpr ⟨f1, f2, by omega, by omega, by rw [h1]; rfl⟩
    | succ m ih =>
      intro n k p w μ1 hn hk k0 p0 p1 h1 f1 f2
      cases n with
      | zero => omega
      | succ n =>
        have hsk := skp_spec hT ⟨p0, p1⟩
        unfold f_X7_readSteps_L7
        rw [if_pos (by omega), c_look hT (f1.tp hc) ⟨p0, p1⟩ h1, bnd2_pos rfl]
        simp only [zlet]
        have g1 := f1.pl (skp T N p)
        have g2 : CPn (zup μ1 19 2 (skp T N p)) σ k w := by
          unfold CPn at *
          rw [zup_n _ _ _ (by decide), zup_n _ _ _ (by decide)]
          exact f2
        have gp : zup μ1 19 2 (skp T N p) 19 2 = skp T N p := by rw [zup_s, up1_s]
        have hsg : f_X7_stepOfSign (if skp T N p < N then T (skp T N p) else -1) = sgc T N (skp T N p) := by
          unfold sgc
          by_cases hl : skp T N p < N
          · have := hT.2.2 (skp T N p) (by omega) hl
            rw [if_pos hl, if_pos hl]
            exact sosE (by omega)
          · rw [if_neg hl, if_neg hl]
            decide
        rw [hsg]
        have stop : (rds σ T N (m + 1) k w p) = (k, w, skp T N p) → Ok (some (zup μ1 19 2 (skp T N p))) (fun μ' => FPn μ μ' ∧ CPn μ' σ (rds σ T N (m + 1) k w p).1 (rds σ T N (m + 1) k w p).2.1 ∧ 0 ≤ μ' 19 2 ∧ μ' 19 2 ≤ N ∧ skp T N (μ' 19 2) = (rds σ T N (m + 1) k w p).2.2) := by
          intro e
          rw [e]
          exact ok_some.mpr ⟨g1, g2, by omega, by omega, by rw [gp]; exact skp_skp hT ⟨p0, p1⟩⟩
        by_cases hn1 : sgc T N (skp T N p) = -1
        · rw [if_pos hn1]
          refine stop ?_
          unfold rds
          rw [if_neg (fun e => e.1 hn1)]
        · have hr := sgc_rg hn1
          rw [if_neg hn1, zshr1 ⟨by omega, by omega⟩, (g1.cs hs ht).2.1]
          by_cases he : sgc T N (skp T N p) / 2 < sE σ
          · rw [if_pos he]
            have hgo := c_goOn (c := sgc T N (skp T N p)) (g1.cs hs ht) hz hw ht g2 ⟨k0, by omega⟩ ⟨hr.1, by omega⟩
            by_cases hj : k = 0 ∨ sA σ (sgc T N (skp T N p)) = sB σ (w (k - 1))
            · refine ok_bnd2.mpr ((hgo.1 hj).imp fun v q => ?_)
              obtain ⟨q1, q2, q3, q4⟩ := q
              rw [q1, if_neg (by decide), q3, gp, zw_eq (by omega) (by omega), zw_eq (by omega) (by omega)]
              have er : rds σ T N (m + 1) k w p = rds σ T N m (k + 1) (up1 w k (sgc T N (skp T N p))) (skp T N p + 1) := by
                show (if _ then _ else _) = _
                rw [if_pos ⟨hn1, he, hj⟩]
              rw [er]
              refine ih n (k + 1) (skp T N p + 1) _ _ (by omega) (by omega) (by omega) (by omega) (by omega) (by rw [zup_s, up1_s]) ((g1.trans q2).pl _) ?_
              unfold CPn at *
              rw [zup_n _ _ _ (by decide), zup_n _ _ _ (by decide)]
              exact q4
            · rw [hgo.2 hj, bnd2_pos rfl, if_pos rfl]
              refine stop ?_
              unfold rds
              rw [if_neg (fun e => hj e.2.2)]
          · rw [if_neg he]
            refine stop ?_
            unfold rds
            rw [if_neg (fun e => he e.2.1)]
  unfold f_X7_readSteps f_X8_clear
  simp only [zlet]
  rw [bnd_pos rfl]
  refine key most.toNat zfu 0 p _ _ (by unfold zfu; omega) (by omega) (by omega) hp.1 hp.2 ?_ ((((FPn.refl μ).p21 2 0).p21 3 0).p21 4 0) ⟨?_, fun i a b => by omega, ?_, ?_⟩
  · simp (disch := omega) only [zup_n]; exact h
  · simp (disch := omega) only [zup_s, up1_s, up1_n]
  · simp (disch := omega) only [zup_s, up1_s, up1_n]; rfl
  · simp (disch := omega) only [zup_s, up1_s]; rfl
end
/-! the reference's word -/
def MRd (μ : zMem) (k : Int) (w : Int → Int) : Prop := μ 101 13 = k ∧ ∀ i, 0 ≤ i → i < k → μ 116 i = stp (w i)
theorem Fm.tp {cs ss : List Int} {μ μ' : zMem} {T : Int → Int} {N : Int} (h : Fm cs ss μ μ') (h1 : 110 ∉ cs) (h2 : 9 ∉ ss) (c : MTp μ T N) : MTp μ' T N := by
  unfold MTp at *
  rw [h.2 9 h2, h.1 110 h1 (by decide)]
  exact c
section
variable {μ : zMem} {s : Int} {σ : Sp}
theorem m_readWord {T : Int → Int} {N p most : Int} (hT : TP T N) (hc : MTp μ T N) (hs : MS μ s σ) (h3 : 0 ≤ s ∧ s < 3) (hw : WfE σ 32 48) (hp : 0 ≤ p ∧ p ≤ N) (h : μ 101 10 = p) (hm : 0 ≤ most ∧ most ≤ 16) : Ok (f_X10_readWord s most μ) (fun v => Fm [116] [10, 11, 13] μ v.2 ∧ MRd v.2 (rds σ T N most.toNat 0 (fun _ => 0) p).1 (rds σ T N most.toNat 0 (fun _ => 0) p).2.1 ∧ v.2 101 10 = (rds σ T N most.toNat 0 (fun _ => 0) p).2.2 ∧ (sgc T N (rds σ T N most.toNat 0 (fun _ => 0) p).2.2 = -1 → v.1 = 1) ∧ (sgc T N (rds σ T N most.toNat 0 (fun _ => 0) p).2.2 ≠ -1 → v.1 = 0 ∧ v.2 101 11 = -20 - (rds σ T N most.toNat 0 (fun _ => 0) p).2.2)) := by
  have ht2 := hT.2.1
  have hE := hw.2.2.2.1
  have hns : noSp [116] := by unfold noSp; decide
  have key : ∀ (m n : Nat) (k p : Int) (w : Int → Int) (μ1 : zMem), m < n → k + m = most → 0 ≤ k → 0 ≤ p → p ≤ N → skp T N p = p → μ1 101 10 = p → Fm [116] [10, 11, 13] μ μ1 → MRd μ1 k w → Wd σ k w → Ok (f_X10_readWord_L9 s most f_X10_readWord_K157 n μ1) (fun v => Fm [116] [10, 11, 13] μ v.2 ∧ MRd v.2 (rds σ T N m k w p).1 (rds σ T N m k w p).2.1 ∧ v.2 101 10 = (rds σ T N m k w p).2.2 ∧ (sgc T N (rds σ T N m k w p).2.2 = -1 → v.1 = 1) ∧ (sgc T N (rds σ T N m k w p).2.2 ≠ -1 → v.1 = 0 ∧ v.2 101 11 = -20 - (rds σ T N m k w p).2.2)) := by
    intro m n
    induction n generalizing m with
    | zero => intro k p w μ1 hn; omega
    | succ n ih =>
      intro k p w μ1 hn hk k0 p0 p1 hps h1 f1 f2 hwd
      have hnow := m_now hT (f1.tp (by decide) (by decide) hc) ⟨p0, p1⟩ h1
      have hms := f1.ms hns hs
      -- what the letter says
      have sg : ∀ x, x = (if p < N then T p else 0) → ((¬ (97 ≤ x ∧ x ≤ 122) ∧ ¬ (65 ≤ x ∧ x ≤ 90)) ↔ sgc T N p = -1) := by
        intro x hx
        unfold sgc lc
        by_cases hl : p < N
        · rw [if_pos hl] at hx
          rw [if_pos hl, ← hx]
          constructor
          · intro q; rw [if_neg q.1, if_neg q.2]
          · intro q
            split at q
            · omega
            · split at q
              · omega
              · exact ⟨by assumption, by assumption⟩
        · rw [if_neg hl] at hx
          rw [if_neg hl]
          exact ⟨fun _ => rfl, fun _ => by omega⟩
      -- it fails at p
      have hfail : rds σ T N m k w p = (k, w, p) → sgc T N p ≠ -1 → Ok (f_X10_readWord_K157 μ1) (fun v => Fm [116] [10, 11, 13] μ v.2 ∧ MRd v.2 (rds σ T N m k w p).1 (rds σ T N m k w p).2.1 ∧ v.2 101 10 = (rds σ T N m k w p).2.2 ∧ (sgc T N (rds σ T N m k w p).2.2 = -1 → v.1 = 1) ∧ (sgc T N (rds σ T N m k w p).2.2 ≠ -1 → v.1 = 0 ∧ v.2 101 11 = -20 - (rds σ T N m k w p).2.2)) := by
        intro e1 e2
        rw [e1]
        unfold f_X10_readWord_K157 f_X10_fails
        simp only [zlet]
        rw [bnd2_pos rfl, h1, zw_eq (by omega) (by omega)]
        refine ok_some.mpr ⟨f1.upo (by decide) _, ?_, ?_, fun e => absurd e e2, fun _ => ⟨rfl, by simp only; rw [zup_s, up1_s]⟩⟩
        · unfold MRd at *
          simp only
          rw [zup_s, up1_n _ _ (by decide), zup_n _ _ _ (by decide)]
          exact f2
        · simp only
          rw [zup_s, up1_n _ _ (by decide), h1]
      have hstop : sgc T N p = -1 → rds σ T N m k w p = (k, w, p) := by
        intro e
        cases m with
        | zero => unfold rds; rw [hps]
        | succ m => unfold rds; rw [hps, if_neg (fun q => q.1 e)]
      -- a letter
      have hlet : sgc T N p ≠ -1 → Ok (f_X10_readWord_J37 s most f_X10_readWord_K157 (f_X10_readWord_L9 s most f_X10_readWord_K157 n) μ1) (fun v => Fm [116] [10, 11, 13] μ v.2 ∧ MRd v.2 (rds σ T N m k w p).1 (rds σ T N m k w p).2.1 ∧ v.2 101 10 = (rds σ T N m k w p).2.2 ∧ (sgc T N (rds σ T N m k w p).2.2 = -1 → v.1 = 1) ∧ (sgc T N (rds σ T N m k w p).2.2 ≠ -1 → v.1 = 0 ∧ v.2 101 11 = -20 - (rds σ T N m k w p).2.2)) := by
        intro hne
        have hr := sgc_rg hne
        have hTp := hT.2.2 p p0 hr.2.2
        have hlc : sgc T N p = lc (T p) := by unfold sgc; rw [if_pos hr.2.2]
        rw [if_pos hr.2.2] at hnow
        -- edge and step of it
        have hJ : f_X10_readWord_J37 s most f_X10_readWord_K157 (f_X10_readWord_L9 s most f_X10_readWord_K157 n) μ1 = f_X10_readWord_J91 s most (sgc T N p / 2) f_X10_readWord_K157 (f_X10_readWord_L9 s most f_X10_readWord_K157 n) (stp (sgc T N p)) μ1 := by
          unfold f_X10_readWord_J37
          rw [hnow, bnd_pos rfl]
          unfold f_X10_readWord_J51 f_X10_readWord_J73
          rw [hlc]
          rw [hlc] at hne
          unfold lc at *
          by_cases h97 : T p < 97
          · rw [if_neg (show ¬ (97 ≤ T p ∧ T p ≤ 122) by omega)] at hne ⊢
            by_cases h65 : 65 ≤ T p ∧ T p ≤ 90
            · rw [if_pos h65, if_pos h97, if_pos rfl, hnow, bnd_pos rfl, if_pos rfl, zw_eq (x := T p - 65) (by omega) (by omega), zw_eq (x := -(T p - 65)) (by omega) (by omega), zw_eq (x := -(T p - 65) - 1) (by omega) (by omega), show (2 * (T p - 65) + 1) / 2 = T p - 65 by omega]
              congr 1
              unfold stp
              rw [if_neg (by omega)]
              omega
            · rw [if_neg h65] at hne
              exact absurd rfl hne
          · by_cases h122 : T p ≤ 122
            · rw [if_neg h97, if_neg (by decide), hnow, bnd_pos rfl, if_neg (by decide), if_pos (show 97 ≤ T p ∧ T p ≤ 122 by omega), zw_eq (x := T p - 97) (by omega) (by omega), zw_eq (x := T p - 97 + 1) (by omega) (by omega), show (2 * (T p - 97)) / 2 = T p - 97 by omega]
              congr 1
              unfold stp
              rw [if_pos (by omega)]
              omega
            · rw [if_neg (by omega), if_neg (by omega)] at hne
              exact absurd rfl hne
        rw [hJ]
        unfold f_X10_readWord_J91
        rw [chk_pos h3, hms.2.1, f2.1]
        unfold f_X10_readWord_J116
        have hno : ¬ (sgc T N p / 2 < sE σ ∧ k < most ∧ (k = 0 ∨ sA σ (sgc T N p) = sB σ (w (k - 1)))) → rds σ T N m k w p = (k, w, p) := by
          intro q
          cases m with
          | zero => unfold rds; rw [hps]
          | succ m => unfold rds; rw [hps, if_neg (fun e => q ⟨e.2.1, by omega, e.2.2⟩)]
        by_cases he : sgc T N p / 2 < sE σ
        · rw [if_pos he]
          by_cases hkm : k < most
          · rw [if_pos hkm]
            unfold f_X10_readWord_J117
            rw [if_neg (by decide), f2.1]
            have go : (k = 0 ∨ sA σ (sgc T N p) = sB σ (w (k - 1))) → Ok (f_X10_readWord_J166 (stp (sgc T N p)) (f_X10_readWord_L9 s most f_X10_readWord_K157 n) μ1) (fun v => Fm [116] [10, 11, 13] μ v.2 ∧ MRd v.2 (rds σ T N m k w p).1 (rds σ T N m k w p).2.1 ∧ v.2 101 10 = (rds σ T N m k w p).2.2 ∧ (sgc T N (rds σ T N m k w p).2.2 = -1 → v.1 = 1) ∧ (sgc T N (rds σ T N m k w p).2.2 ≠ -1 → v.1 = 0 ∧ v.2 101 11 = -20 - (rds σ T N m k w p).2.2)) := by
              intro hj
              cases m with
              | zero => omega
              | succ m =>
                unfold f_X10_readWord_J166
                simp only [zlet]
                have er : rds σ T N (m + 1) k w p = rds σ T N m (k + 1) (up1 w k (sgc T N p)) (p + 1) := by
                  show (if _ then _ else _) = _
                  rw [hps, if_pos ⟨hne, he, hj⟩]
                have er2 : rds σ T N m (k + 1) (up1 w k (sgc T N p)) (p + 1) = rds σ T N m (k + 1) (up1 w k (sgc T N p)) (skp T N (p + 1)) := by
                  cases m with
                  | zero => unfold rds; rw [skp_skp hT ⟨by omega, by omega⟩]
                  | succ m => unfold rds; rw [skp_skp hT ⟨by omega, by omega⟩]
                rw [f2.1, chk_pos (by omega), er, er2]
                rw [zup_n _ _ _ (by decide), f2.1, zw_eq (x := k + 1) (by omega) (by omega), zup_s, up1_n _ _ (by decide), zup_n _ _ _ (by decide), h1, zw_eq (x := p + 1) (by omega) (by omega)]
                have g1 : Fm [116] [10, 11, 13] μ (zup (zup (zup μ1 116 k (stp (sgc T N p))) 101 13 (k + 1)) 101 10 (p + 1)) := ((f1.up (by decide) (by decide) _ _).upo (by decide) _).upo (by decide) _
                rw [m_pass hT (g1.tp (by decide) (by decide) hc) (p := p + 1) ⟨by omega, by omega⟩ (by rw [zup_s, up1_s]), bnd_pos rfl]
                have hs2 := skp_spec hT (p := p + 1) ⟨by omega, by omega⟩
                refine ih m (k + 1) (skp T N (p + 1)) _ _ (by omega) (by omega) (by omega) (by omega) hs2.2.1 (skp_skp hT ⟨by omega, by omega⟩) (by rw [zup_s, up1_s]) (g1.upo (by decide) _) ⟨?_, fun i a b => ?_⟩ (hwd.add k0 ⟨hr.1, by omega⟩ hj)
                · simp (disch := omega) only [zup_s, up1_s, up1_n]
                · simp (disch := omega) only [zup_s, zup_n]
                  by_cases hi : i = k
                  · rw [hi, up1_s, up1_s]
                  · rw [up1_n _ _ hi, up1_n _ _ hi]; exact f2.2 i a (by omega)
            by_cases hk0 : k ≤ 0
            · rw [if_pos hk0]
              exact go (Or.inl (by omega))
            · have hw1 := hwd.1 (k - 1) (by omega) (by omega)
              rw [if_neg hk0, zw_eq (by omega) (by omega), chk_pos (by omega), f2.2 (k - 1) (by omega) (by omega), m_toOf hms h3 hw hw1, bnd_pos rfl, m_fromOf hms h3 hw ⟨hr.1, by omega⟩, bnd_pos rfl]
              by_cases hj : sB σ (w (k - 1)) = sA σ (sgc T N p)
              · rw [if_pos hj]
                exact go (Or.inr hj.symm)
              · rw [if_neg hj]
                exact hfail (hno (fun e => by rcases e.2.2 with e | e; omega; exact hj e.symm)) hne
          · rw [if_neg hkm]
            unfold f_X10_readWord_J117
            rw [if_pos rfl]
            exact hfail (hno (fun e => hkm e.2.1)) hne
        · rw [if_neg he]
          unfold f_X10_readWord_J117
          rw [if_pos rfl]
          exact hfail (hno (fun e => he e.1)) hne
      unfold f_X10_readWord_L9
      rw [hnow, bnd_pos rfl]
      by_cases hl1 : f_X10_in (if p < N then T p else 0) 97 122 = 0
      · rw [if_pos hl1, bnd_pos rfl]
        by_cases hl2 : f_X10_in (if p < N then T p else 0) 65 90 = 0
        · rw [if_pos hl2]
          have hsg := (sg _ rfl).mp ⟨in0.mp hl1, in0.mp hl2⟩
          rw [hstop hsg]
          exact ok_some.mpr ⟨f1, f2, h1, fun _ => rfl, fun e => absurd hsg e⟩
        · rw [if_neg hl2]
          exact hlet (fun e => hl2 (in0.mpr ((sg _ rfl).mpr e).2))
      · rw [if_neg hl1]
        exact hlet (fun e => hl1 (in0.mpr ((sg _ rfl).mpr e).1))
  unfold f_X10_readWord
  simp only [zlet]
  have g0 : Fm [116] [10, 11, 13] μ (zup μ 101 13 0) := (Fm.refl _ _ μ).upo (by decide) _
  have hs2 := skp_spec hT hp
  rw [m_pass hT (g0.tp (by decide) (by decide) hc) hp (by rw [zup_s, up1_n _ _ (by decide)]; exact h), bnd_pos rfl]
  have er2 : rds σ T N most.toNat 0 (fun _ => 0) p = rds σ T N most.toNat 0 (fun _ => 0) (skp T N p) := by
    cases most.toNat with
    | zero => unfold rds; rw [skp_skp hT hp]
    | succ m => unfold rds; rw [skp_skp hT hp]
  rw [er2]
  refine key most.toNat zfu 0 (skp T N p) _ _ (by unfold zfu; omega) (by omega) (by omega) (by omega) hs2.2.1 (skp_skp hT hp) (by rw [zup_s, up1_s]) (g0.upo (by decide) _) ⟨?_, fun i a b => by omega⟩ ⟨fun i a b => by omega, fun i a b => by omega⟩
  simp (disch := omega) only [zup_s, up1_s, up1_n]
end
