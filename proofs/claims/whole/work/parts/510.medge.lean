/-! the reference's rank of edges -/
def PtM (μ : zMem) (P : Int → Bool) : Prop := ∀ x, 0 ≤ x → x < 32 → μ 120 x = b2i (P x)
def Snd (σ : Sp) (c : Int) (P : Int → Bool) : Prop := ∀ x, P x = true → ∃ d, 0 ≤ d ∧ d ≤ c ∧ KG σ d x
theorem KG_e {σ : Sp} {e : Int} (he : 0 ≤ e ∧ e < sE σ) : KG σ (sF σ e) (sT σ e) := Cnn.one ⟨e, he.1, he.2, rfl, rfl⟩
theorem m_edgePass {s c : Int} {σ : Sp} {g : Int → Int → zMem → Option (Int × zMem)} (hs : 0 ≤ s ∧ s < 3) (hw : WfE σ 32 48) : ∀ (q fu : Nat) (e rk mo : Int) (P : Int → Bool) (μ1 : zMem), q < fu → 0 ≤ e → e + q = sE σ → 0 ≤ rk ∧ rk + q ≤ 100000 → 0 ≤ mo ∧ mo + q ≤ 100000 → MS μ1 s σ → PtM μ1 P → Snd σ c P → ∃ P' μ2 j, f_X10_edgeRank_L65 s g fu rk mo e μ1 = g (rk + j) (mo + j) μ2 ∧ Fm [120] [] μ1 μ2 ∧ PtM μ2 P' ∧ (∀ x, P x = true → P' x = true) ∧ Snd σ c P' ∧ cnt P' (sC σ).toNat = cnt P (sC σ).toNat + j ∧ 0 ≤ j ∧ j ≤ q ∧ (j = 0 → P' = P ∧ ∀ d, e ≤ d → d < sE σ → P (sF σ d) = P (sT σ d)) := by
  intro q
  induction q with
  | zero =>
    intro fu e rk mo P μ1 hfu e0 he hrk hmo hc hP hS
    cases fu with
    | zero => omega
    | succ fu =>
      refine ⟨P, μ1, 0, ?_, Fm.refl _ _ _, hP, fun _ h => h, hS, by omega, by omega, by omega, fun _ => ⟨rfl, fun d a b => by omega⟩⟩
      unfold f_X10_edgeRank_L65
      rw [chk_pos hs, hc.2.1, if_neg (by omega), Int.add_zero, Int.add_zero]
  | succ q ih =>
    intro fu e rk mo P μ1 hfu e0 he hrk hmo hc hP hS
    cases fu with
    | zero => omega
    | succ fu =>
      obtain ⟨w1, w2, w3, w4, w5⟩ := hw
      have hee : 0 ≤ e ∧ e < sE σ := ⟨e0, by omega⟩
      have hb := w5 e e0 hee.2
      have hft := hc.2.2.2.1 e e0 hee.2
      have pF := hP (sF σ e) hb.1 (by omega)
      have pT := hP (sT σ e) hb.2.2.1 (by omega)
      have z1 : zz 1 = 1 := by decide
      by_cases hq : P (sF σ e) = P (sT σ e)
      · obtain ⟨P', μ2, j, a1, a2, a3, a4, a5, a6, a7, a8, a9⟩ := ih fu (e + 1) rk mo P μ1 (by omega) (by omega) (by omega) (by omega) (by omega) hc hP hS
        refine ⟨P', μ2, j, ?_, a2, a3, a4, a5, a6, a7, by omega, fun hj => ⟨(a9 hj).1, fun d x y => ?_⟩⟩
        · rw [← a1]
          conv => lhs; unfold f_X10_edgeRank_L65
          simp only [zlet]
          rw [chk_pos hs, hc.2.1, if_pos (by omega), zw_eq (x := 48 * s) (by omega) (by omega), zw_eq (x := 48 * s + e) (by omega) (by omega), chk_pos (by omega), chk_pos (by omega), hft.1, hft.2, chk_pos (by omega), chk_pos (by omega), pF, pT, if_pos (by rw [hq]), zw_eq (by omega) (by omega)]
        · by_cases hd : d = e
          · rw [hd]; exact hq
          · exact (a9 hj).2 d (by omega) y
      · -- one more
        have hne : ¬ (b2i (P (sF σ e)) = b2i (P (sT σ e))) := fun h => hq (b2i_inj h)
        have hFT : sF σ e ≠ sT σ e := fun h => hq (by rw [h])
        have P2M : PtM (zup (zup μ1 120 (sF σ e) 1) 120 (sT σ e) 1) (fun x => P x || decide (x = sF σ e) || decide (x = sT σ e)) := by
          intro x x0 x1
          rw [zup_s, zup_s]
          by_cases hx : x = sT σ e
          · rw [hx, up1_s]; simp [b2i]
          · rw [up1_n _ _ hx]
            by_cases hx2 : x = sF σ e
            · rw [hx2, up1_s]; simp [b2i]
            · rw [up1_n _ _ hx2, hP x x0 x1]
              simp [hx, hx2]
        have hKe := KG_e hee
        have S2 : Snd σ c (fun x => P x || decide (x = sF σ e) || decide (x = sT σ e)) := by
          intro x hx
          simp only [Bool.or_eq_true, decide_eq_true_eq] at hx
          cases hPF : P (sF σ e) with
          | true =>
            obtain ⟨d, d0, d1, d2⟩ := hS _ hPF
            rcases hx with (h | h) | h
            · exact hS x h
            · rw [h]; exact ⟨d, d0, d1, d2⟩
            · rw [h]; exact ⟨d, d0, d1, d2.trans hKe⟩
          | false =>
            have hPT : P (sT σ e) = true := by
              cases h : P (sT σ e) with
              | true => rfl
              | false => rw [hPF, h] at hq; exact absurd rfl hq
            obtain ⟨d, d0, d1, d2⟩ := hS _ hPT
            rcases hx with (h | h) | h
            · exact hS x h
            · rw [h]; exact ⟨d, d0, d1, d2.trans hKe.symm⟩
            · rw [h]; exact ⟨d, d0, d1, d2⟩
        have C2 : cnt (fun x => P x || decide (x = sF σ e) || decide (x = sT σ e)) (sC σ).toNat = cnt P (sC σ).toNat + 1 := by
          cases hPF : P (sF σ e) with
          | true =>
            have hPT : P (sT σ e) = false := by
              cases h : P (sT σ e) with
              | true => rw [hPF, h] at hq; exact absurd rfl hq
              | false => rfl
            refine cnt_set (x := sT σ e) _ hb.2.2.1 (by omega) hPT (by simp) fun x hx => ?_
            simp only [hx, decide_false, Bool.or_false]
            by_cases h : x = sF σ e
            · rw [h, hPF]; rfl
            · simp [h]
          | false =>
            have hPT : P (sT σ e) = true := by
              cases h : P (sT σ e) with
              | true => rfl
              | false => rw [hPF, h] at hq; exact absurd rfl hq
            refine cnt_set (x := sF σ e) _ hb.1 (by omega) hPF (by simp) fun x hx => ?_
            simp only [hx, decide_false, Bool.or_false]
            by_cases h : x = sT σ e
            · rw [h, hPT]; rfl
            · simp [h]
        have hc2 : MS (zup (zup μ1 120 (sF σ e) 1) 120 (sT σ e) 1) s σ := hc.congr fun k a b => by rw [zup_n _ _ _ (by omega), zup_n _ _ _ (by omega)]
        obtain ⟨P', μ2, j, a1, a2, a3, a4, a5, a6, a7, a8, a9⟩ := ih fu (e + 1) (rk + 1) (mo + 1) _ _ (by omega) (by omega) (by omega) (by omega) (by omega) hc2 P2M S2
        refine ⟨P', μ2, j + 1, ?_, ?_, a3, fun x h => a4 x (by simp [h]), a5, by rw [a6, C2]; omega, by omega, by omega, fun hj => by omega⟩
        · rw [show rk + (j + 1) = rk + 1 + j by omega, show mo + (j + 1) = mo + 1 + j by omega, ← a1]
          conv => lhs; unfold f_X10_edgeRank_L65
          simp only [zlet]
          rw [chk_pos hs, hc.2.1, if_pos (by omega), zw_eq (x := 48 * s) (by omega) (by omega), zw_eq (x := 48 * s + e) (by omega) (by omega), chk_pos (by omega), chk_pos (by omega), hft.1, hft.2, chk_pos (by omega), chk_pos (by omega), pF, pT, if_neg hne, chk_pos (by omega), chk_pos (by omega), z1, zw_eq (x := e + 1) (by omega) (by omega), zw_eq (x := mo + 1) (by omega) (by omega), zw_eq (x := rk + 1) (by omega) (by omega)]
        · exact (((Fm.refl _ _ μ1).up (by decide) (by decide) _ _).up (by decide) (by decide) _ _).trans a2
/-- passes until nothing more comes -/
theorem m_edgeGrow {s c : Int} {σ : Sp} {g : Int → zMem → Option (Int × zMem)} {Q : Int × zMem → Prop} (hs : 0 ≤ s ∧ s < 3) (hw : WfE σ 32 48) : ∀ (q fu : Nat) (rk mo : Int) (P : Int → Bool) (μ1 : zMem), (sC σ - cnt P (sC σ).toNat).toNat < q → q + 1 < fu → 0 ≤ mo → (mo ≤ 0 → ∀ d, 0 ≤ d → d < sE σ → P (sF σ d) = P (sT σ d)) → 0 ≤ rk → rk + (sC σ - cnt P (sC σ).toNat) ≤ 1000 → MS μ1 s σ → PtM μ1 P → Snd σ c P → (∀ P' μ2, Fm [120] [] μ1 μ2 → PtM μ2 P' → (∀ x, P x = true → P' x = true) → Snd σ c P' → (∀ d, 0 ≤ d → d < sE σ → P' (sF σ d) = P' (sT σ d)) → Ok (g (rk + (cnt P' (sC σ).toNat - cnt P (sC σ).toNat)) μ2) Q) → Ok (f_X10_edgeRank_L54 s g fu rk mo μ1) Q := by
  have hC1 := hw.1
  have hC2 := hw.2.1
  have hE0 := hw.2.2.1
  have hE := hw.2.2.2.1
  intro q
  induction q with
  | zero => intro fu rk mo P μ1 h; omega
  | succ q ih =>
    intro fu rk mo P μ1 hq hfu hmo hcl hrk hrk2 hc hP hS hg
    cases fu with
    | zero => omega
    | succ fu =>
      unfold f_X10_edgeRank_L54
      by_cases h0 : mo ≤ 0
      · rw [if_pos h0]
        have := hg P μ1 (Fm.refl _ _ _) hP (fun _ h => h) hS (hcl h0)
        rw [show rk + (cnt P (sC σ).toNat - cnt P (sC σ).toNat) = rk by omega] at this
        exact this
      · have hcl2 := cnt_le P (sC σ).toNat
        obtain ⟨P', μ2, j, a1, a2, a3, a4, a5, a6, a7, a8, a9⟩ := m_edgePass (c := c) (g := f_X10_edgeRank_K149 (f_X10_edgeRank_L54 s g fu)) hs hw (sE σ).toNat zfu 0 rk 0 P μ1 (by unfold zfu; omega) (by omega) (by omega) (by omega) (by omega) hc hP hS
        have hcl3 := cnt_le P' (sC σ).toNat
        rw [if_neg h0, a1]
        unfold f_X10_edgeRank_K149
        rw [Int.zero_add]
        have hc2 : MS μ2 s σ := a2.ms (by unfold noSp; decide) hc
        by_cases hj : j = 0
        · obtain ⟨b1, b2⟩ := a9 hj
          subst b1
          -- one step more: it ends
          cases fu with
          | zero => omega
          | succ fu =>
            unfold f_X10_edgeRank_L54
            rw [if_pos (by omega), hj, Int.add_zero]
            have := hg P' μ2 a2 a3 (fun _ h => h) hS b2
            rw [show rk + (cnt P' (sC σ).toNat - cnt P' (sC σ).toNat) = rk by omega] at this
            exact this
        · refine ih fu (rk + j) j P' μ2 (by omega) (by omega) a7 (fun h => by omega) (by omega) (by omega) hc2 a3 a5 fun P2 μ3 b1 b2 b3 b4 b5 => ?_
          have := hg P2 μ3 (a2.trans b1) b2 (fun x h => b3 x (a4 x h)) b4 b5
          rw [show rk + (cnt P2 (sC σ).toNat - cnt P (sC σ).toNat) = rk + j + (cnt P2 (sC σ).toNat - cnt P' (sC σ).toNat) by omega] at this
          exact this
theorem m_edgeRank {μ : zMem} {s : Int} {σ : Sp} (hs : 0 ≤ s ∧ s < 3) (hc : MS μ s σ) (hw : WfE σ 32 48) : Ok (f_X10_edgeRank s μ) (fun w => Fm [120] [] μ w.2 ∧ w.1 = rkE σ) := by
  have hC1 := hw.1
  have hC2 := hw.2.1
  have z1 : zz 1 = 1 := by decide
  have z0 : zz 0 = 0 := by decide
  have key : ∀ (m fu c : Nat) (P : Int → Bool) (μ1 : zMem), m < fu → (c : Int) + m = sC σ → Fm [120] [] μ μ1 → PtM μ1 P → (∀ x, P x = true → 0 ≤ x ∧ x < sC σ → ∃ d : Int, 0 ≤ d ∧ d < c ∧ KG σ d x) → (∀ d : Int, 0 ≤ d → d < c → P d = true) → (∀ d, 0 ≤ d → d < sE σ → P (sF σ d) = P (sT σ d)) → (∀ x, P x = true → 0 ≤ x ∧ x < sC σ) → Ok (f_X10_edgeRank_L25 s fu (cnt P (sC σ).toNat - (c - cnt (bfB (KG σ)) c)) (c : Int) μ1) (fun w => Fm [120] [] μ w.2 ∧ w.1 = rkE σ) := by
    intro m
    induction m with
    | zero =>
      intro fu c P μ1 hfu hcm g1 g2 g3 g4 g5 g6
      cases fu with
      | zero => omega
      | succ fu =>
        have hc1 : MS μ1 s σ := g1.ms (by unfold noSp; decide) hc
        unfold f_X10_edgeRank_L25
        rw [chk_pos hs, hc1.1, if_neg (by omega)]
        refine ok_some.mpr ⟨g1, ?_⟩
        have := cnt_all (r := P) (sC σ).toNat fun x a b => g4 x a (by omega)
        show cnt P (sC σ).toNat - (c - cnt (bfB (KG σ)) c) = rkE σ
        unfold rkE
        rw [this, show (sC σ).toNat = c by omega]
        omega
    | succ m ih =>
      intro fu c P μ1 hfu hcm g1 g2 g3 g4 g5 g6
      cases fu with
      | zero => omega
      | succ fu =>
        have hc1 : MS μ1 s σ := g1.ms (by unfold noSp; decide) hc
        have hcb := cnt_le (bfB (KG σ)) c
        have hcl := cnt_le P (sC σ).toNat
        have hge : (c : Int) ≤ cnt P (sC σ).toNat := by
          have h1 := cnt_all (r := P) c fun x a b => g4 x a b
          have h2 := cnt_mo P c ((sC σ).toNat - c)
          rw [show c + ((sC σ).toNat - c) = (sC σ).toNat by omega] at h2
          omega
        have hin : P c = true ↔ bfB (KG σ) c = true := by
          rw [bfB_iff]
          constructor
          · intro h
            obtain ⟨d, d0, d1, d2⟩ := g3 c h ⟨by omega, by omega⟩
            exact ⟨d, d0, d1, d2⟩
          · rintro ⟨d, d0, d1, d2⟩
            exact d2 (fun x => P x = true) (g4 d d0 d1) (fun x y e => by
              obtain ⟨e', e0, e1, e2, e3⟩ := e
              rw [e2, e3, g5 e' e0 e1])
        have hst : cnt (bfB (KG σ)) (c + 1) = cnt (bfB (KG σ)) c + b2i (bfB (KG σ) c) := rfl
        unfold f_X10_edgeRank_L25
        simp only [zlet]
        rw [chk_pos hs, hc1.1, if_pos (by omega), chk_pos (by omega), g2 c (by omega) (by omega)]
        by_cases hPc : P c = true
        · rw [hPc, if_neg (by decide), zw_eq (by omega) (by omega), show (c : Int) + 1 = ((c + 1 : Nat) : Int) by omega]
          rw [hin.mp hPc] at hst
          have e1 : cnt P (sC σ).toNat - (c - cnt (bfB (KG σ)) c) = cnt P (sC σ).toNat - (((c + 1 : Nat) : Int) - cnt (bfB (KG σ)) (c + 1)) := by
            rw [hst]
            show _ = cnt P (sC σ).toNat - (((c + 1 : Nat) : Int) - (cnt (bfB (KG σ)) c + 1))
            omega
          rw [e1]
          refine ih fu (c + 1) P μ1 (by omega) (by omega) g1 g2 (fun x a b => ?_) (fun d a b => ?_) g5 g6
          · obtain ⟨d, d0, d1, d2⟩ := g3 x a b
            exact ⟨d, d0, by omega, d2⟩
          · by_cases e : d = c
            · rw [e]; exact hPc
            · exact g4 d a (by omega)
        · have hPf : P c = false := Bool.eq_false_iff.mpr hPc
          have hbf : bfB (KG σ) c = false := Bool.eq_false_iff.mpr fun h => hPc (hin.mpr h)
          rw [hbf] at hst
          rw [hPf, if_pos (by decide), chk_pos (by omega), z1]
          have P2M : PtM (zup μ1 120 (c : Int) 1) (fun x => P x || decide (x = (c : Int))) := by
            intro x x0 x1
            rw [zup_s]
            by_cases hx : x = c
            · rw [hx, up1_s]; simp [b2i]
            · rw [up1_n _ _ hx, g2 x x0 x1]; simp [hx]
          have C2 : cnt (fun x => P x || decide (x = (c : Int))) (sC σ).toNat = cnt P (sC σ).toNat + 1 := cnt_set (x := (c : Int)) _ (by omega) (by omega) hPf (by simp) fun x hx => by simp [hx]
          have hcl2 := cnt_le (fun x => P x || decide (x = (c : Int))) (sC σ).toNat
          have hc2 : MS (zup μ1 120 (c : Int) 1) s σ := hc1.congr fun k a b => zup_n _ _ _ (by omega)
          refine m_edgeGrow (c := c) hs hw (sC σ + 1).toNat zfu _ 1 (fun x => P x || decide (x = (c : Int))) (zup μ1 120 (c : Int) 1) (by omega) (by unfold zfu; omega) (by omega) (fun h => by omega) (by omega) (by omega) hc2 P2M ?_ fun P' μ2 b1 b2 b3 b4 b5 => ?_
          · intro x hx
            simp only [Bool.or_eq_true, decide_eq_true_eq] at hx
            rcases hx with h | h
            · obtain ⟨d, d0, d1, d2⟩ := g3 x h (g6 x h)
              exact ⟨d, d0, by omega, d2⟩
            · rw [h]; exact ⟨c, by omega, by omega, Cnn.refl _ _⟩
          · unfold f_X10_edgeRank_K152
            simp only [zlet]
            have hcl3 := cnt_le P' (sC σ).toNat
            rw [zw_eq (by omega) (by omega), show (c : Int) + 1 = ((c + 1 : Nat) : Int) by omega]
            have e1 : cnt P (sC σ).toNat - (c - cnt (bfB (KG σ)) c) + (cnt P' (sC σ).toNat - cnt (fun x => P x || decide (x = (c : Int))) (sC σ).toNat) = cnt P' (sC σ).toNat - (((c + 1 : Nat) : Int) - cnt (bfB (KG σ)) (c + 1)) := by
              rw [hst, C2]
              show _ = cnt P' (sC σ).toNat - (((c + 1 : Nat) : Int) - (cnt (bfB (KG σ)) c + 0))
              omega
            rw [e1]
            -- only corners that are there
            have hrange : ∀ x, P' x = true → 0 ≤ x ∧ x < sC σ := by
              intro x hx
              obtain ⟨d, d0, d1, d2⟩ := b4 x hx
              exact d2 (fun y => 0 ≤ y ∧ y < sC σ) ⟨d0, by omega⟩ (fun y z e => by
                obtain ⟨e', e0, e1, e2, e3⟩ := e
                have := hw.2.2.2.2 e' e0 e1
                rw [e2, e3]
                exact ⟨fun _ => ⟨this.2.2.1, this.2.2.2⟩, fun _ => ⟨this.1, this.2.1⟩⟩)
            refine ih fu (c + 1) P' μ2 (by omega) (by omega) ((g1.up (by decide) (by decide) _ _).trans b1) b2 (fun x a b => ?_) (fun d a b => ?_) b5 hrange
            · obtain ⟨d, d0, d1, d2⟩ := b4 x a
              exact ⟨d, d0, by omega, d2⟩
            · refine b3 d ?_
              by_cases e : d = c
              · simp [e]
              · simp [g4 d a (by omega)]
  have start : ∀ (m fu : Nat) (x : Int) (μ1 : zMem), m < fu → 0 ≤ x → x + m = 32 → Fm [120] [] μ μ1 → (∀ y, 0 ≤ y → y < x → μ1 120 y = 0) → Ok (f_X10_edgeRank_L4 (f_X10_edgeRank_K23 s) fu x μ1) (fun w => Fm [120] [] μ w.2 ∧ w.1 = rkE σ) := by
    intro m
    induction m with
    | zero =>
      intro fu x μ1 hfu x0 hx g1 g2
      cases fu with
      | zero => omega
      | succ fu =>
        unfold f_X10_edgeRank_L4
        rw [if_neg (by omega)]
        unfold f_X10_edgeRank_K23
        have h0 : cnt (fun _ => false) (sC σ).toNat = 0 := by
          have : ∀ n : Nat, cnt (fun _ => false) n = 0 := by
            intro n
            induction n with
            | zero => rfl
            | succ n ih => unfold cnt; rw [ih]; rfl
          exact this _
        have := key (sC σ).toNat zfu 0 (fun _ => false) μ1 (by unfold zfu; omega) (by omega) g1 (fun y y0 y1 => g2 y y0 (by omega)) (fun x h => absurd h (by decide)) (fun d a b => by omega) (fun d a b => rfl) (fun x h => absurd h (by decide))
        rw [h0] at this
        exact this
    | succ m ih =>
      intro fu x μ1 hfu x0 hx g1 g2
      cases fu with
      | zero => omega
      | succ fu =>
        unfold f_X10_edgeRank_L4
        simp only [zlet]
        rw [if_pos (by omega), chk_pos (by omega), z0, zw_eq (by omega) (by omega)]
        refine ih fu (x + 1) _ (by omega) (by omega) (by omega) (g1.up (by decide) (by decide) _ _) (fun y y0 y1 => ?_)
        rw [zup_s]
        by_cases e : y = x
        · rw [e, up1_s]
        · rw [up1_n _ _ e]; exact g2 y y0 (by omega)
  unfold f_X10_edgeRank
  exact start 32 zfu 0 μ (by unfold zfu; omega) (by omega) (by omega) (Fm.refl _ _ _) (fun y a b => by omega)
