/-! join -/
def setC (σ : Sp) (c : Int) : Sp := ((c, sE σ, sP σ), σ.2)
def jc (C0 c : Int) : Int := if c = 0 then 0 else C0 + c - 1
def jnE (σ σ1 : Sp) (C0 : Int) : Nat → Sp
  | 0 => σ
  | n + 1 => addE (jnE σ σ1 C0 n) (jc C0 (sF σ1 n)) (jc C0 (sT σ1 n))
def jnP (τ σ1 : Sp) (E0 : Int) : Nat → Sp
  | 0 => τ
  | n + 1 => addP (jnP τ σ1 E0 n) (sL σ1 n) (fun i => sR σ1 n i + 2 * E0)
theorem jnE_s (σ σ1 : Sp) (C0 : Int) {e : Int} (h : 0 ≤ e) : jnE σ σ1 C0 (e + 1).toNat = addE (jnE σ σ1 C0 e.toNat) (jc C0 (sF σ1 e)) (jc C0 (sT σ1 e)) := by
  rw [show (e + 1).toNat = e.toNat + 1 by omega]
  show addE (jnE σ σ1 C0 e.toNat) (jc C0 (sF σ1 ((e.toNat : Nat) : Int))) (jc C0 (sT σ1 ((e.toNat : Nat) : Int))) = _
  rw [show ((e.toNat : Nat) : Int) = e by omega]
theorem jnP_s (τ σ1 : Sp) (E0 : Int) {f : Int} (h : 0 ≤ f) : jnP τ σ1 E0 (f + 1).toNat = addP (jnP τ σ1 E0 f.toNat) (sL σ1 f) (fun i => sR σ1 f i + 2 * E0) := by
  rw [show (f + 1).toNat = f.toNat + 1 by omega]
  show addP (jnP τ σ1 E0 f.toNat) (sL σ1 ((f.toNat : Nat) : Int)) (fun i => sR σ1 ((f.toNat : Nat) : Int) i + 2 * E0) = _
  rw [show ((f.toNat : Nat) : Int) = f by omega]
theorem jnE_n (σ σ1 : Sp) (C0 : Int) (n : Nat) : sC (jnE σ σ1 C0 n) = sC σ ∧ sE (jnE σ σ1 C0 n) = sE σ + n ∧ sP (jnE σ σ1 C0 n) = sP σ ∧ sL (jnE σ σ1 C0 n) = sL σ ∧ sR (jnE σ σ1 C0 n) = sR σ := by
  induction n with
  | zero => exact ⟨rfl, by show sE σ = sE σ + 0; omega, rfl, rfl, rfl⟩
  | succ n ih =>
    obtain ⟨i1, i2, i3, i4, i5⟩ := ih
    refine ⟨i1, ?_, i3, i4, i5⟩
    show sE (jnE σ σ1 C0 n) + 1 = _
    rw [i2]
    omega
theorem jnP_n (τ σ1 : Sp) (E0 : Int) (n : Nat) : sC (jnP τ σ1 E0 n) = sC τ ∧ sE (jnP τ σ1 E0 n) = sE τ ∧ sP (jnP τ σ1 E0 n) = sP τ + n ∧ sF (jnP τ σ1 E0 n) = sF τ ∧ sT (jnP τ σ1 E0 n) = sT τ := by
  induction n with
  | zero => exact ⟨rfl, rfl, by show sP τ = sP τ + 0; omega, rfl, rfl⟩
  | succ n ih =>
    obtain ⟨i1, i2, i3, i4, i5⟩ := ih
    refine ⟨i1, i2, ?_, i4, i5⟩
    show sP (jnP τ σ1 E0 n) + 1 = _
    rw [i3]
    omega
theorem jnE_set (σ σ1 : Sp) (C0 c : Int) (n : Nat) : jnE (setC σ c) σ1 C0 n = setC (jnE σ σ1 C0 n) c := by
  induction n with
  | zero => rfl
  | succ n ih =>
    unfold jnE
    rw [ih]
    rfl
theorem jnP_set (τ σ1 : Sp) (E0 c : Int) (n : Nat) : jnP (setC τ c) σ1 E0 n = setC (jnP τ σ1 E0 n) c := by
  induction n with
  | zero => rfl
  | succ n ih =>
    unfold jnP
    rw [ih]
    rfl
/-- where steps of the joined one begin and end -/
theorem jnE_AB {σ σ1 : Sp} (C0 : Int) (hE : 0 ≤ sE σ) (n : Nat) : (∀ c, 0 ≤ c → c < 2 * sE σ → sA (jnE σ σ1 C0 n) c = sA σ c ∧ sB (jnE σ σ1 C0 n) c = sB σ c) ∧ (∀ c, 0 ≤ c → c < 2 * (n : Int) → sA (jnE σ σ1 C0 n) (c + 2 * sE σ) = jc C0 (sA σ1 c) ∧ sB (jnE σ σ1 C0 n) (c + 2 * sE σ) = jc C0 (sB σ1 c)) := by
  induction n with
  | zero => exact ⟨fun c _ _ => ⟨rfl, rfl⟩, fun c a b => by omega⟩
  | succ n ih =>
    have hn := jnE_n σ σ1 C0 n
    refine ⟨fun c a b => ?_, fun c a b => ?_⟩
    · have h1 := addE_AB (σ := jnE σ σ1 C0 n) (a := jc C0 (sF σ1 n)) (b := jc C0 (sT σ1 n)) (c := c) ⟨a, by rw [hn.2.1]; omega⟩
      have h2 := ih.1 c a b
      exact ⟨h1.1.trans h2.1, h1.2.trans h2.2⟩
    · by_cases hc : c < 2 * (n : Int)
      · have h1 := addE_AB (σ := jnE σ σ1 C0 n) (a := jc C0 (sF σ1 n)) (b := jc C0 (sT σ1 n)) (c := c + 2 * sE σ) ⟨by omega, by rw [hn.2.1]; omega⟩
        have h2 := ih.2 c a hc
        exact ⟨h1.1.trans h2.1, h1.2.trans h2.2⟩
      · have hcn : c / 2 = n := by omega
        have he : (c + 2 * sE σ) / 2 = sE (jnE σ σ1 C0 n) := by rw [hn.2.1]; omega
        have hp : (c + 2 * sE σ) % 2 = c % 2 := by omega
        have eF : sF (jnE σ σ1 C0 (n + 1)) ((c + 2 * sE σ) / 2) = jc C0 (sF σ1 n) := if_pos he
        have eT : sT (jnE σ σ1 C0 (n + 1)) ((c + 2 * sE σ) / 2) = jc C0 (sT σ1 n) := if_pos he
        unfold sA sB
        rw [eF, eT, hp, hcn]
        by_cases h0 : c % 2 = 0
        · rw [if_pos h0, if_pos h0, if_pos h0, if_pos h0]; exact ⟨rfl, rfl⟩
        · rw [if_neg h0, if_neg h0, if_neg h0, if_neg h0]; exact ⟨rfl, rfl⟩
theorem jc_rg {C0 C1 c : Int} (h0 : 1 ≤ C0) (h : 0 ≤ c ∧ c < C1) : 0 ≤ jc C0 c ∧ jc C0 c < C0 + C1 - 1 := by
  unfold jc
  split <;> omega
theorem jnE_wf {σ σ1 : Sp} {C0 : Int} (n : Nat) (hC : sC σ = C0 + sC σ1 - 1) (h0 : 1 ≤ C0) (hE : sE σ + n ≤ 12) (hw : WfE σ 8 12) (h1 : WfE σ1 8 12) (hn : (n : Int) ≤ sE σ1) : WfE (jnE σ σ1 C0 n) 8 12 := by
  induction n with
  | zero => exact hw
  | succ n ih =>
    have hj := jnE_n σ σ1 C0 n
    have hr := h1.2.2.2.2 n (by omega) (by omega)
    refine addE_wfE (ih (by omega) (by omega)) (by rw [hj.2.1]; omega) ?_ ?_
    · rw [hj.1, hC]; exact jc_rg h0 ⟨hr.1, hr.2.1⟩
    · rw [hj.1, hC]; exact jc_rg h0 ⟨hr.2.2.1, hr.2.2.2⟩
theorem jnE_wfP {σ σ1 : Sp} {C0 : Int} (n : Nat) (hw : WfP σ 8) : WfP (jnE σ σ1 C0 n) 8 := by
  induction n with
  | zero => exact hw
  | succ n ih => exact addE_wfP ih
theorem jnP_wfP {σ σ1 : Sp} {C0 : Int} (hE : 0 ≤ sE σ) (hE1 : 0 ≤ sE σ1) (n : Nat) (hP : sP σ + n ≤ 8) (hw : WfP σ 8) (h1 : WfP σ1 8) (hn : (n : Int) ≤ sP σ1) : WfP (jnP (jnE σ σ1 C0 (sE σ1).toNat) σ1 (sE σ) n) 8 := by
  induction n with
  | zero => exact jnE_wfP _ hw
  | succ n ih =>
    have hj := jnE_n σ σ1 C0 (sE σ1).toNat
    have hp := jnP_n (jnE σ σ1 C0 (sE σ1).toNat) σ1 (sE σ) n
    have hAB := jnE_AB (σ1 := σ1) C0 hE (sE σ1).toNat
    obtain ⟨q1, q2, q3, q4, q5⟩ := h1.2.2 n (by omega) (by omega)
    have eAB : ∀ c, sA (jnP (jnE σ σ1 C0 (sE σ1).toNat) σ1 (sE σ) n) c = sA (jnE σ σ1 C0 (sE σ1).toNat) c ∧ sB (jnP (jnE σ σ1 C0 (sE σ1).toNat) σ1 (sE σ) n) c = sB (jnE σ σ1 C0 (sE σ1).toNat) c := fun c => by
      unfold sA sB
      rw [hp.2.2.2.1, hp.2.2.2.2]
      exact ⟨rfl, rfl⟩
    refine addP_wfP (ih (by omega) (by omega)) (by rw [hp.2.2.1, hj.2.2.1]; omega) q2 ⟨fun i a b => ?_, fun i a b => ?_⟩ ⟨by omega, ?_⟩
    · have := q3 i a b
      rw [hp.2.1, hj.2.1]
      simp only
      omega
    · have r1 := q3 i a (by omega)
      have r2 := q3 (i + 1) (by omega) b
      rw [(eAB _).1, (eAB _).2, (hAB.2 _ r1.1 (by omega)).2, (hAB.2 _ r2.1 (by omega)).1, q4 i a b]
    · have r1 := q3 (sL σ1 n - 1) (by omega) (by omega)
      have r2 := q3 0 (by omega) (by omega)
      rw [(eAB _).1, (eAB _).2, (hAB.2 _ r1.1 (by omega)).2, (hAB.2 _ r2.1 (by omega)).1, q5]
section
variable {μ : zMem} {t u : Int} {σ σ1 : Sp}
set_option maxHeartbeats 2000000 in
theorem c_takeIn (hs : CS μ t σ) (hu : CS μ u σ1) (hz : SZ t 8 12 8) (hzu : SZ u 8 12 8) (htu : t + 7 ≤ u ∨ u + 7 ≤ t) (w0 : WfE σ 8 12) (p0 : WfP σ 8) (w1 : WfE σ1 8 12) (p1 : WfP σ1 8) (hE : sE σ + sE σ1 ≤ 12) (hP : sP σ + sP σ1 ≤ 8) : Ok (f_X5_takeIn t u μ) (fun μ' => CS μ' t (jnP (jnE (setC σ (sC σ + sC σ1 - 1)) σ1 (sC σ) (sE σ1).toNat) σ1 (sE σ) (sP σ1).toNat) ∧ ∀ c, ¬ (t ≤ c ∧ c ≤ t + 6) → μ' c = μ c) := by
  obtain ⟨a1, a2, a3, a4, a5⟩ := w0
  obtain ⟨b1, b2, b3, b4, b5⟩ := w1
  have p0' := p0
  have p1' := p1
  obtain ⟨c1, c2, c3⟩ := p0
  obtain ⟨d1, d2, d3⟩ := p1
  have hz' := hz
  obtain ⟨z1, z2, z3, z4, z5, z6, z7, z8, z9⟩ := hz
  have hzu' := hzu
  obtain ⟨y1, y2, y3, y4, y5, y6, y7, y8, y9⟩ := hzu
  generalize hσ' : setC σ (sC σ + sC σ1 - 1) = σ' at *
  have eE' : sE σ' = sE σ := by rw [← hσ']; rfl
  have eP' : sP σ' = sP σ := by rw [← hσ']; rfl
  have eL' : sL σ' = sL σ := by rw [← hσ']; rfl
  have pw' : WfP σ' 8 := by rw [← hσ']; exact p0'
  have hj := jnE_n σ' σ1 (sC σ)
  -- the panes
  have panes : ∀ (n : Nat) (f : Int) (μ1 : zMem), 0 ≤ f → f ≤ sP σ1 → (sP σ1 - f).toNat < n → (∀ c, ¬ (t ≤ c ∧ c ≤ t + 6) → μ1 c = μ c) → CS μ1 t (jnP (jnE σ' σ1 (sC σ) (sE σ1).toNat) σ1 (sE σ) f.toNat) → Ok (f_X5_takeIn_L72 t u (sE σ) n f μ1) (fun μ' => CS μ' t (jnP (jnE σ' σ1 (sC σ) (sE σ1).toNat) σ1 (sE σ) (sP σ1).toNat) ∧ ∀ c, ¬ (t ≤ c ∧ c ≤ t + 6) → μ' c = μ c) := by
    intro n
    induction n with
    | zero => intro f μ1 _ _ h; omega
    | succ n ih =>
      intro f μ1 f0 f1 f2 g1 g2
      have csu : CS μ1 u σ1 := hu.congr fun k a b => g1 k (by omega)
      have hp := jnP_n (jnE σ' σ1 (sC σ) (sE σ1).toNat) σ1 (sE σ) f.toNat
      have hj2 := hj (sE σ1).toNat
      unfold f_X5_takeIn_L72
      rw [csu.2.2.1]
      by_cases hf : f < sP σ1
      · obtain ⟨q1, q2, q3, q4, q5⟩ := d3 f f0 hf
        have hPf : sP (jnP (jnE σ' σ1 (sC σ) (sE σ1).toNat) σ1 (sE σ) f.toNat) = sP σ + f := by rw [hp.2.2.1, hj2.2.2.1, eP']; omega
        have hst := jnP_s (jnE σ' σ1 (sC σ) (sE σ1).toNat) σ1 (sE σ) f0
        have hwt := jnP_wfP (σ := σ') (σ1 := σ1) (C0 := sC σ) (by rw [eE']; exact a3) b3 f.toNat (by rw [eP']; omega) pw' p1' (by omega)
        rw [eE'] at hwt
        generalize hτ : jnP (jnE σ' σ1 (sC σ) (sE σ1).toNat) σ1 (sE σ) f.toNat = τ at *
        rw [if_pos hf]
        simp only [zlet]
        rw [g2.2.2.1, hPf, zw_eq (by omega) (by omega)]
        -- the steps of one rim
        have steps : ∀ (m : Nat) (i : Int) (μ2 : zMem), 0 ≤ i → i ≤ sL σ1 f → (sL σ1 f - i).toNat < m → (∀ c, c ≠ t + 5 → μ2 c = μ1 c) → (∀ x, μ2 (t + 5) x = if (sP σ + f) * 8 ≤ x ∧ x < (sP σ + f) * 8 + i then sR σ1 f (x - (sP σ + f) * 8) + 2 * sE σ else μ1 (t + 5) x) → Ok (f_X5_takeIn_L93 t u (sE σ) f ((sP σ + f) * 8) (f_X5_takeIn_K133 t u f (f_X5_takeIn_L72 t u (sE σ) n)) m i μ2) (fun μ' => CS μ' t (jnP (jnE σ' σ1 (sC σ) (sE σ1).toNat) σ1 (sE σ) (sP σ1).toNat) ∧ ∀ c, ¬ (t ≤ c ∧ c ≤ t + 6) → μ' c = μ c) := by
          intro m
          induction m with
          | zero => intro i μ2 _ _ h; omega
          | succ m ihm =>
            intro i μ2 i0 i1 i2 k1 k2
            have csu2 : CS μ2 u σ1 := csu.congr fun k a b => k1 k (by omega)
            unfold f_X5_takeIn_L93
            rw [chk_pos (by omega), (csu2.2.2.2.2 f f0 hf).1]
            by_cases hi : i < sL σ1 f
            · have hr := q3 i i0 hi
              rw [if_pos hi, c_rimStep csu2 hzu' ⟨d1, d2, d3⟩ ⟨f0, hf⟩ ⟨i0, hi⟩, bnd_pos rfl, zw_eq (x := (sP σ + f) * 8 + i) (by omega) (by omega), chk_pos (by omega)]
              simp only [zlet]
              rw [zw_eq (x := 2 * sE σ) (by omega) (by omega), zw_eq (x := sR σ1 f i + 2 * sE σ) (by omega) (by omega), zw_eq (x := i + 1) (by omega) (by omega)]
              refine ihm (i + 1) _ (by omega) (by omega) (by omega) (fun c hc => by rw [zup_n _ _ _ hc]; exact k1 c hc) (fun x => ?_)
              rw [zup_s, up1_e]
              by_cases hx : x = (sP σ + f) * 8 + i
              · rw [if_pos hx, if_pos (by omega), hx, show (sP σ + f) * 8 + i - (sP σ + f) * 8 = i by omega]
              · rw [if_neg hx, k2]
                by_cases hx2 : (sP σ + f) * 8 ≤ x ∧ x < (sP σ + f) * 8 + i
                · rw [if_pos hx2, if_pos (by omega)]
                · rw [if_neg hx2, if_neg (by omega)]
            · rw [if_neg hi]
              have hie : i = sL σ1 f := by omega
              subst hie
              unfold f_X5_takeIn_K133
              rw [chk_pos (by omega), k1 t (by omega), g2.2.2.1, hPf, chk_pos (by omega), (csu2.2.2.2.2 f f0 hf).1]
              simp only [zlet]
              rw [zup_n _ _ _ (by omega), k1 t (by omega), g2.2.2.1, hPf, zw_eq (x := sP σ + f + 1) (by omega) (by omega), zw_eq (by omega) (by omega)]
              refine ih (f + 1) _ (by omega) (by omega) (by omega) (fun c hc => by rw [zup_n _ _ _ (by omega), zup_n _ _ _ (by omega), k1 c (by omega), g1 c hc]) ?_
              rw [hst]
              obtain ⟨e1, e2, e3, e4, e5⟩ := g2
              refine ⟨?_, ?_, ?_, fun e h0 h1 => ?_, fun x h0 h1 => ⟨?_, fun j j0 j1 => ?_⟩⟩
              · rw [zup_s, up1_n _ _ (by decide), zup_n _ _ _ (by omega), k1 t (by omega)]; exact e1
              · rw [zup_s, up1_n _ _ (by decide), zup_n _ _ _ (by omega), k1 t (by omega)]; exact e2
              · rw [zup_s, up1_s]
                show sP σ + f + 1 = sP τ + 1
                omega
              · rw [zup_n _ _ _ (by omega), zup_n _ _ _ (by omega), k1 (t + 1) (by omega), zup_n _ _ _ (by omega), zup_n _ _ _ (by omega), k1 (t + 2) (by omega)]; exact e4 e h0 h1
              · have h2 : x < sP τ + 1 := h1
                rw [zup_n _ _ _ (by omega), zup_s]
                by_cases hx : x = sP τ
                · rw [show x = sP σ + f by omega, up1_s]; exact (if_pos (by omega)).symm
                · rw [up1_n _ _ (by omega), k1 (t + 6) (by omega), (e5 x h0 (by omega)).1]; exact (if_neg hx).symm
              · have h2 : x < sP τ + 1 := h1
                rw [zup_n _ _ _ (by omega), zup_n _ _ _ (by omega), k2]
                by_cases hx : x = sP τ
                · have j2 : j < sL σ1 f := by have : sL (addP τ (sL σ1 f) (fun i => sR σ1 f i + 2 * sE σ)) x = sL σ1 f := if_pos hx; omega
                  rw [if_pos (by omega), show 8 * x + j - (sP σ + f) * 8 = j by omega]
                  exact (if_pos hx).symm
                · have j2 : j < sL τ x := by have : sL (addP τ (sL σ1 f) (fun i => sR σ1 f i + 2 * sE σ)) x = sL τ x := if_neg hx; omega
                  have hl8 := (hwt.2.2 x h0 (by omega)).2.1
                  rw [if_neg (by omega), (e5 x h0 (by omega)).2 j j0 j2]
                  exact (if_neg hx).symm
        exact steps zfu 0 μ1 (by omega) (by omega) (by unfold zfu; omega) (fun _ _ => rfl) (fun x => by rw [if_neg (by omega)])
      · rw [if_neg hf]
        have : f = sP σ1 := by omega
        subst this
        exact ok_some.mpr ⟨g2, g1⟩
  -- the edges
  have edges : ∀ (n : Nat) (e : Int) (μ1 : zMem), 0 ≤ e → e ≤ sE σ1 → (sE σ1 - e).toNat < n → (∀ c, ¬ (t ≤ c ∧ c ≤ t + 6) → μ1 c = μ c) → CS μ1 t (jnE σ' σ1 (sC σ) e.toNat) → Ok (f_X5_takeIn_L28 t u (sC σ) (f_X5_takeIn_K69 t u (sE σ)) n e μ1) (fun μ' => CS μ' t (jnP (jnE σ' σ1 (sC σ) (sE σ1).toNat) σ1 (sE σ) (sP σ1).toNat) ∧ ∀ c, ¬ (t ≤ c ∧ c ≤ t + 6) → μ' c = μ c) := by
    intro n
    induction n with
    | zero => intro e μ1 _ _ h; omega
    | succ n ih =>
      intro e μ1 e0 e1 e2 g1 g2
      have csu : CS μ1 u σ1 := hu.congr fun k a b => g1 k (by omega)
      have hje := hj e.toNat
      unfold f_X5_takeIn_L28
      rw [csu.2.1]
      by_cases he : e < sE σ1
      · have hb := b5 e e0 he
        have hft := csu.2.2.2.1 e e0 he
        have hjo : ∀ x, 0 ≤ x → x < sC σ1 → f_X5_joined x (sC σ) = jc (sC σ) x := by
          intro x x0 x1
          unfold f_X5_joined jc
          by_cases h0 : x = 0
          · rw [if_pos h0, if_pos h0]
          · rw [if_neg h0, if_neg h0, zw_eq (x := sC σ + x) (by omega) (by omega), zw_eq (by omega) (by omega)]
        rw [if_pos he, chk_pos (by omega), chk_pos (by omega), hft.1, hft.2, hjo _ hb.1 hb.2.1, hjo _ hb.2.2.1 hb.2.2.2]
        refine ok_bnd.mpr ((c_addEdge g2 hz' (by rw [hje.2.1, eE']; omega) (by rw [hje.2.1, eE']; omega)).imp fun μ2 q => ?_)
        obtain ⟨k1, k2, k3⟩ := q
        simp only [zlet]
        rw [zw_eq (by omega) (by omega)]
        refine ih (e + 1) μ2 (by omega) (by omega) (by omega) (fun c hc => (k2 c (by omega) (by omega) (by omega)).trans (g1 c hc)) ?_
        rw [jnE_s _ _ _ e0]
        exact k1
      · rw [if_neg he]
        have : e = sE σ1 := by omega
        subst this
        unfold f_X5_takeIn_K69
        exact panes zfu 0 μ1 (by omega) d1 (by unfold zfu; omega) g1 g2
  unfold f_X5_takeIn
  simp only [zlet]
  rw [hs.1, hs.2.1, hu.1, zw_eq (x := sC σ1 - 1) (by omega) (by omega), zw_eq (by omega) (by omega)]
  refine edges zfu 0 _ (by omega) b3 (by unfold zfu; omega) (fun c hc => by rw [zup_n _ _ _ (by omega)]) ?_
  obtain ⟨e1, e2, e3, e4, e5⟩ := hs
  show CS _ t σ'
  rw [← hσ']
  refine ⟨?_, ?_, ?_, fun e h0 h1 => ?_, fun x h0 h1 => ?_⟩
  · rw [zup_s, up1_s]
    show sC σ + (sC σ1 - 1) = sC σ + sC σ1 - 1
    omega
  · rw [zup_s, up1_n _ _ (by decide)]; exact e2
  · rw [zup_s, up1_n _ _ (by decide)]; exact e3
  · rw [zup_n _ _ _ (by omega), zup_n _ _ _ (by omega)]; exact e4 e h0 h1
  · rw [zup_n _ _ _ (by omega), zup_n _ _ _ (by omega)]; exact e5 x h0 h1
end
