/-! text -/
def rdT (T : Int → Int) (N : Int) : Option Sp × Int :=
  if skp T N 0 < dge T N (skp T N 0) ∧ 1 ≤ dvl T (skp T N 0) (dge T N (skp T N 0) - skp T N 0).toNat ∧ dvl T (skp T N 0) (dge T N (skp T N 0) - skp T N 0).toNat ≤ 8 then rdL T N 200 ((dvl T (skp T N 0) (dge T N (skp T N 0) - skp T N 0).toNat, 0, 0), (fun _ => 0), (fun _ => 0), (fun _ => 0), (fun _ _ => 0)) (dge T N (skp T N 0)) else (none, skp T N 0)
theorem s0_wf {v : Int} (h : 1 ≤ v ∧ v ≤ 8) : WfE ((v, 0, 0), (fun _ => 0), (fun _ => 0), (fun _ => 0), (fun _ _ => 0)) 8 12 ∧ WfP ((v, 0, 0), (fun _ => 0), (fun _ => 0), (fun _ => 0), (fun _ _ => 0)) 8 := ⟨⟨h.1, h.2, Int.le_refl 0, show (0 : Int) ≤ 12 by decide, fun e a b => by have : e < 0 := b; omega⟩, ⟨Int.le_refl 0, show (0 : Int) ≤ 8 by decide, fun f a b => by have : f < 0 := b; omega⟩⟩
section
variable {μ : zMem} {t s : Int} {T : Int → Int} {N : Int}
theorem rdT_spec (hT : TP T N) : 0 ≤ (rdT T N).2 ∧ (rdT T N).2 ≤ N ∧ skp T N (rdT T N).2 = (rdT T N).2 ∧ ∀ σ', (rdT T N).1 = some σ' → WfE σ' 8 12 ∧ WfP σ' 8 := by
  have h1 := skp_spec hT (p := 0) ⟨by omega, hT.1⟩
  have h2 := dge_spec hT (p := skp T N 0) ⟨by omega, h1.2.1⟩
  have hN := hT.2.1
  unfold rdT
  split
  · rename_i hc
    have hw := s0_wf hc.2
    have := rdL_spec hT 200 _ (dge T N (skp T N 0)) (by omega) h2.2.1 (by omega) hw.1 hw.2
    exact ⟨by omega, this.2.1, this.2.2.1, this.2.2.2⟩
  · exact ⟨h1.1, h1.2.1, skp_skp hT ⟨by omega, hT.1⟩, fun σ' e => by simp at e⟩
theorem c_readSpace (hT : TP T N) (hc : CTp μ T N) (hz : SZ t 8 12 8) (ht : 37 ≤ t) (h : μ 19 2 = 0) : Ok (f_X7_readSpace t 21 μ) (CRes μ t T N (rdT T N)) := by
  have h1 := skp_spec hT (p := 0) ⟨by omega, hT.1⟩
  have h2 := dge_spec hT (p := skp T N 0) ⟨by omega, h1.2.1⟩
  have hN := hT.2.1
  have rn := c_readNumber (lo := 1) (hi := 8) hT hc (p := 0) ⟨by omega, hT.1⟩ h (by omega) ⟨by omega, by omega⟩
  unfold nok at rn
  unfold f_X7_readSpace rdT
  by_cases hn : skp T N 0 < dge T N (skp T N 0) ∧ 1 ≤ dvl T (skp T N 0) (dge T N (skp T N 0) - skp T N 0).toNat ∧ dvl T (skp T N 0) (dge T N (skp T N 0) - skp T N 0).toNat ≤ 8
  · rw [rn.1 hn, bnd2_pos rfl, if_pos hn]
    generalize hv : dvl T (skp T N 0) (dge T N (skp T N 0) - skp T N 0).toNat = v at *
    generalize hq : dge T N (skp T N 0) = q at *
    have hw := s0_wf hn.2
    rw [if_neg (by omega)]
    unfold f_X5_clear
    simp only [zlet]
    rw [bnd_pos rfl, show zmin v (zlen (t + 4)) = v by have := hz.2.2.2.1; unfold zmin; rw [this]; split <;> omega]
    have ft : FTx t μ (zup (zup (zup (zup μ 19 2 q) t 6 v) t 7 0) t 8 0) := by
      refine ⟨fun c a b d e => ?_, fun i a => ?_⟩
      · simp (disch := omega) only [zup_n]
      · simp (disch := omega) only [zup_n, zup_s, up1_n]
    have e19 : zup (zup (zup (zup μ 19 2 q) t 6 v) t 7 0) t 8 0 19 2 = q := by simp (disch := omega) only [zup_n, zup_s, up1_s]
    refine c_readL hT hc hz ht 200 zfu _ q 0 _ (by decide) (by omega) (by omega) (by omega) (by omega) hw.1 hw.2 ft ⟨?_, ?_, ?_, fun e a b => ?_, fun f a b => ?_⟩ (by rw [e19]; omega) (by rw [e19]; omega) (by rw [e19])
    · simp (disch := omega) only [zup_s, up1_n, up1_s]; rfl
    · simp (disch := omega) only [zup_s, up1_n, up1_s]; rfl
    · simp (disch := omega) only [zup_s, up1_n, up1_s]; rfl
    · have : e < 0 := b; omega
    · have : f < 0 := b; omega
  · rw [rn.2 hn, bnd2_pos rfl, if_pos rfl, if_neg hn]
    exact ok_some.mpr ⟨(FTx.refl t μ).pl _, by simp only; rw [zup_s, up1_s]; omega, by simp only; rw [zup_s, up1_s]; exact h1.2.1, by simp only; rw [zup_s, up1_s], fun _ => rfl, fun σ' e => by simp at e⟩
theorem m_readSpace (hT : TP T N) (hc : MTp μ T N) (h3 : 0 ≤ s ∧ s < 3) (h : μ 101 10 = 0) : Ok (f_X10_readSpace s μ) (fun v => Fm Fq Gq μ v.2 ∧ Ms s μ v.2 ∧ ((rdT T N).1 = none → v.1 = 0 ∧ v.2 101 11 = -20 - (rdT T N).2) ∧ (∀ σ', (rdT T N).1 = some σ' → v.1 = 1 ∧ MS v.2 s σ')) := by
  have h1 := skp_spec hT (p := 0) ⟨by omega, hT.1⟩
  have h2 := dge_spec hT (p := skp T N 0) ⟨by omega, h1.2.1⟩
  have hN := hT.2.1
  have ns0 : noSp [] := by unfold noSp; decide
  unfold f_X10_readSpace rdT
  refine ok_bnd2.mpr ((m_readNumber (lo := 1) (hi := 8) hT hc (p := 0) ⟨by omega, hT.1⟩ h (by omega) (by omega)).imp fun v q => ?_)
  obtain ⟨q1, q2, q3⟩ := q
  unfold nok at q2 q3
  have g1 : Fm [] Gq μ v.2 := q1.sub (fun _ x => x) (by decide)
  by_cases hn : skp T N 0 < dge T N (skp T N 0) ∧ 1 ≤ dvl T (skp T N 0) (dge T N (skp T N 0) - skp T N 0).toNat ∧ dvl T (skp T N 0) (dge T N (skp T N 0) - skp T N 0).toNat ≤ 8
  · obtain ⟨k1, k2, k3⟩ := q2 hn
    rw [k1, if_neg (by decide), if_pos hn, k3]
    generalize hv : dvl T (skp T N 0) (dge T N (skp T N 0) - skp T N 0).toNat = w at *
    generalize hq : dge T N (skp T N 0) = q at *
    have hw := s0_wf hn.2
    unfold f_X10_clear
    simp only [zlet]
    rw [chk_pos h3, chk_pos h3, chk_pos h3, bnd_pos rfl]
    have g2 : Fm Fq Gq μ (zup (zup (zup v.2 102 s w) 103 s 0) 104 s 0) := (((g1.sub (by decide) (fun _ x => x)).up (by decide) (by decide) _ _).up (by decide) (by decide) _ _).up (by decide) (by decide) _ _
    have m2 : Ms s μ (zup (zup (zup v.2 102 s w) 103 s 0) 104 s 0) := (g1.mso ns0).trans ⟨fun x hx => by
      simp (disch := omega) only [zup_s, zup_n, up1_n]; exact ⟨trivial, trivial, trivial⟩, fun i hi => by
      simp (disch := omega) only [zup_n]; exact ⟨trivial, trivial⟩, fun i hi => by simp (disch := omega) only [zup_n], fun i hi => by simp (disch := omega) only [zup_n]⟩
    have p2 : zup (zup (zup v.2 102 s w) 103 s 0) 104 s 0 101 10 = q := by simp (disch := omega) only [zup_n]; exact k2
    have hqr : 0 ≤ q ∧ q ≤ N := by omega
    have hsq := skp_spec hT hqr
    rw [m_pass hT (g2.tp (by decide) (by decide) hc) hqr p2, bnd_pos rfl]
    have erq : ∀ σ, rdL T N 200 σ q = rdL T N 200 σ (skp T N q) := fun σ => by
      show rdL T N (199 + 1) σ q = rdL T N (199 + 1) σ (skp T N q)
      unfold rdL
      rw [skp_skp hT hqr]
    rw [erq]
    refine m_readL hT hc h3 200 zfu _ (skp T N q) _ (by decide) (by omega) hsq.2.1 (skp_skp hT hqr) (by omega) hw.1 hw.2 (g2.upo (by decide) _) (m2.trans (Ms.of fun k a b => by rw [zup_n _ _ _ (by omega)])) ⟨?_, ?_, ?_, fun e a b => ?_, fun f a b => ?_⟩ (by rw [zup_s, up1_s])
    · simp (disch := omega) only [zup_s, zup_n, up1_s]; rfl
    · simp (disch := omega) only [zup_s, zup_n, up1_s]; rfl
    · simp (disch := omega) only [zup_s, zup_n, up1_s]; rfl
    · have : e < 0 := b; omega
    · have : f < 0 := b; omega
  · rw [(q3 hn).1, if_pos rfl, if_neg hn]
    exact ok_some.mpr ⟨g1.sub (by decide) (fun _ x => x), g1.mso ns0, fun _ => ⟨rfl, (q3 hn).2⟩, fun σ' e => by simp at e⟩
/-! the reference keeps its rows, and puts them back -/
theorem m_keep (h3 : 0 ≤ s ∧ s < 3) : Ok (f_X10_keep s μ) (fun μ' => (∀ k, k ≠ 117 → k ≠ 118 → k ≠ 119 → μ' k = μ k) ∧ (∀ e, 0 ≤ e → e < 48 → μ' 117 e = μ 105 (48 * s + e) ∧ μ' 117 (48 + e) = μ 106 (48 * s + e)) ∧ (∀ f, 0 ≤ f → f < 32 → μ' 119 f = μ 107 (32 * s + f)) ∧ (∀ i, 0 ≤ i → i < 256 → μ' 118 i = μ 108 (256 * s + i))) := by
  have k84 : ∀ (n : Nat) (x : Int) (μ1 : zMem), 0 ≤ x → x ≤ 256 → (256 - x).toNat < n → (∀ k, k ≠ 117 → k ≠ 118 → k ≠ 119 → μ1 k = μ k) → (∀ e, 0 ≤ e → e < 48 → μ1 117 e = μ 105 (48 * s + e) ∧ μ1 117 (48 + e) = μ 106 (48 * s + e)) → (∀ f, 0 ≤ f → f < 32 → μ1 119 f = μ 107 (32 * s + f)) → (∀ i, 0 ≤ i → i < x → μ1 118 i = μ 108 (256 * s + i)) → Ok (f_X10_keep_L84 s n x μ1) (fun μ' => (∀ k, k ≠ 117 → k ≠ 118 → k ≠ 119 → μ' k = μ k) ∧ (∀ e, 0 ≤ e → e < 48 → μ' 117 e = μ 105 (48 * s + e) ∧ μ' 117 (48 + e) = μ 106 (48 * s + e)) ∧ (∀ f, 0 ≤ f → f < 32 → μ' 119 f = μ 107 (32 * s + f)) ∧ (∀ i, 0 ≤ i → i < 256 → μ' 118 i = μ 108 (256 * s + i))) := by
    intro n
    induction n with
    | zero => intro x μ1 _ _ h; omega
    | succ n ih =>
      intro x μ1 x0 x1 x2 f1 f2 f3 f4
      unfold f_X10_keep_L84
      by_cases hx : x < 256
      · rw [if_pos hx, zw_eq (x := 256 * s) (by omega) (by omega), zw_eq (x := 256 * s + x) (by omega) (by omega), chk_pos (by omega), chk_pos (by omega), f1 108 (by decide) (by decide) (by decide)]
        simp only [zlet]
        rw [zw_eq (by omega) (by omega)]
        refine ih (x + 1) _ (by omega) (by omega) (by omega) (fun k a b c => by rw [zup_n _ _ _ b]; exact f1 k a b c) (by rw [zup_n _ _ _ (by decide)]; exact f2) (by rw [zup_n _ _ _ (by decide)]; exact f3) (fun i a b => ?_)
        rw [zup_s]
        by_cases hi : i = x
        · rw [hi, up1_s]
        · rw [up1_n _ _ hi]; exact f4 i a (by omega)
      · rw [if_neg hx]
        exact ok_some.mpr ⟨f1, f2, f3, fun i a b => f4 i a (by omega)⟩
  have k53 : ∀ (n : Nat) (x : Int) (μ1 : zMem), 0 ≤ x → x ≤ 32 → (32 - x).toNat < n → (∀ k, k ≠ 117 → k ≠ 118 → k ≠ 119 → μ1 k = μ k) → (∀ e, 0 ≤ e → e < 48 → μ1 117 e = μ 105 (48 * s + e) ∧ μ1 117 (48 + e) = μ 106 (48 * s + e)) → (∀ f, 0 ≤ f → f < x → μ1 119 f = μ 107 (32 * s + f)) → Ok (f_X10_keep_L53 s (f_X10_keep_K82 s) n x μ1) (fun μ' => (∀ k, k ≠ 117 → k ≠ 118 → k ≠ 119 → μ' k = μ k) ∧ (∀ e, 0 ≤ e → e < 48 → μ' 117 e = μ 105 (48 * s + e) ∧ μ' 117 (48 + e) = μ 106 (48 * s + e)) ∧ (∀ f, 0 ≤ f → f < 32 → μ' 119 f = μ 107 (32 * s + f)) ∧ (∀ i, 0 ≤ i → i < 256 → μ' 118 i = μ 108 (256 * s + i))) := by
    intro n
    induction n with
    | zero => intro x μ1 _ _ h; omega
    | succ n ih =>
      intro x μ1 x0 x1 x2 f1 f2 f3
      unfold f_X10_keep_L53
      by_cases hx : x < 32
      · rw [if_pos hx, zw_eq (x := 32 * s) (by omega) (by omega), zw_eq (x := 32 * s + x) (by omega) (by omega), chk_pos (by omega), chk_pos (by omega), f1 107 (by decide) (by decide) (by decide)]
        simp only [zlet]
        rw [zw_eq (by omega) (by omega)]
        refine ih (x + 1) _ (by omega) (by omega) (by omega) (fun k a b c => by rw [zup_n _ _ _ c]; exact f1 k a b c) (by rw [zup_n _ _ _ (by decide)]; exact f2) (fun i a b => ?_)
        rw [zup_s]
        by_cases hi : i = x
        · rw [hi, up1_s]
        · rw [up1_n _ _ hi]; exact f3 i a (by omega)
      · rw [if_neg hx]
        unfold f_X10_keep_K82
        exact k84 zfu 0 μ1 (by omega) (by omega) (by decide) f1 f2 (fun f a b => f3 f a (by omega)) (fun i a b => by omega)
  have k2 : ∀ (n : Nat) (x : Int) (μ1 : zMem), 0 ≤ x → x ≤ 48 → (48 - x).toNat < n → (∀ k, k ≠ 117 → k ≠ 118 → k ≠ 119 → μ1 k = μ k) → (∀ e, 0 ≤ e → e < x → μ1 117 e = μ 105 (48 * s + e) ∧ μ1 117 (48 + e) = μ 106 (48 * s + e)) → Ok (f_X10_keep_L2 s (f_X10_keep_K51 s) n x μ1) (fun μ' => (∀ k, k ≠ 117 → k ≠ 118 → k ≠ 119 → μ' k = μ k) ∧ (∀ e, 0 ≤ e → e < 48 → μ' 117 e = μ 105 (48 * s + e) ∧ μ' 117 (48 + e) = μ 106 (48 * s + e)) ∧ (∀ f, 0 ≤ f → f < 32 → μ' 119 f = μ 107 (32 * s + f)) ∧ (∀ i, 0 ≤ i → i < 256 → μ' 118 i = μ 108 (256 * s + i))) := by
    intro n
    induction n with
    | zero => intro x μ1 _ _ h; omega
    | succ n ih =>
      intro x μ1 x0 x1 x2 f1 f2
      unfold f_X10_keep_L2
      by_cases hx : x < 48
      · rw [if_pos hx, zw_eq (x := 48 * s) (by omega) (by omega), zw_eq (x := 48 * s + x) (by omega) (by omega), chk_pos (by omega), chk_pos (by omega), f1 105 (by decide) (by decide) (by decide)]
        simp only [zlet]
        rw [chk_pos (by omega), zw_eq (x := 48 + x) (by omega) (by omega), chk_pos (by omega), zup_n _ _ _ (by decide), f1 106 (by decide) (by decide) (by decide), zw_eq (by omega) (by omega)]
        refine ih (x + 1) _ (by omega) (by omega) (by omega) (fun k a b c => by rw [zup_n _ _ _ a, zup_n _ _ _ a]; exact f1 k a b c) (fun e a b => ?_)
        rw [zup_s, zup_s]
        by_cases he : e = x
        · rw [he, up1_n _ _ (by omega), up1_s, up1_s]
          exact ⟨rfl, rfl⟩
        · rw [up1_n _ _ (by omega), up1_n _ _ he, up1_n _ _ (by omega), up1_n _ _ (by omega)]
          exact f2 e a (by omega)
      · rw [if_neg hx]
        unfold f_X10_keep_K51
        exact k53 zfu 0 μ1 (by omega) (by omega) (by decide) f1 (fun e a b => f2 e a (by omega)) (fun f a b => by omega)
  exact k2 zfu 0 μ (by omega) (by omega) (by decide) (fun _ _ _ _ => rfl) (fun e a b => by omega)
theorem m_putBack (h3 : 0 ≤ s ∧ s < 3) : Ok (f_X10_putBack s μ) (fun μ' => (∀ k, k ≠ 105 → k ≠ 106 → k ≠ 107 → k ≠ 108 → μ' k = μ k) ∧ (∀ i, μ' 105 i = if 48 * s ≤ i ∧ i < 48 * s + 48 then μ 117 (i - 48 * s) else μ 105 i) ∧ (∀ i, μ' 106 i = if 48 * s ≤ i ∧ i < 48 * s + 48 then μ 117 (48 + (i - 48 * s)) else μ 106 i) ∧ (∀ i, μ' 107 i = if 32 * s ≤ i ∧ i < 32 * s + 32 then μ 119 (i - 32 * s) else μ 107 i) ∧ (∀ i, μ' 108 i = if 256 * s ≤ i ∧ i < 256 * s + 256 then μ 118 (i - 256 * s) else μ 108 i)) := by
  have k84 : ∀ (n : Nat) (x : Int) (μ1 : zMem), 0 ≤ x → x ≤ 256 → (256 - x).toNat < n → (∀ k, k ≠ 105 → k ≠ 106 → k ≠ 107 → k ≠ 108 → μ1 k = μ k) → (∀ i, μ1 105 i = if 48 * s ≤ i ∧ i < 48 * s + 48 then μ 117 (i - 48 * s) else μ 105 i) → (∀ i, μ1 106 i = if 48 * s ≤ i ∧ i < 48 * s + 48 then μ 117 (48 + (i - 48 * s)) else μ 106 i) → (∀ i, μ1 107 i = if 32 * s ≤ i ∧ i < 32 * s + 32 then μ 119 (i - 32 * s) else μ 107 i) → (∀ i, μ1 108 i = if 256 * s ≤ i ∧ i < 256 * s + x then μ 118 (i - 256 * s) else μ 108 i) → Ok (f_X10_putBack_L84 s n x μ1) (fun μ' => (∀ k, k ≠ 105 → k ≠ 106 → k ≠ 107 → k ≠ 108 → μ' k = μ k) ∧ (∀ i, μ' 105 i = if 48 * s ≤ i ∧ i < 48 * s + 48 then μ 117 (i - 48 * s) else μ 105 i) ∧ (∀ i, μ' 106 i = if 48 * s ≤ i ∧ i < 48 * s + 48 then μ 117 (48 + (i - 48 * s)) else μ 106 i) ∧ (∀ i, μ' 107 i = if 32 * s ≤ i ∧ i < 32 * s + 32 then μ 119 (i - 32 * s) else μ 107 i) ∧ (∀ i, μ' 108 i = if 256 * s ≤ i ∧ i < 256 * s + 256 then μ 118 (i - 256 * s) else μ 108 i)) := by
    intro n
    induction n with
    | zero => intro x μ1 _ _ h; omega
    | succ n ih =>
      intro x μ1 x0 x1 x2 f1 f2 f3 f4 f5
      unfold f_X10_putBack_L84
      by_cases hx : x < 256
      · rw [if_pos hx, zw_eq (x := 256 * s) (by omega) (by omega), zw_eq (x := 256 * s + x) (by omega) (by omega), chk_pos (by omega), chk_pos (by omega), f1 118 (by decide) (by decide) (by decide) (by decide)]
        simp only [zlet]
        rw [zw_eq (by omega) (by omega)]
        refine ih (x + 1) _ (by omega) (by omega) (by omega) (fun k a b c d => by rw [zup_n _ _ _ d]; exact f1 k a b c d) (by rw [zup_n _ _ _ (by decide)]; exact f2) (by rw [zup_n _ _ _ (by decide)]; exact f3) (by rw [zup_n _ _ _ (by decide)]; exact f4) (fun i => ?_)
        rw [zup_s, up1_e]
        by_cases hi : i = 256 * s + x
        · rw [if_pos hi, if_pos (by omega), hi, show 256 * s + x - 256 * s = x by omega]
        · rw [if_neg hi, f5]
          by_cases hi2 : 256 * s ≤ i ∧ i < 256 * s + x
          · rw [if_pos hi2, if_pos (by omega)]
          · rw [if_neg hi2, if_neg (by omega)]
      · rw [if_neg hx]
        have : x = 256 := by omega
        subst this
        exact ok_some.mpr ⟨f1, f2, f3, f4, f5⟩
  have k53 : ∀ (n : Nat) (x : Int) (μ1 : zMem), 0 ≤ x → x ≤ 32 → (32 - x).toNat < n → (∀ k, k ≠ 105 → k ≠ 106 → k ≠ 107 → k ≠ 108 → μ1 k = μ k) → μ1 108 = μ 108 → (∀ i, μ1 105 i = if 48 * s ≤ i ∧ i < 48 * s + 48 then μ 117 (i - 48 * s) else μ 105 i) → (∀ i, μ1 106 i = if 48 * s ≤ i ∧ i < 48 * s + 48 then μ 117 (48 + (i - 48 * s)) else μ 106 i) → (∀ i, μ1 107 i = if 32 * s ≤ i ∧ i < 32 * s + x then μ 119 (i - 32 * s) else μ 107 i) → Ok (f_X10_putBack_L53 s (f_X10_putBack_K82 s) n x μ1) (fun μ' => (∀ k, k ≠ 105 → k ≠ 106 → k ≠ 107 → k ≠ 108 → μ' k = μ k) ∧ (∀ i, μ' 105 i = if 48 * s ≤ i ∧ i < 48 * s + 48 then μ 117 (i - 48 * s) else μ 105 i) ∧ (∀ i, μ' 106 i = if 48 * s ≤ i ∧ i < 48 * s + 48 then μ 117 (48 + (i - 48 * s)) else μ 106 i) ∧ (∀ i, μ' 107 i = if 32 * s ≤ i ∧ i < 32 * s + 32 then μ 119 (i - 32 * s) else μ 107 i) ∧ (∀ i, μ' 108 i = if 256 * s ≤ i ∧ i < 256 * s + 256 then μ 118 (i - 256 * s) else μ 108 i)) := by
    intro n
    induction n with
    | zero => intro x μ1 _ _ h; omega
    | succ n ih =>
      intro x μ1 x0 x1 x2 f1 f8 f2 f3 f4
      unfold f_X10_putBack_L53
      by_cases hx : x < 32
      · rw [if_pos hx, zw_eq (x := 32 * s) (by omega) (by omega), zw_eq (x := 32 * s + x) (by omega) (by omega), chk_pos (by omega), chk_pos (by omega), f1 119 (by decide) (by decide) (by decide) (by decide)]
        simp only [zlet]
        rw [zw_eq (by omega) (by omega)]
        refine ih (x + 1) _ (by omega) (by omega) (by omega) (fun k a b c d => by rw [zup_n _ _ _ c]; exact f1 k a b c d) (by rw [zup_n _ _ _ (by decide)]; exact f8) (by rw [zup_n _ _ _ (by decide)]; exact f2) (by rw [zup_n _ _ _ (by decide)]; exact f3) (fun i => ?_)
        rw [zup_s, up1_e]
        by_cases hi : i = 32 * s + x
        · rw [if_pos hi, if_pos (by omega), hi, show 32 * s + x - 32 * s = x by omega]
        · rw [if_neg hi, f4]
          by_cases hi2 : 32 * s ≤ i ∧ i < 32 * s + x
          · rw [if_pos hi2, if_pos (by omega)]
          · rw [if_neg hi2, if_neg (by omega)]
      · rw [if_neg hx]
        have : x = 32 := by omega
        subst this
        unfold f_X10_putBack_K82
        exact k84 zfu 0 μ1 (by omega) (by omega) (by decide) f1 f2 f3 f4 (fun i => by rw [if_neg (by omega), f8])
  have k2 : ∀ (n : Nat) (x : Int) (μ1 : zMem), 0 ≤ x → x ≤ 48 → (48 - x).toNat < n → (∀ k, k ≠ 105 → k ≠ 106 → μ1 k = μ k) → (∀ i, μ1 105 i = if 48 * s ≤ i ∧ i < 48 * s + x then μ 117 (i - 48 * s) else μ 105 i) → (∀ i, μ1 106 i = if 48 * s ≤ i ∧ i < 48 * s + x then μ 117 (48 + (i - 48 * s)) else μ 106 i) → Ok (f_X10_putBack_L2 s (f_X10_putBack_K51 s) n x μ1) (fun μ' => (∀ k, k ≠ 105 → k ≠ 106 → k ≠ 107 → k ≠ 108 → μ' k = μ k) ∧ (∀ i, μ' 105 i = if 48 * s ≤ i ∧ i < 48 * s + 48 then μ 117 (i - 48 * s) else μ 105 i) ∧ (∀ i, μ' 106 i = if 48 * s ≤ i ∧ i < 48 * s + 48 then μ 117 (48 + (i - 48 * s)) else μ 106 i) ∧ (∀ i, μ' 107 i = if 32 * s ≤ i ∧ i < 32 * s + 32 then μ 119 (i - 32 * s) else μ 107 i) ∧ (∀ i, μ' 108 i = if 256 * s ≤ i ∧ i < 256 * s + 256 then μ 118 (i - 256 * s) else μ 108 i)) := by
    intro n
    induction n with
    | zero => intro x μ1 _ _ h; omega
    | succ n ih =>
      intro x μ1 x0 x1 x2 f1 f2 f3
      unfold f_X10_putBack_L2
      by_cases hx : x < 48
      · rw [if_pos hx, zw_eq (x := 48 * s) (by omega) (by omega), zw_eq (x := 48 * s + x) (by omega) (by omega), chk_pos (by omega), chk_pos (by omega), f1 117 (by decide) (by decide)]
        simp only [zlet]
        rw [zw_eq (x := 48 + x) (by omega) (by omega), chk_pos (by omega), chk_pos (by omega), zup_n _ _ _ (by decide), f1 117 (by decide) (by decide), zw_eq (by omega) (by omega)]
        refine ih (x + 1) _ (by omega) (by omega) (by omega) (fun k a b => by rw [zup_n _ _ _ b, zup_n _ _ _ a]; exact f1 k a b) (fun i => ?_) (fun i => ?_)
        · rw [zup_n _ _ _ (by decide), zup_s, up1_e]
          by_cases hi : i = 48 * s + x
          · rw [if_pos hi, if_pos (by omega), hi, show 48 * s + x - 48 * s = x by omega]
          · rw [if_neg hi, f2]
            by_cases hi2 : 48 * s ≤ i ∧ i < 48 * s + x
            · rw [if_pos hi2, if_pos (by omega)]
            · rw [if_neg hi2, if_neg (by omega)]
        · rw [zup_s, up1_e]
          by_cases hi : i = 48 * s + x
          · rw [if_pos hi, if_pos (by omega), hi, show 48 * s + x - 48 * s = x by omega]
          · rw [if_neg hi, zup_n _ _ _ (by decide), f3]
            by_cases hi2 : 48 * s ≤ i ∧ i < 48 * s + x
            · rw [if_pos hi2, if_pos (by omega)]
            · rw [if_neg hi2, if_neg (by omega)]
      · rw [if_neg hx]
        have : x = 48 := by omega
        subst this
        unfold f_X10_putBack_K51
        exact k53 zfu 0 μ1 (by omega) (by omega) (by decide) (fun k a b c d => f1 k a b) (f1 108 (by decide) (by decide)) f2 f3 (fun i => by rw [if_neg (by omega), f1 107 (by decide) (by decide)])
  exact k2 zfu 0 μ (by omega) (by omega) (by decide) (fun _ _ _ => rfl) (fun i => by rw [if_neg (by omega)]) (fun i => by rw [if_neg (by omega)])
end
