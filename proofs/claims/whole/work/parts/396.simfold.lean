theorem lon_spec (σ : Sp) (hE : 0 ≤ sE σ) : (lon σ = -1 ∧ ∀ e, 0 ≤ e → e < sE σ → ctE σ e (sP σ).toNat ≠ 1) ∨ (0 ≤ lon σ ∧ lon σ < sE σ ∧ ctE σ (lon σ) (sP σ).toNat = 1) := by
  unfold lon
  rcases lsu_spec (fun e => decide (ctE σ e (sP σ).toNat = 1)) (sE σ).toNat 0 (by omega) with ⟨h1, h2⟩ | ⟨h1, h2, h3, _⟩
  · exact Or.inl ⟨h1, fun e a b => by have := h2 e a (by omega); simpa using this⟩
  · exact Or.inr ⟨h1, by omega, by simpa using h3⟩
section
variable {μ : zMem} {s : Int} {σ : Sp}
theorem m_lonely (hs : MS μ s σ) (h3 : 0 ≤ s ∧ s < 3) (hw : WfP σ 8) (hE : 0 ≤ sE σ ∧ sE σ ≤ 12) : f_X10_lonely s μ = some (if lon σ = -1 then -4 else lon σ) := by
  have p1 := hw.1
  have p2 := hw.2.1
  have rim : ∀ (e f : Int) (acc : Int) (g : Int → Option Int), 0 ≤ e → e < sE σ → 0 ≤ f → f < sP σ → 0 ≤ acc → acc ≤ 100 → ∀ (n : Nat) (i : Int), 0 ≤ i → i ≤ sL σ f → (sL σ f - i).toNat < n → f_X10_lonely_L31 s μ e f g n (acc + nby σ (2 ^ e.toNat) f i.toNat) i = g (acc + nby σ (2 ^ e.toNat) f (sL σ f).toNat) := by
    intro e f acc g e0 e1 f0 f1 a0 a1 n
    obtain ⟨q1, q2, q3, q4, q5⟩ := hw.2.2 f f0 f1
    induction n with
    | zero => intro i _ _ h; omega
    | succ n ih =>
      intro i i0 i1 i2
      unfold f_X10_lonely_L31 f_X10_lonely_J70
      rw [zw_eq (x := 32 * s) (by omega) (by omega), zw_eq (x := 32 * s + f) (by omega) (by omega), chk_pos (by omega), (hs.2.2.2.2 f f0 f1).1]
      by_cases hi : i < sL σ f
      · have hr := q3 i i0 hi
        have hb := nby_b σ (2 ^ e.toNat) f i.toNat
        rw [if_pos hi, m_rimAt hs h3 (hw.mono (by decide)) ⟨f0, f1⟩ ⟨i0, hi⟩, bnd_pos rfl]
        simp only [zlet]
        rw [edgeOfE (by omega)]
        have h1 := ih (i + 1) (by omega) (by omega) (by omega)
        rw [nby_s σ _ f i0, bt_pow (by omega) e0] at h1
        have h01 : (if sR σ f i / 2 = e then (1 : Int) else 0) = 0 ∨ (if sR σ f i / 2 = e then (1 : Int) else 0) = 1 := by split <;> omega
        rw [zw_eq (x := acc + nby σ (2 ^ e.toNat) f i.toNat + _) (by omega) (by omega), zw_eq (x := i + 1) (by omega) (by omega), Int.add_assoc]
        exact h1
      · rw [if_neg hi]
        have : i = sL σ f := by omega
        rw [this]
  have inner : ∀ (e : Int) (g : Int → Option Int), 0 ≤ e → e < sE σ → ∀ (n : Nat) (f : Int), 0 ≤ f → f ≤ sP σ → (sP σ - f).toNat < n → f_X10_lonely_L17 s μ e g n (ctE σ e f.toNat) f = g (ctE σ e (sP σ).toNat) := by
    intro e g e0 e1 n
    induction n with
    | zero => intro f _ _ h; omega
    | succ n ih =>
      intro f f0 f1 f2
      unfold f_X10_lonely_L17
      rw [chk_pos h3, hs.2.2.1]
      by_cases hf : f < sP σ
      · have hb := ctE_b σ e f.toNat (fun g a b => (hw.2.2 g a (by omega)).2.1)
        have hl := hw.2.2 f f0 hf
        have hr := rim e f (ctE σ e f.toNat) (f_X10_lonely_K78 f (f_X10_lonely_L17 s μ e g n)) e0 e1 f0 hf hb.1 (by omega) zfu 0 (by omega) (by omega) (by unfold zfu; omega)
        rw [show nby σ (2 ^ e.toNat) f (0 : Int).toNat = 0 from rfl, Int.add_zero] at hr
        rw [if_pos hf, hr]
        unfold f_X10_lonely_K78
        simp only [zlet]
        rw [zw_eq (by omega) (by omega), ← ctE_s σ e f0]
        exact ih (f + 1) (by omega) (by omega) (by omega)
      · rw [if_neg hf]
        have : f = sP σ := by omega
        rw [this]
  have key : ∀ (n : Nat) (e : Int), 0 ≤ e → e ≤ sE σ → (sE σ - e).toNat < n → f_X10_lonely_L2 s μ n e = some (if lsu (fun e => decide (ctE σ e (sP σ).toNat = 1)) (sE σ - e).toNat e = -1 then -4 else lsu (fun e => decide (ctE σ e (sP σ).toNat = 1)) (sE σ - e).toNat e) := by
    intro n
    induction n with
    | zero => intro e _ _ h; omega
    | succ n ih =>
      intro e e0 e1 e2
      unfold f_X10_lonely_L2
      rw [chk_pos h3, hs.2.1]
      by_cases he : e < sE σ
      · rw [if_pos he]
        have hin := inner e (f_X10_lonely_K84 e (f_X10_lonely_L2 s μ n)) e0 he zfu 0 (by omega) p1 (by unfold zfu; omega)
        rw [show ctE σ e (0 : Int).toNat = 0 from rfl] at hin
        rw [hin, show (sE σ - e).toNat = (sE σ - (e + 1)).toNat + 1 by omega]
        unfold f_X10_lonely_K84 lsu
        simp only [zlet]
        rw [zw_eq (by omega) (by omega)]
        by_cases h1 : ctE σ e (sP σ).toNat = 1
        · rw [if_pos h1]
          simp only [h1, decide_true, if_true]
          rw [if_neg (by omega)]
        · rw [if_neg h1, ih (e + 1) (by omega) (by omega) (by omega)]
          simp only [h1, decide_false, Bool.false_eq_true, if_false]
      · rw [if_neg he, show (sE σ - e).toNat = 0 by omega]
        rfl
  unfold f_X10_lonely lon
  rw [key zfu 0 (by omega) hE.1 (by unfold zfu; omega), Int.sub_zero]
theorem rn_stp {e c : Int} (hc : 0 ≤ c) (hne : c / 2 ≠ e) (he : 0 ≤ e) : (if stp c ≤ 0 then stp c + (if c / 2 ≤ e then 0 else 1) else stp c - (if c / 2 ≤ e then 0 else 1)) = stp (rn e c) := by
  unfold rn stp
  by_cases h0 : c % 2 = 0
  · rw [if_pos h0, if_neg (by omega)]
    by_cases h1 : e < c / 2
    · rw [if_pos h1, if_neg (by omega), if_pos (by omega)]; omega
    · rw [if_neg h1, if_pos (by omega), if_pos h0]; omega
  · rw [if_neg h0, if_pos (by omega)]
    by_cases h1 : e < c / 2
    · rw [if_pos h1, if_neg (by omega), if_neg (by omega)]; omega
    · rw [if_neg h1, if_pos (by omega), if_neg h0]; omega
set_option maxHeartbeats 2000000 in
theorem m_foldOne {e f : Int} (hs : MS μ s σ) (h3 : 0 ≤ s ∧ s < 3) (hw : WfP σ 8) (hE : 0 ≤ sE σ ∧ sE σ ≤ 12) (he : 0 ≤ e ∧ e < sE σ) (hf : 0 ≤ f ∧ f < sP σ) (h1 : nby σ (2 ^ e.toNat) f (sL σ f).toNat ≠ 0) (h2 : ∀ g, 0 ≤ g → g < sP σ → g ≠ f → nby σ (2 ^ e.toNat) g (sL σ g).toNat = 0) : Ok (f_X10_foldOne s e μ) (fun μ' => MS μ' s (fld σ f e) ∧ Ms s μ μ' ∧ ∀ c, ¬ (102 ≤ c ∧ c ≤ 108) → μ' c = μ c) := by
  obtain ⟨m1, m2, m3, m4, m5⟩ := hs
  have hs' : MS μ s σ := ⟨m1, m2, m3, m4, m5⟩
  have p1 := hw.1
  have p2 := hw.2.1
  have hnn : ∀ g, 0 ≤ g → g < sP σ → (nby σ (2 ^ e.toNat) g (sL σ g).toNat = 0 ↔ ∀ i : Int, 0 ≤ i → i < sL σ g → sR σ g i / 2 ≠ e) := by
    intro g g0 g1
    have hl := hw.2.2 g g0 g1
    have := nby_0 (σ := σ) (f := g) he.1 (sL σ g).toNat (fun i a b => (hl.2.2.1 i a (by omega)).1)
    rw [this]
    exact ⟨fun q i a b => q i a (by omega), fun q i a b => q i a (by omega)⟩
  -- the edges close up
  have k208 : ∀ (n : Nat) (k : Int) (μ1 : zMem), e ≤ k → k ≤ sE σ - 1 → (sE σ - 1 - k).toNat < n → (∀ c, c ≠ 105 → c ≠ 106 → c ≠ 103 → ¬ (102 ≤ c ∧ c ≤ 108) → μ1 c = μ c) → μ1 102 s = sC σ → μ1 103 s = sE σ → μ1 104 s = sP σ - 1 → (∀ g, 0 ≤ g → g < sP σ - 1 → μ1 107 (32 * s + g) = sL (fld σ f e) g ∧ ∀ i, 0 ≤ i → i < sL (fld σ f e) g → μ1 108 (8 * (32 * s + g) + i) = stp (sR (fld σ f e) g i)) → (∀ x, 0 ≤ x → x < sE σ → μ1 105 (48 * s + x) = (if e ≤ x ∧ x < k then sF σ (x + 1) else sF σ x) ∧ μ1 106 (48 * s + x) = (if e ≤ x ∧ x < k then sT σ (x + 1) else sT σ x)) → Ms s μ μ1 → Ok (f_X10_foldOne_L208 s (f_X10_foldOne_K279 s) n k μ1) (fun μ' => MS μ' s (fld σ f e) ∧ Ms s μ μ' ∧ ∀ c, ¬ (102 ≤ c ∧ c ≤ 108) → μ' c = μ c) := by
    intro n
    induction n with
    | zero => intro k μ1 _ _ h; omega
    | succ n ih =>
      intro k μ1 k0 k1 k2 f1 f2 f3 f4 f5 f6 f7
      unfold f_X10_foldOne_L208
      rw [chk_pos h3, f3, zw_eq (x := k + 1) (by omega) (by omega)]
      by_cases hk : k + 1 < sE σ
      · rw [if_pos hk, zw_eq (x := 48 * s) (by omega) (by omega), zw_eq (x := 48 * s + k) (by omega) (by omega), zw_eq (x := 48 * s + k + 1) (by omega) (by omega), chk_pos (by omega), chk_pos (by omega)]
        simp only [zlet]
        rw [chk_pos (by omega), chk_pos (by omega), zup_n _ _ _ (show (106 : Int) ≠ 105 by decide)]
        have v1 : μ1 105 (48 * s + k + 1) = sF σ (k + 1) := by rw [show 48 * s + k + 1 = 48 * s + (k + 1) by omega, (f6 (k + 1) (by omega) hk).1, if_neg (by omega)]
        have v2 : μ1 106 (48 * s + k + 1) = sT σ (k + 1) := by rw [show 48 * s + k + 1 = 48 * s + (k + 1) by omega, (f6 (k + 1) (by omega) hk).2, if_neg (by omega)]
        rw [v1, v2]
        refine ih (k + 1) _ (by omega) (by omega) (by omega) (fun c x y z u => by rw [zup_n _ _ _ y, zup_n _ _ _ x]; exact f1 c x y z u) (by rw [zup_n _ _ _ (by decide), zup_n _ _ _ (by decide)]; exact f2) (by rw [zup_n _ _ _ (by decide), zup_n _ _ _ (by decide)]; exact f3) (by rw [zup_n _ _ _ (by decide), zup_n _ _ _ (by decide)]; exact f4) (by rw [zup_n _ _ _ (by decide), zup_n _ _ _ (by decide), zup_n _ _ _ (by decide), zup_n _ _ _ (by decide)]; exact f5) (fun x x0 x1 => ?_) (f7.trans ⟨fun x hx => ?_, fun i hi => ?_, fun i hi => ?_, fun i hi => ?_⟩)
        · have h6 := f6 x x0 x1
          refine ⟨?_, ?_⟩
          · rw [zup_n _ _ _ (by decide), zup_s, up1_e]
            by_cases hx : x = k
            · rw [if_pos (by omega), if_pos (by omega), hx]
            · rw [if_neg (by omega), h6.1]
              by_cases hq : e ≤ x ∧ x < k
              · rw [if_pos hq, if_pos (by omega)]
              · rw [if_neg hq, if_neg (by omega)]
          · rw [zup_s, up1_e]
            by_cases hx : x = k
            · rw [if_pos (by omega), if_pos (by omega), hx]
            · rw [if_neg (by omega), zup_n _ _ _ (by decide), h6.2]
              by_cases hq : e ≤ x ∧ x < k
              · rw [if_pos hq, if_pos (by omega)]
              · rw [if_neg hq, if_neg (by omega)]
        · simp (disch := omega) only [zup_n]; exact ⟨trivial, trivial, trivial⟩
        · simp (disch := omega) only [zup_n, zup_s, up1_n]; exact ⟨trivial, trivial⟩
        · simp (disch := omega) only [zup_n]
        · simp (disch := omega) only [zup_n]
      · rw [if_neg hk]
        have hke : k = sE σ - 1 := by omega
        unfold f_X10_foldOne_K279
        rw [chk_pos h3, chk_pos h3, f3, zw_eq (by omega) (by omega)]
        simp only [zlet]
        refine ok_some.mpr ⟨⟨?_, ?_, ?_, fun x x0 x1 => ?_, fun g g0 g1 => ?_⟩, f7.trans ⟨fun x hx => ?_, fun i hi => ?_, fun i hi => ?_, fun i hi => ?_⟩, fun c hc => ?_⟩
        · rw [zup_n _ _ _ (by decide)]; exact f2
        · rw [zup_s, up1_s]; rfl
        · rw [zup_n _ _ _ (by decide)]; exact f4
        · have x2 : x < sE σ - 1 := x1
          rw [zup_n _ _ _ (by decide), zup_n _ _ _ (by decide), (f6 x x0 (by omega)).1, (f6 x x0 (by omega)).2]
          refine ⟨?_, ?_⟩
          · show _ = (if x < e then sF σ x else sF σ (x + 1))
            by_cases hq : x < e
            · rw [if_neg (by omega), if_pos hq]
            · rw [if_pos (by omega), if_neg hq]
          · show _ = (if x < e then sT σ x else sT σ (x + 1))
            by_cases hq : x < e
            · rw [if_neg (by omega), if_pos hq]
            · rw [if_pos (by omega), if_neg hq]
        · rw [zup_n _ _ _ (by decide), zup_n _ _ _ (by decide)]; exact f5 g g0 g1
        · simp (disch := omega) only [zup_n, zup_s, up1_n]; exact ⟨trivial, trivial, trivial⟩
        · simp (disch := omega) only [zup_n]; exact ⟨trivial, trivial⟩
        · simp (disch := omega) only [zup_n]
        · simp (disch := omega) only [zup_n]
        · rw [zup_n _ _ _ (by omega)]; exact f1 c (by omega) (by omega) (by omega) hc
  -- the panes close up
  have k5 : ∀ (n : Nat) (g : Int) (μ1 : zMem), 0 ≤ g → g ≤ sP σ → (sP σ - g).toNat < n → (∀ c, c ≠ 107 → c ≠ 108 → μ1 c = μ c) → (∀ h, 0 ≤ h → h < (if g ≤ f then g else g - 1) → μ1 107 (32 * s + h) = sL (fld σ f e) h ∧ ∀ i, 0 ≤ i → i < sL (fld σ f e) h → μ1 108 (8 * (32 * s + h) + i) = stp (sR (fld σ f e) h i)) → (∀ h, g ≤ h → h < sP σ → μ1 107 (32 * s + h) = sL σ h ∧ ∀ i, 0 ≤ i → i < sL σ h → μ1 108 (8 * (32 * s + h) + i) = stp (sR σ h i)) → Ms s μ μ1 → Ok (f_X10_foldOne_L5 s e (f_X10_foldOne_K198 s e) n (if g ≤ f then g else g - 1) g μ1) (fun μ' => MS μ' s (fld σ f e) ∧ Ms s μ μ' ∧ ∀ c, ¬ (102 ≤ c ∧ c ≤ 108) → μ' c = μ c) := by
    intro n
    induction n with
    | zero => intro g μ1 _ _ h; omega
    | succ n ih =>
      intro g μ1 g0 g1 g2 f1 f5 f6 f7
      unfold f_X10_foldOne_L5
      rw [chk_pos h3, f1 104 (by decide) (by decide), m3]
      by_cases hg : g < sP σ
      · obtain ⟨q1, q2, q3, q4, q5⟩ := hw.2.2 g g0 hg
        have hg6 := f6 g (by omega) hg
        rw [if_pos hg]
        have hrimAt : ∀ (μ2 : zMem) (i : Int), 0 ≤ i → i < sL σ g → μ2 108 (8 * (32 * s + g) + i) = stp (sR σ g i) → f_X10_rimAt s g i μ2 = some (stp (sR σ g i)) := by
          intro μ2 i i0 i1 hv
          unfold f_X10_rimAt
          rw [zw_eq (x := 32 * s) (by omega) (by omega), zw_eq (x := 32 * s + g) (by omega) (by omega), zw_eq (x := 8 * (32 * s + g)) (by omega) (by omega), zw_eq (by omega) (by omega), chk_pos (by omega), hv]
        -- does it have the edge
        have has : ∀ (K : Int → zMem → Option zMem) (m : Nat) (i x : Int), 0 ≤ i → i ≤ sL σ g → (sL σ g - i).toNat < m → (x = 0 ∨ x = 1) → ((x = 0 ∧ ∀ j, i ≤ j → j < sL σ g → sR σ g j / 2 ≠ e) → f_X10_foldOne_L22 s e g K m x i μ1 = K 0 μ1) ∧ (¬ (x = 0 ∧ ∀ j, i ≤ j → j < sL σ g → sR σ g j / 2 ≠ e) → f_X10_foldOne_L22 s e g K m x i μ1 = K 1 μ1) := by
          intro K m
          induction m with
          | zero => intro i x _ _ h; omega
          | succ m ihm =>
            intro i x i0 i1 i2 hx
            unfold f_X10_foldOne_L22 f_X10_foldOne_J60 f_X10_foldOne_J65
            simp only [zlet]
            rw [zw_eq (x := 32 * s) (by omega) (by omega), zw_eq (x := 32 * s + g) (by omega) (by omega), chk_pos (by omega), hg6.1]
            by_cases hi : i < sL σ g
            · have hr := q3 i i0 hi
              have n0 := ihm (i + 1) 0 (by omega) (by omega) (by omega) (by omega)
              have n1 := ihm (i + 1) 1 (by omega) (by omega) (by omega) (by omega)
              rw [if_pos hi, zw_eq (x := i + 1) (by omega) (by omega)]
              by_cases hx0 : x = 0
              · rw [if_pos hx0, hrimAt μ1 i i0 hi (hg6.2 i i0 hi), bnd_pos rfl, edgeOfE (by omega)]
                by_cases hc : sR σ g i / 2 = e
                · rw [if_pos hc]
                  exact ⟨fun q => absurd hc (q.2 i (by omega) hi), fun _ => n1.2 (fun q => by omega)⟩
                · rw [if_neg hc]
                  refine ⟨fun q => n0.1 ⟨rfl, fun j a b => q.2 j (by omega) b⟩, fun q => n0.2 (fun r => q ⟨hx0, fun j a b => ?_⟩)⟩
                  by_cases hj : j = i
                  · rw [hj]; exact hc
                  · exact r.2 j (by omega) b
              · rw [if_neg hx0]
                exact ⟨fun q => absurd q.1 hx0, fun _ => n1.2 (fun q => by omega)⟩
            · rw [if_neg hi]
              refine ⟨fun q => by rw [q.1], fun q => ?_⟩
              have : x = 1 := by
                rcases hx with hx | hx
                · exact absurd ⟨hx, fun j a b => by omega⟩ q
                · exact hx
              rw [this]
        by_cases hgf : g = f
        · subst hgf
          have hex : ¬ (∀ i : Int, 0 ≤ i → i < sL σ g → sR σ g i / 2 ≠ e) := fun q => h1 ((hnn g g0 hg).mpr q)
          rw [(has _ zfu 0 0 (by omega) (by omega) (by unfold zfu; omega) (by omega)).2 (fun q => hex (fun i a b => q.2 i a b))]
          unfold f_X10_foldOne_K73
          rw [if_neg (by decide)]
          simp only [zlet]
          rw [zw_eq (by omega) (by omega)]
          have := ih (g + 1) μ1 (by omega) (by omega) (by omega) f1 (fun h a b => f5 h a (by rw [if_pos (Int.le_refl g)]; rw [if_neg (by omega)] at b; omega)) (fun h a b => f6 h (by omega) b) f7
          rw [if_neg (by omega), show g + 1 - 1 = g by omega] at this
          rw [if_pos (Int.le_refl g)]
          exact this
        · have hno := (hnn g g0 hg).mp (h2 g g0 hg hgf)
          rw [(has _ zfu 0 0 (by omega) (by omega) (by unfold zfu; omega) (by omega)).1 ⟨rfl, fun j a b => hno j a b⟩]
          generalize hat : (if g ≤ f then g else g - 1) = at_ at *
          have hatr : 0 ≤ at_ ∧ at_ ≤ g ∧ (g < f → at_ = g) ∧ (f < g → at_ = g - 1) := by
            rw [← hat]
            split <;> omega
          have hLat : sL (fld σ f e) at_ = sL σ g ∧ ∀ i, sR (fld σ f e) at_ i = rn e (sR σ g i) := by
            by_cases hlt : g < f
            · rw [hatr.2.2.1 hlt]
              exact ⟨if_pos hlt, fun i => congrArg (rn e) (if_pos hlt)⟩
            · rw [hatr.2.2.2 (by omega)]
              have hn : ¬ g - 1 < f := by omega
              have e1 : sL (fld σ f e) (g - 1) = sL σ (g - 1 + 1) := if_neg hn
              have e2 : ∀ i, sR (fld σ f e) (g - 1) i = rn e (sR σ (g - 1 + 1) i) := fun i => congrArg (rn e) (if_neg hn)
              rw [show g - 1 + 1 = g by omega] at e1 e2
              exact ⟨e1, e2⟩
          have hnext : (if g + 1 ≤ f then g + 1 else g + 1 - 1) = at_ + 1 := by
            rw [← hat]
            split <;> split <;> omega
          unfold f_X10_foldOne_K73
          rw [if_pos rfl, zw_eq (x := 32 * s) (by omega) (by omega), zw_eq (x := 32 * s + g) (by omega) (by omega), zw_eq (x := 32 * s + at_) (by omega) (by omega), chk_pos (by omega), chk_pos (by omega), hg6.1]
          simp only [zlet]
          have copy : ∀ (m : Nat) (i : Int) (μ2 : zMem), 0 ≤ i → i ≤ sL σ g → (sL σ g - i).toNat < m → (∀ c, c ≠ 107 → c ≠ 108 → μ2 c = μ1 c) → μ2 107 = up1 (μ1 107) (32 * s + at_) (sL σ g) → (∀ x, μ2 108 x = if 8 * (32 * s + at_) ≤ x ∧ x < 8 * (32 * s + at_) + i then stp (rn e (sR σ g (x - 8 * (32 * s + at_)))) else μ1 108 x) → Ok (f_X10_foldOne_L104 s e at_ g (f_X10_foldOne_K189 at_ g (f_X10_foldOne_L5 s e (f_X10_foldOne_K198 s e) n)) m i μ2) (fun μ' => MS μ' s (fld σ f e) ∧ Ms s μ μ' ∧ ∀ c, ¬ (102 ≤ c ∧ c ≤ 108) → μ' c = μ c) := by
            intro m
            induction m with
            | zero => intro i μ2 _ _ h; omega
            | succ m ihm =>
              intro i μ2 i0 i1 i2 j1 j2 j3
              have hl7 : μ2 107 (32 * s + g) = sL σ g := by
                rw [j2, up1_e]
                by_cases hq : g = at_
                · rw [if_pos (by omega)]
                · rw [if_neg (by omega)]; exact hg6.1
              unfold f_X10_foldOne_L104
              rw [zw_eq (x := 32 * s) (by omega) (by omega), zw_eq (x := 32 * s + g) (by omega) (by omega), chk_pos (by omega), hl7]
              by_cases hi : i < sL σ g
              · have hr := q3 i i0 hi
                have hne := hno i i0 hi
                have hv : μ2 108 (8 * (32 * s + g) + i) = stp (sR σ g i) := by
                  rw [j3, if_neg (by omega)]; exact hg6.2 i i0 hi
                have hsr : -100 ≤ stp (sR σ g i) ∧ stp (sR σ g i) ≤ 100 := by unfold stp; split <;> omega
                rw [if_pos hi, hrimAt μ2 i i0 hi hv, bnd_pos rfl, edgeOfE (by omega)]
                unfold f_X10_foldOne_J146 f_X10_foldOne_J182
                have h01 : (if sR σ g i / 2 ≤ e then (0 : Int) else 1) = 0 ∨ (if sR σ g i / 2 ≤ e then (0 : Int) else 1) = 1 := by split <;> omega
                rw [zw_eq (x := stp (sR σ g i) + _) (by omega) (by omega), zw_eq (x := stp (sR σ g i) - _) (by omega) (by omega), rn_stp hr.1 hne he.1, zw_eq (x := 32 * s) (by omega) (by omega), zw_eq (x := 32 * s + at_) (by omega) (by omega), zw_eq (x := 8 * (32 * s + at_)) (by omega) (by omega), zw_eq (x := 8 * (32 * s + at_) + i) (by omega) (by omega), chk_pos (by omega)]
                simp only [zlet]
                rw [zw_eq (by omega) (by omega)]
                refine ihm (i + 1) _ (by omega) (by omega) (by omega) (fun c x y => by rw [zup_n _ _ _ y]; exact j1 c x y) (by rw [zup_n _ _ _ (by decide)]; exact j2) (fun x => ?_)
                rw [zup_s, up1_e]
                by_cases hx : x = 8 * (32 * s + at_) + i
                · rw [if_pos hx, if_pos (by omega), hx, show 8 * (32 * s + at_) + i - 8 * (32 * s + at_) = i by omega]
                · rw [if_neg hx, j3]
                  by_cases hx2 : 8 * (32 * s + at_) ≤ x ∧ x < 8 * (32 * s + at_) + i
                  · rw [if_pos hx2, if_pos (by omega)]
                  · rw [if_neg hx2, if_neg (by omega)]
              · rw [if_neg hi]
                have hie : i = sL σ g := by omega
                subst hie
                unfold f_X10_foldOne_K189
                simp only [zlet]
                rw [zw_eq (by omega) (by omega), zw_eq (by omega) (by omega)]
                have := ih (g + 1) μ2 (by omega) (by omega) (by omega) (fun c x y => by rw [j1 c x y]; exact f1 c x y) (fun h a b => ?_) (fun h a b => ?_) (f7.trans ⟨fun x hx => ?_, fun x hx => ?_, fun x hx => ?_, fun x hx => ?_⟩)
                · rw [hnext] at this
                  exact this
                · rw [hnext] at b
                  by_cases hh : h = at_
                  · rw [hh, hLat.1]
                    refine ⟨by rw [j2, up1_s], fun i x y => ?_⟩
                    rw [j3, if_pos (by omega), show 8 * (32 * s + at_) + i - 8 * (32 * s + at_) = i by omega, hLat.2 i]
                  · have hold := f5 h a (by omega)
                    have h8 : sL (fld σ f e) h ≤ 8 := by
                      by_cases hq : h < f
                      · have e1 : sL (fld σ f e) h = sL σ h := if_pos hq
                        rw [e1]; exact (hw.2.2 h a (by omega)).2.1
                      · have e1 : sL (fld σ f e) h = sL σ (h + 1) := if_neg hq
                        rw [e1]; exact (hw.2.2 (h + 1) (by omega) (by omega)).2.1
                    refine ⟨by rw [j2, up1_n _ _ (by omega)]; exact hold.1, fun i x y => ?_⟩
                    rw [j3, if_neg (by omega)]; exact hold.2 i x y
                · have hold := f6 h (by omega) b
                  have h8 := (hw.2.2 h (by omega) b).2.1
                  refine ⟨by rw [j2, up1_n _ _ (by omega)]; exact hold.1, fun i x y => ?_⟩
                  rw [j3, if_neg (by omega)]; exact hold.2 i x y
                · rw [j1 102 (by decide) (by decide), j1 103 (by decide) (by decide), j1 104 (by decide) (by decide)]; exact ⟨rfl, rfl, rfl⟩
                · rw [j1 105 (by decide) (by decide), j1 106 (by decide) (by decide)]; exact ⟨rfl, rfl⟩
                · rw [j2, up1_n _ _ (by omega)]
                · rw [j3, if_neg (by omega)]
          exact copy zfu 0 _ (by omega) (by omega) (by unfold zfu; omega) (fun c x y => by rw [zup_n _ _ _ x]) (by rw [zup_s]) (fun x => by rw [zup_n _ _ _ (by decide), if_neg (by omega)])
      · rw [if_neg hg]
        have hge : g = sP σ := by omega
        subst hge
        rw [if_neg (show ¬ sP σ ≤ f by omega)] at f5 ⊢
        unfold f_X10_foldOne_K198
        rw [chk_pos h3]
        simp only [zlet]
        refine k208 zfu e _ (by omega) (by omega) (by unfold zfu; omega) (fun c x y z u => by rw [zup_n _ _ _ (by omega)]; exact f1 c (by omega) (by omega)) (by rw [zup_n _ _ _ (by decide), f1 102 (by decide) (by decide)]; exact m1) (by rw [zup_n _ _ _ (by decide), f1 103 (by decide) (by decide)]; exact m2) (by rw [zup_s, up1_s]) (by rw [zup_n _ _ _ (by decide), zup_n _ _ _ (by decide)]; exact f5) (fun x x0 x1 => ?_) (f7.trans ⟨fun x hx => ?_, fun i hi => ?_, fun i hi => ?_, fun i hi => ?_⟩)
        · rw [zup_n _ _ _ (by decide), zup_n _ _ _ (by decide), f1 105 (by decide) (by decide), f1 106 (by decide) (by decide), if_neg (by omega), if_neg (by omega)]; exact m4 x x0 x1
        · simp (disch := omega) only [zup_n, zup_s, up1_n]; exact ⟨trivial, trivial, trivial⟩
        · simp (disch := omega) only [zup_n]; exact ⟨trivial, trivial⟩
        · simp (disch := omega) only [zup_n]
        · simp (disch := omega) only [zup_n]
  unfold f_X10_foldOne
  have := k5 zfu 0 μ (by omega) p1 (by unfold zfu; omega) (fun _ _ _ => rfl) (fun h a b => by rw [if_pos hf.1] at b; omega) (fun h a b => m5 h a b) (Ms.refl s μ)
  rw [if_pos hf.1] at this
  exact this
end
