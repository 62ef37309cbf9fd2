/-! fold -/
def ctE (σ : Sp) (e : Int) : Nat → Int
  | 0 => 0
  | n + 1 => ctE σ e n + nby σ (2 ^ e.toNat) n (sL σ n).toNat
theorem ctE_s (σ : Sp) (e : Int) {f : Int} (h : 0 ≤ f) : ctE σ e (f + 1).toNat = ctE σ e f.toNat + nby σ (2 ^ e.toNat) f (sL σ f).toNat := by
  rw [show (f + 1).toNat = f.toNat + 1 by omega]
  show ctE σ e f.toNat + nby σ (2 ^ e.toNat) ((f.toNat : Nat) : Int) (sL σ ((f.toNat : Nat) : Int)).toNat = _
  rw [show ((f.toNat : Nat) : Int) = f by omega]
theorem ctE_b (σ : Sp) (e : Int) (n : Nat) (hl : ∀ f : Int, 0 ≤ f → f < n → sL σ f ≤ 8) : 0 ≤ ctE σ e n ∧ ctE σ e n ≤ 8 * n := by
  induction n with
  | zero => exact ⟨Int.le_refl 0, Int.le_refl 0⟩
  | succ n ih =>
    have h1 := ih (fun f a b => hl f a (by omega))
    have h2 := nby_b σ (2 ^ e.toNat) n (sL σ n).toNat
    have h3 := hl n (by omega) (by omega)
    unfold ctE
    omega
/-- just one step: just one pane has it -/
theorem ctE_1 {σ : Sp} {e : Int} {n : Nat} (hl : ∀ f : Int, 0 ≤ f → f < n → sL σ f ≤ 8) (h : ctE σ e n = 1) : ∃ f : Int, 0 ≤ f ∧ f < n ∧ nby σ (2 ^ e.toNat) f (sL σ f).toNat ≠ 0 ∧ ∀ g : Int, 0 ≤ g → g < n → g ≠ f → nby σ (2 ^ e.toNat) g (sL σ g).toNat = 0 := by
  have zero : ∀ m : Nat, m ≤ n → ctE σ e m = 0 → ∀ g : Int, 0 ≤ g → g < m → nby σ (2 ^ e.toNat) g (sL σ g).toNat = 0 := by
    intro m
    induction m with
    | zero => intro _ _ g a b; omega
    | succ m ih =>
      intro hm h0 g a b
      have hb := ctE_b σ e m (fun f x y => hl f x (by omega))
      have hn := nby_b σ (2 ^ e.toNat) m (sL σ m).toNat
      unfold ctE at h0
      by_cases hg : g = m
      · rw [hg]; omega
      · exact ih (by omega) (by omega) g a (by omega)
  have key : ∀ m : Nat, m ≤ n → ctE σ e m = 1 → ∃ f : Int, 0 ≤ f ∧ f < m ∧ nby σ (2 ^ e.toNat) f (sL σ f).toNat ≠ 0 ∧ ∀ g : Int, 0 ≤ g → g < m → g ≠ f → nby σ (2 ^ e.toNat) g (sL σ g).toNat = 0 := by
    intro m
    induction m with
    | zero => intro _ h; exact absurd h (by show ¬ (0 : Int) = 1; decide)
    | succ m ih =>
      intro hm h1
      have hb := ctE_b σ e m (fun f x y => hl f x (by omega))
      have hn := nby_b σ (2 ^ e.toNat) m (sL σ m).toNat
      unfold ctE at h1
      by_cases hz : nby σ (2 ^ e.toNat) m (sL σ m).toNat = 0
      · obtain ⟨f, f0, f1, f2, f3⟩ := ih (by omega) (by omega)
        refine ⟨f, f0, by omega, f2, fun g a b c => ?_⟩
        by_cases hg : g = m
        · rw [hg]; exact hz
        · exact f3 g a (by omega) c
      · refine ⟨m, by omega, by omega, hz, fun g a b c => ?_⟩
        exact zero m (by omega) (by omega) g a (by omega)
  exact key n (Nat.le_refl n) h
/-- no step of a rim goes by e, or one does -/
theorem nby_0 {σ : Sp} {e f : Int} (he : 0 ≤ e) (n : Nat) (hr : ∀ i : Int, 0 ≤ i → i < n → 0 ≤ sR σ f i) : nby σ (2 ^ e.toNat) f n = 0 ↔ ∀ i : Int, 0 ≤ i → i < n → sR σ f i / 2 ≠ e := by
  induction n with
  | zero => exact ⟨fun _ i a b => by omega, fun _ => rfl⟩
  | succ n ih =>
    have ih := ih (fun i a b => hr i a (by omega))
    have hb := nby_b σ (2 ^ e.toNat) f n
    have h1 := hr n (by omega) (by omega)
    unfold nby
    rw [bt_pow (by omega) he]
    constructor
    · intro h i a b
      by_cases hi : i = n
      · rw [hi]
        intro hc
        rw [if_pos hc] at h
        omega
      · exact ih.mp (by split at h <;> omega) i a (by omega)
    · intro h
      rw [if_neg (h n (by omega) (by omega)), ih.mpr (fun i a b => h i a (by omega))]
      rfl
def lon (σ : Sp) : Int := lsu (fun e => decide (ctE σ e (sP σ).toNat = 1)) (sE σ).toNat 0
def rn (e c : Int) : Int := if e < c / 2 then c - 2 else c
def dropP (σ : Sp) (f : Int) : Sp := ((sC σ, sE σ, sP σ - 1), sF σ, sT σ, (fun g => if g < f then sL σ g else sL σ (g + 1)), (fun g i => if g < f then sR σ g i else sR σ (g + 1) i))
def dropE (σ : Sp) (e : Int) : Sp := ((sC σ, sE σ - 1, sP σ), (fun k => if k < e then sF σ k else sF σ (k + 1)), (fun k => if k < e then sT σ k else sT σ (k + 1)), sL σ, (fun g i => rn e (sR σ g i)))
theorem dropE_AB {σ : Sp} {e c : Int} (hc : 0 ≤ c) (he : c / 2 ≠ e) : sA (dropE σ e) (rn e c) = sA σ c ∧ sB (dropE σ e) (rn e c) = sB σ c := by
  unfold rn
  by_cases h : e < c / 2
  · rw [if_pos h]
    have e1 : sF (dropE σ e) ((c - 2) / 2) = sF σ (c / 2) := by
      show (if (c - 2) / 2 < e then sF σ ((c - 2) / 2) else sF σ ((c - 2) / 2 + 1)) = _
      rw [if_neg (by omega), show (c - 2) / 2 + 1 = c / 2 by omega]
    have e2 : sT (dropE σ e) ((c - 2) / 2) = sT σ (c / 2) := by
      show (if (c - 2) / 2 < e then sT σ ((c - 2) / 2) else sT σ ((c - 2) / 2 + 1)) = _
      rw [if_neg (by omega), show (c - 2) / 2 + 1 = c / 2 by omega]
    unfold sA sB
    rw [e1, e2, show (c - 2) % 2 = c % 2 by omega]
    exact ⟨rfl, rfl⟩
  · rw [if_neg h]
    have e1 : sF (dropE σ e) (c / 2) = sF σ (c / 2) := by
      show (if c / 2 < e then sF σ (c / 2) else sF σ (c / 2 + 1)) = _
      rw [if_pos (by omega)]
    have e2 : sT (dropE σ e) (c / 2) = sT σ (c / 2) := by
      show (if c / 2 < e then sT σ (c / 2) else sT σ (c / 2 + 1)) = _
      rw [if_pos (by omega)]
    unfold sA sB
    rw [e1, e2]
    exact ⟨rfl, rfl⟩
/-- the space with pane f and edge e gone -/
def fld (σ : Sp) (f e : Int) : Sp := dropE (dropP σ f) e
theorem fld_wf {σ : Sp} {f e : Int} (w : WfE σ 8 12) (p : WfP σ 8) (he : 0 ≤ e ∧ e < sE σ) (hf : 0 ≤ f ∧ f < sP σ) (hn : ∀ g, 0 ≤ g → g < sP σ → g ≠ f → ∀ i, 0 ≤ i → i < sL σ g → sR σ g i / 2 ≠ e) : WfE (fld σ f e) 8 12 ∧ WfP (fld σ f e) 8 := by
  obtain ⟨a1, a2, a3, a4, a5⟩ := w
  obtain ⟨c1, c2, c3⟩ := p
  refine ⟨⟨a1, a2, show 0 ≤ sE σ - 1 by omega, show sE σ - 1 ≤ 12 by omega, fun k k0 k1 => ?_⟩, ⟨show 0 ≤ sP σ - 1 by omega, show sP σ - 1 ≤ 8 by omega, fun g g0 g1 => ?_⟩⟩
  · have k2 : k < sE σ - 1 := k1
    show 0 ≤ (if k < e then sF σ k else sF σ (k + 1)) ∧ (if k < e then sF σ k else sF σ (k + 1)) < sC σ ∧ 0 ≤ (if k < e then sT σ k else sT σ (k + 1)) ∧ (if k < e then sT σ k else sT σ (k + 1)) < sC σ
    by_cases h : k < e
    · rw [if_pos h, if_pos h]; exact a5 k k0 (by omega)
    · rw [if_neg h, if_neg h]; exact a5 (k + 1) (by omega) (by omega)
  · have g2 : g < sP σ - 1 := g1
    -- the pane it was
    have hold : ∃ h : Int, 0 ≤ h ∧ h < sP σ ∧ h ≠ f ∧ sL (fld σ f e) g = sL σ h ∧ ∀ i, sR (fld σ f e) g i = rn e (sR σ h i) := by
      by_cases hg : g < f
      · exact ⟨g, g0, by omega, by omega, if_pos hg, fun i => congrArg (rn e) (if_pos hg)⟩
      · exact ⟨g + 1, by omega, by omega, by omega, if_neg hg, fun i => congrArg (rn e) (if_neg hg)⟩
    obtain ⟨h, h0, h1, h2, h3, h4⟩ := hold
    obtain ⟨q1, q2, q3, q4, q5⟩ := c3 h h0 h1
    have hne := hn h h0 h1 h2
    have hAB : ∀ i, 0 ≤ i → i < sL σ h → sA (fld σ f e) (rn e (sR σ h i)) = sA σ (sR σ h i) ∧ sB (fld σ f e) (rn e (sR σ h i)) = sB σ (sR σ h i) := fun i i0 i1 => dropE_AB (σ := dropP σ f) (q3 i i0 i1).1 (hne i i0 i1)
    rw [h3]
    simp only [h4]
    refine ⟨q1, q2, fun i i0 i1 => ?_, fun i i0 i1 => ?_, ?_⟩
    · have := q3 i i0 i1
      have := hne i i0 i1
      show 0 ≤ rn e (sR σ h i) ∧ rn e (sR σ h i) < 2 * (sE σ - 1)
      unfold rn
      split <;> omega
    · rw [(hAB i i0 (by omega)).2, (hAB (i + 1) (by omega) i1).1]; exact q4 i i0 i1
    · rw [(hAB (sL σ h - 1) (by omega) (by omega)).2, (hAB 0 (by omega) (by omega)).1]; exact q5
section
variable {μ : zMem} {t : Int} {σ : Sp}
theorem c_lonely (hs : CS μ t σ) (hz : SZ t 8 12 8) (hw : WfP σ 8) (hE : 0 ≤ sE σ ∧ sE σ ≤ 12) : f_X5_leastFreeEdge t μ = some (lon σ) := by
  have p1 := hw.1
  have p2 := hw.2.1
  have inner : ∀ (e : Int) (g : Int → Option Int), 0 ≤ e → e < sE σ → ∀ (n : Nat) (f : Int), 0 ≤ f → f ≤ sP σ → (sP σ - f).toNat < n → f_X5_leastFreeEdge_L14 t μ e g n (ctE σ e f.toNat) f = g (ctE σ e (sP σ).toNat) := by
    intro e g e0 e1 n
    induction n with
    | zero => intro f _ _ h; omega
    | succ n ih =>
      intro f f0 f1 f2
      unfold f_X5_leastFreeEdge_L14
      rw [hs.2.2.1]
      by_cases hf : f < sP σ
      · have hb := ctE_b σ e f.toNat (fun g a b => (hw.2.2 g a (by omega)).2.1)
        have hn := nby_b σ (2 ^ e.toNat) f (sL σ f).toNat
        have hl := (hw.2.2 f f0 hf).2.1
        rw [if_pos hf, c_stepsBy hs hz hw hE ⟨e0, by omega⟩ ⟨f0, hf⟩, bnd_pos rfl]
        simp only [zlet]
        rw [zw_eq (by omega) (by omega), zw_eq (by omega) (by omega), ← ctE_s σ e f0]
        exact ih (f + 1) (by omega) (by omega) (by omega)
      · rw [if_neg hf]
        have : f = sP σ := by omega
        rw [this]
  have key : ∀ (n : Nat) (e : Int), 0 ≤ e → e ≤ sE σ → (sE σ - e).toNat < n → f_X5_leastFreeEdge_L2 t μ n e = some (lsu (fun e => decide (ctE σ e (sP σ).toNat = 1)) (sE σ - e).toNat e) := by
    intro n
    induction n with
    | zero => intro e _ _ h; omega
    | succ n ih =>
      intro e e0 e1 e2
      unfold f_X5_leastFreeEdge_L2
      rw [hs.2.1]
      by_cases he : e < sE σ
      · rw [if_pos he]
        have hin := inner e (f_X5_leastFreeEdge_K37 e (f_X5_leastFreeEdge_L2 t μ n)) e0 he zfu 0 (by omega) p1 (by unfold zfu; omega)
        rw [show ctE σ e (0 : Int).toNat = 0 from rfl] at hin
        rw [hin, show (sE σ - e).toNat = (sE σ - (e + 1)).toNat + 1 by omega]
        unfold f_X5_leastFreeEdge_K37 lsu
        simp only [zlet]
        rw [zw_eq (by omega) (by omega)]
        by_cases h1 : ctE σ e (sP σ).toNat = 1
        · rw [if_pos h1]
          simp [h1]
        · rw [if_neg h1, ih (e + 1) (by omega) (by omega) (by omega)]
          simp [h1]
      · rw [if_neg he, show (sE σ - e).toNat = 0 by omega]
        rfl
  unfold f_X5_leastFreeEdge lon
  rw [key zfu 0 (by omega) hE.1 (by unfold zfu; omega), Int.sub_zero]
theorem c_paneBy {e f : Int} (hs : CS μ t σ) (hz : SZ t 8 12 8) (hw : WfP σ 8) (hE : 0 ≤ sE σ ∧ sE σ ≤ 12) (he : 0 ≤ e ∧ e < sE σ) (hf : 0 ≤ f ∧ f < sP σ) (h1 : nby σ (2 ^ e.toNat) f (sL σ f).toNat ≠ 0) (h2 : ∀ g, 0 ≤ g → g < sP σ → g ≠ f → nby σ (2 ^ e.toNat) g (sL σ g).toNat = 0) : f_X5_paneBy t e μ = some f := by
  have p2 := hw.2.1
  have key : ∀ (n : Nat) (x : Int), 0 ≤ x → x ≤ f → (f - x).toNat < n → f_X5_paneBy_L2 t e μ n x = some f := by
    intro n
    induction n with
    | zero => intro x _ _ h; omega
    | succ n ih =>
      intro x x0 x1 x2
      unfold f_X5_paneBy_L2
      rw [hs.2.2.1, zw_eq (by omega) (by omega)]
      by_cases hx : x < sP σ - 1
      · rw [if_pos hx, c_stepsBy hs hz hw hE ⟨he.1, by omega⟩ ⟨x0, by omega⟩, bnd_pos rfl]
        by_cases hxf : x = f
        · subst hxf
          rw [if_neg h1]
        · rw [if_pos (h2 x x0 (by omega) hxf)]
          simp only [zlet]
          rw [zw_eq (by omega) (by omega)]
          exact ih (x + 1) (by omega) (by omega) (by omega)
      · rw [if_neg hx]
        have : x = f := by omega
        rw [this]
  unfold f_X5_paneBy
  exact key zfu 0 (by omega) hf.1 (by unfold zfu; omega)
theorem c_removePane {f : Int} (hs : CS μ t σ) (hz : SZ t 8 12 8) (hw : WfP σ 8) (hf : 0 ≤ f ∧ f < sP σ) : Ok (f_X5_removePane t f μ) (fun μ' => CS μ' t (dropP σ f) ∧ ∀ c, c ≠ t → c ≠ t + 5 → c ≠ t + 6 → μ' c = μ c) := by
  obtain ⟨e1, e2, e3, e4, e5⟩ := hs
  obtain ⟨z1, z2, z3, z4, z5, z6, z7, z8, z9⟩ := hz
  obtain ⟨c1, c2, c3⟩ := hw
  unfold f_X5_removePane
  simp only [zlet]
  rw [e3, zw_eq (x := sP σ - f) (by omega) (by omega), zw_eq (x := sP σ - f - 1) (by omega) (by omega), zw_eq (x := f + 1) (by omega) (by omega), zw_eq (x := (f + 1) * 8) (by omega) (by omega), zw_eq (x := f * 8) (by omega) (by omega), zw_eq (x := (sP σ - f - 1) * 8) (by omega) (by omega), chk_pos (by omega), chk_pos (by omega)]
  have za : ∀ c, c ≠ t + 5 → zcpy μ (t + 5) ((f + 1) * 8) (t + 5) (f * 8) ((sP σ - f - 1) * 8) c = μ c := fun c hc => by
    funext i
    rw [zcpy_eq, if_neg (fun e => hc e.1)]
  generalize hμ2 : zcpy μ (t + 5) ((f + 1) * 8) (t + 5) (f * 8) ((sP σ - f - 1) * 8) = μ2
  rw [hμ2] at za
  have zb : ∀ c, c ≠ t + 6 → zcpy μ2 (t + 6) (f + 1) (t + 6) f (sP σ - f - 1) c = μ2 c := fun c hc => by
    funext i
    rw [zcpy_eq, if_neg (fun e => hc e.1)]
  rw [zb t (by omega), za t (by omega), e3, zw_eq (by omega) (by omega)]
  refine ok_some.mpr ⟨⟨?_, ?_, ?_, fun e h0 h1 => ?_, fun g h0 h1 => ⟨?_, fun i i0 i1 => ?_⟩⟩, fun c x y z => ?_⟩
  · rw [zup_s, up1_n _ _ (by decide), zb t (by omega), za t (by omega)]; exact e1
  · rw [zup_s, up1_n _ _ (by decide), zb t (by omega), za t (by omega)]; exact e2
  · rw [zup_s, up1_s]; rfl
  · rw [zup_n _ _ _ (by omega), zup_n _ _ _ (by omega), zb (t + 1) (by omega), zb (t + 2) (by omega), za (t + 1) (by omega), za (t + 2) (by omega)]; exact e4 e h0 h1
  · have h2 : g < sP σ - 1 := h1
    rw [zup_n _ _ _ (by omega), zcpy_eq, za (t + 6) (by omega)]
    by_cases hg : g < f
    · rw [if_neg (by omega), (e5 g h0 (by omega)).1]; exact (if_pos hg).symm
    · rw [if_pos (by omega), show f + 1 + (g - f) = g + 1 by omega, (e5 (g + 1) (by omega) (by omega)).1]; exact (if_neg hg).symm
  · have h2 : g < sP σ - 1 := h1
    rw [zup_n _ _ _ (by omega), zb (t + 5) (by omega), ← hμ2, zcpy_eq]
    by_cases hg : g < f
    · have i2 : i < sL σ g := by have : sL (dropP σ f) g = sL σ g := if_pos hg; omega
      have := (c3 g h0 (by omega)).2.1
      rw [if_neg (by omega), (e5 g h0 (by omega)).2 i i0 i2]; exact (if_pos hg).symm
    · have i2 : i < sL σ (g + 1) := by have : sL (dropP σ f) g = sL σ (g + 1) := if_neg hg; omega
      have := (c3 (g + 1) (by omega) (by omega)).2.1
      rw [if_pos (by omega), show (f + 1) * 8 + (8 * g + i - f * 8) = 8 * (g + 1) + i by omega, (e5 (g + 1) (by omega) (by omega)).2 i i0 i2]; exact (if_neg hg).symm
  · rw [zup_n _ _ _ x, zb c z, za c y]
theorem c_removeEdge {e : Int} (hs : CS μ t σ) (hz : SZ t 8 12 8) (hw : 0 ≤ sP σ ∧ sP σ ≤ 8) (hl : ∀ g, 0 ≤ g → g < sP σ → 0 ≤ sL σ g ∧ sL σ g ≤ 8 ∧ ∀ i, 0 ≤ i → i < sL σ g → 0 ≤ sR σ g i ∧ sR σ g i < 100) (hE : 0 ≤ sE σ ∧ sE σ ≤ 12) (he : 0 ≤ e ∧ e < sE σ) : Ok (f_X5_removeEdge t e μ) (fun μ' => CS μ' t (dropE σ e) ∧ ∀ c, c ≠ t → c ≠ t + 1 → c ≠ t + 2 → c ≠ t + 5 → μ' c = μ c) := by
  obtain ⟨e1, e2, e3, e4, e5⟩ := hs
  obtain ⟨z1, z2, z3, z4, z5, z6, z7, z8, z9⟩ := hz
  -- all rims are numbered anew
  have key : ∀ (n : Nat) (g : Int) (μ1 : zMem), 0 ≤ g → g ≤ sP σ → (sP σ - g).toNat < n → (∀ c, c ≠ t → c ≠ t + 1 → c ≠ t + 2 → c ≠ t + 5 → μ1 c = μ c) → μ1 t 6 = sC σ → μ1 t 7 = sE σ - 1 → μ1 t 8 = sP σ → (∀ k, 0 ≤ k → k < sE σ - 1 → μ1 (t + 1) k = sF (dropE σ e) k ∧ μ1 (t + 2) k = sT (dropE σ e) k) → (∀ h i, 0 ≤ h → h < sP σ → 0 ≤ i → i < sL σ h → μ1 (t + 5) (8 * h + i) = if h < g then rn e (sR σ h i) else sR σ h i) → Ok (f_X5_removeEdge_L53 t e n g μ1) (fun μ' => CS μ' t (dropE σ e) ∧ ∀ c, c ≠ t → c ≠ t + 1 → c ≠ t + 2 → c ≠ t + 5 → μ' c = μ c) := by
    intro n
    induction n with
    | zero => intro g μ1 _ _ h; omega
    | succ n ih =>
      intro g μ1 g0 g1 g2 k1 k6 k7 k8 k4 k5
      unfold f_X5_removeEdge_L53
      rw [k8]
      by_cases hg : g < sP σ
      · obtain ⟨l0, l1, l2⟩ := hl g g0 hg
        have hlen : μ1 (t + 6) g = sL σ g := by rw [k1 (t + 6) (by omega) (by omega) (by omega) (by omega)]; exact (e5 g g0 hg).1
        rw [if_pos hg]
        simp only [zlet]
        rw [zw_eq (x := g * 8) (by omega) (by omega)]
        have steps : ∀ (m : Nat) (i : Int) (μ2 : zMem), 0 ≤ i → i ≤ sL σ g → (sL σ g - i).toNat < m → (∀ c, c ≠ t + 5 → μ2 c = μ1 c) → (∀ h j, 0 ≤ h → h < sP σ → 0 ≤ j → j < sL σ h → μ2 (t + 5) (8 * h + j) = if h < g ∨ (h = g ∧ j < i) then rn e (sR σ h j) else sR σ h j) → Ok (f_X5_removeEdge_L67 t e g (f_X5_removeEdge_K113 g (f_X5_removeEdge_L53 t e n)) m (g * 8 + i) μ2) (fun μ' => CS μ' t (dropE σ e) ∧ ∀ c, c ≠ t → c ≠ t + 1 → c ≠ t + 2 → c ≠ t + 5 → μ' c = μ c) := by
          intro m
          induction m with
          | zero => intro i μ2 _ _ h; omega
          | succ m ihm =>
            intro i μ2 i0 i1 i2 j1 j2
            unfold f_X5_removeEdge_L67
            rw [chk_pos (by omega), j1 (t + 6) (by omega), hlen, zw_eq (x := g * 8) (by omega) (by omega), zw_eq (x := g * 8 + sL σ g) (by omega) (by omega)]
            by_cases hi : i < sL σ g
            · have hr := l2 i i0 hi
              have hv : μ2 (t + 5) (g * 8 + i) = sR σ g i := by
                rw [show g * 8 + i = 8 * g + i by omega, j2 g i g0 hg i0 hi, if_neg (by omega)]
              rw [if_pos (by omega), chk_pos (by omega), hv, zshr1 ⟨by omega, by omega⟩, chk_pos (by omega), chk_pos (by omega)]
              simp only [zlet]
              rw [zw_eq (x := g * 8 + i + 1) (by omega) (by omega), show g * 8 + i + 1 = g * 8 + (i + 1) by omega]
              by_cases hc : sR σ g i / 2 ≤ e
              · rw [if_pos hc]
                refine ihm (i + 1) μ2 (by omega) (by omega) (by omega) j1 (fun h j h0 h1 x0 x1 => ?_)
                rw [j2 h j h0 h1 x0 x1]
                by_cases hq : h < g ∨ (h = g ∧ j < i)
                · rw [if_pos hq, if_pos (by omega)]
                · rw [if_neg hq]
                  by_cases hq2 : h = g ∧ j = i
                  · rw [if_pos (by omega), hq2.1, hq2.2]
                    unfold rn
                    rw [if_neg (by omega)]
                  · rw [if_neg (by omega)]
              · rw [if_neg hc, zw_eq (x := sR σ g i - 2) (by omega) (by omega)]
                refine ihm (i + 1) _ (by omega) (by omega) (by omega) (fun c hx => by rw [zup_n _ _ _ hx]; exact j1 c hx) (fun h j h0 h1 x0 x1 => ?_)
                have hlh := (hl h h0 h1).2.1
                rw [zup_s, up1_e]
                by_cases hq2 : h = g ∧ j = i
                · rw [if_pos (by omega), if_pos (by omega), hq2.1, hq2.2]
                  unfold rn
                  rw [if_pos (by omega)]
                · rw [if_neg (by omega), j2 h j h0 h1 x0 x1]
                  by_cases hq : h < g ∨ (h = g ∧ j < i)
                  · rw [if_pos hq, if_pos (by omega)]
                  · rw [if_neg hq, if_neg (by omega)]
            · rw [if_neg (by omega)]
              have hie : i = sL σ g := by omega
              unfold f_X5_removeEdge_K113
              simp only [zlet]
              rw [zw_eq (by omega) (by omega)]
              refine ih (g + 1) μ2 (by omega) (by omega) (by omega) (fun c x y z u => by rw [j1 c u]; exact k1 c x y z u) (by rw [j1 t (by omega)]; exact k6) (by rw [j1 t (by omega)]; exact k7) (by rw [j1 t (by omega)]; exact k8) (by rw [j1 (t + 1) (by omega), j1 (t + 2) (by omega)]; exact k4) (fun h j h0 h1 x0 x1 => ?_)
              rw [j2 h j h0 h1 x0 x1]
              by_cases hq : h < g + 1
              · rw [if_pos hq]
                by_cases hhg : h = g
                · subst hhg
                  rw [if_pos (by omega)]
                · rw [if_pos (by omega)]
              · rw [if_neg hq, if_neg (by omega)]
        have := steps zfu 0 μ1 (by omega) l0 (by unfold zfu; omega) (fun _ _ => rfl) (fun h j h0 h1 x0 x1 => by
          rw [k5 h j h0 h1 x0 x1]
          by_cases hq : h < g
          · rw [if_pos hq, if_pos (by omega)]
          · rw [if_neg hq, if_neg (by omega)])
        rw [Int.add_zero] at this
        exact this
      · rw [if_neg hg]
        refine ok_some.mpr ⟨⟨k6, k7, k8, k4, fun x x0 x1 => ⟨?_, fun i i0 i1 => ?_⟩⟩, k1⟩
        · rw [k1 (t + 6) (by omega) (by omega) (by omega) (by omega)]; exact (e5 x x0 x1).1
        · have x2 : x < sP σ := x1
          rw [k5 x i x0 x2 i0 i1, if_pos (by omega)]
          rfl
  unfold f_X5_removeEdge
  simp only [zlet]
  rw [e2, zw_eq (x := sE σ - e) (by omega) (by omega), zw_eq (x := sE σ - e - 1) (by omega) (by omega), zw_eq (x := e + 1) (by omega) (by omega), chk_pos (by omega), chk_pos (by omega)]
  have za : ∀ c, c ≠ t + 1 → zcpy μ (t + 1) (e + 1) (t + 1) e (sE σ - e - 1) c = μ c := fun c hc => by
    funext i
    rw [zcpy_eq, if_neg (fun e => hc e.1)]
  generalize hμ2 : zcpy μ (t + 1) (e + 1) (t + 1) e (sE σ - e - 1) = μ2
  rw [hμ2] at za
  have zb : ∀ c, c ≠ t + 2 → zcpy μ2 (t + 2) (e + 1) (t + 2) e (sE σ - e - 1) c = μ2 c := fun c hc => by
    funext i
    rw [zcpy_eq, if_neg (fun e => hc e.1)]
  rw [zb t (by omega), za t (by omega), e2, zw_eq (by omega) (by omega)]
  refine key zfu 0 _ (by omega) hw.1 (by unfold zfu; omega) (fun c x y z u => ?_) ?_ ?_ ?_ (fun k k0 k1 => ⟨?_, ?_⟩) (fun h i h0 h1 x0 x1 => ?_)
  · rw [zup_n _ _ _ x, zb c z, za c y]
  · rw [zup_s, up1_n _ _ (by decide), zb t (by omega), za t (by omega)]; exact e1
  · rw [zup_s, up1_s]
  · rw [zup_s, up1_n _ _ (by decide), zb t (by omega), za t (by omega)]; exact e3
  · rw [zup_n _ _ _ (by omega), zb (t + 1) (by omega), ← hμ2, zcpy_eq]
    by_cases hk : k < e
    · rw [if_neg (by omega), (e4 k k0 (by omega)).1]; exact (if_pos hk).symm
    · rw [if_pos (by omega), show e + 1 + (k - e) = k + 1 by omega, (e4 (k + 1) (by omega) (by omega)).1]; exact (if_neg hk).symm
  · rw [zup_n _ _ _ (by omega), zcpy_eq, za (t + 2) (by omega)]
    by_cases hk : k < e
    · rw [if_neg (by omega), (e4 k k0 (by omega)).2]; exact (if_pos hk).symm
    · rw [if_pos (by omega), show e + 1 + (k - e) = k + 1 by omega, (e4 (k + 1) (by omega) (by omega)).2]; exact (if_neg hk).symm
  · rw [zup_n _ _ _ (by omega), zb (t + 5) (by omega), za (t + 5) (by omega), (e5 h h0 h1).2 i x0 x1, if_neg (by omega)]
end
