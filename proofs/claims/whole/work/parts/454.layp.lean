/-! the layer's panes -/
theorem lyPk_n (τ σ : Sp) (n : Int) (t : Int → Int) (f : Int) (k : Nat) : sC (lyPk τ σ n t f k) = sC τ ∧ sE (lyPk τ σ n t f k) = sE τ ∧ sP (lyPk τ σ n t f k) = sP τ + k ∧ sF (lyPk τ σ n t f k) = sF τ ∧ sT (lyPk τ σ n t f k) = sT τ := by
  induction k with
  | zero => exact ⟨rfl, rfl, by show sP τ = sP τ + 0; omega, rfl, rfl⟩
  | succ k ih =>
    obtain ⟨i1, i2, i3, i4, i5⟩ := ih
    refine ⟨i1, i2, ?_, i4, i5⟩
    show sP (lyPk τ σ n t f k) + 1 = _
    rw [i3]; omega
def pnr (σ : Sp) (f : Nat) : Int := cnt (inP σ) f
theorem lyP_n {σ : Sp} {n : Int} {t : Int → Int} (hn : 2 ≤ n ∧ n ≤ 4) (f : Nat) : sC (lyP σ n t f) = n * sQ σ ∧ sE (lyP σ n t f) = n * per σ (sE σ).toNat ∧ sP (lyP σ n t f) = n * pnr σ f ∧ sF (lyP σ n t f) = sF (lyE σ n t (sE σ).toNat) ∧ sT (lyP σ n t f) = sT (lyE σ n t (sE σ).toNat) := by
  induction f with
  | zero =>
    have h := lyE_n (σ := σ) (t := t) hn (sE σ).toNat
    exact ⟨h.1, h.2.1, h.2.2.trans (Int.mul_zero n).symm, rfl, rfl⟩
  | succ f ih =>
    obtain ⟨i1, i2, i3, i4, i5⟩ := ih
    unfold lyP
    by_cases hi : inP σ f = true
    · have hk := lyPk_n (lyP σ n t f) σ n t f n.toNat
      rw [if_pos hi]
      refine ⟨hk.1.trans i1, hk.2.1.trans i2, ?_, hk.2.2.2.1.trans i4, hk.2.2.2.2.trans i5⟩
      rw [hk.2.2.1, i3]
      show n * pnr σ f + (n.toNat : Int) = n * (pnr σ f + b2i (inP σ f))
      rw [hi, Int.mul_add]
      show n * pnr σ f + (n.toNat : Int) = n * pnr σ f + n * 1
      omega
    · rw [if_neg hi]
      refine ⟨i1, i2, ?_, i4, i5⟩
      rw [i3]
      show n * pnr σ f = n * (pnr σ f + b2i (inP σ f))
      rw [Bool.eq_false_iff.mpr hi]
      show n * pnr σ f = n * (pnr σ f + 0)
      rw [Int.add_zero]
theorem lfC_h {σ : Sp} {n c a : Int} {t : Int → Int} : lfC σ n t c a / 2 = n * per σ (c / 2) + (if c % 2 = 0 then a else mvc σ n t c a) ∧ lfC σ n t c a % 2 = c % 2 := by
  unfold lfC
  omega
theorem lfC_AB {σ : Sp} {n c a : Int} {t : Int → Int} (hn : 2 ≤ n ∧ n ≤ 4) (ht : TbR n (sN σ) t) (hc : 0 ≤ c ∧ c < 2 * sE σ) (hi : inE σ (c / 2) = true) (ha : 0 ≤ a ∧ a < n) : sA (lyE σ n t (sE σ).toNat) (lfC σ n t c a) = n * pcr σ (sA σ c) + a ∧ sB (lyE σ n t (sE σ).toNat) (lfC σ n t c a) = n * pcr σ (sB σ c) + mvc σ n t c a := by
  obtain ⟨h1, h2⟩ := lfC_h (σ := σ) (n := n) (c := c) (a := a) (t := t)
  have hm := mvc_rg hn ht hc ha
  unfold sA sB
  rw [h1, h2]
  by_cases h0 : c % 2 = 0
  · have hw := lyE_w (σ := σ) (t := t) hn (sE σ).toNat (c / 2) a (by omega) (by omega) hi ha.1 ha.2
    rw [if_pos h0, if_pos h0, if_pos h0, if_pos h0, if_pos h0, hw.1, hw.2, show 2 * (c / 2) = c by omega]
    exact ⟨rfl, rfl⟩
  · have hw := lyE_w (σ := σ) (t := t) hn (sE σ).toNat (c / 2) (mvc σ n t c a) (by omega) (by omega) hi hm.1 hm.2
    have hb := mvc_back (σ := σ) (e := c / 2) hn ht (by omega) ha
    rw [show 2 * (c / 2) + 1 = c by omega] at hb
    rw [if_neg h0, if_neg h0, if_neg h0, if_neg h0, if_neg h0, hw.1, hw.2, hb]
    exact ⟨rfl, rfl⟩
theorem lfC_rg {σ : Sp} {n c a : Int} {t : Int → Int} (hn : 2 ≤ n ∧ n ≤ 4) (ht : TbR n (sN σ) t) (hc : 0 ≤ c ∧ c < 2 * sE σ) (hi : inE σ (c / 2) = true) (ha : 0 ≤ a ∧ a < n) : 0 ≤ lfC σ n t c a ∧ lfC σ n t c a < 2 * (n * per σ (sE σ).toNat) := by
  have hm := mvc_rg hn ht hc ha
  have hp := cnt_at (r := inE σ) (e := c / 2) (E := sE σ) (by omega) hi
  unfold lfC per
  rw [show (((sE σ).toNat : Nat) : Int).toNat = (sE σ).toNat by omega]
  have : 0 ≤ (if c % 2 = 0 then a else mvc σ n t c a) ∧ (if c % 2 = 0 then a else mvc σ n t c a) < n := by split <;> omega
  rcases n234 hn with h | h | h <;> subst h <;> omega
theorem lfA_rg {σ : Sp} {n f k mP : Int} {t : Int → Int} (hn : 2 ≤ n ∧ n ≤ 4) (ht : TbR n (sN σ) t) (hp : WfP σ mP) (hf : 0 ≤ f ∧ f < sP σ) (hk : 0 ≤ k ∧ k < n) (i : Nat) (hi : (i : Int) ≤ sL σ f) : 0 ≤ lfA σ n t f k i ∧ lfA σ n t f k i < n := by
  induction i with
  | zero => exact hk
  | succ i ih =>
    exact mvc_rg hn ht ((hp.2.2 f hf.1 hf.2).2.2.1 i (by omega) (by omega)) (ih (by omega))
theorem lfA_mvs {σ : Sp} {n f k : Int} {t : Int → Int} : ∀ (m i : Nat), mvs n t (rmw σ f m i) (lfA σ n t f k i) = lfA σ n t f k (i + m) := by
  intro m
  induction m with
  | zero => intro i; rfl
  | succ m ih =>
    intro i
    have e : i + (m + 1) = (i + 1) + m := by omega
    rw [e, ← ih (i + 1)]
    show _ = mvs n t (rmw σ f m ((i + 1 : Nat) : Int)) (mvc σ n t (sR σ f i) (lfA σ n t f k i))
    conv => lhs; unfold rmw
    unfold mvc
    rw [show ((i + 1 : Nat) : Int) = (i : Int) + 1 by omega]
    by_cases hi : isTn σ (sR σ f i / 2) = true
    · rw [if_pos hi, if_pos hi]
      rfl
    · rw [if_neg hi, if_neg hi]
theorem rim_in {σ : Sp} {f : Int} (hw : WfE σ 8 12) (hp : WfP σ 8) (hf : 0 ≤ f ∧ f < sP σ) (hi : inP σ f = true) : ∀ i : Nat, (i : Int) < sL σ f → tR σ (sA σ (sR σ f i)) = true ∧ inE σ (sR σ f i / 2) = true := by
  obtain ⟨p1, p2, p3, p4, p5⟩ := hp.2.2 f hf.1 hf.2
  have hAB : ∀ c, 0 ≤ c → c < 2 * sE σ → tR σ (sA σ c) = inE σ (c / 2) ∧ tR σ (sB σ c) = inE σ (c / 2) := by
    intro c c0 c1
    have := tR_ft hw (by omega) (e := c / 2) ⟨by omega, by omega⟩
    unfold sA sB inE
    by_cases h0 : c % 2 = 0
    · rw [if_pos h0, if_pos h0]; exact ⟨rfl, this.symm⟩
    · rw [if_neg h0, if_neg h0]; exact ⟨this.symm, rfl⟩
  intro i
  induction i with
  | zero =>
    intro h
    have h0 := p3 0 (by omega) (by omega)
    have h1 : tR σ (sA σ (sR σ f 0)) = true := hi
    refine ⟨h1, ?_⟩
    have := (hAB _ h0.1 h0.2).1
    rw [h1] at this
    exact this.symm
  | succ i ih =>
    intro h
    obtain ⟨a1, a2⟩ := ih (by omega)
    have h0 := p3 i (by omega) (by omega)
    have h1 := p3 ((i : Int) + 1) (by omega) (by omega)
    have h2 : tR σ (sB σ (sR σ f i)) = true := by rw [(hAB _ h0.1 h0.2).2]; exact a2
    rw [p4 i (by omega) (by omega)] at h2
    rw [show ((i + 1 : Nat) : Int) = (i : Int) + 1 by omega]
    refine ⟨h2, ?_⟩
    have := (hAB _ h1.1 h1.2).1
    rw [h2] at this
    exact this.symm
theorem lyPk_wf {τ σ : Sp} {n : Int} {t : Int → Int} {f : Int} (hn : 2 ≤ n ∧ n ≤ 4) (hw : WfE σ 8 12) (hp : WfP σ 8) (ht : TbR n (sN σ) t) (hld0 : hld σ n t 0) (hf : 0 ≤ f ∧ f < sP σ) (hi : inP σ f = true) (eE : sE τ = n * per σ (sE σ).toNat) (eF : sF τ = sF (lyE σ n t (sE σ).toNat)) (eT : sT τ = sT (lyE σ n t (sE σ).toNat)) (hwt : WfP τ 32) (k : Nat) (hk : (k : Int) ≤ n) (hP : sP τ + k ≤ 32) : WfP (lyPk τ σ n t f k) 32 := by
  induction k with
  | zero => exact hwt
  | succ k ih =>
    have hl := lyPk_n τ σ n t f k
    obtain ⟨p1, p2, p3, p4, p5⟩ := hp.2.2 f hf.1 hf.2
    have hrim := rim_in hw hp hf hi
    have hkn : 0 ≤ (k : Int) ∧ (k : Int) < n := ⟨by omega, by omega⟩
    have hA : ∀ c, sA (lyPk τ σ n t f k) c = sA (lyE σ n t (sE σ).toNat) c ∧ sB (lyPk τ σ n t f k) c = sB (lyE σ n t (sE σ).toNat) c := by
      intro c
      unfold sA sB
      rw [hl.2.2.2.1, hl.2.2.2.2, eF, eT]
      exact ⟨rfl, rfl⟩
    have hWAB : ∀ i, 0 ≤ i → i < sL σ f → sA (lyPk τ σ n t f k) (lfW σ n t f k i) = n * pcr σ (sA σ (sR σ f i)) + lfA σ n t f k i.toNat ∧ sB (lyPk τ σ n t f k) (lfW σ n t f k i) = n * pcr σ (sB σ (sR σ f i)) + lfA σ n t f k (i.toNat + 1) := by
      intro i i0 i1
      have hr := hrim i.toNat (by omega)
      rw [show ((i.toNat : Nat) : Int) = i by omega] at hr
      have := lfC_AB (c := sR σ f i) (a := lfA σ n t f k i.toNat) hn ht (p3 i i0 i1) hr.2 (lfA_rg hn ht hp hf hkn i.toNat (by omega))
      rw [(hA _).1, (hA _).2]
      unfold lfW
      rw [this.1, this.2]
      refine ⟨rfl, ?_⟩
      show _ = n * pcr σ (sB σ (sR σ f i)) + mvc σ n t (sR σ f ((i.toNat : Nat) : Int)) (lfA σ n t f k i.toNat)
      rw [show ((i.toNat : Nat) : Int) = i by omega]
    refine addP_wfP (ih (by omega) (by omega)) (by rw [hl.2.2.1]; omega) p2 ⟨fun i i0 i1 => ?_, fun i i0 i1 => ?_⟩ ⟨by omega, ?_⟩
    · have hr := hrim i.toNat (by omega)
      rw [show ((i.toNat : Nat) : Int) = i by omega] at hr
      rw [hl.2.1, eE]
      exact lfC_rg hn ht (p3 i i0 i1) hr.2 (lfA_rg hn ht hp hf hkn i.toNat (by omega))
    · rw [(hWAB i i0 (by omega)).2, (hWAB (i + 1) (by omega) i1).1, p4 i i0 i1, show (i + 1).toNat = i.toNat + 1 by omega]
    · rw [(hWAB (sL σ f - 1) (by omega) (by omega)).2, (hWAB 0 (by omega) (by omega)).1, p5]
      have hm := lfA_mvs (σ := σ) (n := n) (f := f) (k := k) (t := t) (sL σ f).toNat 0
      have hh := hld0 f hf.1 hf.2 hi k hkn.1 hkn.2
      have e2 : (sL σ f - 1).toNat + 1 = 0 + (sL σ f).toNat := by omega
      rw [e2, ← hm]
      show n * pcr σ (sA σ (sR σ f 0)) + mvs n t (rmW σ f) k = n * pcr σ (sA σ (sR σ f 0)) + k
      rw [hh]
theorem lyP_wf {σ : Sp} {n : Int} {t : Int → Int} (hn : 2 ≤ n ∧ n ≤ 4) (hw : WfE σ 8 12) (hp : WfP σ 8) (ht : TbR n (sN σ) t) (hld0 : hld σ n t 0) (f : Nat) (hf : (f : Int) ≤ sP σ) : WfP (lyP σ n t f) 32 ∧ WfE (lyP σ n t f) 32 48 := by
  have hP := hp.2.1
  induction f with
  | zero =>
    have h := lyE_n (σ := σ) (t := t) hn (sE σ).toNat
    refine ⟨⟨?_, ?_, fun f a b => ?_⟩, lyE_wf hn hw ht _ (by have := hw.2.2.1; omega)⟩
    · show 0 ≤ sP (lyE σ n t (sE σ).toNat)
      rw [h.2.2]; decide
    · show sP (lyE σ n t (sE σ).toNat) ≤ 32
      rw [h.2.2]; decide
    · have : f < sP (lyE σ n t (sE σ).toNat) := b
      rw [h.2.2] at this
      omega
  | succ f ih =>
    have hl := lyP_n (σ := σ) (t := t) hn f
    obtain ⟨i1, i2⟩ := ih (by omega)
    have hpp := cnt_le (inP σ) f
    unfold lyP
    by_cases hi : inP σ f = true
    · rw [if_pos hi]
      refine ⟨lyPk_wf hn hw hp ht hld0 ⟨by omega, by omega⟩ hi hl.2.1 hl.2.2.2.1 hl.2.2.2.2 i1 n.toNat (by omega) ?_, ?_⟩
      · rw [hl.2.2.1]
        unfold pnr
        rcases n234 hn with h | h | h <;> subst h <;> omega
      · have hk := lyPk_n (lyP σ n t f) σ n t f n.toNat
        unfold WfE at *
        rw [hk.1, hk.2.1, hk.2.2.2.1, hk.2.2.2.2]
        exact i2
    · rw [if_neg hi]; exact ⟨i1, i2⟩
