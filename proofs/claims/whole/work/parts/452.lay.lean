/-! the layer as a space -/
theorem trs_in {σ : Sp} (e : Int) : ∀ k : Nat, (trs σ k).2 e = true → (trs σ k).1 (sF σ e) = true ∧ (trs σ k).1 (sT σ e) = true := by
  intro k
  induction k with
  | zero => intro h; exact absurd h (by simp [trs])
  | succ k ih =>
    unfold trs
    by_cases h0 : tou σ (trs σ k).1 = -1
    · rw [if_pos h0]; exact ih
    · rw [if_neg h0]
      simp only [Bool.or_eq_true, decide_eq_true_eq]
      intro h
      rcases h with h | h
      · exact ⟨Or.inl (Or.inl (ih h).1), Or.inl (Or.inl (ih h).2)⟩
      · exact ⟨Or.inl (Or.inr (by rw [h])), Or.inr (by rw [h])⟩
theorem tT_in {σ : Sp} {e : Int} (h : tT σ e = true) : tR σ (sF σ e) = true := (trs_in e 32 h).1
theorem tR_0 (σ : Sp) : tR σ 0 = true := by
  have : ∀ k : Nat, (trs σ k).1 0 = true := by
    intro k
    induction k with
    | zero => rfl
    | succ k ih =>
      unfold trs
      by_cases h0 : tou σ (trs σ k).1 = -1
      · rw [if_pos h0]; exact ih
      · rw [if_neg h0]; simp [ih]
  exact this 32
theorem tR_ft {σ : Sp} {mC mE : Int} (hw : WfE σ mC mE) (hC : mC ≤ 32) {e : Int} (he : 0 ≤ e ∧ e < sE σ) : tR σ (sF σ e) = tR σ (sT σ e) := by
  have hend : tou σ (trs σ 32).1 = -1 := by
    by_cases h : ∃ j : Nat, j ≤ 32 ∧ tou σ (trs σ j).1 = -1
    · obtain ⟨j, hj, e⟩ := h
      have := trs_stop e (32 - j)
      rw [show j + (32 - j) = 32 by omega] at this
      rw [this]; exact e
    · have := trs_cnt hw 32 (fun j hj q => h ⟨j, by omega, q⟩)
      have h2 := (cnt_le (trs σ 32).1 (sC σ).toNat).2
      have := hw.2.1
      omega
  rcases tou_spec σ (trs σ 32).1 hw.2.2.1 with ⟨_, h⟩ | ⟨h, _⟩
  · exact h e he.1 he.2
  · omega
theorem cnt_at {r : Int → Bool} {e : Int} {E : Int} (h : 0 ≤ e ∧ e < E) (hi : r e = true) : 0 ≤ cnt r e.toNat ∧ cnt r e.toNat + 1 ≤ cnt r E.toNat := by
  have h1 := cnt_mo r (e.toNat + 1) (E.toNat - (e.toNat + 1))
  rw [show e.toNat + 1 + (E.toNat - (e.toNat + 1)) = E.toNat by omega] at h1
  have h2 : cnt r (e.toNat + 1) = cnt r e.toNat + 1 := by
    show cnt r e.toNat + b2i (r (e.toNat : Nat)) = _
    rw [show ((e.toNat : Nat) : Int) = e by omega, hi]
    rfl
  have h3 := (cnt_le r e.toNat).1
  omega
def mvc (σ : Sp) (n : Int) (t : Int → Int) (c k : Int) : Int := if isTn σ (c / 2) then prm n (tdo n t (tcd σ c)) k else k
def inE (σ : Sp) (e : Int) : Bool := tR σ (sF σ e)
def pcr (σ : Sp) (c : Int) : Int := cnt (tR σ) c.toNat
def per (σ : Sp) (e : Int) : Int := cnt (inE σ) e.toNat
def lyEk (τ σ : Sp) (n : Int) (t : Int → Int) (e : Int) : Nat → Sp
  | 0 => τ
  | k + 1 => addE (lyEk τ σ n t e k) (n * pcr σ (sF σ e) + k) (n * pcr σ (sT σ e) + mvc σ n t (2 * e) k)
def ly0 (c : Int) : Sp := ((c, 0, 0), fun _ => 0, fun _ => 0, fun _ => 0, fun _ _ => 0)
def lyE (σ : Sp) (n : Int) (t : Int → Int) : Nat → Sp
  | 0 => ly0 (n * sQ σ)
  | e + 1 => if inE σ e then lyEk (lyE σ n t e) σ n t e n.toNat else lyE σ n t e
def lfA (σ : Sp) (n : Int) (t : Int → Int) (f k : Int) : Nat → Int
  | 0 => k
  | i + 1 => mvc σ n t (sR σ f i) (lfA σ n t f k i)
def lfC (σ : Sp) (n : Int) (t : Int → Int) (c a : Int) : Int := 2 * (n * per σ (c / 2) + (if c % 2 = 0 then a else mvc σ n t c a)) + c % 2
def lfW (σ : Sp) (n : Int) (t : Int → Int) (f k i : Int) : Int := lfC σ n t (sR σ f i) (lfA σ n t f k i.toNat)
def lyPk (τ σ : Sp) (n : Int) (t : Int → Int) (f : Int) : Nat → Sp
  | 0 => τ
  | k + 1 => addP (lyPk τ σ n t f k) (sL σ f) (lfW σ n t f k)
def lyP (σ : Sp) (n : Int) (t : Int → Int) : Nat → Sp
  | 0 => lyE σ n t (sE σ).toNat
  | f + 1 => if inP σ f then lyPk (lyP σ n t f) σ n t f n.toNat else lyP σ n t f
theorem mvc_rg {σ : Sp} {n c k : Int} {t : Int → Int} (hn : 2 ≤ n ∧ n ≤ 4) (ht : TbR n (sN σ) t) (hc : 0 ≤ c ∧ c < 2 * sE σ) (hk : 0 ≤ k ∧ k < n) : 0 ≤ mvc σ n t c k ∧ mvc σ n t c k < n := by
  unfold mvc
  split
  · exact prm_rg hn (tdo_rg hn ht (tcd_rg hc (by assumption))) hk
  · exact hk
/-- there and back -/
theorem mvc_back {σ : Sp} {n e k : Int} {t : Int → Int} (hn : 2 ≤ n ∧ n ≤ 4) (ht : TbR n (sN σ) t) (he : 0 ≤ e ∧ e < sE σ) (hk : 0 ≤ k ∧ k < n) : mvc σ n t (2 * e) (mvc σ n t (2 * e + 1) k) = k := by
  unfold mvc
  rw [show 2 * e / 2 = e by omega, show (2 * e + 1) / 2 = e by omega]
  by_cases hi : isTn σ e = true
  · rw [if_pos hi, if_pos hi]
    have e1 : tdo n t (tcd σ (2 * e)) = t (cnt (isTn σ) e.toNat) := by
      unfold tdo tcd
      rw [show 2 * e / 2 = e by omega, show (2 * e) % 2 = 0 by omega, if_pos (by omega), show (2 * cnt (isTn σ) e.toNat + 0) / 2 = cnt (isTn σ) e.toNat by omega]
    have e2 : tdo n t (tcd σ (2 * e + 1)) = bak n (t (cnt (isTn σ) e.toNat)) := by
      unfold tdo tcd
      rw [show (2 * e + 1) / 2 = e by omega, show (2 * e + 1) % 2 = 1 by omega, if_neg (by omega), show (2 * cnt (isTn σ) e.toNat + 1) / 2 = cnt (isTn σ) e.toNat by omega]
    have hcn := cnt_in he hi
    rw [e1, e2]
    exact (bak_prm hn (ht _ hcn.1 hcn.2) hk).2
  · rw [if_neg hi, if_neg hi]
theorem lyEk_n (τ σ : Sp) (n : Int) (t : Int → Int) (e : Int) (k : Nat) : sC (lyEk τ σ n t e k) = sC τ ∧ sE (lyEk τ σ n t e k) = sE τ + k ∧ sP (lyEk τ σ n t e k) = sP τ := by
  induction k with
  | zero => exact ⟨rfl, by show sE τ = sE τ + 0; omega, rfl⟩
  | succ k ih =>
    obtain ⟨i1, i2, i3⟩ := ih
    refine ⟨i1, ?_, i3⟩
    show sE (lyEk τ σ n t e k) + 1 = _
    rw [i2]; omega
theorem lyEk_o (τ σ : Sp) (n : Int) (t : Int → Int) (e : Int) (k : Nat) (x : Int) (hx : x < sE τ) : sF (lyEk τ σ n t e k) x = sF τ x ∧ sT (lyEk τ σ n t e k) x = sT τ x := by
  induction k with
  | zero => exact ⟨rfl, rfl⟩
  | succ k ih =>
    have hn := (lyEk_n τ σ n t e k).2.1
    have h1 : x ≠ sE (lyEk τ σ n t e k) := by rw [hn]; omega
    exact ⟨(if_neg h1).trans ih.1, (if_neg h1).trans ih.2⟩
theorem lyEk_w (τ σ : Sp) (n : Int) (t : Int → Int) (e : Int) (k : Nat) (j : Int) (hj : 0 ≤ j ∧ j < k) : sF (lyEk τ σ n t e k) (sE τ + j) = n * pcr σ (sF σ e) + j ∧ sT (lyEk τ σ n t e k) (sE τ + j) = n * pcr σ (sT σ e) + mvc σ n t (2 * e) j := by
  induction k with
  | zero => omega
  | succ k ih =>
    have hn := (lyEk_n τ σ n t e k).2.1
    by_cases hjk : j = k
    · have h1 : sE τ + j = sE (lyEk τ σ n t e k) := by rw [hn]; omega
      subst hjk
      exact ⟨if_pos h1, if_pos h1⟩
    · have h1 : sE τ + j ≠ sE (lyEk τ σ n t e k) := by rw [hn]; omega
      have := ih (by omega)
      exact ⟨(if_neg h1).trans this.1, (if_neg h1).trans this.2⟩
theorem per_s (σ : Sp) (e : Nat) : per σ ((e : Int) + 1) = per σ e + b2i (inE σ e) := by
  unfold per
  rw [show ((e : Int) + 1).toNat = e + 1 by omega, show ((e : Nat) : Int).toNat = e by omega]
  rfl
theorem lyE_n {σ : Sp} {n : Int} {t : Int → Int} (hn : 2 ≤ n ∧ n ≤ 4) (e : Nat) : sC (lyE σ n t e) = n * sQ σ ∧ sE (lyE σ n t e) = n * per σ e ∧ sP (lyE σ n t e) = 0 := by
  induction e with
  | zero => exact ⟨rfl, (Int.mul_zero n).symm, rfl⟩
  | succ e ih =>
    obtain ⟨i1, i2, i3⟩ := ih
    have hp := per_s σ e
    rw [show ((e + 1 : Nat) : Int) = (e : Int) + 1 by omega, hp]
    unfold lyE
    by_cases hi : inE σ e = true
    · have hk := lyEk_n (lyE σ n t e) σ n t e n.toNat
      rw [if_pos hi, hi]
      refine ⟨hk.1.trans i1, ?_, hk.2.2.trans i3⟩
      rw [hk.2.1, i2, Int.mul_add]
      show n * per σ e + (n.toNat : Int) = n * per σ e + n * 1
      omega
    · rw [if_neg hi, Bool.eq_false_iff.mpr hi]
      refine ⟨i1, ?_, i3⟩
      rw [i2]
      show n * per σ e = n * (per σ e + 0)
      rw [Int.add_zero]
theorem lyE_w {σ : Sp} {n : Int} {t : Int → Int} (hn : 2 ≤ n ∧ n ≤ 4) (E : Nat) : ∀ (e j : Int), 0 ≤ e → e < E → inE σ e = true → 0 ≤ j → j < n → sF (lyE σ n t E) (n * per σ e + j) = n * pcr σ (sF σ e) + j ∧ sT (lyE σ n t E) (n * per σ e + j) = n * pcr σ (sT σ e) + mvc σ n t (2 * e) j := by
  induction E with
  | zero => intro e j h0 h1; omega
  | succ E ih =>
    intro e j h0 h1 hi j0 j1
    have hE := lyE_n (σ := σ) (t := t) hn E
    by_cases he : e = E
    · subst he
      unfold lyE
      rw [if_pos hi, ← hE.2.1]
      exact lyEk_w _ σ n t E n.toNat j ⟨j0, by omega⟩
    · have hh := ih e j h0 (by omega) hi j0 j1
      have hca := (cnt_at (r := inE σ) (e := e) (E := E) ⟨h0, by omega⟩ hi).2
      have hlt : n * per σ e + j < sE (lyE σ n t E) := by
        rw [hE.2.1]
        show n * cnt (inE σ) e.toNat + j < n * cnt (inE σ) ((E : Int)).toNat
        rcases n234 hn with h | h | h <;> subst h <;> omega
      unfold lyE
      by_cases hiE : inE σ E = true
      · rw [if_pos hiE]
        have ho := lyEk_o (lyE σ n t E) σ n t E n.toNat _ hlt
        exact ⟨ho.1.trans hh.1, ho.2.trans hh.2⟩
      · rw [if_neg hiE]; exact hh
theorem pcr_rg {σ : Sp} {c : Int} (hc : 0 ≤ c ∧ c < sC σ) (h : tR σ c = true) : 0 ≤ pcr σ c ∧ pcr σ c + 1 ≤ sQ σ := cnt_at hc h
theorem sQ_rg {σ : Sp} {mC mE : Int} (hw : WfE σ mC mE) : 1 ≤ sQ σ ∧ sQ σ ≤ sC σ := by
  have h1 := (cnt_at (r := tR σ) (e := 0) (E := sC σ) ⟨by omega, by have := hw.1; omega⟩ (tR_0 σ)).2
  have h2 := (cnt_le (tR σ) (sC σ).toNat).2
  have := hw.1
  have h0 : cnt (tR σ) (0 : Int).toNat = 0 := rfl
  unfold sQ
  omega
theorem per_rg (σ : Sp) (e : Nat) : 0 ≤ per σ e ∧ per σ e ≤ e := by
  have := cnt_le (inE σ) e
  unfold per
  rw [show ((e : Nat) : Int).toNat = e by omega]
  exact this
theorem lyEk_wf {τ σ : Sp} {n : Int} {t : Int → Int} {e : Int} (hn : 2 ≤ n ∧ n ≤ 4) (hw : WfE σ 8 12) (ht : TbR n (sN σ) t) (he : 0 ≤ e ∧ e < sE σ) (hi : inE σ e = true) (hc : sC τ = n * sQ σ) (hwt : WfE τ 32 48) (k : Nat) (hk : (k : Int) ≤ n) (hE : sE τ + k ≤ 48) : WfE (lyEk τ σ n t e k) 32 48 := by
  induction k with
  | zero => exact hwt
  | succ k ih =>
    have hl := lyEk_n τ σ n t e k
    have hb := hw.2.2.2.2 e he.1 he.2
    have hT : tR σ (sT σ e) = true := by rw [← tR_ft hw (by omega) he]; exact hi
    have p1 := pcr_rg ⟨hb.1, hb.2.1⟩ hi
    have p2 := pcr_rg ⟨hb.2.2.1, hb.2.2.2⟩ hT
    have hm := mvc_rg (σ := σ) (c := 2 * e) hn ht (by omega) (k := k) ⟨by omega, by omega⟩
    refine addE_wfE (ih (by omega) (by omega)) (by rw [hl.2.1]; omega) ?_ ?_
    · rw [hl.1, hc]
      rcases n234 hn with h | h | h <;> subst h <;> omega
    · rw [hl.1, hc]
      rcases n234 hn with h | h | h <;> subst h <;> omega
theorem lyE_wf {σ : Sp} {n : Int} {t : Int → Int} (hn : 2 ≤ n ∧ n ≤ 4) (hw : WfE σ 8 12) (ht : TbR n (sN σ) t) (e : Nat) (he : (e : Int) ≤ sE σ) : WfE (lyE σ n t e) 32 48 := by
  have hq := sQ_rg hw
  have hC := hw.2.1
  have hE := hw.2.2.2.1
  induction e with
  | zero =>
    refine ⟨?_, ?_, Int.le_refl _, (show (0 : Int) ≤ 48 by decide), fun e a b => absurd (Int.lt_of_le_of_lt a b) (show ¬ (0 : Int) < 0 by decide)⟩
    · show 1 ≤ n * sQ σ
      rcases n234 hn with h | h | h <;> subst h <;> omega
    · show n * sQ σ ≤ 32
      rcases n234 hn with h | h | h <;> subst h <;> omega
  | succ e ih =>
    have hl := lyE_n (σ := σ) (t := t) hn e
    have hp := per_rg σ e
    unfold lyE
    by_cases hi : inE σ e = true
    · rw [if_pos hi]
      refine lyEk_wf hn hw ht ⟨by omega, by omega⟩ hi hl.1 (ih (by omega)) n.toNat (by omega) ?_
      rw [hl.2.1]
      rcases n234 hn with h | h | h <;> subst h <;> omega
    · rw [if_neg hi]; exact ih (by omega)
