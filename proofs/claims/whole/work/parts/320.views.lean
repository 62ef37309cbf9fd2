/-! a space, told once for both sides: corners, edges, panes; from, to; lengths and steps of rims (twice the edge, and 1 if back) -/
abbrev Sp : Type := (Int × Int × Int) × (Int → Int) × (Int → Int) × (Int → Int) × (Int → Int → Int)
def sC (σ : Sp) : Int := σ.1.1
def sE (σ : Sp) : Int := σ.1.2.1
def sP (σ : Sp) : Int := σ.1.2.2
def sF (σ : Sp) : Int → Int := σ.2.1
def sT (σ : Sp) : Int → Int := σ.2.2.1
def sL (σ : Sp) : Int → Int := σ.2.2.2.1
def sR (σ : Sp) : Int → Int → Int := σ.2.2.2.2
/-- a step as the reference writes it -/
def stp (c : Int) : Int := if c % 2 = 0 then c / 2 + 1 else -(c / 2) - 1
/-- where a step begins, where it ends -/
def sA (σ : Sp) (c : Int) : Int := if c % 2 = 0 then sF σ (c / 2) else sT σ (c / 2)
def sB (σ : Sp) (c : Int) : Int := if c % 2 = 0 then sT σ (c / 2) else sF σ (c / 2)
def CS (μ : zMem) (t : Int) (σ : Sp) : Prop := μ t 6 = sC σ ∧ μ t 7 = sE σ ∧ μ t 8 = sP σ ∧ (∀ e, 0 ≤ e → e < sE σ → μ (t + 1) e = sF σ e ∧ μ (t + 2) e = sT σ e) ∧ (∀ f, 0 ≤ f → f < sP σ → μ (t + 6) f = sL σ f ∧ ∀ i, 0 ≤ i → i < sL σ f → μ (t + 5) (8 * f + i) = sR σ f i)
def MS (μ : zMem) (s : Int) (σ : Sp) : Prop := μ 102 s = sC σ ∧ μ 103 s = sE σ ∧ μ 104 s = sP σ ∧ (∀ e, 0 ≤ e → e < sE σ → μ 105 (48 * s + e) = sF σ e ∧ μ 106 (48 * s + e) = sT σ e) ∧ (∀ f, 0 ≤ f → f < sP σ → μ 107 (32 * s + f) = sL σ f ∧ ∀ i, 0 ≤ i → i < sL σ f → μ 108 (8 * (32 * s + f) + i) = stp (sR σ f i))
def SZ (t mC mE mP : Int) : Prop := zlen (t + 1) = mE ∧ zlen (t + 2) = mE ∧ zlen (t + 3) = mE ∧ zlen (t + 4) = mC ∧ zlen (t + 5) = 8 * mP ∧ zlen (t + 6) = mP ∧ mC ≤ 32 ∧ mE ≤ 48 ∧ mP ≤ 32
/-- edges between corners that are there -/
def WfE (σ : Sp) (mC mE : Int) : Prop := 1 ≤ sC σ ∧ sC σ ≤ mC ∧ 0 ≤ sE σ ∧ sE σ ≤ mE ∧ (∀ e, 0 ≤ e → e < sE σ → 0 ≤ sF σ e ∧ sF σ e < sC σ ∧ 0 ≤ sT σ e ∧ sT σ e < sC σ)
/-- rims: words of 1 to 8 steps that lead back -/
def WfP (σ : Sp) (mP : Int) : Prop := 0 ≤ sP σ ∧ sP σ ≤ mP ∧ (∀ f, 0 ≤ f → f < sP σ → 1 ≤ sL σ f ∧ sL σ f ≤ 8 ∧ (∀ i, 0 ≤ i → i < sL σ f → 0 ≤ sR σ f i ∧ sR σ f i < 2 * sE σ) ∧ (∀ i, 0 ≤ i → i + 1 < sL σ f → sB σ (sR σ f i) = sA σ (sR σ f (i + 1))) ∧ sB σ (sR σ f (sL σ f - 1)) = sA σ (sR σ f 0))
theorem stp_pos {c : Int} (h : 0 ≤ c) : (0 < stp c ↔ c % 2 = 0) ∧ (stp c < 0 ↔ c % 2 = 1) ∧ stp c ≠ 0 := by
  unfold stp
  split <;> omega
theorem stp_edge {c : Int} (h : 0 ≤ c) : (if 0 < stp c then stp c - 1 else -stp c - 1) = c / 2 := by
  unfold stp
  split <;> split <;> omega
theorem stp_inj {c d : Int} (hc : 0 ≤ c) (hd : 0 ≤ d) (h : stp c = stp d) : c = d := by
  unfold stp at h
  split at h <;> split at h <;> omega
/-! counting, the least one -/
def b2i (b : Bool) : Int := if b then 1 else 0
theorem b2i_inj {a b : Bool} (h : b2i a = b2i b) : a = b := by cases a <;> cases b <;> first | rfl | (exact absurd h (by decide))
def cnt (r : Int → Bool) : Nat → Int
  | 0 => 0
  | n + 1 => cnt r n + b2i (r n)
theorem cnt_le (r : Int → Bool) (n : Nat) : 0 ≤ cnt r n ∧ cnt r n ≤ n := by
  induction n with
  | zero => exact ⟨Int.le_refl _, Int.le_refl _⟩
  | succ n ih =>
    unfold cnt b2i
    split <;> omega
theorem cnt_congr {r q : Int → Bool} (n : Nat) (h : ∀ c : Int, 0 ≤ c → c < n → r c = q c) : cnt r n = cnt q n := by
  induction n with
  | zero => rfl
  | succ n ih =>
    unfold cnt
    rw [ih (fun c h0 h1 => h c h0 (by omega)), h n (by omega) (by omega)]
theorem cnt_full {r : Int → Bool} (n : Nat) (h : cnt r n = n) : ∀ c : Int, 0 ≤ c → c < n → r c = true := by
  induction n with
  | zero => intro c h0 h1; omega
  | succ n ih =>
    intro c h0 h1
    unfold cnt b2i at h
    have h2 := (cnt_le r n).2
    split at h
    · by_cases hc : c = n
      · rw [hc]; assumption
      · exact ih (by omega) c h0 (by omega)
    · omega
theorem cnt_set {r q : Int → Bool} {x : Int} (n : Nat) (h0 : 0 ≤ x) (h1 : x < n) (hr : r x = false) (hq : q x = true) (h : ∀ c, c ≠ x → q c = r c) : cnt q n = cnt r n + 1 := by
  induction n with
  | zero => omega
  | succ n ih =>
    unfold cnt
    by_cases hx : x = n
    · subst hx
      rw [hr, hq, cnt_congr n (q := r) (fun c h2 h3 => h c (by omega))]
      simp [b2i]
    · rw [ih (by omega), h n (by omega)]
      omega
theorem cnt_mono (r : Int → Bool) {m n : Nat} (h : m ≤ n) : cnt r m ≤ cnt r n := by
  induction n with
  | zero => have : m = 0 := by omega
            rw [this]; exact Int.le_refl _
  | succ n ih =>
    by_cases hm : m = n + 1
    · rw [hm]; exact Int.le_refl _
    · have := ih (by omega)
      show cnt r m ≤ cnt r n + b2i (r n)
      unfold b2i
      split <;> omega
theorem cnt_succ (r : Int → Bool) {x : Int} (h : 0 ≤ x) : cnt r (x + 1).toNat = cnt r x.toNat + b2i (r x) := by
  rw [show (x + 1).toNat = x.toNat + 1 by omega]
  show cnt r x.toNat + b2i (r ((x.toNat : Nat) : Int)) = _
  rw [show ((x.toNat : Nat) : Int) = x by omega]
def lsu (p : Int → Bool) : Nat → Int → Int
  | 0, _ => -1
  | n + 1, x => if p x then x else lsu p n (x + 1)
theorem lsu_spec (p : Int → Bool) (n : Nat) : ∀ x : Int, 0 ≤ x → (lsu p n x = -1 ∧ ∀ e, x ≤ e → e < x + n → p e = false) ∨ (x ≤ lsu p n x ∧ lsu p n x < x + n ∧ p (lsu p n x) = true ∧ ∀ e, x ≤ e → e < lsu p n x → p e = false) := by
  induction n with
  | zero => intro x _; exact Or.inl ⟨rfl, fun e h0 h1 => by omega⟩
  | succ n ih =>
    intro x hx
    unfold lsu
    split
    · rename_i h
      exact Or.inr ⟨by omega, by omega, h, fun e h0 h1 => by omega⟩
    · rename_i h
      have h' : p x = false := by simpa using h
      rcases ih (x + 1) (by omega) with ⟨h1, h2⟩ | ⟨h1, h2, h3, h4⟩
      · exact Or.inl ⟨h1, fun e h5 h6 => by
          by_cases he : e = x
          · rw [he]; exact h'
          · exact h2 e (by omega) (by omega)⟩
      · exact Or.inr ⟨by omega, by omega, h3, fun e h5 h6 => by
          by_cases he : e = x
          · rw [he]; exact h'
          · exact h4 e (by omega) (by omega)⟩
/-! the tree -/
def tou (σ : Sp) (r : Int → Bool) : Int := lsu (fun e => r (sF σ e) != r (sT σ e)) (sE σ).toNat 0
def trs (σ : Sp) : Nat → (Int → Bool) × (Int → Bool)
  | 0 => (fun c => decide (c = 0), fun _ => false)
  | n + 1 => if tou σ (trs σ n).1 = -1 then trs σ n else (fun c => (trs σ n).1 c || decide (c = sF σ (tou σ (trs σ n).1)) || decide (c = sT σ (tou σ (trs σ n).1)), fun e => (trs σ n).2 e || decide (e = tou σ (trs σ n).1))
def tR (σ : Sp) : Int → Bool := (trs σ 32).1
def tT (σ : Sp) : Int → Bool := (trs σ 32).2
def isTn (σ : Sp) (e : Int) : Bool := tR σ (sF σ e) && !tT σ e
def sW (σ : Sp) (e : Int) : Int := if tT σ e then -1 else if tR σ (sF σ e) then cnt (isTn σ) e.toNat else -2
def sN (σ : Sp) : Int := cnt (isTn σ) (sE σ).toNat
def sQ (σ : Sp) : Int := cnt (tR σ) (sC σ).toNat
theorem tou_spec (σ : Sp) (r : Int → Bool) (hE : 0 ≤ sE σ) : (tou σ r = -1 ∧ ∀ e, 0 ≤ e → e < sE σ → r (sF σ e) = r (sT σ e)) ∨ (0 ≤ tou σ r ∧ tou σ r < sE σ ∧ r (sF σ (tou σ r)) ≠ r (sT σ (tou σ r)) ∧ ∀ e, 0 ≤ e → e < tou σ r → r (sF σ e) = r (sT σ e)) := by
  unfold tou
  rcases lsu_spec (fun e => r (sF σ e) != r (sT σ e)) (sE σ).toNat 0 (by omega) with ⟨h1, h2⟩ | ⟨h1, h2, h3, h4⟩
  · exact Or.inl ⟨h1, fun e h5 h6 => by have := h2 e h5 (by omega); simpa using this⟩
  · exact Or.inr ⟨h1, by omega, by simpa using h3, fun e h5 h6 => by have := h4 e h5 h6; simpa using this⟩
theorem trs_stop {σ : Sp} {k : Nat} (h : tou σ (trs σ k).1 = -1) (n : Nat) : trs σ (k + n) = trs σ k := by
  induction n with
  | zero => rfl
  | succ n ih =>
    show (if tou σ (trs σ (k + n)).1 = -1 then trs σ (k + n) else _) = _
    rw [ih, if_pos h]
theorem trs_cnt {σ : Sp} {mC mE : Int} (hw : WfE σ mC mE) (k : Nat) (h : ∀ j, j < k → tou σ (trs σ j).1 ≠ -1) : cnt (trs σ k).1 (sC σ).toNat = k + 1 := by
  obtain ⟨w1, w2, w3, w4, w5⟩ := hw
  induction k with
  | zero =>
    have : cnt (trs σ 0).1 (sC σ).toNat = cnt (fun _ => false) (sC σ).toNat + 1 := cnt_set _ (x := 0) (by omega) (by omega) rfl rfl (fun c hc => by simp [trs, hc])
    rw [this]
    have h2 : ∀ n, cnt (fun _ => false) n = 0 := by
      intro n
      induction n with
      | zero => rfl
      | succ n ih => unfold cnt; rw [ih]; rfl
    rw [h2]
    rfl
  | succ k ih =>
    have h0 := h k (by omega)
    have ih := ih (fun j hj => h j (by omega))
    rcases tou_spec σ (trs σ k).1 w3 with ⟨h1, _⟩ | ⟨h1, h2, h3, _⟩
    · exact absurd h1 h0
    · have hw := w5 _ h1 h2
      have e1 : (trs σ (k + 1)).1 = fun c => (trs σ k).1 c || decide (c = sF σ (tou σ (trs σ k).1)) || decide (c = sT σ (tou σ (trs σ k).1)) := by
        show (if tou σ (trs σ k).1 = -1 then trs σ k else _).1 = _
        rw [if_neg h0]
      rw [e1]
      generalize tou σ (trs σ k).1 = e at *
      cases hF : (trs σ k).1 (sF σ e) with
      | true =>
        have hT : (trs σ k).1 (sT σ e) = false := by
          cases hT : (trs σ k).1 (sT σ e) with
          | true => rw [hF, hT] at h3; exact absurd rfl h3
          | false => rfl
        rw [cnt_set (r := (trs σ k).1) (x := sT σ e) _ (by omega) (by omega) hT (by simp) (fun c hc => by
          simp only [hc, decide_false, Bool.or_false]
          by_cases hc2 : c = sF σ e
          · rw [hc2, hF]; rfl
          · simp [hc2]), ih]
        omega
      | false =>
        have hT : (trs σ k).1 (sT σ e) = true := by
          cases hT : (trs σ k).1 (sT σ e) with
          | true => rfl
          | false => rw [hF, hT] at h3; exact absurd rfl h3
        rw [cnt_set (r := (trs σ k).1) (x := sF σ e) _ (by omega) (by omega) hF (by simp) (fun c hc => by
          simp only [hc, decide_false, Bool.or_false]
          by_cases hc2 : c = sT σ e
          · rw [hc2, hT]; rfl
          · simp [hc2]), ih]
        omega
/-- where no edge leads out any more, the tree is whole -/
theorem trs_end {σ : Sp} {mC mE : Int} (hw : WfE σ mC mE) (hC : mC ≤ 32) {k : Nat} (h : tou σ (trs σ k).1 = -1) (hk : ∀ j, j < k → tou σ (trs σ j).1 ≠ -1) : trs σ 32 = trs σ k := by
  have h1 := trs_cnt hw k hk
  have h2 := (cnt_le (trs σ k).1 (sC σ).toNat).2
  have h3 : k ≤ 32 := by have := hw.2.1; have := hw.1; omega
  have h4 := trs_stop h (32 - k)
  rwa [show k + (32 - k) = 32 by omega] at h4
