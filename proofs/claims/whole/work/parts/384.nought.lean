/-! sums of rows of bits -/
def red (B : Nat → Nat) : Nat → Nat → Nat
  | 0, v => v
  | n + 1, v => red B n (if v.testBit n then v ^^^ B n else v)
theorem red_lin (B : Nat → Nat) (n : Nat) : ∀ v w : Nat, red B n (v ^^^ w) = red B n v ^^^ red B n w := by
  induction n with
  | zero => intro v w; rfl
  | succ n ih =>
    intro v w
    unfold red
    rw [← ih]
    congr 1
    rw [Nat.testBit_xor]
    cases v.testBit n <;> cases w.testBit n <;> simp
    · rw [Nat.xor_assoc]
    · rw [Nat.xor_assoc, Nat.xor_comm w (B n), ← Nat.xor_assoc]
    · rw [Nat.xor_assoc, Nat.xor_comm (B n) (w ^^^ B n), Nat.xor_assoc w, Nat.xor_self, Nat.xor_zero]
theorem red_0 (B : Nat → Nat) (n : Nat) : red B n 0 = 0 := by
  induction n with
  | zero => rfl
  | succ n ih =>
    unfold red
    rw [Nat.zero_testBit]
    exact ih
/-- each row of the basis has its place as its highest bit -/
def Gd (B : Nat → Nat) : Prop := ∀ i, B i ≠ 0 → (B i).testBit i = true ∧ ∀ j, i < j → (B i).testBit j = false
/-- a row that has no bit where the basis has one -/
def Nb (B : Nat → Nat) (n r : Nat) : Prop := ∀ i, i < n → B i ≠ 0 → r.testBit i = false
theorem red_fix {B : Nat → Nat} (n : Nat) : ∀ r, Nb B n r → red B n r = r := by
  induction n with
  | zero => intro r _; rfl
  | succ n ih =>
    intro r h
    unfold red
    by_cases hb : r.testBit n = true
    · have h0 : B n = 0 := by
        cases Nat.decEq (B n) 0 with
        | isTrue e => exact e
        | isFalse e => have := h n (by omega) e; rw [hb] at this; cases this
      rw [if_pos hb, h0, Nat.xor_zero]
      exact ih r (fun i a b => h i (by omega) b)
    · rw [if_neg hb]
      exact ih r (fun i a b => h i (by omega) b)
theorem red_nb {B : Nat → Nat} (hg : Gd B) (n : Nat) : ∀ v, Nb B n (red B n v) ∧ ∀ j, n ≤ j → (∀ i, i < n → (B i).testBit j = false) → (red B n v).testBit j = v.testBit j := by
  induction n with
  | zero => intro v; exact ⟨fun i a => by omega, fun j _ _ => rfl⟩
  | succ n ih =>
    intro v
    have h1 := ih (if v.testBit n then v ^^^ B n else v)
    refine ⟨fun i a b => ?_, fun j a b => ?_⟩
    · show (red B n (if v.testBit n then v ^^^ B n else v)).testBit i = false
      by_cases hi : i < n
      · exact h1.1 i hi b
      · have : i = n := by omega
        subst this
        rw [h1.2 i (Nat.le_refl i) (fun i' hi' => by
          by_cases h0 : B i' = 0
          · rw [h0, Nat.zero_testBit]
          · exact (hg i' h0).2 i hi')]
        cases hv : v.testBit i with
        | true => simp [Nat.testBit_xor, hv, (hg i b).1]
        | false => simp [hv]
    · show (red B n (if v.testBit n then v ^^^ B n else v)).testBit j = _
      rw [h1.2 j (by omega) (fun i hi => b i (by omega))]
      split
      · rw [Nat.testBit_xor, b n (by omega)]; simp
      · rfl
theorem red_row {B : Nat → Nat} (hg : Gd B) (n i : Nat) (hi : i < n) : red B n (B i) = 0 := by
  by_cases h0 : B i = 0
  · rw [h0]; exact red_0 B n
  · induction n with
    | zero => omega
    | succ n ih =>
      unfold red
      by_cases hin : i = n
      · subst hin
        rw [if_pos (hg i h0).1, Nat.xor_self]
        exact red_0 B i
      · have := (hg i h0).2 n (by omega)
        rw [this]
        exact ih (by omega)
/-- one row more in the basis -/
theorem red_upd {B : Nat → Nat} (hg : Gd B) {n h ρ : Nat} (hh : h < n) (hρ : Nb B n ρ) (hb : ρ.testBit h = true) (ht : ∀ j, h < j → ρ.testBit j = false) : Gd (fun i => if i = h then ρ else B i) ∧ B h = 0 ∧ ∀ v, red (fun i => if i = h then ρ else B i) n v = if (red B n v).testBit h then red B n v ^^^ ρ else red B n v := by
  have hB0 : B h = 0 := by
    cases Nat.decEq (B h) 0 with
    | isTrue e => exact e
    | isFalse e => have := hρ h hh e; rw [hb] at this; cases this
  have hg' : Gd (fun i => if i = h then ρ else B i) := by
    intro i hi
    by_cases he : i = h
    · simp only [he, if_true]
      exact ⟨hb, ht⟩
    · simp only [he, if_false] at hi ⊢
      exact hg i hi
  refine ⟨hg', hB0, fun v => ?_⟩
  -- v and its rest have one reduction
  have hsame : ∀ m, m ≤ n → ∀ v, red (fun i => if i = h then ρ else B i) n (red B m v) = red (fun i => if i = h then ρ else B i) n v := by
    intro m
    induction m with
    | zero => intro _ v; rfl
    | succ m ih =>
      intro hm v
      show red (fun i => if i = h then ρ else B i) n (red B m (if v.testBit m then v ^^^ B m else v)) = _
      rw [ih (by omega)]
      split
      · rw [red_lin]
        have : red (fun i => if i = h then ρ else B i) n (B m) = 0 := by
          by_cases he : m = h
          · rw [he, hB0]; exact red_0 _ n
          · have := red_row hg' n m (by omega)
            simp only [he, if_false] at this
            exact this
        rw [this, Nat.xor_zero]
      · rfl
  rw [← hsame n (Nat.le_refl n) v]
  -- a rest: one step at h
  have hfix : ∀ m, ∀ r, Nb B n r → h < m → m ≤ n → red (fun i => if i = h then ρ else B i) m r = if r.testBit h then r ^^^ ρ else r := by
    intro m
    induction m with
    | zero => intro r _ h; omega
    | succ m ih =>
      intro r hr hm hmn
      unfold red
      by_cases he : m = h
      · subst he
        simp only [if_true]
        apply red_fix
        intro i hi hne
        have hne' : B i ≠ 0 := by
          have : i ≠ m := by omega
          simpa only [this, if_false] using hne
        split
        · rw [Nat.testBit_xor, hr i (by omega) hne', hρ i (by omega) hne']; rfl
        · exact hr i (by omega) hne'
      · simp only [he, if_false]
        have hstep : (if r.testBit m then r ^^^ B m else r) = r := by
          by_cases hb0 : B m = 0
          · rw [hb0, Nat.xor_zero]; split <;> rfl
          · rw [hr m (by omega) hb0]; rfl
        rw [hstep]
        exact ih r hr (by omega) (by omega)
  exact hfix n _ (red_nb hg n v).1 hh (Nat.le_refl n)
