/-! words packed into numbers -/
abbrev Wr : Type := Int × (Int → Int)
def Weq (r r' : Wr) : Prop := r.1 = r'.1 ∧ ∀ i, 0 ≤ i → i < r.1 → r.2 i = r'.2 i
theorem Weq.refl (r : Wr) : Weq r r := ⟨rfl, fun _ _ _ => rfl⟩
theorem Weq.symm {r r' : Wr} (h : Weq r r') : Weq r' r := ⟨h.1.symm, fun i a b => (h.2 i a (by rw [h.1]; exact b)).symm⟩
/-- digits from the low end -/
def smd (d : Nat → Int) : Nat → Int
  | 0 => 0
  | k + 1 => smd d k + d k * 32 ^ k
theorem smd_rg {d : Nat → Int} (h : ∀ i, 0 ≤ d i ∧ d i < 32) (k : Nat) : 0 ≤ smd d k ∧ smd d k < 32 ^ k := by
  induction k with
  | zero => exact ⟨Int.le_refl 0, by show (0 : Int) < 1; decide⟩
  | succ k ih =>
    obtain ⟨i1, i2⟩ := ih
    obtain ⟨h1, h2⟩ := h k
    have hp : (0 : Int) < 32 ^ k := Int.pow_pos (by decide)
    have a1 : 0 ≤ d k * 32 ^ k := Int.mul_nonneg h1 (by omega)
    have a2 : d k * 32 ^ k ≤ 31 * 32 ^ k := Int.mul_le_mul_of_nonneg_right (by omega) (by omega)
    have e : (32 : Int) ^ (k + 1) = 32 ^ k * 32 := Int.pow_succ ..
    show 0 ≤ smd d k + d k * 32 ^ k ∧ smd d k + d k * 32 ^ k < 32 ^ (k + 1)
    rw [e]
    omega
theorem smd_inj {d d' : Nat → Int} (h : ∀ i, 0 ≤ d i ∧ d i < 32) (h' : ∀ i, 0 ≤ d' i ∧ d' i < 32) (k : Nat) (he : smd d k = smd d' k) : ∀ i, i < k → d i = d' i := by
  induction k with
  | zero => intro i hi; omega
  | succ k ih =>
    have b1 := smd_rg h k
    have b2 := smd_rg h' k
    have hp : (0 : Int) < 32 ^ k := Int.pow_pos (by decide)
    have e : smd d k + d k * 32 ^ k = smd d' k + d' k * 32 ^ k := he
    have e1 : d k = d' k := by
      have q1 : (smd d k + d k * 32 ^ k) / 32 ^ k = d k := by
        rw [Int.add_mul_ediv_right _ _ (by omega), Int.ediv_eq_zero_of_lt b1.1 b1.2, Int.zero_add]
      have q2 : (smd d' k + d' k * 32 ^ k) / 32 ^ k = d' k := by
        rw [Int.add_mul_ediv_right _ _ (by omega), Int.ediv_eq_zero_of_lt b2.1 b2.2, Int.zero_add]
      rw [← q1, ← q2, e]
    have e2 : smd d k = smd d' k := by rw [e1] at e; omega
    intro i hi
    by_cases hik : i = k
    · rw [hik]; exact e1
    · exact ih e2 i (by omega)
theorem smd_0 {d : Nat → Int} {m : Nat} (h : ∀ i, m ≤ i → d i = 0) : ∀ k, smd d (m + k) = smd d m := by
  intro k
  induction k with
  | zero => rfl
  | succ k ih =>
    show smd d (m + k) + d (m + k) * 32 ^ (m + k) = _
    rw [h (m + k) (by omega), ih]
    omega
/-- the class's digits -/
def dgC (r : Wr) (i : Nat) : Int := if (i : Int) < r.1 then r.2 i + 1 else 0
def hdC (r : Wr) : Int := smd (dgC r) 12
def tlC (r : Wr) : Int := 1099511627776 + smd (fun i => dgC r (12 + i)) 4
theorem dgC_rg {r : Wr} (h : Rb r 12) (i : Nat) : 0 ≤ dgC r i ∧ dgC r i < 32 := by
  unfold dgC
  split
  · have := h.2 i (by omega) (by assumption)
    omega
  · omega
theorem packC {r r' : Wr} (h : Rb r 12) (h' : Rb r' 12) (hl : r.1 ≤ 16) (hl' : r'.1 ≤ 16) : (hdC r = hdC r' ∧ tlC r = tlC r') ↔ Weq r r' := by
  have h0 := h.1
  have h0' := h'.1
  constructor
  · rintro ⟨e1, e2⟩
    have d1 := smd_inj (dgC_rg h) (dgC_rg h') 12 e1
    have d2 := smd_inj (d := fun i => dgC r (12 + i)) (d' := fun i => dgC r' (12 + i)) (fun i => dgC_rg h (12 + i)) (fun i => dgC_rg h' (12 + i)) 4 (by unfold tlC at e2; omega)
    have d : ∀ i : Nat, i < 16 → dgC r i = dgC r' i := by
      intro i hi
      by_cases h12 : i < 12
      · exact d1 i h12
      · have := d2 (i - 12) (by omega)
        rw [show 12 + (i - 12) = i by omega] at this
        exact this
    have key : ∀ i : Nat, i < 16 → ((i : Int) < r.1 ↔ (i : Int) < r'.1) ∧ ((i : Int) < r.1 → r.2 i = r'.2 i) := by
      intro i hi
      have := d i hi
      unfold dgC at this
      by_cases a : (i : Int) < r.1
      · have hr := h.2 i (by omega) a
        rw [if_pos a] at this
        by_cases b : (i : Int) < r'.1
        · rw [if_pos b] at this
          exact ⟨⟨fun _ => b, fun _ => a⟩, fun _ => by omega⟩
        · rw [if_neg b] at this
          omega
      · rw [if_neg a] at this
        by_cases b : (i : Int) < r'.1
        · have hr := h'.2 i (by omega) b
          rw [if_pos b] at this
          omega
        · exact ⟨⟨fun q => absurd q a, fun q => absurd q b⟩, fun q => absurd q a⟩
    have hlen : r.1 = r'.1 := by
      by_cases hlt : r.1 < r'.1
      · have := (key r.1.toNat (by omega)).1
        omega
      · by_cases hgt : r'.1 < r.1
        · have := (key r'.1.toNat (by omega)).1
          omega
        · omega
    refine ⟨hlen, fun i a b => ?_⟩
    have := (key i.toNat (by omega)).2
    rw [show ((i.toNat : Nat) : Int) = i by omega] at this
    exact this b
  · rintro ⟨e1, e2⟩
    have : dgC r = dgC r' := by
      funext i
      unfold dgC
      rw [← e1]
      by_cases a : (i : Int) < r.1
      · rw [if_pos a, if_pos a, e2 i (by omega) a]
      · rw [if_neg a, if_neg a]
    unfold hdC tlC
    rw [this]
    exact ⟨rfl, rfl⟩
theorem tlC_ne {r : Wr} (h : Rb r 12) : tlC r ≠ 0 := by
  have := smd_rg (d := fun i => dgC r (12 + i)) (fun i => dgC_rg h (12 + i)) 4
  unfold tlC
  omega
/-- digits from the high end: the reference's -/
def hor (a : Int) (d : Nat → Int) : Nat → Int
  | 0 => a
  | k + 1 => 32 * hor a d k + d k
theorem hor_inj {d d' : Nat → Int} {a a' : Int} (h : ∀ i, 0 ≤ d i ∧ d i < 32) (h' : ∀ i, 0 ≤ d' i ∧ d' i < 32) (k : Nat) (he : hor a d k = hor a' d' k) : a = a' ∧ ∀ i, i < k → d i = d' i := by
  induction k with
  | zero => exact ⟨he, fun i hi => by omega⟩
  | succ k ih =>
    have e : 32 * hor a d k + d k = 32 * hor a' d' k + d' k := he
    have h1 := h k
    have h2 := h' k
    obtain ⟨i1, i2⟩ := ih (by omega)
    refine ⟨i1, fun i hi => ?_⟩
    by_cases hik : i = k
    · rw [hik]; omega
    · exact i2 i (by omega)
theorem hor_rg {d : Nat → Int} {a : Int} (h : ∀ i, 0 ≤ d i ∧ d i < 32) (ha : 0 ≤ a) (k : Nat) : a * 32 ^ k ≤ hor a d k ∧ hor a d k < (a + 1) * 32 ^ k := by
  induction k with
  | zero => 
    show a * 1 ≤ a ∧ a < (a + 1) * 1
    omega
  | succ k ih =>
    have h1 := h k
    have e : (32 : Int) ^ (k + 1) = 32 ^ k * 32 := Int.pow_succ ..
    rw [e, ← Int.mul_assoc, ← Int.mul_assoc]
    show _ ≤ 32 * hor a d k + d k ∧ 32 * hor a d k + d k < _
    omega
def dgM (r : Wr) (i : Nat) : Int := if (i : Int) < r.1 then stp (r.2 i) + 15 else 0
def n12 (r : Wr) : Nat := if r.1 ≤ 12 then r.1.toNat else 12
def oneM (r : Wr) : Int := hor 0 (dgM r) (n12 r)
def twoM (r : Wr) : Int := hor r.1 (fun i => dgM r (12 + i)) (r.1 - 12).toNat
theorem dgM_rg {r : Wr} (h : Rb r 12) (i : Nat) : 0 ≤ dgM r i ∧ dgM r i < 32 := by
  unfold dgM
  split
  · have := h.2 i (by omega) (by assumption)
    unfold stp
    split <;> omega
  · omega
theorem packM {r r' : Wr} (h : Rb r 12) (h' : Rb r' 12) (hl : r.1 ≤ 16) (hl' : r'.1 ≤ 16) : (oneM r = oneM r' ∧ twoM r = twoM r') ↔ Weq r r' := by
  have h0 := h.1
  have h0' := h'.1
  constructor
  · rintro ⟨e1, e2⟩
    have g1 := hor_rg (d := fun i => dgM r (12 + i)) (fun i => dgM_rg h (12 + i)) h0 (r.1 - 12).toNat
    have g2 := hor_rg (d := fun i => dgM r' (12 + i)) (fun i => dgM_rg h' (12 + i)) h0' (r'.1 - 12).toNat
    have hlen : r.1 = r'.1 := by
      unfold twoM at e2
      rw [e2] at g1
      have c1 : r.1 ≤ 12 ∨ r.1 = 13 ∨ r.1 = 14 ∨ r.1 = 15 ∨ r.1 = 16 := by omega
      have c2 : r'.1 ≤ 12 ∨ r'.1 = 13 ∨ r'.1 = 14 ∨ r'.1 = 15 ∨ r'.1 = 16 := by omega
      have p0 : ∀ x : Int, x ≤ 12 → (x - 12).toNat = 0 := fun x hx => by omega
      have p1 : ((13 : Int) - 12).toNat = 1 := by decide
      have p2 : ((14 : Int) - 12).toNat = 2 := by decide
      have p3 : ((15 : Int) - 12).toNat = 3 := by decide
      have p4 : ((16 : Int) - 12).toNat = 4 := by decide
      rcases c1 with c1 | c1 | c1 | c1 | c1 <;> rcases c2 with c2 | c2 | c2 | c2 | c2 <;>
        first
        | (exact c1.trans c2.symm)
        | (rw [p0 _ c1] at g1; rw [p0 _ c2] at g1 g2; omega)
        | (rw [p0 _ c1] at g1; rw [c2] at g1 g2 ⊢; simp only [p1, p2, p3, p4] at g1 g2; omega)
        | (rw [p0 _ c2] at g1 g2; rw [c1] at g1 ⊢; simp only [p1, p2, p3, p4] at g1 g2; omega)
        | (rw [c1] at g1 ⊢; rw [c2] at g1 g2 ⊢; simp only [p1, p2, p3, p4] at g1 g2; omega)
    have en : n12 r = n12 r' := by unfold n12; rw [hlen]
    have d1 := hor_inj (dgM_rg h) (dgM_rg h') (n12 r) (by unfold oneM at e1; rw [← en] at e1; exact e1)
    have d2 := hor_inj (d := fun i => dgM r (12 + i)) (d' := fun i => dgM r' (12 + i)) (fun i => dgM_rg h (12 + i)) (fun i => dgM_rg h' (12 + i)) (r.1 - 12).toNat (by unfold twoM at e2; rw [← hlen] at e2; exact e2)
    refine ⟨hlen, fun i a b => ?_⟩
    have hd : dgM r i.toNat = dgM r' i.toNat := by
      by_cases h12 : i < 12
      · refine d1.2 i.toNat ?_
        unfold n12
        split <;> omega
      · have := d2.2 (i.toNat - 12) (by omega)
        rw [show 12 + (i.toNat - 12) = i.toNat by omega] at this
        exact this
    unfold dgM at hd
    rw [show ((i.toNat : Nat) : Int) = i by omega, if_pos b, if_pos (by omega)] at hd
    exact stp_inj (h.2 i a b).1 (h'.2 i a (by omega)).1 (by omega)
  · rintro ⟨e1, e2⟩
    have : dgM r = dgM r' := by
      funext i
      unfold dgM
      rw [← e1]
      by_cases a : (i : Int) < r.1
      · rw [if_pos a, if_pos a, e2 i (by omega) a]
      · rw [if_neg a, if_neg a]
    unfold oneM twoM n12
    rw [this, e1]
    exact ⟨rfl, rfl⟩
