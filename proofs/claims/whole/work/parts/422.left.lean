/-! what is left of the class's search; the steps that it may take -/
def clp (t : Int → Int) (L : Int) : Int → Int := fun i => if 0 ≤ i ∧ i < L then t i else 0
theorem clp_se (t : Int → Int) {L : Int} (y : Int) (hL : 0 ≤ L) : seT (clp t L) L y = clp (seT t L y) (L + 1) := by
  funext i
  unfold seT clp
  by_cases h : i = L
  · rw [if_pos h, if_pos (by omega)]
    exact (if_pos h).symm
  · rw [if_neg h]
    by_cases h1 : 0 ≤ i ∧ i < L
    · rw [if_pos h1, if_pos (by omega)]
      exact (if_neg h).symm
    · rw [if_neg h1, if_neg (by omega)]
theorem clp_cg {t t' : Int → Int} {L : Int} (h : ∀ j, 0 ≤ j → j < L → t j = t' j) : clp t L = clp t' L := by
  funext i
  unfold clp
  by_cases h1 : 0 ≤ i ∧ i < L
  · rw [if_pos h1, if_pos h1]; exact h i h1.1 h1.2
  · rw [if_neg h1, if_neg h1]
/-- what is left at level L when y is tried next -/
def lft (p : (Int → Int) → Bool) (o N : Nat) (t : Int → Int) : Nat → Nat → List (Int → Int)
  | 0, y => solF p o (N - 1) 0 (clp t 0) y (o - y)
  | L + 1, y => solF p o (N - 1 - (L + 1)) ((L : Int) + 1) (clp t ((L : Int) + 1)) y (o - y) ++ lft p o N t L (t L + 1).toNat
/-- steps of the search below m levels; left at level L -/
def wgt (o : Nat) : Nat → Nat
  | 0 => 0
  | m + 1 => o * (1 + wgt o m) + 1
def wgl (o N : Nat) (t : Int → Int) : Nat → Nat → Nat
  | 0, y => (o - y) * (1 + wgt o (N - 1)) + 1
  | L + 1, y => (o - y) * (1 + wgt o (N - 1 - (L + 1))) + 1 + wgl o N t L (t L + 1).toNat
theorem wgt_le {o : Nat} (ho : 2 ≤ o) : ∀ m, wgt o m + 3 ≤ 5 * o ^ m := by
  intro m
  induction m with
  | zero => simp [wgt]
  | succ m ih =>
    unfold wgt
    have h1 : o * (wgt o m + 3) ≤ o * (5 * o ^ m) := Nat.mul_le_mul_left o ih
    have h2 : o * (5 * o ^ m) = 5 * o ^ (m + 1) := by rw [Nat.pow_succ]; rw [Nat.mul_comm o, Nat.mul_assoc]
    rw [h2, Nat.mul_add] at h1
    rw [Nat.mul_add, Nat.mul_one]
    omega
theorem lft_cg (p : (Int → Int) → Bool) (o N : Nat) {t t' : Int → Int} : ∀ (L y : Nat), (∀ j : Int, 0 ≤ j → j < L → t j = t' j) → lft p o N t L y = lft p o N t' L y := by
  intro L
  induction L with
  | zero =>
    intro y h
    unfold lft
    rw [clp_cg (t := t) (t' := t') (fun j a b => by omega)]
  | succ L ih =>
    intro y h
    unfold lft
    rw [clp_cg (t := t) (t' := t') (fun j a b => h j a (by omega)), h L (by omega) (by omega), ih _ (fun j a b => h j a (by omega))]
theorem wgl_cg (o N : Nat) {t t' : Int → Int} : ∀ (L y : Nat), (∀ j : Int, 0 ≤ j → j < L → t j = t' j) → wgl o N t L y = wgl o N t' L y := by
  intro L
  induction L with
  | zero => intro y h; rfl
  | succ L ih =>
    intro y h
    unfold wgl
    rw [h L (by omega) (by omega), ih _ (fun j a b => h j a (by omega))]
theorem solF_nil (p : (Int → Int) → Bool) (o m : Nat) (x : Int) (t : Int → Int) (y : Nat) : solF p o m x t y 0 = [] := by simp [solF]
/-- one more is tried -/
theorem lft_try (p : (Int → Int) → Bool) (o N : Nat) (t : Int → Int) (L y : Nat) (hy : y < o) : lft p o N t L y = sols p o (N - 1 - L) ((L : Int) + 1) (clp (seT t L y) ((L : Int) + 1)) ++ lft p o N t L (y + 1) := by
  have e : o - y = (o - (y + 1)) + 1 := by omega
  cases L with
  | zero =>
    unfold lft
    rw [e, solF_succ]
    have := clp_se t (L := 0) (y : Int) (by omega)
    rw [this]
    rfl
  | succ L =>
    unfold lft
    rw [e, solF_succ, List.append_assoc]
    have := clp_se t (L := (L : Int) + 1) (y : Int) (by omega)
    rw [this]
    rfl
theorem wgl_try (o N : Nat) (t : Int → Int) (L y : Nat) (hy : y < o) : wgl o N t L y = 1 + wgt o (N - 1 - L) + wgl o N t L (y + 1) := by
  have e : o - y = (o - (y + 1)) + 1 := by omega
  cases L with
  | zero =>
    unfold wgl
    rw [e, Nat.succ_mul]
    rw [show N - 1 - 0 = N - 1 by omega]
    omega
  | succ L =>
    unfold wgl
    rw [e, Nat.succ_mul]
    omega
/-- a level deeper -/
theorem lft_down (p : (Int → Int) → Bool) (o N : Nat) (t : Int → Int) (L y : Nat) (hL : L + 1 < N) : lft p o N (seT t L y) (L + 1) 0 = sols p o (N - 1 - L) ((L : Int) + 1) (clp (seT t L y) ((L : Int) + 1)) ++ lft p o N t L (y + 1) := by
  conv => lhs; unfold lft
  have e : N - 1 - L = (N - 1 - (L + 1)) + 1 := by omega
  have e1 : (seT t L y L + 1).toNat = y + 1 := by unfold seT; rw [if_pos rfl]; omega
  rw [e1, e, lft_cg p o N (t := seT t L y) (t' := t) L (y + 1) (fun j a b => by unfold seT; rw [if_neg (by omega)])]
  rfl
theorem wgl_down (o N : Nat) (t : Int → Int) (L y : Nat) (hL : L + 1 < N) : wgl o N (seT t L y) (L + 1) 0 = wgt o (N - 1 - L) + wgl o N t L (y + 1) := by
  conv => lhs; unfold wgl
  have e : N - 1 - L = (N - 1 - (L + 1)) + 1 := by omega
  have e1 : (seT t L y L + 1).toNat = y + 1 := by unfold seT; rw [if_pos rfl]; omega
  rw [e1, e, wgl_cg o N (t := seT t L y) (t' := t) L (y + 1) (fun j a b => by unfold seT; rw [if_neg (by omega)])]
  rfl
