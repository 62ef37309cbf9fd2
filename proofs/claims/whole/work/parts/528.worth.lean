/-! the reference's forms: one row more -/
def sg (k : Nat) : Int := if k % 2 = 0 then 1 else -1
theorem sg_s (k : Nat) : sg (k + 1) = - sg k := by
  unfold sg
  split <;> split <;> omega
def pw (w v : Vc) (S m : Nat) : Nat → Int
  | 0 => 0
  | k + 1 => pw w v S m k + (if S.testBit k then sg (m + pcb k S) * (v k * w (S - 2 ^ k)) else 0)
theorem sg_add (a b : Nat) : sg (a + 2 * b) = sg a := by
  unfold sg
  rw [show (a + 2 * b) % 2 = a % 2 by omega]
theorem pcb_lw {n S : Nat} : ∀ j, j ≤ n → pcb j (S + 2 ^ n) = pcb j S := by
  intro j
  induction j with
  | zero => intro _; rfl
  | succ j ih =>
    intro hj
    unfold pcb
    rw [ih (by omega), Nat.add_comm S, Nat.testBit_two_pow_add_gt (by omega)]
theorem pw_lw {w v : Vc} {n S m : Nat} : ∀ j, j ≤ n → pw w v (S + 2 ^ n) m j = pw (fun T => w (T + 2 ^ n)) v S m j := by
  intro j
  induction j with
  | zero => intro _; rfl
  | succ j ih =>
    intro hj
    unfold pw
    rw [ih (by omega), pcb_lw j (by omega), Nat.add_comm S, Nat.testBit_two_pow_add_gt (by omega)]
    by_cases hb : S.testBit j = true
    · have hle : 2 ^ j ≤ S := Nat.ge_two_pow_of_testBit hb
      have e : 2 ^ n + S - 2 ^ j = S - 2 ^ j + 2 ^ n := by
        generalize 2 ^ j = P at hle ⊢
        generalize 2 ^ n = N
        omega
      rw [if_pos hb, if_pos hb, e]
    · rw [if_neg hb, if_neg hb]
theorem pw_hi {w v : Vc} {S m : Nat} : ∀ n k, S < 2 ^ n → pw w v S m (n + k) = pw w v S m n := by
  intro n k hS
  induction k with
  | zero => rfl
  | succ k ih =>
    show pw w v S m (n + k) + (if S.testBit (n + k) then _ else 0) = _
    rw [Nat.testBit_lt_two_pow (Nat.lt_of_lt_of_le hS (Nat.pow_le_pow_right (by decide) (by omega))), ih]
    simp
theorem pw_wdg {v : Vc} {m : Nat} {n : Nat} : ∀ {w : Vc} (S : Nat), S < 2 ^ n → pw w v S m n = sg (m + 1 + pcb n S) * wdg n w v S := by
  induction n with
  | zero => intro w S _; show (0 : Int) = _ * 0; omega
  | succ n ih =>
    intro w
    refine wdg_mask (fun S hS => ?_) (fun S hS => ?_)
    · rw [wdg_lo hS, pcb_lo hS, ← ih S hS]
      exact pw_hi n 1 hS
    · rw [wdg_hi, pcb_hi hS]
      have e1 : pw w v (S + 2 ^ n) m (n + 1) = pw w v (S + 2 ^ n) m n + (if (S + 2 ^ n).testBit n then sg (m + pcb n (S + 2 ^ n)) * (v n * w (S + 2 ^ n - 2 ^ n)) else 0) := rfl
      rw [e1, pw_lw n (by omega), ih S hS, pcb_lw n (by omega), if_pos (by rw [Nat.add_comm, Nat.testBit_two_pow_add_eq, Nat.testBit_lt_two_pow hS]; rfl), Nat.add_sub_cancel, show m + 1 + (pcb n S + 1) = (m + pcb n S) + 2 * 1 by omega, sg_add, show m + 1 + pcb n S = (m + pcb n S) + 1 by omega, sg_s]
      grind
theorem pw_wdg' {v w : Vc} {m n S : Nat} (hS : S < 2 ^ n) (hp : pcb n S = m + 1) : pw w v S m n = wdg n w v S := by
  rw [pw_wdg S hS, hp, show m + 1 + (m + 1) = 0 + 2 * (m + 1) by omega, sg_add]
  show 1 * _ = _
  omega
/-- one column taken out of a mask -/
theorem and_out : ∀ e : Fin 12, ∀ a b : Fin 64, (64 * a.val + b.val).testBit e.val = true → (64 * a.val + b.val) &&& (4294967295 - 2 ^ e.val) = 64 * a.val + b.val - 2 ^ e.val := by decide +kernel
theorem zand_out {S e : Nat} (hS : S < 4096) (he : e < 12) (hb : S.testBit e = true) : zand (S : Int) (zxor (zshl 1 (e : Int)) (-1)) = ((S - 2 ^ e : Nat) : Int) := by
  have h1 : ∀ e : Fin 12, Int32.ofInt (zxor (zshl 1 ((e.val : Nat) : Int)) (-1)) = Int32.ofInt ((4294967295 - 2 ^ e.val : Nat) : Int) := by decide +kernel
  have h2 := h1 ⟨e, he⟩
  have h3 := and_out ⟨e, he⟩ ⟨S / 64, by omega⟩ ⟨S % 64, by omega⟩
  simp only at h2 h3
  rw [show 64 * (S / 64) + S % 64 = S by omega] at h3
  replace h3 := h3 hb
  have hp : (2 : Nat) ^ e ≤ 2 ^ 11 := Nat.pow_le_pow_right (by decide) (by omega)
  unfold zand
  rw [h2]
  generalize hP : 2 ^ e = P at *
  refine i32_lt ?_ (by omega)
  rw [← h3]
  show ((Int32.ofInt (S : Int)).toBitVec &&& (Int32.ofInt ((4294967295 - P : Nat) : Int)).toBitVec).toNat = _
  rw [BitVec.toNat_and, bvn32 S (by omega), bvn32 _ (by omega)]
