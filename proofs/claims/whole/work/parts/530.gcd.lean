/-! the reference's worths and common divisors -/
theorem m_worthOf {μ : zMem} {f wide : Int} {many S : Nat} {w v : Vc} (hf : 0 ≤ f ∧ f < 8) (hW : 0 ≤ wide ∧ wide ≤ 12) (hm : many < 8) (hS : S < 2 ^ wide.toNat) (hp : pcb wide.toNat S = many + 1) (hv : ∀ e : Nat, (e : Int) < wide → μ 124 (48 * f + e) = v e ∧ -8 ≤ v e ∧ v e ≤ 8) (hw : ∀ T : Nat, T < 2 ^ wide.toNat → pcb wide.toNat T = many → μ 126 (4096 * many + T) = w T) (hb : ∀ T : Nat, T < 2 ^ wide.toNat → -16777216 ≤ w T ∧ w T ≤ 16777216) : f_X10_worthOf f (many : Int) (S : Int) wide μ = some (wdg wide.toNat w v S) := by
  have hS12 : S < 4096 := by
    have : (2 : Nat) ^ wide.toNat ≤ 2 ^ 12 := Nat.pow_le_pow_right (by decide) (by omega)
    omega
  have pbd : ∀ k : Nat, (k : Int) ≤ wide → -(134217728 * (k : Int)) ≤ pw w v S many k ∧ pw w v S many k ≤ 134217728 * (k : Int) := by
    intro k
    induction k with
    | zero => intro _; exact ⟨(show -(134217728 * (0 : Int)) ≤ 0 by decide), (show (0 : Int) ≤ 134217728 * 0 by decide)⟩
    | succ k ih =>
      intro hk
      have h1 := ih (by omega)
      show -(134217728 * ((k + 1 : Nat) : Int)) ≤ pw w v S many k + _ ∧ pw w v S many k + _ ≤ 134217728 * ((k + 1 : Nat) : Int)
      split
      · have hvk := (hv k (by omega)).2
        have hle : S - 2 ^ k < 2 ^ wide.toNat := Nat.lt_of_le_of_lt (Nat.sub_le _ _) hS
        have hwk := hb _ hle
        have hprod : -134217728 ≤ v k * w (S - 2 ^ k) ∧ v k * w (S - 2 ^ k) ≤ 134217728 := by
          generalize v k = x at *
          generalize w (S - 2 ^ k) = y at *
          have hx : x = -8 ∨ x = -7 ∨ x = -6 ∨ x = -5 ∨ x = -4 ∨ x = -3 ∨ x = -2 ∨ x = -1 ∨ x = 0 ∨ x = 1 ∨ x = 2 ∨ x = 3 ∨ x = 4 ∨ x = 5 ∨ x = 6 ∨ x = 7 ∨ x = 8 := by omega
          rcases hx with q | q | q | q | q | q | q | q | q | q | q | q | q | q | q | q | q <;> subst q <;> omega
        generalize v k * w (S - 2 ^ k) = z at *
        unfold sg
        split <;> omega
      · omega
  have key : ∀ (q fu k : Nat), q < fu → (k : Int) + q = wide → f_X10_worthOf_L9 f (many : Int) (S : Int) wide μ fu (pw w v S many k) ((pcb k S : Nat) : Int) (k : Int) = some (pw w v S many wide.toNat) := by
    intro q
    induction q with
    | zero =>
      intro fu k hfu hk
      cases fu with
      | zero => omega
      | succ fu =>
        unfold f_X10_worthOf_L9
        rw [if_neg (by omega), show wide.toNat = k by omega]
    | succ q ih =>
      intro fu k hfu hk
      cases fu with
      | zero => omega
      | succ fu =>
        have hk12 : k < 12 := by omega
        have hbit := zbit (x := (S : Int)) (e := (k : Int)) ⟨by omega, by omega⟩ ⟨by omega, by omega⟩
        have htb : bt (S : Int) (k : Int) = 1 ↔ S.testBit k = true := by
          unfold bt
          rw [show ((k : Int)).toNat = k by omega, Nat.testBit_eq_decide_div_mod_eq]
          have e : ((S : Int) / 2 ^ k) % 2 = (((S / 2 ^ k) % 2 : Nat) : Int) := by
            rw [Int.natCast_emod, Int.natCast_ediv, Int.natCast_pow]
            rfl
          rw [e, decide_eq_true_eq]
          omega
        have hpk : pcb k S ≤ 12 := by
          have : ∀ j, pcb j S ≤ j := by
            intro j
            induction j with
            | zero => exact Nat.le_refl _
            | succ j ihj => unfold pcb; split <;> omega
          have := this k
          omega
        unfold f_X10_worthOf_L9
        simp only [zlet]
        rw [if_pos (by omega), hbit]
        have e1 : pw w v S many (k + 1) = pw w v S many k + (if S.testBit k then sg (many + pcb k S) * (v k * w (S - 2 ^ k)) else 0) := rfl
        have e2 : pcb (k + 1) S = pcb k S + (if S.testBit k then 1 else 0) := rfl
        have hb1 := pbd k (by omega)
        have hb2 := pbd (k + 1) (by omega)
        by_cases hb0 : S.testBit k = true
        · rw [if_pos hb0] at e1 e2
          have hle : 2 ^ k ≤ S := Nat.ge_two_pow_of_testBit hb0
          have hlt : S - 2 ^ k < 2 ^ wide.toNat := Nat.lt_of_le_of_lt (Nat.sub_le _ _) hS
          have hpm : pcb wide.toNat (S - 2 ^ k) = many := by
            have out : ∀ n T : Nat, T < 2 ^ n → T.testBit k = true → pcb n T = pcb n (T - 2 ^ k) + 1 := by
              intro n
              induction n with
              | zero => intro T hT hb; rw [show T = 0 by simpa using hT] at hb; simp at hb
              | succ n ihn =>
                refine wdg_mask (fun T hT hb => ?_) (fun T hT hb => ?_)
                · have hle2 : T - 2 ^ k < 2 ^ n := Nat.lt_of_le_of_lt (Nat.sub_le _ _) hT
                  rw [pcb_lo hT, pcb_lo hle2]
                  exact ihn T hT hb
                · by_cases hkn : k = n
                  · subst hkn
                    rw [pcb_hi hT, Nat.add_sub_cancel, pcb_lo hT]
                  · have hkn2 : k < n := by
                      by_cases q : k < n
                      · exact q
                      · exfalso
                        have h2n : 2 ^ (n + 1) = 2 ^ n + 2 ^ n := by rw [Nat.pow_succ]; omega
                        have : T + 2 ^ n < 2 ^ k := Nat.lt_of_lt_of_le (by omega) (Nat.pow_le_pow_right (show 0 < 2 by decide) (show n + 1 ≤ k by omega))
                        rw [Nat.testBit_lt_two_pow this] at hb
                        exact absurd hb (by decide)
                    rw [Nat.add_comm, Nat.testBit_two_pow_add_gt hkn2] at hb
                    have hle2 : 2 ^ k ≤ T := Nat.ge_two_pow_of_testBit hb
                    have e3 : T + 2 ^ n - 2 ^ k = (T - 2 ^ k) + 2 ^ n := by
                      generalize 2 ^ k = P at *
                      generalize 2 ^ n = N at *
                      omega
                    rw [e3, pcb_hi hT, pcb_hi (Nat.lt_of_le_of_lt (Nat.sub_le _ _) hT), ihn T hT hb]
            have := out wide.toNat S hS hb0
            omega
          have hvk := hv k (by omega)
          have hwk := hb _ hlt
          have hwc := hw _ hlt hpm
          have hS2 : S - 2 ^ k < 4096 := Nat.lt_of_le_of_lt (Nat.sub_le _ _) hS12
          rw [if_pos (htb.mpr hb0), zw_eq (x := 48 * f) (by omega) (by omega), zw_eq (x := 48 * f + (k : Int)) (by omega) (by omega), chk_pos (by omega), zand_out hS12 hk12 hb0, zw_eq (x := 4096 * (many : Int)) (by omega) (by omega), zw_eq (x := 4096 * (many : Int) + ((S - 2 ^ k : Nat) : Int)) (by omega) (by omega), chk_pos (by omega), hvk.1, hwc, zw_eq (x := (many : Int) + ((pcb k S : Nat) : Int)) (by omega) (by omega)]
          have hprod : -134217728 ≤ v k * w (S - 2 ^ k) ∧ v k * w (S - 2 ^ k) ≤ 134217728 := by
            have hx2 := hvk.2
            generalize v k = x at hx2 ⊢
            generalize w (S - 2 ^ k) = y at hwk ⊢
            have hx : x = -8 ∨ x = -7 ∨ x = -6 ∨ x = -5 ∨ x = -4 ∨ x = -3 ∨ x = -2 ∨ x = -1 ∨ x = 0 ∨ x = 1 ∨ x = 2 ∨ x = 3 ∨ x = 4 ∨ x = 5 ∨ x = 6 ∨ x = 7 ∨ x = 8 := by omega
            rcases hx with q | q | q | q | q | q | q | q | q | q | q | q | q | q | q | q | q <;> subst q <;> omega
          generalize hz : v k * w (S - 2 ^ k) = z at *
          have hsg : (if Int.tmod ((many : Int) + ((pcb k S : Nat) : Int)) 2 = 0 then zl z else zl (-(zl z))) = sg (many + pcb k S) * z := by
            rw [zl_eq (x := z) (by omega) (by omega), zl_eq (x := -z) (by omega) (by omega), Int.tmod_eq_emod_of_nonneg (by omega)]
            unfold sg
            by_cases q : (many + pcb k S) % 2 = 0
            · rw [if_pos (by omega), if_pos q]; omega
            · rw [if_neg (by omega), if_neg q]; omega
          unfold f_X10_worthOf_J80
          simp only [zlet]
          rw [hsg, ← e1, zl_eq (by omega) (by omega), zw_eq (x := ((pcb k S : Nat) : Int) + 1) (by omega) (by omega), zw_eq (x := (k : Int) + 1) (by omega) (by omega), show ((pcb k S : Nat) : Int) + 1 = ((pcb (k + 1) S : Nat) : Int) by omega, show (k : Int) + 1 = ((k + 1 : Nat) : Int) by omega]
          exact ih fu (k + 1) (by omega) (by omega)
        · rw [if_neg hb0] at e1 e2
          rw [if_neg (fun q => hb0 (htb.mp q)), zw_eq (x := (k : Int) + 1) (by omega) (by omega)]
          have := ih fu (k + 1) (by omega) (by omega)
          rw [e1, e2, Int.add_zero, Nat.add_zero, show ((k + 1 : Nat) : Int) = (k : Int) + 1 by omega] at this
          exact this
  unfold f_X10_worthOf
  have := key wide.toNat zfu 0 (by unfold zfu; omega) (by omega)
  rw [pw_wdg' hS hp] at this
  exact this
theorem dvd_mod {d a b : Int} : (d ∣ b ∧ d ∣ a % b) ↔ (d ∣ a ∧ d ∣ b) := by
  have e := Int.mul_ediv_add_emod a b
  constructor
  · rintro ⟨h1, h2⟩
    refine ⟨?_, h1⟩
    rw [← e]
    exact Int.dvd_add (Int.dvd_mul_of_dvd_left h1) h2
  · rintro ⟨h1, h2⟩
    refine ⟨h2, ?_⟩
    have : a % b = a - b * (a / b) := by omega
    rw [this]
    exact Int.dvd_sub h1 (Int.dvd_mul_of_dvd_left h2)
/-- a greatest common divisor: not below 0, and what divides it divides both -/
def Gd2 (g a b : Int) : Prop := 0 ≤ g ∧ ∀ d, d ∣ g ↔ d ∣ a ∧ d ∣ b
theorem mod_half {b r : Int} (h0 : 0 < r) (h1 : r < b) : 2 * (b % r) < b := by
  by_cases h : 2 * r ≤ b
  · have := Int.emod_lt_of_pos b h0
    omega
  · have : b % r = b - r := by
      have e : b = (b - r) + r := by omega
      conv => lhs; rw [e]
      rw [Int.add_emod_right, Int.emod_eq_of_lt (by omega) (by omega)]
    omega
theorem m_gcdL {B : Int} : ∀ (q fu : Nat) (a b : Int), 2 * q + 1 < fu → 0 ≤ a ∧ a ≤ B → 0 ≤ b ∧ b ≤ B → b < 2 ^ q → ∃ g, f_X10_gcd_L28 fu a b = some g ∧ g ≤ B ∧ Gd2 g a b := by
  intro q
  induction q with
  | zero =>
    intro fu a b hfu ha hb hq
    cases fu with
    | zero => omega
    | succ fu =>
      have : b = 0 := by
        have : (2 : Int) ^ 0 = 1 := rfl
        omega
      refine ⟨a, ?_, ha.2, ha.1, fun d => ?_⟩
      · unfold f_X10_gcd_L28
        rw [if_pos this]
      · rw [this]
        exact ⟨fun h => ⟨h, Int.dvd_zero d⟩, fun h => h.1⟩
  | succ q ih =>
    intro fu a b hfu ha hb hq
    have stop : ∀ (fu : Nat) (a : Int), 0 < fu → 0 ≤ a ∧ a ≤ B → ∃ g, f_X10_gcd_L28 fu a 0 = some g ∧ g ≤ B ∧ Gd2 g a 0 := by
      intro fu a hfu ha
      cases fu with
      | zero => omega
      | succ fu =>
        refine ⟨a, ?_, ha.2, ha.1, fun d => ⟨fun h => ⟨h, Int.dvd_zero d⟩, fun h => h.1⟩⟩
        unfold f_X10_gcd_L28
        rw [if_pos rfl]
    by_cases h0 : b = 0
    · rw [h0]; exact stop fu a (by omega) ha
    · cases fu with
      | zero => omega
      | succ fu =>
        have hr : 0 ≤ a % b ∧ a % b < b := ⟨Int.emod_nonneg _ h0, Int.emod_lt_of_pos _ (by omega)⟩
        have e1 : f_X10_gcd_L28 (fu + 1) a b = f_X10_gcd_L28 fu b (a % b) := by
          conv => lhs; unfold f_X10_gcd_L28
          simp only [zlet]
          rw [if_neg h0, chk_pos h0, Int.tmod_eq_emod_of_nonneg ha.1]
        rw [e1]
        by_cases h1 : a % b = 0
        · rw [h1]
          obtain ⟨g, g1, g2, g3, g4⟩ := stop fu b (by omega) hb
          refine ⟨g, g1, g2, g3, fun d => ?_⟩
          rw [g4, ← dvd_mod (a := a) (b := b), h1]
        · cases fu with
          | zero => omega
          | succ fu =>
            have hh := mod_half (b := b) (r := a % b) (by omega) hr.2
            have hr2 : 0 ≤ b % (a % b) := Int.emod_nonneg _ h1
            have e2 : f_X10_gcd_L28 (fu + 1) b (a % b) = f_X10_gcd_L28 fu (a % b) (b % (a % b)) := by
              conv => lhs; unfold f_X10_gcd_L28
              simp only [zlet]
              rw [if_neg h1, chk_pos h1, Int.tmod_eq_emod_of_nonneg hb.1]
            rw [e2]
            have hp : (2 : Int) ^ (q + 1) = 2 ^ q * 2 := Int.pow_succ ..
            obtain ⟨g, g1, g2, g3, g4⟩ := ih fu (a % b) (b % (a % b)) (by omega) ⟨by omega, by omega⟩ ⟨by omega, by omega⟩ (by omega)
            refine ⟨g, g1, g2, g3, fun d => ?_⟩
            rw [g4, dvd_mod, ← dvd_mod (a := a)]
theorem m_gcd {a b : Int} (ha : -16777216 ≤ a ∧ a ≤ 16777216) (hb : -16777216 ≤ b ∧ b ≤ 16777216) : ∃ g, f_X10_gcd a b = some g ∧ g ≤ 16777216 ∧ Gd2 g a b := by
  have e1 : ∀ x : Int, -16777216 ≤ x ∧ x ≤ 16777216 → (if x < 0 then zl (-x) else x) = (x.natAbs : Int) := by
    intro x hx
    split
    · rw [zl_eq (by omega) (by omega)]; omega
    · omega
  unfold f_X10_gcd f_X10_gcd_J12 f_X10_gcd_J26
  rw [e1 a ha, e1 b hb]
  have hp : (2 : Int) ^ 25 = 33554432 := by decide
  obtain ⟨g, g1, g2, g3, g4⟩ := m_gcdL (B := 16777216) 25 zfu (a.natAbs : Int) (b.natAbs : Int) (by unfold zfu; omega) ⟨by omega, by omega⟩ ⟨by omega, by omega⟩ (by omega)
  refine ⟨g, g1, g2, g3, fun d => ?_⟩
  rw [g4, Int.dvd_natAbs, Int.dvd_natAbs]
