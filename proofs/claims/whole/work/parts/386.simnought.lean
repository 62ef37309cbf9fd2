/-! nought: bits of edges whose odd panes are just these -/
theorem ipow {a b : Nat} (h : a ≤ b) : (2 : Int) ^ a ≤ 2 ^ b := by
  have h1 : (2 : Nat) ^ a ≤ 2 ^ b := Nat.pow_le_pow_right (by decide) h
  exact_mod_cast h1
theorem bt_pow {e k : Int} (he : 0 ≤ e) (hk : 0 ≤ k) : bt (2 ^ k.toNat) e = if e = k then 1 else 0 := by
  unfold bt
  by_cases h : e = k
  · rw [if_pos h, h, Int.ediv_self (by have := Int.pow_pos (n := 2) (m := k.toNat) (by decide); omega)]
    rfl
  · rw [if_neg h]
    by_cases h1 : e < k
    · have : k.toNat = (k - e - 1).toNat + 1 + e.toNat := by omega
      rw [this, Int.pow_add, Int.mul_ediv_cancel _ (by have := Int.pow_pos (n := 2) (m := e.toNat) (by decide); omega), Int.pow_succ]
      omega
    · have h2 : (2 : Int) ^ k.toNat < 2 ^ e.toNat := by
        have h3 := ipow (a := k.toNat + 1) (b := e.toNat) (by omega)
        rw [Int.pow_succ] at h3
        have := Int.pow_pos (n := 2) (m := k.toNat) (by decide)
        omega
      rw [Int.ediv_eq_zero_of_lt (by have := Int.pow_pos (n := 2) (m := k.toNat) (by decide); omega) h2]
      rfl
theorem bt_add {x e : Int} {k : Nat} (hx : 0 ≤ x ∧ x < 2 ^ k) (he : 0 ≤ e) : bt (x + 2 ^ k) e = bt x e + bt (2 ^ k) e := by
  have hp : (0 : Int) < 2 ^ e.toNat := Int.pow_pos (by decide)
  have hb := bt_pow (k := (k : Int)) he (by omega)
  rw [show ((k : Int)).toNat = k by omega] at hb
  rw [hb]
  unfold bt
  by_cases h : e = k
  · have hek : e.toNat = k := by omega
    rw [if_pos h, hek, Int.add_ediv_of_dvd_right (Int.dvd_refl _), Int.ediv_self (by rw [hek] at hp; omega), Int.ediv_eq_zero_of_lt hx.1 hx.2]
    rfl
  · rw [if_neg h]
    by_cases h1 : e < k
    · have : k = (k - e.toNat - 1) + 1 + e.toNat := by omega
      have hd : (2 : Int) ^ k = 2 ^ (k - e.toNat - 1) * 2 * 2 ^ e.toNat := by
        rw [← Int.pow_succ, ← Int.pow_add, ← this]
      rw [hd, Int.add_mul_ediv_right _ _ (by omega)]
      omega
    · have h2 : (2 : Int) ^ (k + 1) ≤ 2 ^ e.toNat := ipow (by omega)
      rw [Int.pow_succ] at h2
      rw [Int.ediv_eq_zero_of_lt (by omega) (by omega), Int.ediv_eq_zero_of_lt hx.1 (by omega)]
      rfl
theorem nby_add (σ : Sp) (f : Int) {x : Int} {k : Nat} (hx : 0 ≤ x ∧ x < 2 ^ k) (n : Nat) (hr : ∀ i : Int, 0 ≤ i → i < n → 0 ≤ sR σ f i) : nby σ (x + 2 ^ k) f n = nby σ x f n + nby σ (2 ^ k) f n := by
  induction n with
  | zero => rfl
  | succ n ih =>
    have h1 := hr n (by omega) (by omega)
    unfold nby
    rw [ih (fun i a b => hr i a (by omega)), bt_add hx (by omega)]
    omega
/-- the same as numbers that are not below 0 -/
def odN (σ : Sp) (x : Int) (n : Nat) : Nat := (odf σ x n).toNat
theorem odN_c (σ : Sp) (x : Int) (n : Nat) : ((odN σ x n : Nat) : Int) = odf σ x n := by have := odf_b σ x n; unfold odN; omega
theorem odN_lt (σ : Sp) (x : Int) (n : Nat) : odN σ x n < 2 ^ n := by
  have h1 := (odf_b σ x n).2
  rw [← odN_c] at h1
  exact_mod_cast h1
theorem odN_bit (σ : Sp) (x : Int) (n : Nat) : ∀ f : Nat, (odN σ x n).testBit f = (decide (f < n) && decide (pry σ x f = 1)) := by
  induction n with
  | zero => intro f; show (0 : Nat).testBit f = _; simp
  | succ n ih =>
    intro f
    have h01 : pry σ x n = 0 ∨ pry σ x n = 1 := by unfold pry; omega
    have he : odN σ x (n + 1) = 2 ^ n * (pry σ x n).toNat + odN σ x n := by
      apply Int.ofNat_inj.mp
      rw [odN_c]
      push_cast
      rw [odN_c, show ((pry σ x n).toNat : Int) = pry σ x n by omega]
      show odf σ x n + pry σ x n * 2 ^ n = _
      rw [Int.mul_comm]
      omega
    rw [he, Nat.testBit_two_pow_mul_add _ (odN_lt σ x n)]
    by_cases hf : f < n
    · rw [if_pos hf, ih f]
      simp [hf, show f < n + 1 by omega]
    · rw [if_neg hf]
      by_cases hfn : f = n
      · subst hfn
        rw [Nat.sub_self]
        rcases h01 with h | h <;> rw [h] <;> simp
      · have h1 : (pry σ x n).toNat < 2 ^ (f - n) := by
          have : 2 ^ 1 ≤ 2 ^ (f - n) := Nat.pow_le_pow_right (by decide) (by omega)
          omega
        rw [Nat.testBit_lt_two_pow h1]
        simp [show ¬ f < n + 1 by omega]
theorem odN_add (σ : Sp) {x : Int} {k : Nat} (hx : 0 ≤ x ∧ x < 2 ^ k) (n : Nat) (hr : ∀ f i : Int, 0 ≤ f → f < n → 0 ≤ i → i < sL σ f → 0 ≤ sR σ f i) : odN σ (x + 2 ^ k) n = odN σ x n ^^^ odN σ (2 ^ k) n := by
  apply Nat.eq_of_testBit_eq
  intro f
  rw [Nat.testBit_xor, odN_bit, odN_bit, odN_bit]
  by_cases hf : f < n
  · have hadd : nby σ (x + 2 ^ k) f (sL σ f).toNat = nby σ x f (sL σ f).toNat + nby σ (2 ^ k) f (sL σ f).toNat := nby_add σ f hx _ (fun i a b => hr f i (by omega) (by omega) a (by omega))
    have h1 : pry σ (x + 2 ^ k) f = (pry σ x f + pry σ (2 ^ k) f) % 2 := by unfold pry; rw [hadd]; omega
    have h2 : pry σ x f = 0 ∨ pry σ x f = 1 := by unfold pry; omega
    have h3 : pry σ (2 ^ k) f = 0 ∨ pry σ (2 ^ k) f = 1 := by unfold pry; omega
    rw [h1]
    rcases h2 with h2 | h2 <;> rcases h3 with h3 | h3 <;> rw [h2, h3] <;> simp [hf]
  · simp [hf]
section
variable {μ : zMem} {t : Int} {σ : Sp}
theorem c_stepsBy {e f : Int} (hs : CS μ t σ) (hz : SZ t 8 12 8) (hw : WfP σ 8) (hE : 0 ≤ sE σ ∧ sE σ ≤ 12) (he : 0 ≤ e ∧ e < 12) (hf : 0 ≤ f ∧ f < sP σ) : f_X5_stepsBy t f e μ = some (nby σ (2 ^ e.toNat) f (sL σ f).toNat) := by
  obtain ⟨p1, p2, p3⟩ := hw
  have hz' := hz
  obtain ⟨z1, z2, z3, z4, z5, z6, z7, z8, z9⟩ := hz
  obtain ⟨q1, q2, q3, q4, q5⟩ := p3 f hf.1 hf.2
  have key : ∀ (n : Nat) (i : Int), 0 ≤ i → i ≤ sL σ f → (sL σ f - i).toNat < n → f_X5_stepsBy_L5 t f e μ n (nby σ (2 ^ e.toNat) f i.toNat) i = some (nby σ (2 ^ e.toNat) f (sL σ f).toNat) := by
    intro n
    induction n with
    | zero => intro i _ _ h; omega
    | succ n ih =>
      intro i i0 i1 i2
      unfold f_X5_stepsBy_L5
      rw [chk_pos (by omega), (hs.2.2.2.2 f hf.1 hf.2).1]
      by_cases hi : i < sL σ f
      · have hr := q3 i i0 hi
        have hb := nby_b σ (2 ^ e.toNat) f i.toNat
        have h1 := ih (i + 1) (by omega) (by omega) (by omega)
        rw [nby_s σ _ f i0, bt_pow (by omega) he.1] at h1
        rw [if_pos hi, c_rimStep hs hz' ⟨p1, p2, p3⟩ hf ⟨i0, hi⟩, bnd_pos rfl]
        simp only [zlet]
        rw [zshr1 ⟨by omega, by omega⟩]
        by_cases he2 : sR σ f i / 2 = e
        · rw [if_pos he2] at h1 ⊢
          rw [zw_eq (by omega) (by omega), zw_eq (by omega) (by omega)]
          exact h1
        · rw [if_neg he2] at h1 ⊢
          rw [zw_eq (by omega) (by omega)]
          rw [Int.add_zero] at h1
          exact h1
      · rw [if_neg hi]
        have : i = sL σ f := by omega
        rw [this]
  unfold f_X5_stepsBy
  exact key zfu 0 (by omega) (by omega) (by unfold zfu; omega)
theorem c_oddPanes {e : Int} (hs : CS μ t σ) (hz : SZ t 8 12 8) (hw : WfP σ 8) (hE : 0 ≤ sE σ ∧ sE σ ≤ 12) (he : 0 ≤ e ∧ e < 12) : f_X5_oddPanes t e μ = some (odf σ (2 ^ e.toNat) (sP σ).toNat) := by
  have key : ∀ (n : Nat) (f : Int), 0 ≤ f → f ≤ sP σ → (sP σ - f).toNat < n → f_X5_oddPanes_L4 t e μ n (odf σ (2 ^ e.toNat) f.toNat) f = some (odf σ (2 ^ e.toNat) (sP σ).toNat) := by
    have p1 := hw.1
    have p2 := hw.2.1
    intro n
    induction n with
    | zero => intro f _ _ h; omega
    | succ n ih =>
      intro f f0 f1 f2
      unfold f_X5_oddPanes_L4
      rw [hs.2.2.1]
      by_cases hf : f < sP σ
      · have hb := nby_b σ (2 ^ e.toNat) f (sL σ f).toNat
        have hl := hw.2.2 f f0 hf
        have ho := odf_b σ (2 ^ e.toNat) f.toNat
        have h01 : pry σ (2 ^ e.toNat) f = 0 ∨ pry σ (2 ^ e.toNat) f = 1 := by unfold pry; omega
        have hzz := zor_add (n := f.toNat) ho h01 (by omega)
        rw [show ((f.toNat : Nat) : Int) = f by omega] at hzz
        rw [if_pos hf, c_stepsBy hs hz hw hE he ⟨f0, hf⟩, bnd_pos rfl]
        simp only [zlet]
        rw [zand1 ⟨by omega, by omega⟩]
        show f_X5_oddPanes_L4 t e μ n (zor (odf σ (2 ^ e.toNat) f.toNat) (zshl (pry σ (2 ^ e.toNat) f) f)) (zw (f + 1)) = _
        rw [hzz, zw_eq (by omega) (by omega), ← odf_s σ _ f0]
        exact ih (f + 1) (by omega) (by omega) (by omega)
      · rw [if_neg hf]
        have : f = sP σ := by omega
        rw [this]
  unfold f_X5_oddPanes
  exact key zfu 0 (by omega) hw.1 (by have := hw.2.1; unfold zfu; omega)
end
/-- the class's basis as a row of numbers -/
def bas (c : Int → Int) (i : Nat) : Nat := if i < 8 then (c i).toNat else 0
theorem tbit {v p : Nat} (hv : v < 256) (hp : p < 8) : zand (zshr (v : Int) (p : Int)) 1 = 1 ↔ v.testBit p = true := by
  rw [zbit ⟨by omega, by omega⟩ ⟨by omega, by omega⟩, Nat.testBit_eq_decide_div_mod_eq]
  unfold bt
  rw [show ((p : Int)).toNat = p by omega]
  have e : ((v : Int) / 2 ^ p) % 2 = ((v / 2 ^ p % 2 : Nat) : Int) := by push_cast; rfl
  rw [e]
  simp
  omega
theorem c_clear {μ : zMem} {v : Nat} (hv : v < 256) (hB : ∀ i : Int, 0 ≤ i → i < 8 → 0 ≤ μ 26 i ∧ μ 26 i < 256) : f_X2_clearByBasis (v : Int) μ = some ((red (bas (μ 26)) 8 v : Nat) : Int) ∧ red (bas (μ 26)) 8 v < 256 := by
  have key : ∀ (m fu : Nat) (v : Nat), v < 256 → m ≤ 8 → m < fu → f_X2_clearByBasis_L5 μ fu (v : Int) ((m : Int) - 1) = some ((red (bas (μ 26)) m v : Nat) : Int) ∧ red (bas (μ 26)) m v < 256 := by
    intro m
    induction m with
    | zero =>
      intro fu v hv _ hf
      cases fu with
      | zero => omega
      | succ fu =>
        unfold f_X2_clearByBasis_L5
        rw [if_pos (by omega)]
        exact ⟨rfl, hv⟩
    | succ m ih =>
      intro fu v hv hm hf
      cases fu with
      | zero => omega
      | succ fu =>
        have hb := hB m (by omega) (by omega)
        have hbm : bas (μ 26) m = (μ 26 (m : Int)).toNat := by unfold bas; rw [if_pos (by omega)]
        unfold f_X2_clearByBasis_L5
        rw [if_neg (by omega), show ((m + 1 : Nat) : Int) - 1 = (m : Int) by omega]
        simp only [zlet]
        rw [zw_eq (by omega) (by omega), show (m : Int) + -1 = (m : Int) - 1 by omega]
        unfold red
        by_cases ht : v.testBit m = true
        · rw [if_pos ((tbit hv (by omega)).mpr ht), chk_pos (by omega), if_pos ht]
          have hx : zxor (v : Int) (μ 26 (m : Int)) = ((v ^^^ bas (μ 26) m : Nat) : Int) := by
            have := zxor_nat (a := v) (b := bas (μ 26) m) (by omega) (by rw [hbm]; omega)
            rw [show ((bas (μ 26) m : Nat) : Int) = μ 26 (m : Int) by rw [hbm]; omega] at this
            exact this
          rw [hx]
          have hlt : v ^^^ bas (μ 26) m < 2 ^ 8 := Nat.xor_lt_two_pow hv (by rw [hbm]; omega)
          exact ih fu _ hlt (by omega) (by omega)
        · rw [if_neg (fun e => ht ((tbit hv (by omega)).mp e)), if_neg ht]
          exact ih fu v hv (by omega) (by omega)
  unfold f_X2_clearByBasis
  exact key 8 zfu v hv (by omega) (by decide)
theorem c_highest {v : Nat} (hv : v < 256) (h0 : v ≠ 0) : ∃ h : Nat, f_X2_highestBit (v : Int) = some (h : Int) ∧ h < 8 ∧ v.testBit h = true ∧ ∀ j, h < j → v.testBit j = false := by
  have key : ∀ (m fu : Nat), m < 8 → m < fu → v < 2 ^ (m + 1) → ∃ h : Nat, f_X2_highestBit_L3 (v : Int) fu (m : Int) = some (h : Int) ∧ h < 8 ∧ v.testBit h = true ∧ ∀ j, h < j → v.testBit j = false := by
    intro m
    induction m with
    | zero =>
      intro fu _ hf hl
      cases fu with
      | zero => omega
      | succ fu =>
        unfold f_X2_highestBit_L3
        rw [if_pos (by omega)]
        have : v = 1 := by omega
        subst this
        refine ⟨0, rfl, by omega, by decide, fun j hj => ?_⟩
        exact Nat.testBit_lt_two_pow (Nat.lt_of_lt_of_le (by decide : 1 < 2 ^ 1) (Nat.pow_le_pow_right (by decide) hj))
    | succ m ih =>
      intro fu hm hf hl
      cases fu with
      | zero => omega
      | succ fu =>
        unfold f_X2_highestBit_L3
        have hz : zshr (v : Int) ((m + 1 : Nat) : Int) = ((v / 2 ^ (m + 1) : Nat) : Int) := by
          rw [zshr_n ⟨by omega, by omega⟩ (m + 1) (by omega)]
          push_cast
          rfl
        rw [if_neg (by omega), hz]
        simp only [zlet]
        rw [zw_eq (by omega) (by omega), show ((m + 1 : Nat) : Int) + -1 = (m : Int) by omega]
        by_cases hd : v / 2 ^ (m + 1) = 0
        · rw [if_pos (by rw [hd]; rfl)]
          have : v < 2 ^ (m + 1) := by
            rcases Nat.div_eq_zero_iff.mp hd with h | h
            · exact absurd h (by have := Nat.two_pow_pos (m + 1); omega)
            · exact h
          exact ih fu (by omega) (by omega) this
        · rw [if_neg (fun e => hd (by exact_mod_cast e))]
          have h1 : v / 2 ^ (m + 1) < 2 := by
            rw [Nat.div_lt_iff_lt_mul (Nat.two_pow_pos _)]
            rw [Nat.pow_succ] at hl
            omega
          refine ⟨m + 1, rfl, hm, ?_, fun j hj => ?_⟩
          · rw [Nat.testBit_eq_decide_div_mod_eq]
            have : v / 2 ^ (m + 1) = 1 := by
              generalize v / 2 ^ (m + 1) = d at *
              omega
            rw [this]
            decide
          · exact Nat.testBit_lt_two_pow (Nat.lt_of_lt_of_le hl (Nat.pow_le_pow_right (by decide) (by omega)))
  unfold f_X2_highestBit
  exact key 7 zfu (by omega) (by decide) (by omega)
