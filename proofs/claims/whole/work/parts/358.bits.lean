/-! bits of numbers that are not below 0 -/
theorem i32_nat (a : Nat) : Int32.ofInt (a : Int) = nI a := rfl
theorem i32_lt {x : BitVec 32} {n : Nat} (h : x.toNat = n) (hn : n < 2 ^ 31) : x.toInt = (n : Int) := by
  rw [BitVec.toInt_eq_toNat_cond, h]
  split <;> omega
theorem i64_lt {x : BitVec 64} {n : Nat} (h : x.toNat = n) (hn : n < 2 ^ 63) : x.toInt = (n : Int) := by
  rw [BitVec.toInt_eq_toNat_cond, h]
  split <;> omega
theorem bvn32 (a : Nat) (h : a < 2 ^ 32) : (Int32.ofInt (a : Int)).toBitVec.toNat = a := by
  show (BitVec.ofInt 32 (a : Int)).toNat = a
  rw [BitVec.toNat_ofInt]
  omega
theorem bvn64 (a : Nat) (h : a < 2 ^ 64) : (Int64.ofInt (a : Int)).toBitVec.toNat = a := by
  show (BitVec.ofInt 64 (a : Int)).toNat = a
  rw [BitVec.toNat_ofInt]
  omega
theorem zand_nat {a b : Nat} (ha : a < 2 ^ 31) (hb : b < 2 ^ 31) : zand a b = ((a &&& b : Nat) : Int) := by
  unfold zand
  refine i32_lt ?_ (Nat.and_lt_two_pow a hb)
  rw [Int32.toBitVec_and, BitVec.toNat_and, bvn32 a (by omega), bvn32 b (by omega)]
theorem zor_nat {a b : Nat} (ha : a < 2 ^ 31) (hb : b < 2 ^ 31) : zor a b = ((a ||| b : Nat) : Int) := by
  unfold zor
  refine i32_lt ?_ (Nat.or_lt_two_pow ha hb)
  rw [Int32.toBitVec_or, BitVec.toNat_or, bvn32 a (by omega), bvn32 b (by omega)]
theorem zxor_nat {a b : Nat} (ha : a < 2 ^ 31) (hb : b < 2 ^ 31) : zxor a b = ((a ^^^ b : Nat) : Int) := by
  unfold zxor
  refine i32_lt ?_ (Nat.xor_lt_two_pow ha hb)
  rw [Int32.toBitVec_xor, BitVec.toNat_xor, bvn32 a (by omega), bvn32 b (by omega)]
theorem zlor_nat {a b : Nat} (ha : a < 2 ^ 63) (hb : b < 2 ^ 63) : zlor a b = ((a ||| b : Nat) : Int) := by
  unfold zlor
  refine i64_lt ?_ (Nat.or_lt_two_pow ha hb)
  rw [Int64.toBitVec_or, BitVec.toNat_or, bvn64 a (by omega), bvn64 b (by omega)]
theorem sh32 {n : Nat} (hn : n < 32) : ((Int32.ofInt (n : Int) &&& 31).toBitVec.smod 32).toNat = n := by
  have : ∀ m : Fin 32, ((Int32.ofInt (m.val : Int) &&& 31).toBitVec.smod 32).toNat = m.val := by decide +kernel
  exact this ⟨n, hn⟩
theorem sh64 {n : Nat} (hn : n < 64) : (((Int32.ofInt (n : Int)).toInt64 &&& 63).toBitVec.smod 64).toNat = n := by
  have : ∀ m : Fin 64, (((Int32.ofInt (m.val : Int)).toInt64 &&& 63).toBitVec.smod 64).toNat = m.val := by decide +kernel
  exact this ⟨n, hn⟩
theorem zshl_nat {a n : Nat} (hn : n < 32) (h : a * 2 ^ n < 2 ^ 31) : zshl a n = ((a * 2 ^ n : Nat) : Int) := by
  unfold zshl
  have ha : a < 2 ^ 31 := Nat.lt_of_le_of_lt (Nat.le_mul_of_pos_right a (Nat.two_pow_pos n)) h
  refine i32_lt ?_ h
  rw [pk_shl _ _ n (sh32 hn), bvn32 a (by omega), Nat.mod_eq_of_lt (by omega)]
theorem zlshl_nat {a n : Nat} (hn : n < 64) (h : a * 2 ^ n < 2 ^ 63) : zlshl a n = ((a * 2 ^ n : Nat) : Int) := by
  unfold zlshl
  have ha : a < 2 ^ 63 := Nat.lt_of_le_of_lt (Nat.le_mul_of_pos_right a (Nat.two_pow_pos n)) h
  refine i64_lt ?_ h
  show ((Int64.ofInt (a : Int)).toBitVec <<< (((Int32.ofInt (n : Int)).toInt64 &&& 63).toBitVec.smod 64).toNat).toNat = _
  rw [sh64 hn, BitVec.toNat_shiftLeft, bvn64 a (by omega), Nat.shiftLeft_eq, Nat.mod_eq_of_lt (by omega)]
theorem zlshr_n {x : Int} (h : Rl x) (n : Nat) (hn : n < 64) : zlshr x n = x / 2 ^ n := by
  unfold zlshr
  show ((Int64.ofInt x).toBitVec.sshiftRight (((Int32.ofInt (n : Int)).toInt64 &&& 63).toBitVec.smod 64).toNat).toInt = _
  rw [sh64 hn, BitVec.toInt_sshiftRight]
  show (Int64.ofInt x).toInt >>> n = _
  rw [h.v, Int.shiftRight_eq_div_pow]
  norm_cast
theorem zlushr_n {x : Int} (h : Rl x) (n : Nat) (hn : n < 64) : zlushr x n = zl ((x % 2 ^ 64) / 2 ^ n) := by
  unfold zlushr zl
  have hs : (((Int32.ofInt (n : Int)).toInt64.toUInt64 &&& Int64.toUInt64 63).toBitVec % 64).toNat = n := by
    have : ∀ m : Fin 64, (((Int32.ofInt (m.val : Int)).toInt64.toUInt64 &&& Int64.toUInt64 63).toBitVec % 64).toNat = m.val := by decide +kernel
    exact this ⟨n, hn⟩
  refine congrArg Int64.toInt ?_
  apply Int64.toBitVec_inj.mp
  have e : ((Int64.ofInt x).toUInt64 >>> ((Int32.ofInt (n : Int)).toInt64.toUInt64 &&& Int64.toUInt64 63)).toInt64.toBitVec = (Int64.ofInt x).toBitVec >>> n := by
    have h0 : ((Int64.ofInt x).toUInt64 >>> ((Int32.ofInt (n : Int)).toInt64.toUInt64 &&& Int64.toUInt64 63)).toInt64.toBitVec = (Int64.ofInt x).toBitVec >>> (((Int32.ofInt (n : Int)).toInt64.toUInt64 &&& Int64.toUInt64 63).toBitVec % 64).toNat := UInt64.toBitVec_shiftRight _ _
    rw [h0, hs]
  rw [e]
  apply BitVec.eq_of_toNat_eq
  rw [BitVec.toNat_ushiftRight]
  show (BitVec.ofInt 64 x).toNat >>> n = (BitVec.ofInt 64 _).toNat
  rw [BitVec.toNat_ofInt, BitVec.toNat_ofInt, Nat.shiftRight_eq_div_pow]
  have h1 : 0 ≤ x % 2 ^ 64 := Int.emod_nonneg x (by decide)
  have h2 : x % 2 ^ 64 < 2 ^ 64 := Int.emod_lt_of_pos x (by decide)
  have h3 : 0 ≤ (x % 2 ^ 64) / 2 ^ n := Int.ediv_nonneg h1 (by have := Int.pow_pos (n := 2) (m := n) (by decide); omega)
  have h4 : (x % 2 ^ 64) / 2 ^ n ≤ x % 2 ^ 64 := Int.ediv_le_self _ h1
  have e1 : (((2 : Nat) ^ 64 : Nat) : Int) = 2 ^ 64 := by decide
  rw [e1, Int.emod_eq_of_lt h3 (by omega)]
  apply Int.ofNat_inj.mp
  rw [Int.natCast_ediv, Int.toNat_of_nonneg h1, Int.toNat_of_nonneg h3]
  norm_cast
theorem zland255 {x : Int} (h : Rl x) : zland x 255 = x % 256 := by
  unfold zland
  have h0 : (Int64.ofInt x).toBitVec.toNat = (x % 2 ^ 64).toNat := by
    show (BitVec.ofInt 64 x).toNat = _
    rw [BitVec.toNat_ofInt]
    rfl
  have h1 : (Int64.ofInt x &&& Int64.ofInt 255).toBitVec.toNat = (x % 2 ^ 64).toNat % 2 ^ 8 := by
    rw [Int64.toBitVec_and, BitVec.toNat_and, h0, show (Int64.ofInt 255).toBitVec.toNat = 2 ^ 8 - 1 by decide, Nat.and_two_pow_sub_one_eq_mod]
  have h2 := i64_lt h1 (by omega)
  show (Int64.ofInt x &&& Int64.ofInt 255).toBitVec.toInt = _
  rw [h2]
  omega
theorem zand_m {x : Int} (h : Rg x) (k : Nat) (hk : k ≤ 30) : zand x (2 ^ k - 1) = x % 2 ^ k := by
  unfold zand
  have hp : (1 : Nat) ≤ 2 ^ k := Nat.one_le_two_pow
  have hp2 : (2 : Nat) ^ k ≤ 2 ^ 30 := Nat.pow_le_pow_right (by decide) hk
  have e : ((2 : Int) ^ k - 1) = ((2 ^ k - 1 : Nat) : Int) := by
    rw [Int.natCast_sub hp]
    norm_cast
  have h0 : (Int32.ofInt x).toBitVec.toNat = (x % 2 ^ 32).toNat := by
    show (BitVec.ofInt 32 x).toNat = _
    rw [BitVec.toNat_ofInt]
    rfl
  have h1 : (Int32.ofInt x &&& Int32.ofInt (2 ^ k - 1)).toBitVec.toNat = (x % 2 ^ 32).toNat % 2 ^ k := by
    rw [Int32.toBitVec_and, BitVec.toNat_and, h0, e, bvn32 _ (by omega), Nat.and_two_pow_sub_one_eq_mod]
  have h3 : (x % 2 ^ 32).toNat % 2 ^ k < 2 ^ k := Nat.mod_lt _ (by omega)
  have h2 := i32_lt h1 (by omega)
  show (Int32.ofInt x &&& Int32.ofInt (2 ^ k - 1)).toBitVec.toInt = _
  rw [h2]
  have h4 : 0 ≤ x % 2 ^ 32 := Int.emod_nonneg x (by decide)
  rw [Int.natCast_emod, Int.toNat_of_nonneg h4]
  have e2 : (((2 : Nat) ^ k : Nat) : Int) = 2 ^ k := by norm_cast
  rw [e2]
  exact Int.emod_emod_of_dvd x ⟨2 ^ (32 - k), by rw [← Int.pow_add]; congr 1; omega⟩
theorem zxor1 {x : Int} (h : 0 ≤ x ∧ x < 1000) : zxor x 1 = bck x := by
  have : ∀ m : Fin 1000, zxor (m.val : Nat) 1 = bck (m.val : Nat) := by decide +kernel
  have h1 := this ⟨x.toNat, by omega⟩
  simp only [show ((x.toNat : Nat) : Int) = x by omega] at h1
  exact h1
/-! bytes of a long -/
theorem byt {w i : Int} (hw : Rl w) (hi : 0 ≤ i ∧ i < 8) : f_X9_byteOf w i = zw (zland (zlshr w (zw (8 * i))) 255) ∧ 0 ≤ f_X9_byteOf w i ∧ f_X9_byteOf w i ≤ 255 := by
  have h8 : 8 * i = ((8 * i.toNat : Nat) : Int) := by omega
  have hr : Rl (w / 2 ^ (8 * i.toNat)) := by
    have hp : (0 : Int) < 2 ^ (8 * i.toNat) := Int.pow_pos (by decide)
    unfold Rl at *
    refine ⟨?_, ?_⟩
    · refine Int.le_ediv_of_mul_le hp ?_
      have : (1 : Int) ≤ 2 ^ (8 * i.toNat) := hp
      have h9 : -9223372036854775808 * (2 : Int) ^ (8 * i.toNat) ≤ -9223372036854775808 * 1 := Int.mul_le_mul_of_nonpos_left (by decide) this
      omega
    · by_cases hw0 : 0 ≤ w
      · have := Int.ediv_le_self (2 ^ (8 * i.toNat)) hw0
        omega
      · have := Int.ediv_neg_of_neg_of_pos (show w < 0 by omega) hp
        omega
  have hm : zw (zland (zlshr w (zw (8 * i))) 255) = (w / 2 ^ (8 * i.toNat)) % 256 := by
    rw [zw_eq (x := 8 * i) (by omega) (by omega), h8, zlshr_n hw _ (by omega), zland255 hr, zw_eq (by omega) (by omega)]
  have hc : f_X9_byteOf w i = (w / 2 ^ (8 * i.toNat)) % 256 := by
    unfold f_X9_byteOf
    have hz : ∀ y : Int, zand (zw y) 255 = y % 256 := by
      intro y
      have h1 := zand_m (Rg.w y) 8 (by decide)
      rw [show ((2 : Int) ^ 8 - 1) = 255 by decide, show ((2 : Int) ^ 8) = 256 by decide] at h1
      rw [h1]
      unfold zw
      show (BitVec.ofInt 32 y).toInt % 256 = _
      rw [BitVec.toInt_ofInt]
      rw [Int.bmod_def]
      split <;> omega
    have hz2 : ∀ y : Int, zl y % 256 = y % 256 := by
      intro y
      unfold zl
      show (BitVec.ofInt 64 y).toInt % 256 = _
      rw [BitVec.toInt_ofInt]
      rw [Int.bmod_def]
      split <;> omega
    rw [hz, zw_eq (x := 8 * i) (by omega) (by omega), h8, zlushr_n hw _ (by omega), hz2]
    have h7 : i = 0 ∨ i = 1 ∨ i = 2 ∨ i = 3 ∨ i = 4 ∨ i = 5 ∨ i = 6 ∨ i = 7 := by omega
    rcases h7 with h | h | h | h | h | h | h | h <;> subst h <;> simp <;> omega
  rw [hc, hm]
  omega
