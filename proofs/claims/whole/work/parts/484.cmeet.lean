/-! the class packs and meets -/
theorem zlor_dg {a c : Int} {k : Nat} (ha : 0 ≤ a ∧ a < 32 ^ k) (hc : 0 ≤ c ∧ c < 32) (hk : k < 12) : zlor a (zlshl c (5 * (k : Int))) = a + c * 32 ^ k := by
  obtain ⟨A, rfl⟩ := Int.eq_ofNat_of_zero_le ha.1
  obtain ⟨C, rfl⟩ := Int.eq_ofNat_of_zero_le hc.1
  have e32 : (32 : Nat) ^ k = 2 ^ (5 * k) := by rw [Nat.pow_mul]
  have hA : A < 2 ^ (5 * k) := by
    rw [← e32]
    have := ha.2
    have e : ((32 : Int) ^ k) = ((32 ^ k : Nat) : Int) := by rw [Int.natCast_pow]; rfl
    rw [e] at this
    exact Int.ofNat_lt.mp this
  have hC : C < 32 := by omega
  have hb : C * 2 ^ (5 * k) < 2 ^ 60 := by
    have h1 : C * 2 ^ (5 * k) < 2 ^ 5 * 2 ^ (5 * k) := Nat.mul_lt_mul_of_pos_right (by omega) (Nat.two_pow_pos _)
    have h2 : (2 : Nat) ^ 5 * 2 ^ (5 * k) = 2 ^ (5 + 5 * k) := (Nat.pow_add 2 5 (5 * k)).symm
    have h3 : (2 : Nat) ^ (5 + 5 * k) ≤ 2 ^ 60 := Nat.pow_le_pow_right (by decide) (by omega)
    omega
  have hA2 : A < 2 ^ 60 := Nat.lt_of_lt_of_le hA (Nat.pow_le_pow_right (by decide) (by omega))
  have h1 := zlshl_nat (a := C) (n := 5 * k) (by omega) (by omega)
  rw [show ((5 * k : Nat) : Int) = 5 * (k : Int) by omega] at h1
  rw [h1, zlor_nat (by omega) (by omega), Nat.or_comm]
  have h2 := Nat.two_pow_add_eq_or_of_lt hA C
  rw [Nat.mul_comm C, ← h2, e32.symm]
  rw [Int.natCast_add, Int.natCast_mul, Int.natCast_pow, Int.mul_comm, show ((32 : Nat) : Int) = 32 from rfl]
  omega
theorem zlor_dg2 {a c : Int} {k : Nat} (ha : 0 ≤ a ∧ a < 32 ^ k) (hc : 0 ≤ c ∧ c < 32) (hk : k < 4) : zlor (1099511627776 + a) (zlshl c (5 * (k : Int))) = 1099511627776 + (a + c * 32 ^ k) := by
  obtain ⟨A, rfl⟩ := Int.eq_ofNat_of_zero_le ha.1
  obtain ⟨C, rfl⟩ := Int.eq_ofNat_of_zero_le hc.1
  have e32 : (32 : Nat) ^ k = 2 ^ (5 * k) := by rw [Nat.pow_mul]
  have hA : A < 2 ^ (5 * k) := by
    rw [← e32]
    have := ha.2
    have e : ((32 : Int) ^ k) = ((32 ^ k : Nat) : Int) := by rw [Int.natCast_pow]; rfl
    rw [e] at this
    exact Int.ofNat_lt.mp this
  have hC : C < 32 := by omega
  have hb : C * 2 ^ (5 * k) < 2 ^ 20 := by
    have h1 : C * 2 ^ (5 * k) < 2 ^ 5 * 2 ^ (5 * k) := Nat.mul_lt_mul_of_pos_right (by omega) (Nat.two_pow_pos _)
    have h2 : (2 : Nat) ^ 5 * 2 ^ (5 * k) = 2 ^ (5 + 5 * k) := (Nat.pow_add 2 5 (5 * k)).symm
    have h3 : (2 : Nat) ^ (5 + 5 * k) ≤ 2 ^ 20 := Nat.pow_le_pow_right (by decide) (by omega)
    omega
  have hA2 : A < 2 ^ 20 := Nat.lt_of_lt_of_le hA (Nat.pow_le_pow_right (by decide) (by omega))
  have h1 := zlshl_nat (a := C) (n := 5 * k) (by omega) (by omega)
  rw [show ((5 * k : Nat) : Int) = 5 * (k : Int) by omega] at h1
  have eT : (1099511627776 : Int) + (A : Int) = ((1099511627776 + A : Nat) : Int) := by omega
  rw [h1, eT, zlor_nat (by omega) (by omega)]
  have h2 := Nat.two_pow_add_eq_or_of_lt hA C
  have h3 := Nat.two_pow_add_eq_or_of_lt (i := 40) (b := A) (by omega) 1
  have h4 := Nat.two_pow_add_eq_or_of_lt (i := 40) (b := 2 ^ (5 * k) * C + A) (by rw [Nat.mul_comm] at hb; omega) 1
  rw [show (2 : Nat) ^ 40 * 1 = 1099511627776 by decide] at h3 h4
  rw [h3, Nat.or_assoc, Nat.or_comm A, Nat.mul_comm C, ← h2, ← h4, e32.symm]
  rw [Int.natCast_add, Int.natCast_add, Int.natCast_mul, Int.natCast_pow, Int.mul_comm, show ((32 : Nat) : Int) = 32 from rfl]
  omega
theorem c_pack {μ : zMem} {r : Wr} (h : CRw μ 33 36 3 r) (hr : Rb r 12) (hl : r.1 ≤ 16) : Ok (f_X0_pack μ) (fun μ' => Fw [] [4, 5] μ μ' ∧ μ' 33 4 = hdC r ∧ μ' 33 5 = tlC r) := by
  obtain ⟨m1, m2⟩ := h
  have hr0 := hr.1
  have key : ∀ (m fu i : Nat) (μ1 : zMem), m < fu → (i : Int) + m = r.1 → Fw [] [4, 5] μ μ1 → μ1 33 4 = smd (dgC r) (if i ≤ 12 then i else 12) → μ1 33 5 = 1099511627776 + smd (fun j => dgC r (12 + j)) (i - 12) → Ok (f_X0_pack_L14 fu (i : Int) μ1) (fun μ' => Fw [] [4, 5] μ μ' ∧ μ' 33 4 = hdC r ∧ μ' 33 5 = tlC r) := by
    intro m
    induction m with
    | zero =>
      intro fu i μ1 hfu hi g1 g2 g3
      cases fu with
      | zero => omega
      | succ fu =>
        unfold f_X0_pack_L14
        rw [g1.2 3 (by decide), m1, if_neg (by omega)]
        refine ok_some.mpr ⟨g1, ?_, ?_⟩
        · rw [g2]
          unfold hdC
          by_cases h12 : i ≤ 12
          · rw [if_pos h12]
            have := smd_0 (d := dgC r) (m := i) (fun j hj => by unfold dgC; rw [if_neg (by omega)]) (12 - i)
            rw [show i + (12 - i) = 12 by omega] at this
            exact this.symm
          · rw [if_neg h12]
        · rw [g3]
          unfold tlC
          have := smd_0 (d := fun j => dgC r (12 + j)) (m := i - 12) (fun j hj => by unfold dgC; rw [if_neg (by omega)]) (4 - (i - 12))
          rw [show i - 12 + (4 - (i - 12)) = 4 by omega] at this
          rw [this]
    | succ m ih =>
      intro fu i μ1 hfu hi g1 g2 g3
      cases fu with
      | zero => omega
      | succ fu =>
        have hd : dgC r i = r.2 i + 1 := by unfold dgC; rw [if_pos (by omega)]
        have hrg := hr.2 i (by omega) (by omega)
        have hm2 : μ1 36 i = r.2 i := by rw [g1.1 36 (by decide) (by decide)]; exact m2 i (by omega) (by omega)
        unfold f_X0_pack_L14
        simp only [zlet]
        rw [g1.2 3 (by decide), m1, if_pos (by omega), if_pos (by omega), chk_pos (by omega), hm2, zw_eq (x := r.2 i + 1) (by omega) (by omega), zw_eq (x := (i : Int) + 1) (by omega) (by omega)]
        by_cases h12 : (i : Int) < 12
        · have sr := smd_rg (dgC_rg hr) i
          rw [if_pos h12, zw_eq (x := 5 * (i : Int)) (by omega) (by omega), g2, if_pos (by omega), zlor_dg sr (by omega) (by omega), show (i : Int) + 1 = ((i + 1 : Nat) : Int) by omega]
          refine ih fu (i + 1) _ (by omega) (by omega) (g1.upo (by decide) _) ?_ ?_
          · rw [zup_s, up1_s, if_pos (by omega), ← hd]
            rfl
          · rw [zup_s, up1_n _ _ (by decide), g3, show i + 1 - 12 = i - 12 by omega]
        · have sr := smd_rg (d := fun j => dgC r (12 + j)) (fun j => dgC_rg hr (12 + j)) (i - 12)
          have ek : 5 * ((i : Int) - 12) = 5 * ((i - 12 : Nat) : Int) := by omega
          rw [if_neg h12, zw_eq (x := (i : Int) - 12) (by omega) (by omega), zw_eq (x := 5 * ((i : Int) - 12)) (by omega) (by omega), g3, ek, zlor_dg2 sr (by omega) (by omega), show (i : Int) + 1 = ((i + 1 : Nat) : Int) by omega]
          refine ih fu (i + 1) _ (by omega) (by omega) (g1.upo (by decide) _) ?_ ?_
          · rw [zup_s, up1_n _ _ (by decide), g2]
            by_cases he : i = 12
            · rw [he]; rfl
            · rw [if_neg (by omega), if_neg (by omega)]
          · rw [zup_s, up1_s, show i + 1 - 12 = (i - 12) + 1 by omega]
            show _ = 1099511627776 + (smd (fun j => dgC r (12 + j)) (i - 12) + dgC r (12 + (i - 12)) * 32 ^ (i - 12))
            rw [show 12 + (i - 12) = i by omega, hd]
  unfold f_X0_pack
  simp only [zlet]
  refine key r.1.toNat zfu 0 _ (by unfold zfu; omega) (by omega) (((Fw.refl _ _ μ).upo (by decide) _).upo (by decide) _) ?_ ?_
  · rw [zup_s, up1_n _ _ (by decide), zup_s, up1_s]; rfl
  · rw [zup_s, up1_s]; rfl
def kyC (r : Wr) : Int × Int := (hdC r, tlC r)
/-- the word sought is kept in the drawer; nothing found yet -/
theorem c_seek {μ : zMem} {x L : Int} {w : Int → Int} (hs : Slt μ x L w) : Ok (f_X0_seek x μ) (fun μ' => Fw [36] [3, 4, 5, 6, 7, 8] μ μ' ∧ μ' 33 4 = hdC (pshs (0, fun _ => 0) w L.toNat) ∧ μ' 33 5 = tlC (pshs (0, fun _ => 0) w L.toNat) ∧ μ' 33 6 = hdC (pshs (0, fun _ => 0) w L.toNat) ∧ μ' 33 7 = tlC (pshs (0, fun _ => 0) w L.toNat) ∧ μ' 33 8 = 0) := by
  have r0 : Rb (0, fun _ => 0) 12 := ⟨Int.le_refl 0, fun i a b => by have : i < 0 := b; omega⟩
  have q0 : ((0 : Int), fun (_ : Int) => (0 : Int)).1 = 0 := rfl
  have hs' := hs
  obtain ⟨s1, s2, s3, s4, s5, s6, s7, s8⟩ := hs'
  have hr1 := pshs_rb (w := w) r0 L.toNat (fun i x y => s8 i x (by omega))
  have hb := hr1.2
  unfold f_X0_seek
  simp only [zlet]
  have g1 : Fw [36] [3] μ (zup μ 33 3 0) := (Fw.refl _ _ μ).upo (by decide) _
  have c1 : CRw (zup μ 33 3 0) 33 36 3 (0, fun _ => 0) := ⟨by rw [zup_s, up1_s], fun i x y => by simp only at y; omega⟩
  generalize zup μ 33 3 0 = μ1 at *
  have hs1 : Slt μ1 x L w := hs.cg fun k p q => g1.1 k (by simp; omega) (by omega)
  rw [hs1.1]
  refine ok_bnd.mpr ((c_pushAll hs1 c1 r0 (a := 0) (b := L) ⟨by omega, s3⟩ (by omega) (by omega)).imp fun μ2 q => ?_)
  obtain ⟨q1, q2⟩ := q
  have eq2 : pshs (0, fun _ => 0) (fun i => w (0 + i)) (L - 0).toNat = pshs (0, fun _ => 0) w L.toNat := by
    rw [show (L - 0).toNat = L.toNat by omega]
    exact pshs_cg _ fun i x y => by rw [Int.zero_add]
  rw [eq2] at q2
  refine ok_bnd.mpr ((c_pack q2 hr1.1 (by omega)).imp fun μ3 p => ?_)
  obtain ⟨p1, p2, p3⟩ := p
  have e5 : zup μ3 33 6 (μ3 33 4) 33 5 = tlC (pshs (0, fun _ => 0) w L.toNat) := by rw [zup_s, up1_n _ _ (by decide)]; exact p3
  rw [e5, p2]
  refine ok_some.mpr ⟨?_, ?_, ?_, ?_, ?_, ?_⟩
  · exact (((((g1.trans q1).sub (by decide) (by decide)).trans (p1.sub (by decide) (by decide))).upo (by decide) _).upo (by decide) _).upo (by decide) _
  · simp (disch := omega) only [zup_s, zup_n, up1_s, up1_n]; exact p2
  · simp (disch := omega) only [zup_s, zup_n, up1_s, up1_n]; exact p3
  · simp (disch := omega) only [zup_s, zup_n, up1_s, up1_n]
  · simp (disch := omega) only [zup_s, zup_n, up1_s, up1_n]
  · simp (disch := omega) only [zup_s, zup_n, up1_s, up1_n]
