theorem prd_s (σ : Sp) (x y : Int) {f : Int} (h : 0 ≤ f) : prd σ x y (f + 1).toNat = zor (prd σ x y f.toNat) (zshl (pbt σ x y f) f) := by
  rw [show (f + 1).toNat = f.toNat + 1 by omega]
  show zor (prd σ x y f.toNat) (zshl (pbt σ x y ((f.toNat : Nat) : Int)) ((f.toNat : Nat) : Int)) = _
  rw [show ((f.toNat : Nat) : Int) = f by omega]
theorem m_prodIn {μ : zMem} {a b c f : Int} {σ : Sp} {g : Int → Option Int} (s3 : MS μ a σ) (h3 : 0 ≤ a ∧ a < 3) (s5 : WfP σ 8) (hE : 0 ≤ sE σ ∧ sE σ ≤ 12) (hb4 : 0 ≤ b ∧ b < 4096) (hc4 : 0 ≤ c ∧ c < 4096) (f0 : 0 ≤ f) (f1 : f < sP σ) : ∀ (n : Nat) (i : Int), 0 ≤ i → i ≤ sL σ f → (sL σ f - i).toNat < n → f_X10_product_L82 a b c μ f g n (ppr σ b c f i.toNat).1 (ppr σ b c f i.toNat).2 i = g (ppr σ b c f (sL σ f).toNat).1 := by
  have p1 := s5.1
  have p2 := s5.2.1
  intro n
  obtain ⟨q1, q2, q3, q4, q5⟩ := s5.2.2 f f0 f1
  induction n with
  | zero => intro i _ _ h; omega
  | succ n ih =>
    intro i i0 i1 i2
    unfold f_X10_product_L82
    rw [zw_eq (x := 32 * a) (by omega) (by omega), zw_eq (x := 32 * a + f) (by omega) (by omega), chk_pos (by omega), (s3.2.2.2.2 f f0 f1).1]
    by_cases hi : i < sL σ f
    · have hr := q3 i i0 hi
      have hbb := ppr_b σ b c f i.toNat
      have hb3 := hbb.2.2.2 (by omega)
      have hb1 := bt_01 b (sR σ f i / 2)
      have hb2 := bt_01 c (sR σ f i / 2)
      have hsp := stp_pos hr.1
      rw [if_pos hi, m_rimAt s3 h3 (s5.mono (by decide)) ⟨f0, f1⟩ ⟨i0, hi⟩, bnd_pos rfl]
      unfold f_X10_product_J146 f_X10_product_J165
      simp only [zlet]
      rw [edgeOfE (by omega), zbit (by omega) (by omega), zbit (by omega) (by omega)]
      have hm : bt b (sR σ f i / 2) * bt c (sR σ f i / 2) = 0 ∨ bt b (sR σ f i / 2) * bt c (sR σ f i / 2) = 1 := by
        rcases hb1 with h1 | h1 <;> rcases hb2 with h2 | h2 <;> rw [h1, h2] <;> decide
      have h01 : (if bt c (sR σ f i / 2) = 1 then (ppr σ b c f i.toNat).2 else 0) ≤ 8 ∧ 0 ≤ (if bt c (sR σ f i / 2) = 1 then (ppr σ b c f i.toNat).2 else 0) := by split <;> omega
      have e1 : (if stp (sR σ f i) < 0 then zw (bt b (sR σ f i / 2) * bt c (sR σ f i / 2)) else 0) = if sR σ f i % 2 = 1 then bt b (sR σ f i / 2) * bt c (sR σ f i / 2) else 0 := by
        by_cases hp : sR σ f i % 2 = 1
        · rw [if_pos hp, if_pos (hsp.2.1.mpr hp), zw_eq (by omega) (by omega)]
        · rw [if_neg hp, if_neg (fun e => hp (hsp.2.1.mp e))]
      have h02 : (if sR σ f i % 2 = 1 then bt b (sR σ f i / 2) * bt c (sR σ f i / 2) else 0) ≤ 1 ∧ 0 ≤ (if sR σ f i % 2 = 1 then bt b (sR σ f i / 2) * bt c (sR σ f i / 2) else 0) := by split <;> omega
      rw [e1]
      have := ih (i + 1) (by omega) (by omega) (by omega)
      rw [ppr_s σ b c f i0] at this
      simp only at this
      rw [zw_eq (x := (ppr σ b c f i.toNat).1 + _) (by omega) (by omega), zw_eq (x := (ppr σ b c f i.toNat).1 + _ + _) (by omega) (by omega), zw_eq (x := (ppr σ b c f i.toNat).2 + _) (by omega) (by omega), zw_eq (x := i + 1) (by omega) (by omega)]
      exact this
    · rw [if_neg hi]
      have : i = sL σ f := by omega
      rw [this]
theorem sim_product {μ : zMem} {a b c : Int} (h : Rel μ) : ∃ r, f_X9_product a b c μ = some r ∧ f_X10_product a b c μ = some r := by
  by_cases h1 : 0 ≤ a ∧ a ≤ 1
  rotate_left
  · exact ⟨-1, by unfold f_X9_product; rw [if_pos (isOwn0.mpr h1)], by unfold f_X10_product; rw [if_pos (isSpace0.mpr h1)]⟩
  have hk := h.own h1
  have hb := hk.b
  have hz := hk.sz
  obtain ⟨σ, s1, s2, s3, s4, s5⟩ := h.2.1 a h1.1 h1.2
  have hE : 0 ≤ sE σ ∧ sE σ ≤ 12 := ⟨s4.2.2.1, s4.2.2.2.1⟩
  have hB := areB (x := b) hE
  have hC := areB (x := c) hE
  have h3 : 0 ≤ a ∧ a < 3 := by omega
  have cc : f_X9_product a b c μ = if f_X9_areBits b (sE σ) = 0 then some (-1) else if f_X9_areBits c (sE σ) = 0 then some (-1) else bnd (f_X5_isClass (μ 2 a) b μ) fun x_2 => if x_2 = 0 then some (-2) else bnd (f_X5_isClass (μ 2 a) c μ) fun x_3 => if x_3 = 0 then some (-2) else f_X9_product_L70 b c μ (μ 2 a) zfu 0 0 := by
    unfold f_X9_product
    rw [if_neg (fun e => isOwn0.mp e h1), chk_pos (by omega), chk_pos (by omega)]
    simp only [zlet]
    rw [s1.2.1]
  have mm : f_X10_product a b c μ = if f_X10_areBits b (sE σ) = 0 then some (-1) else if f_X10_areBits c (sE σ) = 0 then some (-1) else bnd (f_X10_oddFaces a b μ) fun x_1 => if x_1 = 0 then bnd (f_X10_oddFaces a c μ) fun x_2 => if x_2 = 0 then f_X10_product_L62 a b c μ zfu 0 0 else some (-2) else some (-2) := by
    unfold f_X10_product
    rw [if_neg (fun e => isSpace0.mp e h1), chk_pos h3, chk_pos h3, s3.2.1]
  by_cases h4 : 0 ≤ b ∧ b < 2 ^ (sE σ).toNat
  rotate_left
  · exact ⟨-1, by rw [cc, if_pos (hB.1.mpr h4)], by rw [mm, if_pos (hB.2.1.mpr h4)]⟩
  rw [if_neg (fun e => hB.1.mp e h4)] at cc
  rw [if_neg (fun e => hB.2.1.mp e h4)] at mm
  by_cases h5 : 0 ≤ c ∧ c < 2 ^ (sE σ).toNat
  rotate_left
  · exact ⟨-1, by rw [cc, if_pos (hC.1.mpr h5)], by rw [mm, if_pos (hC.2.1.mpr h5)]⟩
  rw [if_neg (fun e => hC.1.mp e h5)] at cc
  rw [if_neg (fun e => hC.2.1.mp e h5)] at mm
  have hb4 : 0 ≤ b ∧ b < 4096 := by have := hB.2.2; omega
  have hc4 : 0 ≤ c ∧ c < 4096 := by have := hC.2.2; omega
  rw [c_isClass s1 hz s5 hE hb4, bnd_pos rfl] at cc
  rw [m_oddFaces s3 h3 s5 hE hb4, bnd_pos rfl] at mm
  by_cases h6 : odf σ b (sP σ).toNat = 0
  rotate_left
  · exact ⟨-2, by rw [cc, if_neg h6, if_pos rfl], by rw [mm, if_neg h6]⟩
  rw [if_pos h6, if_neg (by decide), c_isClass s1 hz s5 hE hc4, bnd_pos rfl] at cc
  rw [if_pos h6, m_oddFaces s3 h3 s5 hE hc4, bnd_pos rfl] at mm
  by_cases h7 : odf σ c (sP σ).toNat = 0
  rotate_left
  · exact ⟨-2, by rw [cc, if_neg h7, if_pos rfl], by rw [mm, if_neg h7]⟩
  rw [if_pos h7, if_neg (by decide)] at cc
  rw [if_pos h7] at mm
  clear h4 h5 hB hC h6 h7
  have p1 := s5.1
  have p2 := s5.2.1
  have ck : ∀ (n : Nat) (f : Int), 0 ≤ f → f ≤ sP σ → (sP σ - f).toNat < n → f_X9_product_L70 b c μ (μ 2 a) n (prd σ b c f.toNat) f = some (prd σ b c (sP σ).toNat) := by
    intro n
    induction n with
    | zero => intro f _ _ h; omega
    | succ n ih =>
      intro f f0 f1 f2
      unfold f_X9_product_L70
      rw [s1.2.2.1]
      by_cases hf : f < sP σ
      · rw [if_pos hf, c_multiply s1 hz s5 hE hb4 hc4 ⟨f0, hf⟩, bnd_pos rfl]
        simp only [zlet]
        rw [zw_eq (by omega) (by omega), ← prd_s σ b c f0]
        exact ih (f + 1) (by omega) (by omega) (by omega)
      · rw [if_neg hf]
        have : f = sP σ := by omega
        rw [this]
  have inner := fun (f : Int) (g : Int → Option Int) f0 f1 => m_prodIn (f := f) (g := g) s3 h3 s5 hE hb4 hc4 f0 f1
  have mk : ∀ (n : Nat) (f : Int), 0 ≤ f → f ≤ sP σ → (sP σ - f).toNat < n → f_X10_product_L62 a b c μ n (prd σ b c f.toNat) f = some (prd σ b c (sP σ).toNat) := by
    intro n
    induction n with
    | zero => intro f _ _ h; omega
    | succ n ih =>
      intro f f0 f1 f2
      unfold f_X10_product_L62
      rw [chk_pos h3, s3.2.2.1]
      by_cases hf : f < sP σ
      · have hL := s5.2.2 f f0 hf
        rw [if_pos hf]
        have hin := inner f (f_X10_product_K181 (prd σ b c f.toNat) f (f_X10_product_L62 a b c μ n)) f0 hf zfu 0 (by omega) (by omega) (by unfold zfu; omega)
        have e0 : (ppr σ b c f (0 : Int).toNat) = (0, 0) := rfl
        rw [e0] at hin
        simp only at hin
        rw [hin]
        unfold f_X10_product_K181
        simp only [zlet]
        have hbb := ppr_b σ b c f (sL σ f).toNat
        have e2 : Int.tmod (ppr σ b c f (sL σ f).toNat).1 2 = pbt σ b c f := by
          unfold pbt
          rw [Int.tmod_eq_emod_of_nonneg hbb.2.2.1]
        rw [e2, zw_eq (by omega) (by omega), ← prd_s σ b c f0]
        exact ih (f + 1) (by omega) (by omega) (by omega)
      · rw [if_neg hf]
        have : f = sP σ := by omega
        rw [this]
  refine ⟨prd σ b c (sP σ).toNat, ?_, ?_⟩
  · have e := ck zfu 0 (by omega) p1 (by unfold zfu; omega)
    rw [show prd σ b c (0 : Int).toNat = 0 from rfl] at e
    rw [cc]; exact e
  · have e := mk zfu 0 (by omega) p1 (by unfold zfu; omega)
    rw [show prd σ b c (0 : Int).toNat = 0 from rfl] at e
    rw [mm]; exact e
