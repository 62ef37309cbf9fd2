/-! classes of edges: parities over rims -/
def bt (x e : Int) : Int := (x / 2 ^ e.toNat) % 2
theorem bt_01 (x e : Int) : bt x e = 0 ∨ bt x e = 1 := by unfold bt; omega
theorem zbit {x e : Int} (hx : 0 ≤ x ∧ x ≤ 2147483647) (he : 0 ≤ e ∧ e < 32) : zand (zshr x e) 1 = bt x e := by
  have h1 : zshr x e = x / 2 ^ e.toNat := by
    have := zshr_n (x := x) ⟨by omega, hx.2⟩ e.toNat (by omega)
    rwa [show ((e.toNat : Nat) : Int) = e by omega] at this
  have hp : (0 : Int) < 2 ^ e.toNat := Int.pow_pos (by decide)
  have h2 : 0 ≤ x / 2 ^ e.toNat := Int.ediv_nonneg hx.1 (by omega)
  have h3 : x / 2 ^ e.toNat ≤ x := Int.ediv_le_self _ hx.1
  rw [h1, zand1 ⟨by omega, by omega⟩]
  rfl
theorem edgeOfE {c : Int} (h : 0 ≤ c ∧ c < 1000) : f_X10_edgeOf (stp c) = c / 2 := by
  have hst := stp_edge h.1
  have hb : -600 ≤ stp c ∧ stp c ≤ 600 := by unfold stp; split <;> omega
  unfold f_X10_edgeOf
  by_cases h0 : stp c ≤ 0
  · rw [if_neg (by omega)] at hst
    rw [if_pos h0, zw_eq (x := -stp c) (by omega) (by omega), zw_eq (by omega) (by omega), hst]
  · rw [if_pos (by omega)] at hst
    rw [if_neg h0, zw_eq (by omega) (by omega), hst]
theorem areB {x m : Int} (hm : 0 ≤ m ∧ m ≤ 12) : (f_X9_areBits x m = 0 ↔ ¬ (0 ≤ x ∧ x < 2 ^ m.toNat)) ∧ (f_X10_areBits x m = 0 ↔ ¬ (0 ≤ x ∧ x < 2 ^ m.toNat)) ∧ (2 : Int) ^ m.toNat ≤ 4096 := by
  have h1 : zshl 1 m = 2 ^ m.toNat := by
    have hp : (2 : Nat) ^ m.toNat ≤ 2 ^ 12 := Nat.pow_le_pow_right (by decide) (by omega)
    have := zshl_nat (a := 1) (n := m.toNat) (by omega) (by omega)
    rw [show ((m.toNat : Nat) : Int) = m by omega] at this
    rw [show ((1 : Nat) : Int) = 1 from rfl] at this
    rw [this]
    push_cast
    omega
  have h2 : (2 : Int) ^ m.toNat ≤ 4096 := by
    have hp : (2 : Nat) ^ m.toNat ≤ 2 ^ 12 := Nat.pow_le_pow_right (by decide) (by omega)
    have : ((2 ^ m.toNat : Nat) : Int) ≤ 4096 := by omega
    rwa [Int.natCast_pow] at this
  unfold f_X9_areBits f_X10_areBits
  rw [h1]
  refine ⟨?_, ?_, h2⟩
  · split
    · exact ⟨fun _ => by omega, fun _ => rfl⟩
    · split
      · exact ⟨fun e => by omega, fun e => by omega⟩
      · exact ⟨fun _ => by omega, fun _ => rfl⟩
  · split
    · exact ⟨fun _ => by omega, fun _ => rfl⟩
    · split
      · exact ⟨fun e => by omega, fun e => by omega⟩
      · exact ⟨fun _ => by omega, fun _ => rfl⟩
/-- how many of the first steps of a rim go by edges of x -/
def nby (σ : Sp) (x f : Int) : Nat → Int
  | 0 => 0
  | n + 1 => nby σ x f n + bt x (sR σ f n / 2)
theorem nby_s (σ : Sp) (x f : Int) {i : Int} (h : 0 ≤ i) : nby σ x f (i + 1).toNat = nby σ x f i.toNat + bt x (sR σ f i / 2) := by
  rw [show (i + 1).toNat = i.toNat + 1 by omega]
  show nby σ x f i.toNat + bt x (sR σ f ((i.toNat : Nat) : Int) / 2) = _
  rw [show ((i.toNat : Nat) : Int) = i by omega]
theorem nby_b (σ : Sp) (x f : Int) (n : Nat) : 0 ≤ nby σ x f n ∧ nby σ x f n ≤ n := by
  induction n with
  | zero => exact ⟨Int.le_refl 0, Int.le_refl 0⟩
  | succ n ih =>
    have := bt_01 x (sR σ f n / 2)
    unfold nby
    omega
/-- the parity of a whole rim -/
def pry (σ : Sp) (x f : Int) : Int := nby σ x f (sL σ f).toNat % 2
/-- rims with odd parities as bits -/
def odf (σ : Sp) (x : Int) : Nat → Int
  | 0 => 0
  | n + 1 => odf σ x n + pry σ x n * 2 ^ n
theorem odf_s (σ : Sp) (x : Int) {f : Int} (h : 0 ≤ f) : odf σ x (f + 1).toNat = odf σ x f.toNat + pry σ x f * 2 ^ f.toNat := by
  rw [show (f + 1).toNat = f.toNat + 1 by omega]
  show odf σ x f.toNat + pry σ x ((f.toNat : Nat) : Int) * 2 ^ f.toNat = _
  rw [show ((f.toNat : Nat) : Int) = f by omega]
theorem odf_b (σ : Sp) (x : Int) (n : Nat) : 0 ≤ odf σ x n ∧ odf σ x n < 2 ^ n := by
  induction n with
  | zero => exact ⟨Int.le_refl 0, by show (0 : Int) < 1; decide⟩
  | succ n ih =>
    have h1 : pry σ x n = 0 ∨ pry σ x n = 1 := by unfold pry; omega
    unfold odf
    rw [Int.pow_succ]
    rcases h1 with h | h <;> rw [h] <;> omega
theorem odf_0 (σ : Sp) (x : Int) (n : Nat) : odf σ x n = 0 ↔ ∀ f : Int, 0 ≤ f → f < n → pry σ x f = 0 := by
  induction n with
  | zero => exact ⟨fun _ f a b => by omega, fun _ => rfl⟩
  | succ n ih =>
    have hb := odf_b σ x n
    have h1 : pry σ x n = 0 ∨ pry σ x n = 1 := by unfold pry; omega
    have hp : (0 : Int) < 2 ^ n := Int.pow_pos (by decide)
    unfold odf
    constructor
    · intro e f a b
      have h0 : pry σ x n = 0 := by
        rcases h1 with h | h
        · exact h
        · rw [h] at e; omega
      by_cases hf : f = n
      · rw [hf]; exact h0
      · exact ih.mp (by rw [h0] at e; omega) f a (by omega)
    · intro h
      rw [h n (by omega) (by omega), ih.mpr (fun f a b => h f a (by omega))]
      omega
theorem zor_add {a b : Int} {n : Nat} (ha : 0 ≤ a ∧ a < 2 ^ n) (hb : b = 0 ∨ b = 1) (hn : n < 20) : zor a (zshl b n) = a + b * 2 ^ n := by
  obtain ⟨a', rfl⟩ := Int.eq_ofNat_of_zero_le ha.1
  obtain ⟨b', rfl⟩ := Int.eq_ofNat_of_zero_le (show 0 ≤ b by omega)
  have hp : (2 : Nat) ^ n ≤ 2 ^ 19 := Nat.pow_le_pow_right (by decide) (by omega)
  have ha2 : a' < 2 ^ n := by
    have := ha.2
    exact_mod_cast this
  have hb2 : b' ≤ 1 := by omega
  have hbp : b' * 2 ^ n ≤ 2 ^ 19 := by
    have : b' = 0 ∨ b' = 1 := by omega
    rcases this with h | h <;> rw [h] <;> omega
  rw [zshl_nat (by omega) (by omega), zor_nat (by omega) (by omega)]
  have := Nat.two_pow_add_eq_or_of_lt ha2 b'
  rw [Nat.or_comm, Nat.mul_comm b' (2 ^ n), ← this]
  push_cast
  rw [Int.mul_comm]
  omega
section
variable {μ : zMem} {t s : Int} {σ : Sp}
theorem m_oddFaces {x : Int} (hs : MS μ s σ) (h3 : 0 ≤ s ∧ s < 3) (hw : WfP σ 8) (hE : 0 ≤ sE σ ∧ sE σ ≤ 12) (hx : 0 ≤ x ∧ x < 4096) : f_X10_oddFaces s x μ = some (odf σ x (sP σ).toNat) := by
  obtain ⟨p1, p2, p3⟩ := hw
  have inner : ∀ (f : Int) (g : Int → Option Int), 0 ≤ f → f < sP σ → ∀ (n : Nat) (i : Int), 0 ≤ i → i ≤ sL σ f → (sL σ f - i).toNat < n → f_X10_oddFaces_L22 s x μ f g n (nby σ x f i.toNat) i = g (nby σ x f (sL σ f).toNat) := by
    intro f g f0 f1 n
    obtain ⟨q1, q2, q3, q4, q5⟩ := p3 f f0 f1
    induction n with
    | zero => intro i _ _ h; omega
    | succ n ih =>
      intro i i0 i1 i2
      unfold f_X10_oddFaces_L22
      rw [zw_eq (x := 32 * s) (by omega) (by omega), zw_eq (x := 32 * s + f) (by omega) (by omega), chk_pos (by omega), (hs.2.2.2.2 f f0 f1).1]
      by_cases hi : i < sL σ f
      · have hr := q3 i i0 hi
        have hb := nby_b σ x f i.toNat
        have hb1 := bt_01 x (sR σ f i / 2)
        rw [if_pos hi, m_rimAt hs h3 (WfP.mono ⟨p1, p2, p3⟩ (by decide)) ⟨f0, f1⟩ ⟨i0, hi⟩, bnd_pos rfl]
        simp only [zlet]
        rw [edgeOfE (by omega), zbit (by omega) (by omega), zw_eq (by omega) (by omega), zw_eq (by omega) (by omega)]
        have := ih (i + 1) (by omega) (by omega) (by omega)
        rw [nby_s σ x f i0] at this
        exact this
      · rw [if_neg hi]
        have : i = sL σ f := by omega
        rw [this]
  have key : ∀ (n : Nat) (f : Int), 0 ≤ f → f ≤ sP σ → (sP σ - f).toNat < n → f_X10_oddFaces_L5 s x μ n (odf σ x f.toNat) f = some (odf σ x (sP σ).toNat) := by
    intro n
    induction n with
    | zero => intro f _ _ h; omega
    | succ n ih =>
      intro f f0 f1 f2
      unfold f_X10_oddFaces_L5
      rw [chk_pos h3, hs.2.2.1]
      by_cases hf : f < sP σ
      · have hL := p3 f f0 hf
        rw [if_pos hf]
        have hin := inner f (f_X10_oddFaces_K66 (odf σ x f.toNat) f (f_X10_oddFaces_L5 s x μ n)) f0 hf zfu 0 (by omega) (by omega) (by unfold zfu; omega)
        have e0 : nby σ x f (0 : Int).toNat = 0 := rfl
        rw [e0] at hin
        rw [hin]
        unfold f_X10_oddFaces_K66
        simp only [zlet]
        have hb := nby_b σ x f (sL σ f).toNat
        have ho := odf_b σ x f.toNat
        have hpr : Int.tmod (nby σ x f (sL σ f).toNat) 2 = pry σ x f := by
          unfold pry
          rw [Int.tmod_eq_emod_of_nonneg hb.1]
        have h01 : pry σ x f = 0 ∨ pry σ x f = 1 := by unfold pry; omega
        have hzz := zor_add (n := f.toNat) ho h01 (by omega)
        rw [show ((f.toNat : Nat) : Int) = f by omega] at hzz
        rw [hpr, hzz, zw_eq (by omega) (by omega)]
        have := ih (f + 1) (by omega) (by omega) (by omega)
        rw [odf_s σ x f0] at this
        exact this
      · rw [if_neg hf]
        have : f = sP σ := by omega
        rw [this]
  unfold f_X10_oddFaces
  have := key zfu 0 (by omega) p1 (by unfold zfu; omega)
  exact this
theorem c_isClass {x : Int} (hs : CS μ t σ) (hz : SZ t 8 12 8) (hw : WfP σ 8) (hE : 0 ≤ sE σ ∧ sE σ ≤ 12) (hx : 0 ≤ x ∧ x < 4096) : f_X5_isClass t x μ = some (if odf σ x (sP σ).toNat = 0 then 1 else 0) := by
  obtain ⟨p1, p2, p3⟩ := hw
  have hz' := hz
  obtain ⟨z1, z2, z3, z4, z5, z6, z7, z8, z9⟩ := hz
  have inner : ∀ (f : Int) (g : Int → Option Int), 0 ≤ f → f < sP σ → ∀ (n : Nat) (i : Int), 0 ≤ i → i ≤ sL σ f → (sL σ f - i).toNat < n → f_X5_isClass_L15 t x μ f g n (nby σ x f i.toNat % 2) i = g (pry σ x f) := by
    intro f g f0 f1 n
    obtain ⟨q1, q2, q3, q4, q5⟩ := p3 f f0 f1
    induction n with
    | zero => intro i _ _ h; omega
    | succ n ih =>
      intro i i0 i1 i2
      unfold f_X5_isClass_L15
      rw [chk_pos (by omega), (hs.2.2.2.2 f f0 f1).1]
      by_cases hi : i < sL σ f
      · have hr := q3 i i0 hi
        have hb := nby_b σ x f i.toNat
        have hb1 := bt_01 x (sR σ f i / 2)
        rw [if_pos hi, c_rimStep hs hz' ⟨p1, p2, p3⟩ ⟨f0, f1⟩ ⟨i0, hi⟩, bnd_pos rfl]
        simp only [zlet]
        rw [zshr1 ⟨by omega, by omega⟩, zbit (by omega) (by omega), zw_eq (by omega) (by omega)]
        have := ih (i + 1) (by omega) (by omega) (by omega)
        rw [nby_s σ x f i0] at this
        have hxo : zxor (nby σ x f i.toNat % 2) (bt x (sR σ f i / 2)) = (nby σ x f i.toNat + bt x (sR σ f i / 2)) % 2 := by
          have h2 : nby σ x f i.toNat % 2 = 0 ∨ nby σ x f i.toNat % 2 = 1 := by omega
          rcases h2 with h2 | h2 <;> rcases hb1 with h1 | h1 <;> rw [h2, h1]
          · rw [show zxor 0 0 = 0 by decide]; omega
          · rw [show zxor 0 1 = 1 by decide]; omega
          · rw [show zxor 1 0 = 1 by decide]; omega
          · rw [show zxor 1 1 = 0 by decide]; omega
        rw [hxo]
        exact this
      · rw [if_neg hi]
        have : i = sL σ f := by omega
        rw [this]
        rfl
  have key : ∀ (n : Nat) (f : Int), 0 ≤ f → f ≤ sP σ → (sP σ - f).toNat < n → ((∀ h, f ≤ h → h < sP σ → pry σ x h = 0) → f_X5_isClass_L2 t x μ n f = some 1) ∧ (¬ (∀ h, f ≤ h → h < sP σ → pry σ x h = 0) → f_X5_isClass_L2 t x μ n f = some 0) := by
    intro n
    induction n with
    | zero => intro f _ _ h; omega
    | succ n ih =>
      intro f f0 f1 f2
      unfold f_X5_isClass_L2
      rw [hs.2.2.1]
      by_cases hf : f < sP σ
      · have hL := p3 f f0 hf
        rw [if_pos hf]
        have hin := inner f (f_X5_isClass_K48 f (f_X5_isClass_L2 t x μ n)) f0 hf zfu 0 (by omega) (by omega) (by unfold zfu; omega)
        have e0 : nby σ x f (0 : Int).toNat % 2 = 0 := rfl
        rw [e0] at hin
        rw [hin]
        unfold f_X5_isClass_K48
        simp only [zlet]
        rw [zw_eq (by omega) (by omega)]
        have i1 := ih (f + 1) (by omega) (by omega) (by omega)
        have h01 : pry σ x f = 0 ∨ pry σ x f = 1 := by unfold pry; omega
        by_cases h1 : pry σ x f = 1
        · rw [if_pos h1]
          exact ⟨fun hall => by have := hall f (by omega) hf; omega, fun _ => rfl⟩
        · rw [if_neg h1]
          refine ⟨fun hall => i1.1 (fun h a b => hall h (by omega) b), fun hn => i1.2 (fun hall => hn (fun h a b => ?_))⟩
          by_cases hh : h = f
          · rw [hh]; omega
          · exact hall h (by omega) b
      · rw [if_neg hf]
        exact ⟨fun _ => rfl, fun hn => absurd (fun h a b => by omega) hn⟩
  unfold f_X5_isClass
  have k0 := key zfu 0 (by omega) p1 (by unfold zfu; omega)
  by_cases h0 : odf σ x (sP σ).toNat = 0
  · rw [if_pos h0]
    exact k0.1 (fun h a b => (odf_0 σ x _).mp h0 h a (by omega))
  · rw [if_neg h0]
    exact k0.2 (fun hall => h0 ((odf_0 σ x _).mpr (fun f a b => hall f a (by omega))))
/-- pairs of steps, and steps in x so far -/
def ppr (σ : Sp) (x y f : Int) : Nat → Int × Int
  | 0 => (0, 0)
  | n + 1 => ((ppr σ x y f n).1 + (if bt y (sR σ f n / 2) = 1 then (ppr σ x y f n).2 else 0) + (if sR σ f n % 2 = 1 then bt x (sR σ f n / 2) * bt y (sR σ f n / 2) else 0), (ppr σ x y f n).2 + bt x (sR σ f n / 2))
theorem ppr_s (σ : Sp) (x y f : Int) {i : Int} (h : 0 ≤ i) : ppr σ x y f (i + 1).toNat = ((ppr σ x y f i.toNat).1 + (if bt y (sR σ f i / 2) = 1 then (ppr σ x y f i.toNat).2 else 0) + (if sR σ f i % 2 = 1 then bt x (sR σ f i / 2) * bt y (sR σ f i / 2) else 0), (ppr σ x y f i.toNat).2 + bt x (sR σ f i / 2)) := by
  rw [show (i + 1).toNat = i.toNat + 1 by omega]
  have e : ((i.toNat : Nat) : Int) = i := by omega
  show ((ppr σ x y f i.toNat).1 + (if bt y (sR σ f ((i.toNat : Nat) : Int) / 2) = 1 then (ppr σ x y f i.toNat).2 else 0) + (if sR σ f ((i.toNat : Nat) : Int) % 2 = 1 then bt x (sR σ f ((i.toNat : Nat) : Int) / 2) * bt y (sR σ f ((i.toNat : Nat) : Int) / 2) else 0), (ppr σ x y f i.toNat).2 + bt x (sR σ f ((i.toNat : Nat) : Int) / 2)) = _
  rw [e]
theorem ppr_b (σ : Sp) (x y f : Int) (n : Nat) : 0 ≤ (ppr σ x y f n).2 ∧ (ppr σ x y f n).2 ≤ n ∧ 0 ≤ (ppr σ x y f n).1 ∧ (n ≤ 8 → (ppr σ x y f n).1 ≤ 9 * n) := by
  induction n with
  | zero => exact ⟨Int.le_refl 0, Int.le_refl 0, Int.le_refl 0, fun _ => Int.le_refl 0⟩
  | succ n ih =>
    have h1 := bt_01 x (sR σ f n / 2)
    have h2 := bt_01 y (sR σ f n / 2)
    unfold ppr
    simp only
    rcases h1 with h1 | h1 <;> rcases h2 with h2 | h2 <;> rw [h1, h2] <;> simp <;> (try split) <;> omega
def pbt (σ : Sp) (x y f : Int) : Int := (ppr σ x y f (sL σ f).toNat).1 % 2
def prd (σ : Sp) (x y : Int) : Nat → Int
  | 0 => 0
  | n + 1 => zor (prd σ x y n) (zshl (pbt σ x y n) n)
theorem c_multiply {x y f : Int} (hs : CS μ t σ) (hz : SZ t 8 12 8) (hw : WfP σ 8) (hE : 0 ≤ sE σ ∧ sE σ ≤ 12) (hx : 0 ≤ x ∧ x < 4096) (hy : 0 ≤ y ∧ y < 4096) (hf : 0 ≤ f ∧ f < sP σ) : f_X5_multiply t f x y μ = some (pbt σ x y f) := by
  obtain ⟨p1, p2, p3⟩ := hw
  have hz' := hz
  obtain ⟨z1, z2, z3, z4, z5, z6, z7, z8, z9⟩ := hz
  obtain ⟨q1, q2, q3, q4, q5⟩ := p3 f hf.1 hf.2
  have key : ∀ (n : Nat) (i : Int), 0 ≤ i → i ≤ sL σ f → (sL σ f - i).toNat < n → f_X5_multiply_L9 t f x y μ n ((ppr σ x y f i.toNat).2 % 2) ((ppr σ x y f i.toNat).1 % 2) i = some (pbt σ x y f) := by
    intro n
    induction n with
    | zero => intro i _ _ h; omega
    | succ n ih =>
      intro i i0 i1 i2
      unfold f_X5_multiply_L9
      rw [chk_pos (by omega), (hs.2.2.2.2 f hf.1 hf.2).1]
      by_cases hi : i < sL σ f
      · have hr := q3 i i0 hi
        have hb := ppr_b σ x y f i.toNat
        have hb1 := bt_01 x (sR σ f i / 2)
        have hb2 := bt_01 y (sR σ f i / 2)
        rw [if_pos hi, c_rimStep hs hz' ⟨p1, p2, p3⟩ hf ⟨i0, hi⟩, bnd_pos rfl]
        simp only [zlet]
        rw [zshr1 ⟨by omega, by omega⟩, zbit (by omega) (by omega), zbit (by omega) (by omega), zw_eq (by omega) (by omega)]
        have := ih (i + 1) (by omega) (by omega) (by omega)
        rw [ppr_s σ x y f i0] at this
        simp only at this
        have hsx : zand (sR σ f i) (bt x (sR σ f i / 2)) = if bt x (sR σ f i / 2) = 1 then sR σ f i % 2 else 0 := by
          rcases hb1 with h1 | h1 <;> rw [h1]
          · have hc : ∀ m : Fin 1000, zand (m.val : Nat) 0 = 0 := by decide +kernel
            have := hc ⟨(sR σ f i).toNat, by omega⟩
            simp only [show (((sR σ f i).toNat : Nat) : Int) = sR σ f i by omega] at this
            rw [this]; rfl
          · rw [if_pos rfl, zand1 ⟨by omega, by omega⟩]
        rw [hsx]
        have hp2 : sR σ f i % 2 = 0 ∨ sR σ f i % 2 = 1 := by omega
        generalize sR σ f i % 2 = c2 at *
        generalize bt x (sR σ f i / 2) = bx at *
        generalize bt y (sR σ f i / 2) = bY at *
        generalize (ppr σ x y f i.toNat).1 = P at *
        generalize (ppr σ x y f i.toNat).2 = Q at *
        have hP : P % 2 = 0 ∨ P % 2 = 1 := by omega
        have hQ : Q % 2 = 0 ∨ Q % 2 = 1 := by omega
        have e1 : zxor (Q % 2) bx = (Q + bx) % 2 := by
          rcases hQ with h2 | h2 <;> rcases hb1 with h1 | h1 <;> rw [h2, h1]
          · rw [show zxor 0 0 = 0 by decide]; omega
          · rw [show zxor 0 1 = 1 by decide]; omega
          · rw [show zxor 1 0 = 1 by decide]; omega
          · rw [show zxor 1 1 = 0 by decide]; omega
        have e2 : zxor (P % 2) (zxor (zand (Q % 2) bY) (zand (if bx = 1 then c2 else 0) bY)) = (P + (if bY = 1 then Q else 0) + (if c2 = 1 then bx * bY else 0)) % 2 := by
          have e3 : (P + (if bY = 1 then Q else 0) + (if c2 = 1 then bx * bY else 0)) % 2 = (P % 2 + (if bY = 1 then Q % 2 else 0) + (if c2 = 1 then bx * bY else 0)) % 2 := by
            rcases hb1 with h1 | h1 <;> rcases hb2 with h3 | h3 <;> rcases hp2 with h4 | h4 <;> subst h1 <;> subst h3 <;> subst h4 <;> simp <;> omega
          rw [e3]
          generalize P % 2 = a at *
          generalize Q % 2 = b at *
          rcases hP with hP | hP <;> rcases hQ with h2 | h2 <;> rcases hb1 with h1 | h1 <;> rcases hb2 with h3 | h3 <;> rcases hp2 with h4 | h4 <;> subst h1 <;> subst h3 <;> subst h4 <;> subst hP <;> subst h2 <;> decide
        rw [e1, e2]
        exact this
      · rw [if_neg hi]
        have : i = sL σ f := by omega
        rw [this]
        rfl
  unfold f_X5_multiply
  have := key zfu 0 (by omega) (by omega) (by unfold zfu; omega)
  exact this
end
