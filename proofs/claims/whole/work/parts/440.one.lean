/-! storeys reached from 0: is the layer one -/
def Rch (n : Int) (t : Int → Int) (N : Int) (k : Int) : Prop := ∀ S : Int → Prop, S 0 → (∀ j x, 0 ≤ j → j < N → 0 ≤ x → x < n → S x → S (prm n (t j) x)) → S k
theorem Rch.st {n N j k : Int} {t : Int → Int} (h : Rch n t N k) (hj : 0 ≤ j ∧ j < N) (hk : 0 ≤ k ∧ k < n) : Rch n t N (prm n (t j) k) := fun S a b => b j k hj.1 hj.2 hk.1 hk.2 (h S a b)
noncomputable def isO (n : Int) (t : Int → Int) (N : Int) : Bool := @decide (∀ k, 0 ≤ k → k < n → Rch n t N k) (Classical.propDecidable _)
theorem isO_iff {n N : Int} {t : Int → Int} : isO n t N = true ↔ ∀ k, 0 ≤ k → k < n → Rch n t N k := by
  unfold isO
  exact @decide_eq_true_iff _ (Classical.propDecidable _)
/-- a mask of storeys that are reached -/
def OnM (n N : Int) (t : Int → Int) (m : Nat) : Prop := m < 2 ^ n.toNat ∧ m.testBit 0 = true ∧ ∀ k : Nat, m.testBit k = true → Rch n t N k
def Sbm (m m' : Nat) : Prop := ∀ k, m.testBit k = true → m'.testBit k = true
theorem Sbm.refl (m : Nat) : Sbm m m := fun _ h => h
theorem Sbm.trans {a b c : Nat} (h : Sbm a b) (h' : Sbm b c) : Sbm a c := fun k q => h' k (h k q)
def Clm (n N : Int) (t : Int → Int) (m : Nat) : Prop := ∀ j x, 0 ≤ j → j < N → 0 ≤ x → x < n → m.testBit x.toNat = true → m.testBit (prm n (t j) x).toNat = true
def pcm (m : Nat) : Nat := (if m.testBit 0 then 1 else 0) + (if m.testBit 1 then 1 else 0) + (if m.testBit 2 then 1 else 0) + (if m.testBit 3 then 1 else 0)
theorem bit_lt {m k p : Nat} (h : m < 2 ^ p) (hb : m.testBit k = true) : k < p := by
  by_cases hk : k < p
  · exact hk
  · have : m < 2 ^ k := Nat.lt_of_lt_of_le h (Nat.pow_le_pow_right (by decide) (by omega))
    rw [Nat.testBit_lt_two_pow this] at hb
    exact absurd hb (by decide)
theorem OnM.lt16 {n N : Int} {t : Int → Int} {m : Nat} (hn : 2 ≤ n ∧ n ≤ 4) (h : OnM n N t m) : m < 16 := by
  have : (2 : Nat) ^ n.toNat ≤ 2 ^ 4 := Nat.pow_le_pow_right (by decide) (by omega)
  have := h.1
  omega
theorem pcm_lt {m m' : Nat} (h : m < 16) (h' : m' < 16) (hs : Sbm m m') (hne : m ≠ m') : pcm m < pcm m' := by
  have a0 := hs 0
  have a1 := hs 1
  have a2 := hs 2
  have a3 := hs 3
  have key : ∀ a b : Fin 16, (a.val.testBit 0 = true → b.val.testBit 0 = true) → (a.val.testBit 1 = true → b.val.testBit 1 = true) → (a.val.testBit 2 = true → b.val.testBit 2 = true) → (a.val.testBit 3 = true → b.val.testBit 3 = true) → a.val ≠ b.val → pcm a.val < pcm b.val := by decide +kernel
  exact key ⟨m, h⟩ ⟨m', h'⟩ a0 a1 a2 a3 hne
theorem full_iff {n : Int} {m : Nat} (hn : 2 ≤ n ∧ n ≤ 4) (h : m < 2 ^ n.toNat) : (m : Int) = 2 ^ n.toNat - 1 ↔ ∀ k : Nat, (k : Int) < n → m.testBit k = true := by
  have key : ∀ p : Fin 5, ∀ m : Fin 16, m.val < 2 ^ p.val → (((m.val : Nat) : Int) = 2 ^ p.val - 1 ↔ ∀ k : Fin 4, k.val < p.val → m.val.testBit k.val = true) := by decide +kernel
  have h16 : m < 16 := by
    have : (2 : Nat) ^ n.toNat ≤ 2 ^ 4 := Nat.pow_le_pow_right (by decide) (by omega)
    omega
  rw [key ⟨n.toNat, by omega⟩ ⟨m, h16⟩ h]
  constructor
  · intro q k hk
    exact q ⟨k, by omega⟩ (by show k < n.toNat; omega)
  · intro q k hk
    exact q k.val (by have : k.val < n.toNat := hk; omega)
theorem pcm_full {n : Int} {m : Nat} (hn : 2 ≤ n ∧ n ≤ 4) (h : m < 2 ^ n.toNat) (hp : n ≤ pcm m) : ∀ k : Nat, (k : Int) < n → m.testBit k = true := by
  have key : ∀ p : Fin 5, ∀ m : Fin 16, m.val < 2 ^ p.val → p.val ≤ pcm m.val → ∀ k : Fin 4, k.val < p.val → m.val.testBit k.val = true := by decide +kernel
  have h16 : m < 16 := by
    have : (2 : Nat) ^ n.toNat ≤ 2 ^ 4 := Nat.pow_le_pow_right (by decide) (by omega)
    omega
  intro k hk
  exact key ⟨n.toNat, by omega⟩ ⟨m, h16⟩ h (by show n.toNat ≤ pcm m; omega) ⟨k, by omega⟩ (by show k < n.toNat; omega)
/-- what a closed mask tells -/
theorem clm_rch {n N : Int} {t : Int → Int} {m : Nat} (hn : 2 ≤ n ∧ n ≤ 4) (ht : TbR n N t) (hm : OnM n N t m) (hc : Clm n N t m) (k : Nat) (hk : Rch n t N k) : m.testBit k = true := by
  have := hk (fun x => 0 ≤ x ∧ m.testBit x.toNat = true) ⟨by omega, hm.2.1⟩ (fun j x a b c d e => ⟨(prm_rg hn (ht j a b) ⟨c, d⟩).1, hc j x a b c d e.2⟩)
  simpa using this.2
theorem one_iff {n N : Int} {t : Int → Int} {m : Nat} (hn : 2 ≤ n ∧ n ≤ 4) (ht : TbR n N t) (hm : OnM n N t m) (hc : Clm n N t m) : (m : Int) = 2 ^ n.toNat - 1 ↔ isO n t N = true := by
  rw [full_iff hn hm.1, isO_iff]
  constructor
  · intro h k a b
    have := hm.2.2 k.toNat (h k.toNat (by omega))
    rw [show ((k.toNat : Nat) : Int) = k by omega] at this
    exact this
  · intro h k hk
    exact clm_rch hn ht hm hc k (h k (by omega) hk)
/-- one storey more -/
theorem onm_add {n N j x : Int} {t : Int → Int} {m : Nat} (hn : 2 ≤ n ∧ n ≤ 4) (ht : TbR n N t) (hm : OnM n N t m) (hj : 0 ≤ j ∧ j < N) (hx : 0 ≤ x ∧ x < n) (hb : m.testBit x.toNat = true) : OnM n N t (m ||| 2 ^ (prm n (t j) x).toNat) ∧ Sbm m (m ||| 2 ^ (prm n (t j) x).toNat) ∧ (m ||| 2 ^ (prm n (t j) x).toNat).testBit (prm n (t j) x).toNat = true := by
  have hp := prm_rg hn (ht j hj.1 hj.2) hx
  have h2 : 2 ^ (prm n (t j) x).toNat < 2 ^ n.toNat := Nat.pow_lt_pow_right (by decide) (by omega)
  refine ⟨⟨Nat.or_lt_two_pow hm.1 h2, by rw [Nat.testBit_or, hm.2.1, Bool.true_or], fun k hk => ?_⟩, fun k hk => by rw [Nat.testBit_or, hk, Bool.true_or], by rw [Nat.testBit_or, Nat.testBit_two_pow_self, Bool.or_true]⟩
  rw [Nat.testBit_or] at hk
  by_cases hmk : m.testBit k = true
  · exact hm.2.2 k hmk
  · by_cases hkp : (prm n (t j) x).toNat = k
    · have := hm.2.2 x.toNat hb
      rw [show ((x.toNat : Nat) : Int) = x by omega] at this
      have h3 := this.st hj hx
      rw [show (k : Int) = prm n (t j) x by omega]
      exact h3
    · rw [Nat.testBit_two_pow_of_ne hkp, Bool.eq_false_iff.mpr hmk] at hk
      exact absurd hk (by decide)
theorem zor_bit {m p : Nat} (h : m < 16) (hp : p < 4) : zor (m : Int) (zshl 1 (p : Int)) = ((m ||| 2 ^ p : Nat) : Int) := by
  have h2 : (2 : Nat) ^ p ≤ 2 ^ 3 := Nat.pow_le_pow_right (by decide) (by omega)
  have := zshl_nat (a := 1) (n := p) (by omega) (by omega)
  rw [show ((1 : Nat) : Int) = 1 from rfl] at this
  rw [this, Nat.one_mul, zor_nat (by omega) (by omega)]
theorem zshl_1 {n : Int} (hn : 2 ≤ n ∧ n ≤ 4) : zw (zshl 1 n - 1) = 2 ^ n.toNat - 1 := by
  rcases n234 hn with h | h | h <;> subst h <;> decide +kernel
theorem c_isOne {μ : zMem} {n : Int} {N : Nat} {t : Int → Int} (hT : ShT μ) (hn : 2 ≤ n ∧ n ≤ 4) (hN : N ≤ 12) (h9 : μ 27 9 = 66 + 4 * n) (h8 : μ 27 8 = N) (ht : TbR n N t) (hc : ∀ j : Int, 0 ≤ j → j < (N : Int) → μ 28 j = t j) : f_X6_isOne μ = some (b2i (isO n t N)) := by
  have h0 := (hT n hn.1 hn.2).2.1
  have k31 : ∀ (s : Int) (g : Int → Option Int), 0 ≤ s ∧ s < n → ∀ (q fu : Nat) (j : Int) (m : Nat), q < fu → 0 ≤ j → j + q = N → OnM n N t m → ∃ m', OnM n N t m' ∧ Sbm m m' ∧ (m.testBit s.toNat = true → ∀ i : Int, j ≤ i → i < N → m'.testBit (prm n (t i) s).toNat = true) ∧ f_X6_isOne_L31 μ s g fu (m : Int) j = g (m' : Int) := by
    intro s g hs q
    induction q with
    | zero =>
      intro fu j m hfu j0 hj hm
      cases fu with
      | zero => omega
      | succ fu =>
        refine ⟨m, hm, Sbm.refl _, fun _ i a b => by omega, ?_⟩
        unfold f_X6_isOne_L31
        rw [h8, if_neg (by omega)]
    | succ q ih =>
      intro fu j m hfu j0 hj hm
      cases fu with
      | zero => omega
      | succ fu =>
        have h16 := hm.lt16 hn
        have hbit := tbit (v := m) (p := s.toNat) (by omega) (by omega)
        rw [show ((s.toNat : Nat) : Int) = s by omega] at hbit
        unfold f_X6_isOne_L31
        simp only [zlet]
        rw [h8, if_pos (by omega)]
        by_cases hb : m.testBit s.toNat = true
        · obtain ⟨a1, a2, a3⟩ := onm_add (j := j) hn ht hm ⟨j0, by omega⟩ hs hb
          have hp := prm_rg hn (ht j j0 (by omega)) hs
          have hz := zor_bit (p := (prm n (t j) s).toNat) h16 (by omega)
          rw [show (((prm n (t j) s).toNat : Nat) : Int) = prm n (t j) s by omega] at hz
          obtain ⟨m', b1, b2, b3, b4⟩ := ih fu (j + 1) _ (by omega) (by omega) (by omega) a1
          rw [if_pos (hbit.mpr hb), h9, chk_pos (by omega), chk_pos (by omega), hc j j0 (by omega), bnd_pos (c_move hT hn (ht j j0 (by omega)) hs), hz, zw_eq (by omega) (by omega), b4]
          refine ⟨m', b1, a2.trans b2, fun _ i c d => ?_, rfl⟩
          by_cases hij : i = j
          · rw [hij]; exact b2 _ a3
          · exact b3 (a2 _ hb) i (by omega) d
        · rw [if_neg (fun q => hb (hbit.mp q))]
          exact ⟨m, hm, Sbm.refl _, fun q => absurd q hb, rfl⟩
  have k17 : ∀ (g : Int → Option Int) (q fu : Nat) (s : Int) (m : Nat), q < fu → 0 ≤ s → s + q = n → OnM n N t m → ∃ m', OnM n N t m' ∧ Sbm m m' ∧ (∀ x i : Int, s ≤ x → x < n → 0 ≤ i → i < N → m.testBit x.toNat = true → m'.testBit (prm n (t i) x).toNat = true) ∧ f_X6_isOne_L17 μ g fu (m : Int) s = g (m' : Int) := by
    intro g q
    induction q with
    | zero =>
      intro fu s m hfu s0 hs hm
      cases fu with
      | zero => omega
      | succ fu =>
        refine ⟨m, hm, Sbm.refl _, fun x i a b => by omega, ?_⟩
        unfold f_X6_isOne_L17
        simp only [zlet]
        rw [h9, chk_pos (by omega), h0, if_neg (by omega)]
    | succ q ih =>
      intro fu s m hfu s0 hs hm
      cases fu with
      | zero => omega
      | succ fu =>
        obtain ⟨m1, a1, a2, a3, a4⟩ := k31 s (f_X6_isOne_K75 s (f_X6_isOne_L17 μ g fu)) ⟨s0, by omega⟩ N zfu 0 m (by unfold zfu; omega) (by omega) (by omega) hm
        obtain ⟨m', b1, b2, b3, b4⟩ := ih fu (s + 1) m1 (by omega) (by omega) (by omega) a1
        refine ⟨m', b1, a2.trans b2, fun x i c d e f h => ?_, ?_⟩
        · by_cases hx : x = s
          · rw [hx]; rw [hx] at h
            exact b2 _ (a3 h i e f)
          · exact b3 x i (by omega) d e f (a2 _ h)
        · unfold f_X6_isOne_L17
          simp only [zlet]
          rw [h9, chk_pos (by omega), h0, if_pos (by omega), a4]
          unfold f_X6_isOne_K75
          simp only [zlet]
          rw [zw_eq (by omega) (by omega), b4]
  have kcl : ∀ m m' : Nat, OnM n N t m → OnM n N t m' → Sbm m m' → (∀ x i : Int, 0 ≤ x → x < n → 0 ≤ i → i < N → m.testBit x.toNat = true → m'.testBit (prm n (t i) x).toNat = true) → m = m' → Clm n N t m := by
    intro m m' _ _ _ h e
    intro j x a b c d f
    rw [e]
    exact h x j c d a b f
  have key : ∀ (q fu : Nat) (r : Int) (m : Nat), q < fu → 1 ≤ r → r + q = n → OnM n N t m → (Clm n N t m ∨ r ≤ pcm m) → ∃ m', OnM n N t m' ∧ (Clm n N t m' ∨ n ≤ pcm m') ∧ f_X6_isOne_L4 μ (f_X6_isOne_K87 μ) fu (m : Int) r = f_X6_isOne_K87 μ (m' : Int) := by
    intro q
    induction q with
    | zero =>
      intro fu r m hfu r0 hr hm hp
      cases fu with
      | zero => omega
      | succ fu =>
        refine ⟨m, hm, ?_, ?_⟩
        · rw [show n = r by omega]
          rw [show n = r by omega] at hp
          exact hp
        · unfold f_X6_isOne_L4
          simp only [zlet]
          rw [h9, chk_pos (by omega), h0, if_neg (by omega)]
    | succ q ih =>
      intro fu r m hfu r0 hr hm hp
      cases fu with
      | zero => omega
      | succ fu =>
        obtain ⟨m1, a1, a2, a3, a4⟩ := k17 (f_X6_isOne_K81 r (f_X6_isOne_L4 μ (f_X6_isOne_K87 μ) fu)) n.toNat zfu 0 m (by unfold zfu; omega) (by omega) (by omega) hm
        have hp1 : Clm n N t m1 ∨ r + 1 ≤ pcm m1 := by
          by_cases he : m = m1
          · exact Or.inl (he ▸ kcl m m1 hm a1 a2 a3 he)
          · rcases hp with h | h
            · exact absurd (Nat.eq_of_testBit_eq fun k => by
                rw [Bool.eq_iff_iff]
                exact ⟨fun w => a2 k w, fun w => clm_rch hn ht hm h k (a1.2.2 k w)⟩) he
            · have := pcm_lt (hm.lt16 hn) (a1.lt16 hn) a2 he
              exact Or.inr (by omega)
        obtain ⟨m', b1, b2, b3⟩ := ih fu (r + 1) m1 (by omega) (by omega) (by omega) a1 hp1
        refine ⟨m', b1, b2, ?_⟩
        unfold f_X6_isOne_L4
        simp only [zlet]
        rw [h9, chk_pos (by omega), h0, if_pos (by omega), a4]
        unfold f_X6_isOne_K81
        simp only [zlet]
        rw [zw_eq (by omega) (by omega), b3]
  have hp2 : (2 : Nat) ^ 2 ≤ 2 ^ n.toNat := Nat.pow_le_pow_right (by decide) (by omega)
  have hone : OnM n N t 1 := by
    refine ⟨by omega, by decide, fun k hk => ?_⟩
    have : k < 1 := bit_lt (m := 1) (p := 1) (by decide) hk
    rw [show (k : Int) = 0 by omega]
    exact fun S a _ => a
  obtain ⟨m', b1, b2, b3⟩ := key (n - 1).toNat zfu 1 1 (by unfold zfu; omega) (by omega) (by omega) hone (Or.inr (by decide))
  unfold f_X6_isOne
  rw [show (1 : Int) = ((1 : Nat) : Int) from rfl]
  rw [show ((1 : Nat) : Int) = (1 : Int) from rfl] at b3 ⊢
  rw [b3]
  unfold f_X6_isOne_K87
  simp only [zlet]
  have hcl : Clm n N t m' := by
    rcases b2 with h | h
    · exact h
    · intro j x a b c d _
      have := prm_rg hn (ht j a b) ⟨c, d⟩
      exact pcm_full hn b1.1 h _ (by omega)
  have hi := one_iff hn ht b1 hcl
  rw [h9, chk_pos (by omega), h0, zshl_1 hn]
  by_cases h : isO n t N = true
  · rw [if_pos (hi.mpr h), h]; rfl
  · rw [if_neg (fun q => h (hi.mp q)), Bool.eq_false_iff.mpr h]; rfl
