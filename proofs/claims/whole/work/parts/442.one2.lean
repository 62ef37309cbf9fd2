/-! is the layer one: the reference -/
theorem m_isOne {μ : zMem} {n : Int} {N : Nat} {t : Int → Int} (hn : 2 ≤ n ∧ n ≤ 4) (h28 : μ 101 28 = n) (hN : N ≤ 16) (h29 : μ 101 29 = N) (hb : MTb μ n N t) (ht : TbR n N t) : f_X10_isOne μ = some (b2i (isO n t N)) := by
  have k24 : ∀ (b : Nat) (j : Int) (g : Int → Option Int), OnM n N t b → 0 ≤ j → j < N → ∀ (q fu : Nat) (k : Int) (m : Nat), q < fu → 0 ≤ k → k + q = n → OnM n N t m → Sbm b m → ∃ m', OnM n N t m' ∧ Sbm m m' ∧ (∀ x, k ≤ x → x < n → b.testBit x.toNat = true → m'.testBit (prm n (t j) x).toNat = true) ∧ f_X10_isOne_L24 μ (b : Int) j g fu (m : Int) k = g (m' : Int) := by
    intro b j g hbm j0 j1 q
    induction q with
    | zero =>
      intro fu k m hfu k0 hk hm hs
      cases fu with
      | zero => omega
      | succ fu =>
        refine ⟨m, hm, Sbm.refl _, fun x a c => by omega, ?_⟩
        unfold f_X10_isOne_L24
        rw [h28, if_neg (by omega)]
    | succ q ih =>
      intro fu k m hfu k0 hk hm hs
      cases fu with
      | zero => omega
      | succ fu =>
        have h16 := hm.lt16 hn
        have hb16 := hbm.lt16 hn
        have hbit := tbit (v := b) (p := k.toNat) (by omega) (by omega)
        rw [show ((k.toNat : Nat) : Int) = k by omega] at hbit
        unfold f_X10_isOne_L24
        rw [h28, if_pos (by omega)]
        unfold f_X10_isOne_J61
        simp only [zlet]
        rw [zw_eq (x := k + 1) (by omega) (by omega), zw_eq (x := 4 * j) (by omega) (by omega), zw_eq (x := 4 * j + k) (by omega) (by omega)]
        by_cases hbk : b.testBit k.toNat = true
        · obtain ⟨a1, a2, a3⟩ := onm_add (j := j) hn ht hm ⟨j0, j1⟩ ⟨k0, by omega⟩ (hs _ hbk)
          have hp := prm_rg hn (ht j j0 j1) (k := k) ⟨k0, by omega⟩
          have hz := zor_bit (p := (prm n (t j) k).toNat) h16 (by omega)
          rw [show (((prm n (t j) k).toNat : Nat) : Int) = prm n (t j) k by omega] at hz
          obtain ⟨m', b1, b2, b3, b4⟩ := ih fu (k + 1) _ (by omega) (by omega) (by omega) a1 (hs.trans a2)
          rw [if_pos (hbit.mpr hbk), chk_pos (by omega), (hb j k j0 j1 k0 (by omega)).1, hz, b4]
          refine ⟨m', b1, a2.trans b2, fun x c d e => ?_, rfl⟩
          by_cases hx : x = k
          · rw [hx]; exact b2 _ a3
          · exact b3 x (by omega) d e
        · obtain ⟨m', b1, b2, b3, b4⟩ := ih fu (k + 1) m (by omega) (by omega) (by omega) hm hs
          have hz := zor_nat (a := m) (b := 0) (by omega) (by omega)
          rw [Nat.or_zero] at hz
          rw [if_neg (fun q => hbk (hbit.mp q)), show (0 : Int) = ((0 : Nat) : Int) from rfl, hz, b4]
          refine ⟨m', b1, b2, fun x c d e => ?_, rfl⟩
          by_cases hx : x = k
          · rw [hx] at e; exact absurd e hbk
          · exact b3 x (by omega) d e
  have k13 : ∀ (b : Nat) (g : Int → Option Int), OnM n N t b → ∀ (q fu : Nat) (j : Int) (m : Nat), q < fu → 0 ≤ j → j + q = N → OnM n N t m → Sbm b m → ∃ m', OnM n N t m' ∧ Sbm m m' ∧ (∀ i x : Int, j ≤ i → i < N → 0 ≤ x → x < n → b.testBit x.toNat = true → m'.testBit (prm n (t i) x).toNat = true) ∧ f_X10_isOne_L13 μ (b : Int) g fu (m : Int) j = g (m' : Int) := by
    intro b g hbm q
    induction q with
    | zero =>
      intro fu j m hfu j0 hj hm hs
      cases fu with
      | zero => omega
      | succ fu =>
        refine ⟨m, hm, Sbm.refl _, fun i x a c => by omega, ?_⟩
        unfold f_X10_isOne_L13
        rw [h29, if_neg (by omega)]
    | succ q ih =>
      intro fu j m hfu j0 hj hm hs
      cases fu with
      | zero => omega
      | succ fu =>
        obtain ⟨m1, a1, a2, a3, a4⟩ := k24 b j (f_X10_isOne_K69 j (f_X10_isOne_L13 μ (b : Int) g fu)) hbm j0 (by omega) n.toNat zfu 0 m (by unfold zfu; omega) (by omega) (by omega) hm hs
        obtain ⟨m', b1, b2, b3, b4⟩ := ih fu (j + 1) m1 (by omega) (by omega) (by omega) a1 (hs.trans a2)
        refine ⟨m', b1, a2.trans b2, fun i x c d e f h => ?_, ?_⟩
        · by_cases hi : i = j
          · rw [hi]; exact b2 _ (a3 x e f h)
          · exact b3 i x (by omega) d e f h
        · unfold f_X10_isOne_L13
          rw [h29, if_pos (by omega), a4]
          unfold f_X10_isOne_K69
          simp only [zlet]
          rw [zw_eq (by omega) (by omega), b4]
  have pc4 : ∀ m : Nat, pcm m ≤ 4 := by
    intro m
    unfold pcm
    split <;> split <;> split <;> split <;> omega
  have key : ∀ (q fu : Nat) (m b : Nat), q < fu → OnM n N t m → Sbm b m → (∀ i x : Int, 0 ≤ i → i < (N : Int) → 0 ≤ x → x < n → b.testBit x.toNat = true → m.testBit (prm n (t i) x).toNat = true) → (m = b ∨ 5 ≤ pcm m + q) → ∃ m', OnM n N t m' ∧ Clm n N t m' ∧ f_X10_isOne_L4 μ (f_X10_isOne_K78 μ) fu (m : Int) (b : Int) = f_X10_isOne_K78 μ (m' : Int) := by
    intro q
    induction q with
    | zero =>
      intro fu m b hfu hm hs hcl hq
      cases fu with
      | zero => omega
      | succ fu =>
        have h4 := pc4 m
        rcases hq with h | h
        · refine ⟨m, hm, fun j x a b' c d e => ?_, ?_⟩
          · exact hcl j x a b' c d (by rw [← h]; exact e)
          · unfold f_X10_isOne_L4
            rw [if_pos (by omega)]
        · omega
    | succ q ih =>
      intro fu m b hfu hm hs hcl hq
      cases fu with
      | zero => omega
      | succ fu =>
        by_cases h : m = b
        · refine ⟨m, hm, fun j x a b' c d e => ?_, ?_⟩
          · exact hcl j x a b' c d (by rw [← h]; exact e)
          · unfold f_X10_isOne_L4
            rw [if_pos (by omega)]
        · obtain ⟨m1, a1, a2, a3, a4⟩ := k13 m (f_X10_isOne_K75 (m : Int) (f_X10_isOne_L4 μ (f_X10_isOne_K78 μ) fu)) hm N zfu 0 m (by unfold zfu; omega) (by omega) (by omega) hm (Sbm.refl _)
          have hq1 : m1 = m ∨ 5 ≤ pcm m1 + q := by
            by_cases he : m1 = m
            · exact Or.inl he
            · have := pcm_lt (hm.lt16 hn) (a1.lt16 hn) a2 (Ne.symm he)
              rcases hq with h' | h'
              · exact absurd h' h
              · exact Or.inr (by omega)
          obtain ⟨m', b1, b2, b3⟩ := ih fu m1 m (by omega) a1 a2 a3 hq1
          refine ⟨m', b1, b2, ?_⟩
          unfold f_X10_isOne_L4
          rw [if_neg (by omega), a4]
          unfold f_X10_isOne_K75
          rw [b3]
  have hp2 : (2 : Nat) ^ 2 ≤ 2 ^ n.toNat := Nat.pow_le_pow_right (by decide) (by omega)
  have hone : OnM n N t 1 := by
    refine ⟨by omega, by decide, fun k hk => ?_⟩
    have : k < 1 := bit_lt (m := 1) (p := 1) (by decide) hk
    rw [show (k : Int) = 0 by omega]
    exact fun S a _ => a
  obtain ⟨m', b1, b2, b3⟩ := key 4 zfu 1 0 (by unfold zfu; omega) hone (fun k hk => by simp at hk) (fun i x _ _ _ _ hk => by simp at hk) (Or.inr (by decide))
  unfold f_X10_isOne
  rw [show ((1 : Nat) : Int) = (1 : Int) from rfl, show ((0 : Nat) : Int) = (0 : Int) from rfl] at b3
  rw [b3]
  unfold f_X10_isOne_K78
  have hi := one_iff hn ht b1 b2
  rw [h28, zshl_1 hn]
  by_cases h : isO n t N = true
  · rw [if_pos (hi.mpr h), h]; rfl
  · rw [if_neg (fun q => h (hi.mp q)), Bool.eq_false_iff.mpr h]; rfl
