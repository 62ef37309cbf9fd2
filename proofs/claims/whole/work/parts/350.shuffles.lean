/-! facts about the ways in which storeys change -/
theorem fin_all {N : Nat} {P : Int → Prop} (h : ∀ i : Fin N, P ((i.val : Nat) : Int)) : ∀ x : Int, 0 ≤ x → x < N → P x := by
  intro x h0 h1
  have := h ⟨x.toNat, by omega⟩
  rwa [show (((x.toNat : Nat)) : Int) = x by omega] at this
theorem n234 {n : Int} (h : 2 ≤ n ∧ n ≤ 4) : n = 2 ∨ n = 3 ∨ n = 4 := by omega
theorem fct_pos {n : Int} (h : 2 ≤ n ∧ n ≤ 4) : 2 ≤ fct n ∧ fct n ≤ 24 := by
  rcases n234 h with h | h | h <;> subst h <;> decide
theorem prm_rg {n j k : Int} (h : 2 ≤ n ∧ n ≤ 4) (hj : 0 ≤ j ∧ j < fct n) (hk : 0 ≤ k ∧ k < n) : 0 ≤ prm n j k ∧ prm n j k < n := by
  rcases n234 h with h | h | h <;> subst h
  · exact fin_all (N := 2) (P := fun j => ∀ k : Int, 0 ≤ k → k < (2 : Nat) → 0 ≤ prm 2 j k ∧ prm 2 j k < 2) (fun j => fin_all (by revert j; decide +kernel)) j hj.1 hj.2 k hk.1 hk.2
  · exact fin_all (N := 6) (P := fun j => ∀ k : Int, 0 ≤ k → k < (3 : Nat) → 0 ≤ prm 3 j k ∧ prm 3 j k < 3) (fun j => fin_all (by revert j; decide +kernel)) j hj.1 hj.2 k hk.1 hk.2
  · exact fin_all (N := 24) (P := fun j => ∀ k : Int, 0 ≤ k → k < (4 : Nat) → 0 ≤ prm 4 j k ∧ prm 4 j k < 4) (fun j => fin_all (by revert j; decide +kernel)) j hj.1 hj.2 k hk.1 hk.2
theorem bak_rg {n j : Int} (h : 2 ≤ n ∧ n ≤ 4) (hj : 0 ≤ j ∧ j < fct n) : 0 ≤ bak n j ∧ bak n j < fct n := by
  rcases n234 h with h | h | h <;> subst h
  · exact fin_all (N := 2) (P := fun j => 0 ≤ bak 2 j ∧ bak 2 j < fct 2) (by decide +kernel) j hj.1 hj.2
  · exact fin_all (N := 6) (P := fun j => 0 ≤ bak 3 j ∧ bak 3 j < fct 3) (by decide +kernel) j hj.1 hj.2
  · exact fin_all (N := 24) (P := fun j => 0 ≤ bak 4 j ∧ bak 4 j < fct 4) (by decide +kernel) j hj.1 hj.2
theorem bak_prm {n j k : Int} (h : 2 ≤ n ∧ n ≤ 4) (hj : 0 ≤ j ∧ j < fct n) (hk : 0 ≤ k ∧ k < n) : prm n (bak n j) (prm n j k) = k ∧ prm n j (prm n (bak n j) k) = k := by
  rcases n234 h with h | h | h <;> subst h
  · exact fin_all (N := 2) (P := fun j => ∀ k : Int, 0 ≤ k → k < (2 : Nat) → prm 2 (bak 2 j) (prm 2 j k) = k ∧ prm 2 j (prm 2 (bak 2 j) k) = k) (fun j => fin_all (by revert j; decide +kernel)) j hj.1 hj.2 k hk.1 hk.2
  · exact fin_all (N := 6) (P := fun j => ∀ k : Int, 0 ≤ k → k < (3 : Nat) → prm 3 (bak 3 j) (prm 3 j k) = k ∧ prm 3 j (prm 3 (bak 3 j) k) = k) (fun j => fin_all (by revert j; decide +kernel)) j hj.1 hj.2 k hk.1 hk.2
  · exact fin_all (N := 24) (P := fun j => ∀ k : Int, 0 ≤ k → k < (4 : Nat) → prm 4 (bak 4 j) (prm 4 j k) = k ∧ prm 4 j (prm 4 (bak 4 j) k) = k) (fun j => fin_all (by revert j; decide +kernel)) j hj.1 hj.2 k hk.1 hk.2
theorem fol_rg {n a b : Int} (h : 2 ≤ n ∧ n ≤ 4) (ha : 0 ≤ a ∧ a < fct n) (hb : 0 ≤ b ∧ b < fct n) : 0 ≤ fol n a b ∧ fol n a b < fct n := by
  rcases n234 h with h | h | h <;> subst h
  · exact fin_all (N := 2) (P := fun a => ∀ b : Int, 0 ≤ b → b < (2 : Nat) → 0 ≤ fol 2 a b ∧ fol 2 a b < fct 2) (fun j => fin_all (by revert j; decide +kernel)) a ha.1 ha.2 b hb.1 hb.2
  · exact fin_all (N := 6) (P := fun a => ∀ b : Int, 0 ≤ b → b < (6 : Nat) → 0 ≤ fol 3 a b ∧ fol 3 a b < fct 3) (fun j => fin_all (by revert j; decide +kernel)) a ha.1 ha.2 b hb.1 hb.2
  · exact fin_all (N := 24) (P := fun a => ∀ b : Int, 0 ≤ b → b < (24 : Nat) → 0 ≤ fol 4 a b ∧ fol 4 a b < fct 4) (fun j => fin_all (by revert j; decide +kernel)) a ha.1 ha.2 b hb.1 hb.2
theorem prm_fol {n a b k : Int} (h : 2 ≤ n ∧ n ≤ 4) (ha : 0 ≤ a ∧ a < fct n) (hb : 0 ≤ b ∧ b < fct n) (hk : 0 ≤ k ∧ k < n) : prm n (fol n a b) k = prm n b (prm n a k) := by
  rcases n234 h with h | h | h <;> subst h
  · exact fin_all (N := 2) (P := fun a => ∀ b : Int, 0 ≤ b → b < (2 : Nat) → ∀ k : Int, 0 ≤ k → k < (2 : Nat) → prm 2 (fol 2 a b) k = prm 2 b (prm 2 a k)) (fun j => fin_all (fun b => fin_all (by revert j b; decide +kernel))) a ha.1 ha.2 b hb.1 hb.2 k hk.1 hk.2
  · exact fin_all (N := 6) (P := fun a => ∀ b : Int, 0 ≤ b → b < (6 : Nat) → ∀ k : Int, 0 ≤ k → k < (3 : Nat) → prm 3 (fol 3 a b) k = prm 3 b (prm 3 a k)) (fun j => fin_all (fun b => fin_all (by revert j b; decide +kernel))) a ha.1 ha.2 b hb.1 hb.2 k hk.1 hk.2
  · exact fin_all (N := 24) (P := fun a => ∀ b : Int, 0 ≤ b → b < (24 : Nat) → ∀ k : Int, 0 ≤ k → k < (4 : Nat) → prm 4 (fol 4 a b) k = prm 4 b (prm 4 a k)) (fun j => fin_all (fun b => fin_all (by revert j b; decide +kernel))) a ha.1 ha.2 b hb.1 hb.2 k hk.1 hk.2
/-- the order of numbers is that of where each storey goes, the first unlike -/
theorem prm_lt {n a b : Int} (h : 2 ≤ n ∧ n ≤ 4) (ha : 0 ≤ a ∧ a < fct n) (hb : 0 ≤ b ∧ b < fct n) (hab : a < b) : ∃ k, 0 ≤ k ∧ k < n ∧ prm n a k < prm n b k ∧ ∀ i, 0 ≤ i → i < k → prm n a i = prm n b i := by
  have key : ∀ (n N : Nat), (∀ a b : Fin N, a.val < b.val → ∃ k : Fin n, prm n (a.val : Nat) (k.val : Nat) < prm n (b.val : Nat) (k.val : Nat) ∧ ∀ i : Fin n, i.val < k.val → prm n (a.val : Nat) (i.val : Nat) = prm n (b.val : Nat) (i.val : Nat)) → ∀ a b : Int, 0 ≤ a → a < N → 0 ≤ b → b < N → a < b → ∃ k, 0 ≤ k ∧ k < (n : Int) ∧ prm n a k < prm n b k ∧ ∀ i, 0 ≤ i → i < k → prm n a i = prm n b i := by
    intro n N H a b ha ha2 hb hb2 hab
    obtain ⟨k, h1, h2⟩ := H ⟨a.toNat, by omega⟩ ⟨b.toNat, by omega⟩ (by simp only; omega)
    simp only [show (((a.toNat : Nat)) : Int) = a by omega, show (((b.toNat : Nat)) : Int) = b by omega] at h1 h2
    refine ⟨k.val, by omega, by have := k.isLt; omega, h1, fun i h3 h4 => ?_⟩
    have := h2 ⟨i.toNat, by have := k.isLt; omega⟩ (by simp only; omega)
    simpa only [show (((i.toNat : Nat)) : Int) = i by omega] using this
  rcases n234 h with h | h | h <;> subst h
  · exact key 2 2 (by decide +kernel) a b ha.1 ha.2 hb.1 hb.2 hab
  · exact key 3 6 (by decide +kernel) a b ha.1 ha.2 hb.1 hb.2 hab
  · exact key 4 24 (by decide +kernel) a b ha.1 ha.2 hb.1 hb.2 hab
theorem prm_0 {n k : Int} (h : 2 ≤ n ∧ n ≤ 4) (hk : 0 ≤ k ∧ k < n) : prm n 0 k = k := by
  rcases n234 h with h | h | h <;> subst h
  · exact fin_all (N := 2) (P := fun k => prm 2 0 k = k) (by decide +kernel) k hk.1 hk.2
  · exact fin_all (N := 3) (P := fun k => prm 3 0 k = k) (by decide +kernel) k hk.1 hk.2
  · exact fin_all (N := 4) (P := fun k => prm 4 0 k = k) (by decide +kernel) k hk.1 hk.2
theorem prm_inj {n a b : Int} (h : 2 ≤ n ∧ n ≤ 4) (ha : 0 ≤ a ∧ a < fct n) (hb : 0 ≤ b ∧ b < fct n) (he : ∀ k, 0 ≤ k → k < n → prm n a k = prm n b k) : a = b := by
  rcases Int.lt_trichotomy a b with h1 | h1 | h1
  · obtain ⟨k, k0, k1, k2, _⟩ := prm_lt h ha hb h1
    have := he k k0 k1
    omega
  · exact h1
  · obtain ⟨k, k0, k1, k2, _⟩ := prm_lt h hb ha h1
    have := he k k0 k1
    omega
/-! the class's own rows of them -/
theorem c_move {μ : zMem} (hT : ShT μ) {n j k : Int} (h : 2 ≤ n ∧ n ≤ 4) (hj : 0 ≤ j ∧ j < fct n) (hk : 0 ≤ k ∧ k < n) : f_X4_move (66 + 4 * n) j k μ = some (prm n j k) := by
  obtain ⟨t1, t2, t3, t4, t5, t6⟩ := hT n h.1 h.2
  have hz : zlen (66 + 4 * n + 1) = fct n * n := by rcases n234 h with h | h | h <;> subst h <;> decide
  have hf := fct_pos h
  have hjn : 0 ≤ j * n ∧ j * n + k < fct n * n ∧ fct n * n ≤ 96 := by
    rcases n234 h with h | h | h <;> subst h <;> omega
  unfold f_X4_move
  rw [t2, zw_eq (x := j * n) (by omega) (by omega), zw_eq (by omega) (by omega), chk_pos (by omega), t4 j k hj.1 hj.2 hk.1 hk.2]
theorem c_back {μ : zMem} (hT : ShT μ) {n j : Int} (h : 2 ≤ n ∧ n ≤ 4) (hj : 0 ≤ j ∧ j < fct n) : f_X4_back (66 + 4 * n) j μ = some (bak n j) := by
  obtain ⟨t1, t2, t3, t4, t5, t6⟩ := hT n h.1 h.2
  have hz : zlen (66 + 4 * n + 3) = fct n := by rcases n234 h with h | h | h <;> subst h <;> decide
  unfold f_X4_back
  rw [chk_pos (by omega), t6 j hj.1 hj.2]
theorem c_follow {μ : zMem} (hT : ShT μ) {n a b : Int} (h : 2 ≤ n ∧ n ≤ 4) (ha : 0 ≤ a ∧ a < fct n) (hb : 0 ≤ b ∧ b < fct n) : f_X4_follow (66 + 4 * n) a b μ = some (fol n a b) := by
  obtain ⟨t1, t2, t3, t4, t5, t6⟩ := hT n h.1 h.2
  have hz : zlen (66 + 4 * n + 2) = fct n * fct n := by rcases n234 h with h | h | h <;> subst h <;> decide
  have hjn : 0 ≤ a * fct n ∧ a * fct n + b < fct n * fct n ∧ fct n * fct n ≤ 576 := by
    rcases n234 h with h | h | h <;> subst h
    · have hq : fct 2 = 2 := rfl
      rw [hq] at ha hb ⊢; omega
    · have hq : fct 3 = 6 := rfl
      rw [hq] at ha hb ⊢; omega
    · have hq : fct 4 = 24 := rfl
      rw [hq] at ha hb ⊢; omega
  unfold f_X4_follow
  rw [t3, zw_eq (x := a * fct n) (by omega) (by omega), zw_eq (by omega) (by omega), chk_pos (by omega), t5 a b ha.1 ha.2 hb.1 hb.2]
