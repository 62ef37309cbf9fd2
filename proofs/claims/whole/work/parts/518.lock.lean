/-! both ranks modulo p go in step -/
theorem pr_mul {a b p : Int} (hp : Pr p) : (a * b) % p = 0 ↔ a % p = 0 ∨ b % p = 0 := by
  have hpb := hp.b
  have key : ∀ p : Fin 8, (p.val = 2 ∨ p.val = 3 ∨ p.val = 5 ∨ p.val = 7) → ∀ a b : Fin 8, a.val < p.val → b.val < p.val → ((((a.val : Nat) : Int) * ((b.val : Nat) : Int)) % ((p.val : Nat) : Int) = 0 ↔ ((a.val : Nat) : Int) = 0 ∨ ((b.val : Nat) : Int) = 0) := by decide +kernel
  have ha : 0 ≤ a % p ∧ a % p < p := ⟨Int.emod_nonneg _ (by omega), Int.emod_lt_of_pos _ (by omega)⟩
  have hb : 0 ≤ b % p ∧ b % p < p := ⟨Int.emod_nonneg _ (by omega), Int.emod_lt_of_pos _ (by omega)⟩
  have k := key ⟨p.toNat, by omega⟩ (by unfold Pr at hp; simp only; omega) ⟨(a % p).toNat, by omega⟩ ⟨(b % p).toNat, by omega⟩ (by simp only; omega) (by simp only; omega)
  simp only at k
  rw [show ((p.toNat : Nat) : Int) = p by omega, show (((a % p).toNat : Nat) : Int) = a % p by omega, show (((b % p).toNat : Nat) : Int) = b % p by omega, ← Int.mul_emod] at k
  exact k
theorem mm_mod (a b p : Int) : (a % p * (b % p)) % p = (a * b) % p := (Int.mul_emod a b p).symm
theorem mr_mod (a b p : Int) : (a * (b % p)) % p = (a * b) % p := by rw [Int.mul_emod, Int.emod_emod, ← Int.mul_emod]
/-- a row of one is a unit times the row of the other -/
def Ut (p c W : Int) (α β : Int → Int) : Prop := ∃ u, u % p ≠ 0 ∧ ∀ k, c ≤ k → k < W → β k = (u * α k) % p
theorem el_lock {H W p : Int} (hp : Pr p) : ∀ (n : Nat) (m m' r c : Int) (A B : Mx), 0 ≤ r → c + n = W → BdC p H W r c A → BdC p H W r c B → (∀ i, r ≤ i → i < H → Ut p c W (A i) (B i)) → elG (fP p) H n m r c A = elG (fRm p) H n m' r c B := by
  have hpb := hp.b
  intro n
  induction n with
  | zero => intro m m' r c A B _ _ _ _ _; rfl
  | succ n ih =>
    intro m m' r c A B r0 hc hA hB hU
    unfold elG
    by_cases hrH : r < H
    · rw [if_pos hrH, if_pos hrH]
      have hfs : fsR A c (H - r).toNat r = fsR B c (H - r).toNat r := by
        refine fsR_cg _ _ fun j j0 j1 => ?_
        obtain ⟨u, u0, u1⟩ := hU j j0 (by omega)
        have hAj := hA j c j0 (by omega) (by omega) (by omega)
        rw [u1 c (by omega) (by omega), pr_mul hp]
        constructor
        · intro h; rw [h]; exact Or.inr (Int.zero_emod p)
        · rintro (h | h)
          · exact absurd h u0
          · rw [Int.emod_eq_of_lt hAj.1 hAj.2] at h; exact h
      rw [← hfs]
      have hs := fsR_spec A c (H - r).toNat r r0
      generalize fsR A c (H - r).toNat r = v at *
      rcases hs with ⟨q, _⟩ | ⟨q1, q2, q3⟩
      · rw [if_pos q, if_pos q]
        exact ih m m' r (c + 1) A B r0 (by omega) (fun i k i0 i1 k0 k1 => hA i k i0 i1 (by omega) k1) (fun i k i0 i1 k0 k1 => hB i k i0 i1 (by omega) k1) (fun i i0 i1 => by
          obtain ⟨u, u0, u1⟩ := hU i i0 i1
          exact ⟨u, u0, fun k k0 k1 => u1 k (by omega) k1⟩)
      · rw [if_neg (by omega), if_neg (by omega)]
        have swb : ∀ (D : Mx), BdC p H W r c D → BdC p H W r c (swp D v r) := by
          intro D hD i k i0 i1 k0 k1
          unfold swp
          split
          · exact hD r k (by omega) hrH k0 k1
          · split
            · exact hD v k q1 (by omega) k0 k1
            · exact hD i k i0 i1 k0 k1
        have hA2 := swb A hA
        have hB2 := swb B hB
        have hU2 : ∀ i, r ≤ i → i < H → Ut p c W (swp A v r i) (swp B v r i) := by
          intro i i0 i1
          have e1 : ∀ D : Mx, swp D v r i = if i = v then D r else if i = r then D v else D i := by
            intro D
            funext k
            unfold swp
            split
            · rfl
            · split <;> rfl
          rw [e1, e1]
          split
          · exact hU r (by omega) hrH
          · split
            · exact hU v q1 (by omega)
            · exact hU i i0 i1
        have hrc : swp A v r r c ≠ 0 := by
          unfold swp
          by_cases e : r = v
          · rw [if_pos e, e]; exact q3
          · rw [if_neg e, if_pos rfl]; exact q3
        refine ih (A v c) (B v c) (r + 1) (c + 1) (nwR (fP p) m (swp A v r) r c) (nwR (fRm p) m' (swp B v r) r c) (by omega) (by omega) (fun i k i0 i1 k0 k1 => ?_) (fun i k i0 i1 k0 k1 => ?_) (fun i i0 i1 => ?_)
        · unfold nwR
          rw [if_pos ⟨by omega, by omega⟩]
          exact fP_rg hp (hA2 i k (by omega) i1 (by omega) k1)
        · unfold nwR
          rw [if_pos ⟨by omega, by omega⟩]
          unfold fRm
          exact ⟨Int.emod_nonneg _ (by omega), Int.emod_lt_of_pos _ (by omega)⟩
        · obtain ⟨ur, ur0, ur1⟩ := hU2 r (by omega) hrH
          obtain ⟨ui, ui0, ui1⟩ := hU2 i (by omega) i1
          generalize swp A v r = A2 at *
          generalize swp B v r = B2 at *
          have hx := hA2 r c (by omega) hrH (by omega) (by omega)
          have hur : (ui * ur) % p ≠ 0 := fun h => by
            rcases (pr_mul hp).mp h with q | q
            · exact ui0 q
            · exact ur0 q
          have hval : ∀ k, c ≤ k → k < W → nwR (fRm p) m' B2 r c i k = (ui * ur * (A2 r c * A2 i k - A2 i c * A2 r k)) % p := by
            intro k k0 k1
            unfold nwR fRm
            rw [if_pos ⟨by omega, k0⟩, ur1 c (by omega) (by omega), ui1 k k0 k1, ui1 c (by omega) (by omega), ur1 k k0 k1, Int.sub_emod, mm_mod, mm_mod, ← Int.sub_emod, Int.mul_sub]
            congr 1
            simp only [Int.mul_comm, Int.mul_left_comm, Int.mul_assoc]
          by_cases h0 : A2 i c = 0
          · refine ⟨ui * ur * A2 r c, fun h => ?_, fun k k0 k1 => ?_⟩
            · rcases (pr_mul hp).mp h with q | q
              · exact hur q
              · rw [Int.emod_eq_of_lt hx.1 hx.2] at q
                exact hrc q
            · rw [hval k (by omega) k1]
              unfold nwR fP
              rw [if_pos ⟨by omega, by omega⟩, if_pos h0, h0, Int.zero_mul, Int.sub_zero, Int.mul_assoc (ui * ur)]
          · refine ⟨ui * ur, hur, fun k k0 k1 => ?_⟩
            rw [hval k (by omega) k1]
            unfold nwR fP
            rw [if_pos ⟨by omega, by omega⟩, if_neg h0, mr_mod]
    · rw [if_neg hrH, if_neg hrH]
theorem rk_lock {H p : Int} (W : Nat) (hp : Pr p) (A : Mx) : elG (fP p) H W 1 0 0 (fun i k => A i k % p) = elG (fRm p) H W 1 0 0 (fun i k => A i k % p) := by
  have hpb := hp.b
  have hb : BdC p H (0 + W) 0 0 (fun i k => A i k % p) := fun i k _ _ _ _ => ⟨Int.emod_nonneg _ (by omega), Int.emod_lt_of_pos _ (by omega)⟩
  refine el_lock hp W 1 1 0 0 _ _ (by omega) rfl hb hb fun i _ _ => ⟨1, ?_, fun k _ _ => ?_⟩
  · rcases hp with e | e | e | e <;> subst e <;> decide
  · show A i k % p = (1 * (A i k % p)) % p
    rw [Int.one_mul, Int.emod_emod]
