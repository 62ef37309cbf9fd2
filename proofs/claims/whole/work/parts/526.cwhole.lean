/-! the class's whole rank of panes -/
theorem l1_one {v w : Vc} {e0 : Nat} (h : ∀ e, e ≠ e0 → v e = w e) (h0 : ((v e0).natAbs : Int) ≤ (w e0).natAbs + 1) (n : Nat) : l1 v n ≤ l1 w n + (if e0 < n then 1 else 0) := by
  induction n with
  | zero => exact (show (0 : Int) ≤ 0 + (if e0 < 0 then 1 else 0) by rw [if_neg (by omega)]; decide)
  | succ n ih =>
    show l1 v n + ((v n).natAbs : Int) ≤ l1 w n + ((w n).natAbs : Int) + _
    by_cases q : n = e0
    · subst q
      rw [if_neg (by omega)] at ih
      rw [if_pos (by omega)]
      omega
    · rw [h n q]
      by_cases q' : e0 < n
      · rw [if_pos q'] at ih
        rw [if_pos (by omega)]
        omega
      · rw [if_neg q'] at ih
        rw [if_neg (by omega)]
        omega
theorem l1_cg {v w : Vc} (n : Nat) (h : ∀ e, e < n → v e = w e) : l1 v n = l1 w n := by
  induction n with
  | zero => rfl
  | succ n ih =>
    show l1 v n + ((v n).natAbs : Int) = l1 w n + ((w n).natAbs : Int)
    rw [ih fun e he => h e (by omega), h n (by omega)]
theorem l1_gsm (σ : Sp) (f : Int) (n m : Nat) : l1 (fun e => gsm σ f e m) n ≤ m := by
  induction m with
  | zero =>
    have : ∀ n : Nat, l1 (fun e => gsm σ f e 0) n = 0 := by
      intro n
      induction n with
      | zero => rfl
      | succ n ih => show l1 _ n + 0 = 0; rw [ih]; rfl
    rw [this]
    decide
  | succ m ih =>
    have := l1_one (v := fun e => gsm σ f e (m + 1)) (w := fun e => gsm σ f e m) (e0 := (sR σ f m / 2).toNat) (fun e he => ?_) ?_ n
    · split at this <;> omega
    · show gsm σ f e m + (if sR σ f m = 2 * (e : Int) then 1 else if sR σ f m = 2 * (e : Int) + 1 then -1 else 0) = gsm σ f e m
      rw [if_neg (by omega), if_neg (by omega), Int.add_zero]
    · show ((gsm σ f ((sR σ f m / 2).toNat : Nat) m + (if sR σ f m = 2 * (((sR σ f m / 2).toNat : Nat) : Int) then 1 else if sR σ f m = 2 * (((sR σ f m / 2).toNat : Nat) : Int) + 1 then -1 else 0)).natAbs : Int) ≤ _
      split
      · omega
      · split <;> omega
theorem wdl_bd {n : Nat} : ∀ (us : List Vc) {w : Vc} {B : Int}, 0 ≤ B → (∀ T, T < 2 ^ n → -B ≤ w T ∧ w T ≤ B) → (∀ u ∈ us, l1 u n ≤ 8) → ∀ S, S < 2 ^ n → -(B * 8 ^ us.length) ≤ wdl n w us S ∧ wdl n w us S ≤ B * 8 ^ us.length := by
  intro us
  induction us with
  | nil =>
    intro w B _ h _ S hS
    have := h S hS
    show -(B * 1) ≤ w S ∧ w S ≤ B * 1
    omega
  | cons u us ih =>
    intro w B hB h hu S hS
    have hl := hu u (List.mem_cons_self ..)
    have hl0 := l1_nn u n
    have hm : B * l1 u n ≤ B * 8 := Int.mul_le_mul_of_nonneg_left hl hB
    have hb := wdg_bd (n := n) (v := u) hB h
    have := ih (w := wdg n w u) (B := B * 8) (by omega) (fun T hT => by have := hb T hT; omega) (fun x hx => hu x (List.mem_cons_of_mem _ hx)) S hS
    rw [List.length_cons, Int.pow_succ, Int.mul_comm (8 ^ us.length) 8, ← Int.mul_assoc]
    exact this
def InvB (n : Nat) (H : Int) (row : Int → Vc) (m r c : Int) (A : Mx) : Prop := ∃ us C π, BrI n H row m r c A us C π
theorem kpsB {n : Nat} {H W : Int} {row : Int → Vc} (hW : W = n) (hH : H ≤ 8) (hl : ∀ j, 0 ≤ j → j < H → l1 (row j) n ≤ 8) : Kps H W (fun m r c A => 0 ≤ c ∧ InvB n H row m r c A) := by
  refine ⟨fun m r c A h => ?_, fun m r c A h r0 r1 c0 c1 hz => ?_, fun m r c A v h r0 v0 v1 c0 c1 hv => ?_⟩
  · obtain ⟨hc0, us, C, π, hB⟩ := h
    have hB' := hB
    obtain ⟨h1, h2, h3, h4, h5, h6, h7, h8, h9, h10⟩ := hB'
    refine ⟨h5, fun i k i0 i1 k0 k1 => ?_⟩
    have hS : C + 2 ^ k.toNat < 2 ^ n := by
      have hCk : C < 2 ^ k.toNat := Nat.lt_of_lt_of_le h3 (Nat.pow_le_pow_right (by decide) (by omega))
      have h2k : 2 ^ (k.toNat + 1) = 2 ^ k.toNat + 2 ^ k.toNat := by rw [Nat.pow_succ]; omega
      exact Nat.lt_of_lt_of_le (by omega) (Nat.pow_le_pow_right (show 0 < 2 by decide) (show k.toNat + 1 ≤ n by omega))
    rw [br_cell hB hc0 ⟨i0, i1⟩ ⟨k0, by omega⟩]
    have hus : ∀ u ∈ us, l1 u n ≤ 8 := fun u hu => by
      obtain ⟨j, j0, j1, e⟩ := h2 u hu
      rw [e]; exact hl j j0 j1
    have b1 := wdl_bd (n := n) us (w := wd1) (B := 1) (by decide) (fun T _ => by unfold wd1; split <;> omega) hus
    have hp := h6 i i0 i1
    have hlr := hl _ hp.1 hp.2
    have hl0 := l1_nn (row (π i)) n
    have hpow : (8 : Int) ^ us.length ≤ 2097152 := by
      have hlen : us.length ≤ 7 := by omega
      have e1 : (8 : Int) ^ us.length = ((8 ^ us.length : Nat) : Int) := by rw [Int.natCast_pow]; rfl
      have e2 := Nat.pow_le_pow_right (n := 8) (by decide) hlen
      rw [e1]
      have : (8 : Nat) ^ 7 = 2097152 := by decide
      omega
    have hp0 : (0 : Int) ≤ 8 ^ us.length := Int.le_of_lt (Int.pow_pos (by decide))
    have b2 := wdg_bd (n := n) (v := row (π i)) (B := 2097152) (by decide) (w := wdl n wd1 us) (fun T hT => by have := b1 T hT; omega) _ hS
    have hm : 2097152 * l1 (row (π i)) n ≤ 2097152 * 8 := by omega
    omega
  · obtain ⟨hc0, us, C, π, hB⟩ := h
    exact ⟨by omega, us, C, π, br_skip hB hc0 hz⟩
  · obtain ⟨hc0, us, C, π, hB⟩ := h
    exact ⟨by omega, _, _, _, br_step hB r0 ⟨v0, v1⟩ ⟨c0, by omega⟩ hv⟩
/-- what the pivots of whole rows leave -/
def FnB (n : Nat) (H : Int) (row : Int → Vc) (rk m : Int) : Prop := ∃ (us : List Vc) (C : Nat), (us.length : Int) = rk ∧ (∀ u ∈ us, ∃ j, 0 ≤ j ∧ j < H ∧ u = row j) ∧ C < 2 ^ n ∧ m = wdl n wd1 us C ∧ m ≠ 0 ∧ ∀ j, 0 ≤ j → j < H → ∃ s, s ≠ 0 ∧ ZS us (fun e => s * row j e)
theorem fnb_of {n : Nat} {H W : Int} {row : Int → Vc} {m r c : Int} {A : Mx} (hW : W = n) (h : InvB n H row m r c A) (hc : 0 ≤ c ∧ c ≤ W) (he : r = H ∨ c = W) : FnB n H row r m := by
  obtain ⟨us, C, π, h1, h2, h3, h4, h5, h6, h7, h8, h9, h10⟩ := h
  refine ⟨us, C, h1, h2, Nat.lt_of_lt_of_le h3 (Nat.pow_le_pow_right (by decide) (by omega)), h4, h5, fun j j0 j1 => ?_⟩
  rcases h10 j j0 j1 with q | ⟨i, i0, i1, hi⟩
  · exact q
  · obtain ⟨s, t, v, s0, t0, hv, hs⟩ := h9 i i0 i1
    refine ⟨s, s0, hv.congr fun e => ?_⟩
    rw [← hi]
    show s * row (π i) e = v e
    have hz : vA n A i e = 0 := by
      unfold vA
      by_cases q : e < n
      · rw [if_pos q]
        exact h7 i e i0 i1 (by omega) (by omega)
      · rw [if_neg q]
    rw [hs e, hz, Int.mul_zero, Int.add_zero]
def rwP (σ : Sp) (j : Int) : Vc := vA (sE σ).toNat (goE σ) j
theorem l1_rwP {σ : Sp} {mP j : Int} (hp : WfP σ mP) (hj : 0 ≤ j ∧ j < sP σ) : l1 (rwP σ j) (sE σ).toNat ≤ 8 := by
  have h1 := l1_gsm σ j (sE σ).toNat (sL σ j).toNat
  have h2 := hp.2.2 j hj.1 hj.2
  have h3 := l1_cg (v := rwP σ j) (w := fun e => gsm σ j e (sL σ j).toNat) (sE σ).toNat (fun e he => by unfold rwP vA goE; rw [if_pos he])
  omega
theorem inv0 (σ : Sp) (hE : 0 ≤ sE σ) : InvB (sE σ).toNat (sP σ) (rwP σ) 1 0 0 (goE σ) := by
  refine ⟨[], 0, fun i => i, rfl, fun u h => absurd h (by simp), by decide, rfl, by decide, fun i a b => ⟨a, b⟩, fun i k _ _ a b => by omega, fun i a b S hS => ?_, fun i a b => ⟨1, 1, fun _ => 0, by decide, by decide, fun _ => rfl, fun e => ?_⟩, fun j a b => Or.inr ⟨j, a, b, rfl⟩⟩
  · show wdg _ _ (rwP σ i) S = 1 * wdg _ _ (rwP σ i) S
    omega
  · show 1 * rwP σ i e = 0 + 1 * rwP σ i e
    omega
theorem c_rankOfPanes {μ : zMem} {u p mC mE mP : Int} {σ : Sp} (hu : u = 4 ∨ PK u) (hp : (p = 0 ∧ sP σ ≤ 8) ∨ Pr p) (hc : CS μ u σ) (hz : SZ u mC mE mP) (hw : WfE σ mC mE) (hP : WfP σ mP) : Ok (f_X2_rankOfPanes u p μ) (fun w => FqR μ w.2 ∧ (Pr p → w.1 = elG (fP p) (sP σ) (sE σ).toNat 1 0 0 (fun i k => goE σ i k % p)) ∧ (p = 0 → FnB (sE σ).toNat (sP σ) (rwP σ) w.1 (w.2 23 5) ∧ 0 ≤ w.1 ∧ w.1 ≤ sP σ)) := by
  have hz' := hz
  obtain ⟨z1, z2, z3, z4, z5, z6, z7, z8, z9⟩ := hz'
  have hHW := hwP hw hP z8 z9
  have hE0 := hw.2.2.1
  unfold f_X2_rankOfPanes
  refine ok_bnd.mpr ((c_fillPanes hu hc hz hw hP).imp fun μ1 q => ?_)
  obtain ⟨q1, q2⟩ := q
  by_cases h0 : p = 0
  · have hP8 : sP σ ≤ 8 := by
      rcases hp with h | h
      · exact h.2
      · have := h.b; omega
    rw [if_pos h0]
    refine ok_bnd2.mpr ((c_fractions hHW (kpsB (row := rwP σ) (n := (sE σ).toNat) (by omega) hP8 (fun j a b => l1_rwP hP ⟨a, b⟩)) q2 ⟨by omega, inv0 σ hE0⟩).imp fun w x => ok_some.mpr ?_)
    obtain ⟨x1, x2, m', c', A', y1, y2, y3, y4, y5, y6, y7⟩ := x
    refine ⟨fun k a b => by rw [x1.1 k b a]; exact q1 k a b, fun h => by have := h.b; omega, fun _ => ⟨?_, y3, y4⟩⟩
    show FnB _ _ _ w.1 (w.2 23 5)
    rw [y2]
    exact fnb_of (by omega) y1.2 ⟨y5, y6⟩ y7
  · have hpp : Pr p := by
      rcases hp with h | h
      · exact absurd h.1 h0
      · exact h
    rw [if_neg h0]
    refine ok_bnd2.mpr ((c_rankModulo hHW hpp q2 (fun i k i0 i1 _ _ => by
      have := goE_b (e := k) hP ⟨i0, i1⟩
      unfold Rl
      omega)).imp fun w x => ok_some.mpr ?_)
    exact ⟨fun k a b => by rw [x.1 k b]; exact q1 k a b, fun _ => x.2, fun h => absurd h h0⟩
