/-! pivots of whole rows: every cell is a form -/
def vA (n : Nat) (A : Mx) (i : Int) : Vc := fun e => if e < n then A i e else 0
/-- rows told by pivots us on the mask C; the row at place i is row (π i) -/
def BrI (n : Nat) (H : Int) (row : Int → Vc) (m r c : Int) (A : Mx) (us : List Vc) (C : Nat) (π : Int → Int) : Prop :=
  (us.length : Int) = r ∧ (∀ u ∈ us, ∃ j, 0 ≤ j ∧ j < H ∧ u = row j) ∧ C < 2 ^ c.toNat ∧ m = wdl n wd1 us C ∧ m ≠ 0 ∧ (∀ i, r ≤ i → i < H → 0 ≤ π i ∧ π i < H) ∧ (∀ i k, r ≤ i → i < H → 0 ≤ k → k < c → A i k = 0) ∧ (∀ i, r ≤ i → i < H → ∀ S, S < 2 ^ n → wdg n (wdl n wd1 us) (vA n A i) S = m * wdg n (wdl n wd1 us) (row (π i)) S) ∧ (∀ i, r ≤ i → i < H → ∃ s t v, s ≠ 0 ∧ t ≠ 0 ∧ ZS us v ∧ ∀ e, s * row (π i) e = v e + t * vA n A i e) ∧ (∀ j, 0 ≤ j → j < H → (∃ s, s ≠ 0 ∧ ZS us (fun e => s * row j e)) ∨ ∃ i, r ≤ i ∧ i < H ∧ π i = j)
/-- a cell is a form at the pivots' mask and its column -/
theorem br_cell {n : Nat} {H : Int} {row : Int → Vc} {m r c : Int} {A : Mx} {us : List Vc} {C : Nat} {π : Int → Int} (h : BrI n H row m r c A us C π) (hc : 0 ≤ c) {i k : Int} (hi : r ≤ i ∧ i < H) (hk : c ≤ k ∧ k < n) : A i k = wdg n (wdl n wd1 us) (row (π i)) (C + 2 ^ k.toNat) := by
  obtain ⟨h1, h2, h3, h4, h5, h6, h7, h8, h9, h10⟩ := h
  have hCk : C < 2 ^ k.toNat := Nat.lt_of_lt_of_le h3 (Nat.pow_le_pow_right (by decide) (by omega))
  have h2k : 2 ^ (k.toNat + 1) = 2 ^ k.toNat + 2 ^ k.toNat := by rw [Nat.pow_succ]; omega
  have hS : C + 2 ^ k.toNat < 2 ^ n := Nat.lt_of_lt_of_le (by omega) (Nat.pow_le_pow_right (show 0 < 2 by decide) (show k.toNat + 1 ≤ n by omega))
  have ht := wdg_top (n := n) (k := k.toNat) (w := wdl n wd1 us) (v := vA n A i) (C := C) (by omega) hCk (fun e he hb => by
    have hec : e < c.toNat := by
      by_cases q : e < c.toNat
      · exact q
      · rw [Nat.testBit_lt_two_pow (Nat.lt_of_lt_of_le h3 (Nat.pow_le_pow_right (by decide) (by omega)))] at hb
        exact absurd hb (by decide)
    unfold vA
    rw [if_pos (by omega)]
    exact h7 i e hi.1 hi.2 (by omega) (by omega))
  rw [h8 i hi.1 hi.2 _ hS, ← h4] at ht
  have hv : vA n A i k.toNat = A i k := by
    unfold vA
    rw [if_pos (by omega), show ((k.toNat : Nat) : Int) = k by omega]
  rw [hv, Int.mul_comm (A i k)] at ht
  exact (Int.eq_of_mul_eq_mul_left h5 ht).symm
theorem br_skip {n : Nat} {H : Int} {row : Int → Vc} {m r c : Int} {A : Mx} {us : List Vc} {C : Nat} {π : Int → Int} (h : BrI n H row m r c A us C π) (hc : 0 ≤ c) (hz : ∀ i, r ≤ i → i < H → A i c = 0) : BrI n H row m r (c + 1) A us C π := by
  obtain ⟨h1, h2, h3, h4, h5, h6, h7, h8, h9, h10⟩ := h
  refine ⟨h1, h2, Nat.lt_of_lt_of_le h3 (Nat.pow_le_pow_right (by decide) (by omega)), h4, h5, h6, fun i k i0 i1 k0 k1 => ?_, h8, h9, h10⟩
  by_cases e : k = c
  · rw [e]; exact hz i i0 i1
  · exact h7 i k i0 i1 k0 (by omega)
theorem br_step {n : Nat} {H : Int} {row : Int → Vc} {m r c v : Int} {A : Mx} {us : List Vc} {C : Nat} {π : Int → Int} (h : BrI n H row m r c A us C π) (hr : 0 ≤ r) (hv : r ≤ v ∧ v < H) (hc : 0 ≤ c ∧ c < n) (h0 : A v c ≠ 0) : BrI n H row (A v c) (r + 1) (c + 1) (nwR fZ m (swp A v r) r c) (us ++ [row (π v)]) (C + 2 ^ c.toNat) (fun i => π (if i = v then r else if i = r then v else i)) := by
  have hcell := br_cell h hc.1 (i := v) (k := c) hv ⟨by omega, hc.2⟩
  obtain ⟨h1, h2, h3, h4, h5, h6, h7, h8, h9, h10⟩ := h
  have h2c : 2 ^ (c.toNat + 1) = 2 ^ c.toNat + 2 ^ c.toNat := by rw [Nat.pow_succ]; omega
  have eF : wdl n wd1 (us ++ [row (π v)]) = wdg n (wdl n wd1 us) (row (π v)) := by rw [wdl_app]; rfl
  have hrc : swp A v r r c = A v c := by
    unfold swp
    by_cases e : r = v
    · rw [if_pos e, e]
    · rw [if_neg e, if_pos rfl]
  -- rows by places
  have hsw : ∀ i, vA n (swp A v r) i = vA n A (if i = v then r else if i = r then v else i) := by
    intro i
    funext e
    unfold vA swp
    by_cases q : i = v
    · rw [if_pos q, if_pos q]
    · rw [if_neg q, if_neg q]
      by_cases q' : i = r
      · rw [if_pos q', if_pos q']
      · rw [if_neg q', if_neg q']
  have hpr : ∀ i, r ≤ i → i < H → r ≤ (if i = v then r else if i = r then v else i) ∧ (if i = v then r else if i = r then v else i) < H := by
    intro i i0 i1
    split
    · omega
    · split <;> omega
  generalize hF : wdl n wd1 us = F at *
  generalize hu : row (π v) = u at *
  have hBr : vA n (swp A v r) r = vA n A v := by
    rw [hsw]
    by_cases e : r = v
    · rw [if_pos e, e]
    · rw [if_neg e, if_pos rfl]
  -- forms with the new pivot
  have kB : ∀ i, r ≤ i → i < H → ∀ S, S < 2 ^ n → wdg n (wdg n F u) (vA n (swp A v r) i) S = m * wdg n (wdg n F u) (row (π (if i = v then r else if i = r then v else i))) S := by
    intro i i0 i1 S hS
    have hp := hpr i i0 i1
    rw [hsw i, wdg_anti F u _ S hS, wdg_congr (w' := fun T => m * wdg n F (row (π (if i = v then r else if i = r then v else i))) T) (r' := u) (fun T hT => h8 _ hp.1 hp.2 T hT) (fun _ _ => rfl) S hS]
    have e1 := wdg_addw n (wdg n F (row (π (if i = v then r else if i = r then v else i)))) (fun _ => 0) u m 0 S
    simp only [Int.zero_mul, Int.add_zero] at e1
    rw [e1, wdg_anti F _ u S hS]
    grind
  have kr : ∀ S, S < 2 ^ n → wdg n (wdg n F u) (vA n (swp A v r) r) S = 0 := by
    intro S hS
    have := kB r (by omega) (by omega) S hS
    have e : π (if r = v then r else if r = r then v else r) = π v := by
      by_cases q : r = v
      · rw [if_pos q, q]
      · rw [if_neg q, if_pos rfl]
    rw [e, hu, wdg_alt F u S hS, Int.mul_zero] at this
    exact this
  have key : ∀ i, r < i → i < H → (∀ e, m * vA n (nwR fZ m (swp A v r) r c) i e = A v c * vA n (swp A v r) i e + (-(swp A v r i c)) * vA n (swp A v r) r e) ∧ (∀ k, 0 ≤ k → k < c + 1 → nwR fZ m (swp A v r) r c i k = 0) := by
    intro i i0 i1
    have hp := hpr i (by omega) i1
    have hz : ∀ j k, r ≤ j → j < H → 0 ≤ k → k < c → swp A v r j k = 0 := by
      intro j k j0 j1 k0 k1
      have hpj := hpr j j0 j1
      have : swp A v r j k = A (if j = v then r else if j = r then v else j) k := by
        unfold swp
        split
        · rfl
        · split <;> rfl
      rw [this]
      exact h7 _ k hpj.1 hpj.2 k0 k1
    -- the crossed row, by forms
    have hR : ∀ k : Int, c < k → k < n → A v c * swp A v r i k - swp A v r i c * swp A v r r k = m * wdg n (wdg n F u) (row (π (if i = v then r else if i = r then v else i))) (C + 2 ^ c.toNat + 2 ^ k.toNat) := by
      intro k k0 k1
      have h2k : 2 ^ (k.toNat + 1) = 2 ^ k.toNat + 2 ^ k.toNat := by rw [Nat.pow_succ]; omega
      have hC' : C + 2 ^ c.toNat < 2 ^ k.toNat := Nat.lt_of_lt_of_le (by omega) (Nat.pow_le_pow_right (show 0 < 2 by decide) (show c.toNat + 1 ≤ k.toNat by omega))
      have hS : C + 2 ^ c.toNat + 2 ^ k.toNat < 2 ^ n := Nat.lt_of_lt_of_le (by omega) (Nat.pow_le_pow_right (show 0 < 2 by decide) (show k.toNat + 1 ≤ n by omega))
      have hS' : C + 2 ^ c.toNat < 2 ^ n := by omega
      have t := wdg_top (n := n) (k := k.toNat) (w := wdg n F u) (v := fun e => A v c * vA n (swp A v r) i e + (-(swp A v r i c)) * vA n (swp A v r) r e) (C := C + 2 ^ c.toNat) (by omega) hC' (fun e he hb => by
        have hec : e ≤ c.toNat := by
          by_cases q : e ≤ c.toNat
          · exact q
          · have : C + 2 ^ c.toNat < 2 ^ e := Nat.lt_of_lt_of_le (by omega) (Nat.pow_le_pow_right (show 0 < 2 by decide) (show c.toNat + 1 ≤ e by omega))
            rw [Nat.testBit_lt_two_pow this] at hb
            exact absurd hb (by decide)
        unfold vA
        rw [if_pos (by omega), if_pos (by omega)]
        by_cases q : (e : Int) = c
        · rw [q, hrc]; grind
        · rw [hz i e (by omega) i1 (by omega) (by omega), hz r e (by omega) (by omega) (by omega) (by omega)]
          simp)
      rw [wdg_addr, kB i (by omega) i1 _ hS, kr _ hS] at t
      have hFC : wdg n F u (C + 2 ^ c.toNat) = A v c := hcell.symm
      rw [hFC] at t
      have hvk : ∀ j, vA n (swp A v r) j k.toNat = swp A v r j k := fun j => by
        unfold vA
        rw [if_pos (by omega), show ((k.toNat : Nat) : Int) = k by omega]
      rw [hvk, hvk] at t
      have t2 : A v c * (A v c * swp A v r i k - swp A v r i c * swp A v r r k) = A v c * (m * wdg n (wdg n F u) (row (π (if i = v then r else if i = r then v else i))) (C + 2 ^ c.toNat + 2 ^ k.toNat)) := by grind
      exact Int.eq_of_mul_eq_mul_left h0 t2
    have hnz : ∀ k, 0 ≤ k → k < c + 1 → nwR fZ m (swp A v r) r c i k = 0 := by
      intro k k0 k1
      unfold nwR
      by_cases q : k = c
      · rw [q, if_pos ⟨i0, by omega⟩]
        unfold fZ
        rw [show swp A v r r c * swp A v r i c - swp A v r i c * swp A v r r c = 0 by grind]
        exact Int.zero_tdiv m
      · rw [if_neg (by omega)]
        exact hz i k (by omega) i1 k0 (by omega)
    refine ⟨fun e => ?_, hnz⟩
    unfold vA
    by_cases he : e < n
    · rw [if_pos he, if_pos he, if_pos he]
      by_cases q : (e : Int) < c
      · rw [hnz e (by omega) (by omega), hz i e (by omega) i1 (by omega) q, hz r e (by omega) (by omega) (by omega) q]
        simp
      · by_cases q' : (e : Int) = c
        · rw [hnz e (by omega) (by omega), q', hrc]
          grind
        · have hh := hR e (by omega) (by omega)
          unfold nwR
          rw [if_pos ⟨i0, by omega⟩]
          unfold fZ
          rw [hrc, hh, Int.mul_tdiv_cancel_left _ h5, ← hh]
          grind
    · rw [if_neg he, if_neg he, if_neg he]
      simp
  refine ⟨by rw [List.length_append]; show ((us.length + 1 : Nat) : Int) = r + 1; omega, fun w hw => ?_, by rw [show (c + 1).toNat = c.toNat + 1 by omega]; omega, by rw [eF]; exact hcell, h0, fun i i0 i1 => ?_, fun i k i0 i1 k0 k1 => (key i (by omega) i1).2 k k0 k1, fun i i0 i1 S hS => ?_, fun i i0 i1 => ?_, fun j j0 j1 => ?_⟩
  · rcases List.mem_append.mp hw with q | q
    · exact h2 w q
    · have hpv := h6 v hv.1 hv.2
      exact ⟨π v, hpv.1, hpv.2, by rw [List.mem_singleton.mp q, hu]⟩
  · have hp := hpr i (by omega) i1
    exact h6 _ hp.1 hp.2
  · rw [eF]
    have hk := (key i (by omega) i1).1
    have e1 : m * wdg n (wdg n F u) (vA n (nwR fZ m (swp A v r) r c) i) S = A v c * wdg n (wdg n F u) (vA n (swp A v r) i) S + (-(swp A v r i c)) * wdg n (wdg n F u) (vA n (swp A v r) r) S := by
      rw [← wdg_addr, ← funext hk]
      have := wdg_addr n (wdg n F u) (vA n (nwR fZ m (swp A v r) r c) i) (fun _ => 0) m 0 S
      simp only [Int.zero_mul, Int.add_zero] at this
      exact this.symm
    rw [kB i (by omega) i1 S hS, kr S hS] at e1
    have e2 : m * wdg n (wdg n F u) (vA n (nwR fZ m (swp A v r) r c) i) S = m * (A v c * wdg n (wdg n F u) (row (π (if i = v then r else if i = r then v else i))) S) := by grind
    exact Int.eq_of_mul_eq_mul_left h5 e2
  · have hp := hpr i (by omega) i1
    obtain ⟨s, t, w, s0, t0, hw, he⟩ := h9 _ hp.1 hp.2
    obtain ⟨sv, tv, wv, sv0, tv0, hwv, hev⟩ := h9 v hv.1 hv.2
    have hk := (key i (by omega) i1).1
    refine ⟨s * (A v c * tv), t * (tv * m), fun e => 1 * (fun e => (A v c * tv) * w e + (-(t * swp A v r i c)) * wv e) e + (t * swp A v r i c * sv) * u e, ?_, ?_, ?_, fun e => ?_⟩
    · exact fun q => by
        rcases Int.mul_eq_zero.mp q with q | q
        · exact s0 q
        · rcases Int.mul_eq_zero.mp q with q | q
          · exact h0 q
          · exact tv0 q
    · exact fun q => by
        rcases Int.mul_eq_zero.mp q with q | q
        · exact t0 q
        · rcases Int.mul_eq_zero.mp q with q | q
          · exact tv0 q
          · exact h5 q
    · exact ZS.lin 1 (t * swp A v r i c * sv) (ZS.lin (A v c * tv) (-(t * swp A v r i c)) hw hwv).app (ZS.mem (by simp))
    · have e1 := he e
      have e2 := hev e
      have e3 := hk e
      rw [hBr] at e3
      rw [hu] at e2
      have e4 : vA n (swp A v r) i e = vA n A (if i = v then r else if i = r then v else i) e := by rw [hsw]
      rw [e4] at e3
      show s * (A v c * tv) * row (π (if i = v then r else if i = r then v else i)) e = 1 * ((A v c * tv) * w e + (-(t * swp A v r i c)) * wv e) + (t * swp A v r i c * sv) * u e + t * (tv * m) * vA n (nwR fZ m (swp A v r) r c) i e
      generalize row (π (if i = v then r else if i = r then v else i)) e = R at *
      generalize vA n A (if i = v then r else if i = r then v else i) e = X at *
      generalize vA n (nwR fZ m (swp A v r) r c) i e = Y at *
      generalize vA n A v e = Z at *
      generalize swp A v r i c = h at *
      generalize A v c = x at *
      have f1 : s * (x * tv) * R = (x * tv) * (s * R) := by grind
      have f2 : t * (tv * m) * Y = t * tv * (m * Y) := by grind
      have f3 : t * h * sv * u e = t * h * (sv * u e) := by grind
      rw [f1, f2, f3, e1, e3, e2]
      grind
  · rcases h10 j j0 j1 with ⟨s, s0, hs⟩ | ⟨i, i0, i1, hpi⟩
    · exact Or.inl ⟨s, s0, hs.app⟩
    · by_cases hiv : i = v
      · refine Or.inl ⟨1, by decide, ?_⟩
        have : ZS (us ++ [u]) u := ZS.mem (by simp)
        rw [hiv] at hpi
        refine this.congr fun e => ?_
        rw [← hpi, hu]; omega
      · by_cases hir : i = r
        · refine Or.inr ⟨v, by omega, hv.2, ?_⟩
          show π (if v = v then r else _) = j
          rw [if_pos rfl, ← hir]; exact hpi
        · refine Or.inr ⟨i, by omega, i1, ?_⟩
          show π (if i = v then r else if i = r then v else i) = j
          rw [if_neg hiv, if_neg hir]; exact hpi
