/-! the reference: words made and listed -/
def SlM (μ : zMem) (q s L beg : Int) (w : Int → Int) : Prop := (0 ≤ q ∧ q < 4) ∧ μ 148 q = s ∧ μ 149 q = L ∧ μ 150 q = beg ∧ (∀ i, 0 ≤ i → i < L → μ 152 (16 * q + i) = stp (w i)) ∧ 0 ≤ L ∧ L ≤ 16 ∧ (∀ i, 0 ≤ i → i < L → 0 ≤ w i ∧ w i < 24)
theorem SlM.cg {μ μ' : zMem} {q s L beg : Int} {w : Int → Int} (h : SlM μ q s L beg w) (he : ∀ k, 148 ≤ k → k ≤ 152 → μ' k = μ k) : SlM μ' q s L beg w := by
  unfold SlM
  rw [he 148 (by omega) (by omega), he 149 (by omega) (by omega), he 150 (by omega) (by omega), he 152 (by omega) (by omega)]
  exact h
theorem m_makeSlot {μ : zMem} {q s L beg : Int} {w : Int → Int} (hs : SlM μ q s L beg w) : Ok (f_X10_makeSlot q μ) (fun μ' => Fm [154] [51] μ μ' ∧ MMd μ' (pshs (0, fun _ => 0) w L.toNat)) := by
  have hs' := hs
  obtain ⟨s0, s1, s2, s3, s4, s5, s6, s7⟩ := hs'
  have r0 : Rb (0, fun _ => 0) 12 := ⟨Int.le_refl 0, fun i a b => by have : i < 0 := b; omega⟩
  have q0 : ((0 : Int), fun (_ : Int) => (0 : Int)).1 = 0 := rfl
  have key : ∀ (m fu k : Nat) (μ1 : zMem), m < fu → (k : Int) + m = L → Fm [154] [51] μ μ1 → MMd μ1 (pshs (0, fun _ => 0) w k) → Ok (f_X10_makeSlot_L7 q fu (k : Int) μ1) (fun μ' => Fm [154] [51] μ μ' ∧ MMd μ' (pshs (0, fun _ => 0) w L.toNat)) := by
    intro m
    induction m with
    | zero =>
      intro fu k μ1 hfu hk g1 g2
      cases fu with
      | zero => omega
      | succ fu =>
        unfold f_X10_makeSlot_L7
        rw [chk_pos (by omega), g1.1 149 (by decide) (by decide), s2, if_neg (by omega)]
        rw [show k = L.toNat by omega] at g2
        exact ok_some.mpr ⟨g1, g2⟩
    | succ m ih =>
      intro fu k μ1 hfu hk g1 g2
      cases fu with
      | zero => omega
      | succ fu =>
        have hrb := pshs_rb (w := w) r0 k (fun i p q => s7 i p (by omega))
        have hb := hrb.2
        unfold f_X10_makeSlot_L7
        simp only [zlet]
        rw [chk_pos (by omega), g1.1 149 (by decide) (by decide), s2, if_pos (by omega), zw_eq (x := 16 * q) (by omega) (by omega), zw_eq (x := 16 * q + (k : Int)) (by omega) (by omega), chk_pos (by omega), g1.1 152 (by decide) (by decide), s4 k (by omega) (by omega), zw_eq (by omega) (by omega)]
        refine ok_bnd.mpr ((m_put g2 hrb.1 (by decide) (by have := s7 k (by omega) (by omega); omega) (by omega)).imp fun μ2 p => ?_)
        rw [show (k : Int) + 1 = ((k + 1 : Nat) : Int) by omega]
        exact ih fu (k + 1) μ2 (by omega) (by omega) (g1.trans p.1) p.2
  unfold f_X10_makeSlot
  simp only [zlet]
  refine key L.toNat zfu 0 _ (by unfold zfu; omega) (by omega) ((Fm.refl _ _ μ).upo (by decide) _) ⟨by rw [zup_s, up1_s]; rfl, fun i a b => ?_⟩
  have : i < 0 := b
  omega
theorem pow32 : (32 : Int) ^ 11 = 36028797018963968 := by decide
theorem hor_b {d : Nat → Int} {a : Int} (h : ∀ i, 0 ≤ d i ∧ d i < 32) (ha : 0 ≤ a ∧ a ≤ 16) (k : Nat) (hk : k ≤ 4) : 0 ≤ hor a d k ∧ hor a d k < 17825792 := by
  have := hor_rg h ha.1 k
  have hc : k = 0 ∨ k = 1 ∨ k = 2 ∨ k = 3 ∨ k = 4 := by omega
  rcases hc with e | e | e | e | e <;> subst e <;> omega
theorem hor_c {d : Nat → Int} (h : ∀ i, 0 ≤ d i ∧ d i < 32) (k : Nat) (hk : k ≤ 11) : 0 ≤ hor 0 d k ∧ hor 0 d k < 36028797018963968 := by
  have h1 := hor_rg h (Int.le_refl 0) k
  have h2 : (32 : Int) ^ k ≤ 32 ^ 11 := by
    have := Nat.pow_le_pow_right (n := 32) (by decide) hk
    have e1 : (32 : Int) ^ k = ((32 ^ k : Nat) : Int) := by rw [Int.natCast_pow]; rfl
    rw [e1]
    have e2 : (32 : Int) ^ 11 = ((32 ^ 11 : Nat) : Int) := by decide
    rw [e2]
    exact Int.ofNat_le.mpr this
  rw [pow32] at h2
  omega
theorem m_list {μ : zMem} {r : Wr} {k : Int} (h : MMd μ r) (hr : Rb r 12) (hl : r.1 ≤ 16) (hk : 0 ≤ k ∧ k < 4800) : Ok (f_X10_list k μ) (fun μ' => μ' = zup (zup μ 156 k (oneM r)) 157 k (twoM r)) := by
  obtain ⟨m1, m2⟩ := h
  have hr0 := hr.1
  have key : ∀ (m fu i : Nat), m < fu → (i : Int) + m = r.1 → Ok (f_X10_list_L12 (f_X10_list_K77 k) fu (hor 0 (dgM r) (if i ≤ 12 then i else 12)) (hor r.1 (fun j => dgM r (12 + j)) (i - 12)) (i : Int) μ) (fun μ' => μ' = zup (zup μ 156 k (oneM r)) 157 k (twoM r)) := by
    intro m
    induction m with
    | zero =>
      intro fu i hfu hi
      cases fu with
      | zero => omega
      | succ fu =>
        unfold f_X10_list_L12
        rw [m1, if_neg (by omega)]
        unfold f_X10_list_K77
        simp only [zlet]
        rw [chk_pos hk, chk_pos hk]
        refine ok_some.mpr ?_
        have e1 : (if i ≤ 12 then i else 12) = n12 r := by unfold n12; split <;> split <;> omega
        have e2 : i - 12 = (r.1 - 12).toNat := by omega
        rw [e1, e2]
        rfl
    | succ m ih =>
      intro fu i hfu hi
      cases fu with
      | zero => omega
      | succ fu =>
        have hd : dgM r i = stp (r.2 i) + 15 := by unfold dgM; rw [if_pos (by omega)]
        have hdr := dgM_rg hr i
        unfold f_X10_list_L12
        simp only [zlet]
        rw [m1, if_pos (by omega), chk_pos (by omega), m2 i (by omega) (by omega), zw_eq (by omega) (by omega)]
        by_cases h12 : (i : Int) < 12
        · have hc1 := hor_c (dgM_rg hr) i (by omega)
          rw [if_pos h12, if_pos (show i ≤ 12 by omega), zl_eq (x := 32 * hor 0 (dgM r) i) (by omega) (by omega), zl_eq (x := 32 * hor 0 (dgM r) i + stp (r.2 i)) (by omega) (by omega), zl_eq (by omega) (by omega)]
          have := ih fu (i + 1) (by omega) (by omega)
          rw [if_pos (show i + 1 ≤ 12 by omega), show i + 1 - 12 = i - 12 by omega, show ((i + 1 : Nat) : Int) = (i : Int) + 1 by omega] at this
          have e : 32 * hor 0 (dgM r) i + stp (r.2 i) + 15 = hor 0 (dgM r) (i + 1) := by
            show _ = 32 * hor 0 (dgM r) i + dgM r i
            rw [hd]; omega
          rw [e]
          exact this
        · have hc1 := hor_b (d := fun j => dgM r (12 + j)) (fun j => dgM_rg hr (12 + j)) (a := r.1) ⟨hr0, hl⟩ (i - 12) (by omega)
          rw [if_neg h12, chk_pos (by omega), zl_eq (x := 32 * hor r.1 (fun j => dgM r (12 + j)) (i - 12)) (by omega) (by omega), zl_eq (x := 32 * hor r.1 (fun j => dgM r (12 + j)) (i - 12) + stp (r.2 i)) (by omega) (by omega), zl_eq (by omega) (by omega)]
          have := ih fu (i + 1) (by omega) (by omega)
          rw [show i + 1 - 12 = (i - 12) + 1 by omega, show ((i + 1 : Nat) : Int) = (i : Int) + 1 by omega] at this
          have e : 32 * hor r.1 (fun j => dgM r (12 + j)) (i - 12) + stp (r.2 i) + 15 = hor r.1 (fun j => dgM r (12 + j)) ((i - 12) + 1) := by
            show _ = 32 * hor r.1 (fun j => dgM r (12 + j)) (i - 12) + dgM r (12 + (i - 12))
            rw [show 12 + (i - 12) = i by omega, hd]; omega
          have e3 : (if i ≤ 12 then i else 12) = (if i + 1 ≤ 12 then i + 1 else 12) := by split <;> split <;> omega
          rw [e, e3]
          exact this
  unfold f_X10_list
  simp only [zlet]
  rw [m1]
  have := key r.1.toNat zfu 0 (by unfold zfu; omega) (by omega)
  exact this
/-- back round a rim, as the reference goes -/
def aB (n b : Int) : Int := if b = 0 then n - 1 else b - 1
theorem tmod2 {x n : Int} (h : 0 ≤ x ∧ x < 2 * n) : Int.tmod x n = if x < n then x else x - n := by
  rw [Int.tmod_eq_emod_of_nonneg h.1]
  by_cases hx : x < n
  · rw [if_pos hx, Int.emod_eq_of_lt h.1 hx]
  · rw [if_neg hx]
    have : x = (x - n) + n := by omega
    conv => lhs; rw [this]
    rw [Int.add_emod_right, Int.emod_eq_of_lt (by omega) (by omega)]
theorem m_putIn {μ : zMem} {q s L beg at' f b k : Int} {σ : Sp} {w : Int → Int} (hs : SlM μ q s L beg w) (hs2 : 0 ≤ s ∧ s < 2) (hc : MS μ s σ) (hw : WfE σ 8 12) (hp : WfP σ 8) (hat : 0 ≤ at' ∧ at' ≤ L) (hf : 0 ≤ f ∧ f < sP σ) (hb : 0 ≤ b ∧ b < sL σ f) (hk : k = 0 ∨ k = 1) : Ok (f_X10_putIn q at' f b k μ) (fun μ' => Fm [154] [51] μ μ' ∧ MMd μ' (nxw σ w L at' f (if k = 0 then rotF σ f b else rotC σ f (aB (sL σ f) b)))) := by
  have hs' := hs
  obtain ⟨s0, s1, s2, s3, s4, s5, s6, s7⟩ := hs'
  obtain ⟨p1, p2, p3, _⟩ := hp.2.2 f hf.1 hf.2
  have hE := hw.2.2.2.1
  have hP := hp.2.1
  have hp32 : WfP σ 32 := hp.mono (by omega)
  have r0 : Rb (0, fun _ => 0) 12 := ⟨Int.le_refl 0, fun i a b => by have : i < 0 := b; omega⟩
  have q0 : ((0 : Int), fun (_ : Int) => (0 : Int)).1 = 0 := rfl
  have haB : 0 ≤ aB (sL σ f) b ∧ aB (sL σ f) b < sL σ f := by unfold aB; split <;> omega
  have hrot : ∀ i, 0 ≤ i → i < sL σ f → 0 ≤ (if k = 0 then rotF σ f b else rotC σ f (aB (sL σ f) b)) i ∧ (if k = 0 then rotF σ f b else rotC σ f (aB (sL σ f) b)) i < 24 := by
    intro i i0 i1
    have h1 := (rot_rg hw hp hf hb i i0 i1).1
    have h2 := (rot_rg hw hp hf haB i i0 i1).2
    split
    · exact h1
    · exact h2
  generalize hrt : (if k = 0 then rotF σ f b else rotC σ f (aB (sL σ f) b)) = rot at *
  have hr1 := pshs_rb (w := w) r0 at'.toNat (fun i x y => s7 i x (by omega))
  have hr2 := pshs_rb (w := rot) hr1.1 (sL σ f).toNat (fun i x y => hrot i x (by omega))
  have hb1 := hr1.2
  have hb2 := hr2.2
  have hlen := (hc.2.2.2.2 f hf.1 hf.2).1
  -- the end
  have k125 : ∀ (m fu j : Nat) (μ1 : zMem), m < fu → at' + (j : Int) + m = L → Fm [154] [51] μ μ1 → MMd μ1 (pshs (pshs (pshs (0, fun _ => 0) w at'.toNat) rot (sL σ f).toNat) (fun i => w (at' + i)) j) → Ok (f_X10_putIn_L125 q fu (at' + j) μ1) (fun μ' => Fm [154] [51] μ μ' ∧ MMd μ' (nxw σ w L at' f rot)) := by
    intro m
    induction m with
    | zero =>
      intro fu j μ1 hfu hj g1 g2
      cases fu with
      | zero => omega
      | succ fu =>
        unfold f_X10_putIn_L125
        rw [chk_pos (by omega), g1.1 149 (by decide) (by decide), s2, if_neg (by omega)]
        rw [show j = (L - at').toNat by omega] at g2
        exact ok_some.mpr ⟨g1, g2⟩
    | succ m ih =>
      intro fu j μ1 hfu hj g1 g2
      cases fu with
      | zero => omega
      | succ fu =>
        have hrb := pshs_rb (w := fun i => w (at' + i)) hr2.1 j (fun i p q => s7 (at' + i) (by omega) (by omega))
        have hb3 := hrb.2
        unfold f_X10_putIn_L125
        simp only [zlet]
        rw [chk_pos (by omega), g1.1 149 (by decide) (by decide), s2, if_pos (by omega), zw_eq (x := 16 * q) (by omega) (by omega), zw_eq (x := 16 * q + (at' + (j : Int))) (by omega) (by omega), chk_pos (by omega), g1.1 152 (by decide) (by decide), s4 (at' + j) (by omega) (by omega), zw_eq (by omega) (by omega)]
        refine ok_bnd.mpr ((m_put (c := w (at' + j)) g2 hrb.1 (by decide) (by have := s7 (at' + j) (by omega) (by omega); omega) (by omega)).imp fun μ2 p => ?_)
        rw [show at' + (j : Int) + 1 = at' + ((j + 1 : Nat) : Int) by omega]
        exact ih fu (j + 1) μ2 (by omega) (by omega) (g1.trans p.1) p.2
  -- the rim
  have k61 : ∀ (m fu j : Nat) (μ1 : zMem), m < fu → (j : Int) + m = sL σ f → Fm [154] [51] μ μ1 → MMd μ1 (pshs (pshs (0, fun _ => 0) w at'.toNat) rot j) → Ok (f_X10_putIn_L61 f b k s (sL σ f) (f_X10_putIn_K122 q at') fu (j : Int) μ1) (fun μ' => Fm [154] [51] μ μ' ∧ MMd μ' (nxw σ w L at' f rot)) := by
    intro m
    induction m with
    | zero =>
      intro fu j μ1 hfu hj g1 g2
      cases fu with
      | zero => omega
      | succ fu =>
        unfold f_X10_putIn_L61
        rw [if_neg (by omega)]
        unfold f_X10_putIn_K122
        rw [show j = (sL σ f).toNat by omega] at g2
        have := k125 (L - at').toNat zfu 0 μ1 (by unfold zfu; omega) (by omega) g1 g2
        rw [show at' + ((0 : Nat) : Int) = at' by omega] at this
        exact this
    | succ m ih =>
      intro fu j μ1 hfu hj g1 g2
      cases fu with
      | zero => omega
      | succ fu =>
        have hrb := pshs_rb (w := rot) hr1.1 j (fun i p q => hrot i p (by omega))
        have hb3 := hrb.2
        have hc1 : MS μ1 s σ := g1.ms (by unfold noSp; decide) hc
        have J : ∀ v, v = stp (rot j) → Ok (f_X10_putIn_J113 (j : Int) (f_X10_putIn_L61 f b k s (sL σ f) (f_X10_putIn_K122 q at') fu) v μ1) (fun μ' => Fm [154] [51] μ μ' ∧ MMd μ' (nxw σ w L at' f rot)) := by
          intro v hv
          unfold f_X10_putIn_J113
          simp only [zlet]
          rw [hv, zw_eq (by omega) (by omega)]
          refine ok_bnd.mpr ((m_put g2 hrb.1 (by decide) (by have := hrot j (by omega) (by omega); omega) (by omega)).imp fun μ2 p => ?_)
          rw [show (j : Int) + 1 = ((j + 1 : Nat) : Int) by omega]
          exact ih fu (j + 1) μ2 (by omega) (by omega) (g1.trans p.1) p.2
        unfold f_X10_putIn_L61
        rw [if_pos (by omega)]
        rcases hk with hk | hk
        · have ei : (if b + (j : Int) < sL σ f then b + (j : Int) else b + (j : Int) - sL σ f) = iF (sL σ f) b j := rfl
          have bi : 0 ≤ iF (sL σ f) b (j : Int) ∧ iF (sL σ f) b (j : Int) < sL σ f := by unfold iF; split <;> omega
          rw [if_pos hk, chk_pos (by omega), zw_eq (x := b + (j : Int)) (by omega) (by omega), tmod2 ⟨by omega, by omega⟩, ei, bnd_pos (m_rimAt hc1 ⟨hs2.1, by omega⟩ hp32 hf bi)]
          refine J _ ?_
          rw [← hrt, if_pos hk]
          rfl
        · have ei : (if b + sL σ f - 1 - (j : Int) < sL σ f then b + sL σ f - 1 - (j : Int) else b + sL σ f - 1 - (j : Int) - sL σ f) = iC (sL σ f) (aB (sL σ f) b) j := by
            unfold iC aB
            split <;> split <;> split <;> omega
          have bi : 0 ≤ iC (sL σ f) (aB (sL σ f) b) (j : Int) ∧ iC (sL σ f) (aB (sL σ f) b) (j : Int) < sL σ f := by unfold iC; split <;> omega
          have hcode := p3 _ bi.1 bi.2
          have hst : -100 ≤ stp (sR σ f (iC (sL σ f) (aB (sL σ f) b) j)) ∧ stp (sR σ f (iC (sL σ f) (aB (sL σ f) b) j)) ≤ 100 := by unfold stp; split <;> omega
          rw [if_neg (by omega), chk_pos (by omega), zw_eq (x := b + sL σ f) (by omega) (by omega), zw_eq (x := b + sL σ f - 1) (by omega) (by omega), zw_eq (x := b + sL σ f - 1 - (j : Int)) (by omega) (by omega), tmod2 ⟨by omega, by omega⟩, ei, bnd_pos (m_rimAt hc1 ⟨hs2.1, by omega⟩ hp32 hf bi), zw_eq (by omega) (by omega)]
          refine J _ ?_
          rw [← hrt, if_neg (by omega)]
          unfold rotC
          rw [stp_bck hcode.1]
  -- the beginning
  have k30 : ∀ (m fu j : Nat) (μ1 : zMem), m < fu → (j : Int) + m = at' → Fm [154] [51] μ μ1 → MMd μ1 (pshs (0, fun _ => 0) w j) → Ok (f_X10_putIn_L30 q at' (f_X10_putIn_K58 q at' f b k s (sL σ f)) fu (j : Int) μ1) (fun μ' => Fm [154] [51] μ μ' ∧ MMd μ' (nxw σ w L at' f rot)) := by
    intro m
    induction m with
    | zero =>
      intro fu j μ1 hfu hj g1 g2
      cases fu with
      | zero => omega
      | succ fu =>
        unfold f_X10_putIn_L30
        rw [if_neg (by omega)]
        unfold f_X10_putIn_K58
        rw [show j = at'.toNat by omega] at g2
        exact k61 (sL σ f).toNat zfu 0 μ1 (by unfold zfu; omega) (by omega) g1 g2
    | succ m ih =>
      intro fu j μ1 hfu hj g1 g2
      cases fu with
      | zero => omega
      | succ fu =>
        have hrb := pshs_rb (w := w) r0 j (fun i p q => s7 i p (by omega))
        have hb3 := hrb.2
        unfold f_X10_putIn_L30
        simp only [zlet]
        rw [if_pos (by omega), zw_eq (x := 16 * q) (by omega) (by omega), zw_eq (x := 16 * q + (j : Int)) (by omega) (by omega), chk_pos (by omega), g1.1 152 (by decide) (by decide), s4 j (by omega) (by omega), zw_eq (by omega) (by omega)]
        refine ok_bnd.mpr ((m_put g2 hrb.1 (by decide) (by have := s7 j (by omega) (by omega); omega) (by omega)).imp fun μ2 p => ?_)
        rw [show (j : Int) + 1 = ((j + 1 : Nat) : Int) by omega]
        exact ih fu (j + 1) μ2 (by omega) (by omega) (g1.trans p.1) p.2
  unfold f_X10_putIn
  simp only [zlet]
  rw [chk_pos (by omega), s1, zw_eq (x := 32 * s) (by omega) (by omega), zw_eq (x := 32 * s + f) (by omega) (by omega), chk_pos (by omega), hlen]
  refine k30 at'.toNat zfu 0 _ (by unfold zfu; omega) (by omega) ((Fm.refl _ _ μ).upo (by decide) _) ⟨by rw [zup_s, up1_s]; rfl, fun i x y => ?_⟩
  have : i < 0 := y
  omega
