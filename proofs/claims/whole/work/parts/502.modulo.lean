/-! the class's rank modulo p -/
def fP (p : Int) (_m x h P R : Int) : Int := if h = 0 then R else (x * R - h * P) % p
def nwR (f : Int → Int → Int → Int → Int → Int) (m : Int) (A : Mx) (r c : Int) : Mx := fun i k => if r < i ∧ c ≤ k then f m (A r c) (A i c) (A r k) (A i k) else A i k
def BdP (p H W : Int) (A : Mx) : Prop := ∀ i k, 0 ≤ i → i < H → 0 ≤ k → k < W → 0 ≤ A i k ∧ A i k < p
def Pr (p : Int) : Prop := p = 2 ∨ p = 3 ∨ p = 5 ∨ p = 7
theorem Pr.b {p : Int} (h : Pr p) : 2 ≤ p ∧ p ≤ 7 := by unfold Pr at h; omega
theorem mul_bP {a b p : Int} (ha : 0 ≤ a ∧ a < p) (hb : 0 ≤ b ∧ b < p) (hp : p ≤ 7) : 0 ≤ a * b ∧ a * b ≤ 36 := by
  have h1 := Int.mul_nonneg ha.1 hb.1
  have h2 : a * b ≤ 6 * b := Int.mul_le_mul_of_nonneg_right (by omega) hb.1
  omega
theorem c_keepBelow {μ : zMem} {H W p : Int} {A : Mx} (hw : HW H W) (h : CM μ H W A) (hp : 0 < p) (hp2 : p ≤ 9223372036854775807) (hA : ∀ i k, 0 ≤ i → i < H → 0 ≤ k → k < W → Rl (A i k)) : Ok (f_X2_keepBelow p μ) (fun μ' => Fr μ μ' ∧ CM μ' H W (fun i k => A i k % p)) := by
  obtain ⟨w1, w2, w3, w4, w5⟩ := hw
  have hHW : 0 ≤ H * W := Int.mul_nonneg w1 w3
  have key : ∀ (m fu : Nat) (x : Int) (μ1 : zMem), m < fu → 0 ≤ x → x + m = H * W → Fr μ μ1 → (∀ j, 0 ≤ j → j < H * W → μ1 24 j = if j < x then μ 24 j % p else μ 24 j) → Ok (f_X2_keepBelow_L2 p fu x μ1) (fun μ' => Fr μ μ' ∧ CM μ' H W (fun i k => A i k % p)) := by
    intro m
    induction m with
    | zero =>
      intro fu x μ1 hfu x0 hx g1 g2
      cases fu with
      | zero => omega
      | succ fu =>
        unfold f_X2_keepBelow_L2
        rw [g1 23 (by decide), h.1, h.2.1, zw_eq (by omega) (by omega), if_neg (by omega)]
        refine ok_some.mpr ⟨g1, by rw [g1 23 (by decide)]; exact h.1, by rw [g1 23 (by decide)]; exact h.2.1, fun i k i0 i1 k0 k1 => ?_⟩
        have hi := ix_rg (H := H) (W := W) ⟨i0, i1⟩ ⟨k0, k1⟩
        rw [g2 _ hi.1 hi.2, if_pos (by omega), h.2.2 i k i0 i1 k0 k1]
    | succ m ih =>
      intro fu x μ1 hfu x0 hx g1 g2
      cases fu with
      | zero => omega
      | succ fu =>
        have hW : 0 < W := by
          by_cases q : 0 < W
          · exact q
          · have : W = 0 := by omega
            rw [this, Int.mul_zero] at hx
            omega
        have hx1 : x / W * W + x % W = x := by rw [Int.mul_comm]; exact Int.mul_ediv_add_emod x W
        have hx2 : x / W < H := Int.ediv_lt_of_lt_mul hW (by omega)
        have hx3 : 0 ≤ x / W := Int.ediv_nonneg x0 (by omega)
        have hx4 : 0 ≤ x % W ∧ x % W < W := ⟨Int.emod_nonneg _ (by omega), Int.emod_lt_of_pos _ hW⟩
        have hrl : Rl (μ1 24 x) := by
          have h1 := h.2.2 (x / W) (x % W) hx3 hx2 hx4.1 hx4.2
          rw [hx1] at h1
          rw [g2 x x0 (by omega), if_neg (by omega), h1]
          exact hA _ _ hx3 hx2 hx4.1 hx4.2
        unfold f_X2_keepBelow_L2
        simp only [zlet]
        rw [g1 23 (by decide), h.1, h.2.1, zw_eq (x := H * W) (by omega) (by omega), if_pos (by omega), chk_pos (by omega), chk_pos (by omega), chk_pos (by omega), zfmod_pos hrl ⟨by omega, by omega⟩ hp, zw_eq (by omega) (by omega), g2 x x0 (by omega), if_neg (by omega)]
        refine ih fu (x + 1) _ (by omega) (by omega) (by omega) (fun k hk => by rw [zup_n _ _ _ hk]; exact g1 k hk) (fun j j0 j1 => ?_)
        rw [zup_s]
        by_cases e : j = x
        · rw [e, up1_s, if_pos (by omega)]
        · rw [up1_n _ _ e, g2 j j0 j1]
          by_cases q : j < x
          · rw [if_pos q, if_pos (by omega)]
          · rw [if_neg q, if_neg (by omega)]
  unfold f_X2_keepBelow
  exact key (H * W).toNat zfu 0 μ (by unfold zfu; omega) (by omega) (by omega) (fun _ _ => rfl) (fun j j0 j1 => by rw [if_neg (by omega)])
theorem fP_rg {p m x h P R : Int} (hp : Pr p) (hR : 0 ≤ R ∧ R < p) : 0 ≤ fP p m x h P R ∧ fP p m x h P R < p := by
  have := hp.b
  unfold fP
  split
  · exact hR
  · exact ⟨Int.emod_nonneg _ (by omega), Int.emod_lt_of_pos _ (by omega)⟩
theorem c_clearBelow {μ : zMem} {H W r c p m : Int} {A : Mx} (hw : HW H W) (hp : Pr p) (h : CM μ H W A) (hr : 0 ≤ r ∧ r < H) (hc : 0 ≤ c ∧ c < W) (hb : BdP p H W A) : Ok (f_X2_clearBelow r c p μ) (fun μ' => Fr μ μ' ∧ CM μ' H W (nwR (fP p) m A r c)) := by
  have hpb := hp.b
  obtain ⟨w1, w2, w3, w4, w5⟩ := hw
  have hw' : HW H W := ⟨w1, w2, w3, w4, w5⟩
  have key : ∀ (m1 fu : Nat) (x : Int) (μ1 : zMem), m1 < fu → r < x → x + m1 = H → Fr μ μ1 → (∀ i k, 0 ≤ i → i < H → 0 ≤ k → k < W → μ1 24 (i * W + k) = if i < x then nwR (fP p) m A r c i k else A i k) → Ok (f_X2_clearBelow_L20 r c p (A r c) fu x μ1) (fun μ' => Fr μ μ' ∧ CM μ' H W (nwR (fP p) m A r c)) := by
    intro m1
    induction m1 with
    | zero =>
      intro fu x μ1 hfu x0 hx g1 g2
      cases fu with
      | zero => omega
      | succ fu =>
        unfold f_X2_clearBelow_L20
        rw [g1 23 (by decide), h.1, if_neg (by omega)]
        refine ok_some.mpr ⟨g1, by rw [g1 23 (by decide)]; exact h.1, by rw [g1 23 (by decide)]; exact h.2.1, fun i k i0 i1 k0 k1 => ?_⟩
        rw [g2 i k i0 i1 k0 k1, if_pos (by omega)]
    | succ m1 ih =>
      intro fu x μ1 hfu x0 hx g1 g2
      cases fu with
      | zero => omega
      | succ fu =>
        have hxH : 0 ≤ x ∧ x < H := ⟨by omega, by omega⟩
        obtain ⟨a1, a2, a3, a4⟩ := hw'.ix hxH hc
        have vx := g2 x c hxH.1 hxH.2 hc.1 hc.2
        rw [if_neg (by omega)] at vx
        have K : ∀ μ2 : zMem, Fr μ μ2 → (∀ i k, 0 ≤ i → i < H → 0 ≤ k → k < W → μ2 24 (i * W + k) = if i < x + 1 then nwR (fP p) m A r c i k else A i k) → Ok (f_X2_clearBelow_K130 x (f_X2_clearBelow_L20 r c p (A r c) fu) μ2) (fun μ' => Fr μ μ' ∧ CM μ' H W (nwR (fP p) m A r c)) := by
          intro μ2 k1 k2
          unfold f_X2_clearBelow_K130
          simp only [zlet]
          rw [zw_eq (by omega) (by omega)]
          exact ih fu (x + 1) μ2 (by omega) (by omega) (by omega) k1 k2
        unfold f_X2_clearBelow_L20
        simp only [zlet]
        rw [g1 23 (by decide), h.1, h.2.1, if_pos (by omega), a1, a2, chk_pos ⟨a3, a4⟩, vx]
        have inner : ∀ (q fv : Nat) (y : Int) (μ2 : zMem), q < fv → c ≤ y → y + q = W → Fr μ μ2 → (∀ i k, 0 ≤ i → i < H → 0 ≤ k → k < W → μ2 24 (i * W + k) = if i < x ∨ (i = x ∧ k < y) then nwR (fP p) m A r c i k else A i k) → Ok (f_X2_clearBelow_L48 r p (A r c) x (A x c) (f_X2_clearBelow_K130 x (f_X2_clearBelow_L20 r c p (A r c) fu)) fv y μ2) (fun μ' => Fr μ μ' ∧ CM μ' H W (nwR (fP p) m A r c)) := by
          intro q
          induction q with
          | zero =>
            intro fv y μ2 hfv y0 hy k1 k2
            cases fv with
            | zero => omega
            | succ fv =>
              unfold f_X2_clearBelow_L48
              rw [k1 23 (by decide), h.2.1, if_neg (by omega)]
              refine K μ2 k1 fun i k i0 i1 k0 kk1 => ?_
              rw [k2 i k i0 i1 k0 kk1]
              by_cases e : i < x + 1
              · rw [if_pos e, if_pos (by omega)]
              · rw [if_neg e, if_neg (by omega)]
          | succ q ihq =>
            intro fv y μ2 hfv y0 hy k1 k2
            cases fv with
            | zero => omega
            | succ fv =>
              unfold f_X2_clearBelow_L48
              simp only [zlet]
              rw [k1 23 (by decide), h.2.1, if_pos (by omega)]
              by_cases h0 : A x c = 0
              · rw [if_pos h0]
                refine K μ2 k1 fun i k i0 i1 k0 kk1 => ?_
                rw [k2 i k i0 i1 k0 kk1]
                by_cases e : i = x
                · have en : nwR (fP p) m A r c x k = A x k := by
                    unfold nwR fP
                    by_cases q : r < x ∧ c ≤ k
                    · rw [if_pos q, if_pos h0]
                    · rw [if_neg q]
                  rw [e, en]
                  split <;> split <;> rfl
                · by_cases e2 : i < x
                  · rw [if_pos (by omega), if_pos (by omega)]
                  · rw [if_neg (by omega), if_neg (by omega)]
              · have hyW : 0 ≤ y ∧ y < W := ⟨by omega, by omega⟩
                obtain ⟨b1, b2, b3, b4⟩ := hw'.ix hxH hyW
                obtain ⟨d1, d2, d3, d4⟩ := hw'.ix hr hyW
                have vxy := k2 x y hxH.1 hxH.2 hyW.1 hyW.2
                rw [if_neg (by omega)] at vxy
                have vry := k2 r y hr.1 hr.2 hyW.1 hyW.2
                rw [if_pos (by omega)] at vry
                have enr : nwR (fP p) m A r c r y = A r y := by unfold nwR; rw [if_neg (by omega)]
                rw [enr] at vry
                have m1' := mul_bP (hb r c hr.1 hr.2 hc.1 hc.2) (hb x y hxH.1 hxH.2 hyW.1 hyW.2) hpb.2
                have m2' := mul_bP (hb x c hxH.1 hxH.2 hc.1 hc.2) (hb r y hr.1 hr.2 hyW.1 hyW.2) hpb.2
                rw [if_neg h0, b1, b2, d1, d2, chk_pos ⟨b3, b4⟩, chk_pos ⟨d3, d4⟩, vxy, vry, zl_eq (x := A r c * A x y) (by omega) (by omega), zl_eq (x := A x c * A r y) (by omega) (by omega), zl_eq (x := A r c * A x y - A x c * A r y) (by omega) (by omega), chk_pos (by omega), chk_pos ⟨b3, b4⟩, zfmod_pos ⟨by omega, by omega⟩ ⟨by omega, by omega⟩ (by omega), zw_eq (by omega) (by omega)]
                refine ihq fv (y + 1) _ (by omega) (by omega) (by omega) (fun k hk => by rw [zup_n _ _ _ hk]; exact k1 k hk) (fun i k i0 i1 k0 kk1 => ?_)
                rw [zup_s]
                by_cases e : i = x ∧ k = y
                · rw [e.1, e.2, up1_s, if_pos (by omega)]
                  unfold nwR fP
                  rw [if_pos ⟨x0, y0⟩, if_neg h0]
                · rw [up1_n _ _ (fun q => e (ix_inj ⟨k0, kk1⟩ hyW q)), k2 i k i0 i1 k0 kk1]
                  by_cases e2 : i < x ∨ (i = x ∧ k < y)
                  · rw [if_pos e2, if_pos (by omega)]
                  · rw [if_neg e2, if_neg (by omega)]
        refine inner (W - c).toNat zfu c μ1 (by unfold zfu; omega) (by omega) (by omega) g1 fun i k i0 i1 k0 kk1 => ?_
        rw [g2 i k i0 i1 k0 kk1]
        by_cases e : i = x ∧ k < c
        · have : nwR (fP p) m A r c i k = A i k := by unfold nwR; rw [if_neg (by omega)]
          rw [this]
          split <;> split <;> rfl
        · by_cases e2 : i < x
          · rw [if_pos e2, if_pos (by omega)]
          · rw [if_neg e2, if_neg (by omega)]
  obtain ⟨a1, a2, a3, a4⟩ := hw'.ix hr hc
  unfold f_X2_clearBelow
  simp only [zlet]
  rw [h.2.1, a1, a2, chk_pos ⟨a3, a4⟩, h.2.2 r c hr.1 hr.2 hc.1 hc.2, zw_eq (by omega) (by omega)]
  refine key (H - (r + 1)).toNat zfu (r + 1) μ (by unfold zfu; omega) (by omega) (by omega) (fun _ _ => rfl) fun i k i0 i1 k0 k1 => ?_
  rw [h.2.2 i k i0 i1 k0 k1]
  have : nwR (fP p) m A r c i k = if r < i ∧ c ≤ k then fP p m (A r c) (A i c) (A r k) (A i k) else A i k := rfl
  by_cases e : i < r + 1
  · rw [if_pos e, this, if_neg (by omega)]
  · rw [if_neg e]
theorem c_rankModuloL {H W p : Int} (hw : HW H W) (hp : Pr p) : ∀ (n fu : Nat) (m r c : Int) (A : Mx) (μ : zMem), n < fu → 0 ≤ r ∧ r ≤ H → 0 ≤ c → c + n = W → CM μ H W A → BdP p H W A → Ok (f_X2_rankModulo_L10 p fu r c μ) (fun w => Fr μ w.2 ∧ w.1 = elG (fP p) H n m r c A) := by
  obtain ⟨w1, w2, w3, w4, w5⟩ := hw
  have hw' : HW H W := ⟨w1, w2, w3, w4, w5⟩
  intro n
  induction n with
  | zero =>
    intro fu m r c A μ hfu hr c0 hc h hb
    cases fu with
    | zero => omega
    | succ fu =>
      unfold f_X2_rankModulo_L10
      rw [h.2.1, if_neg (by omega)]
      exact ok_some.mpr ⟨fun _ _ => rfl, rfl⟩
  | succ n ih =>
    intro fu m r c A μ hfu hr c0 hc h hb
    cases fu with
    | zero => omega
    | succ fu =>
      have hcW : 0 ≤ c ∧ c < W := ⟨c0, by omega⟩
      unfold f_X2_rankModulo_L10 elG
      simp only [zlet]
      rw [h.2.1, h.1, if_pos (by omega)]
      by_cases hrH : r < H
      · rw [if_pos hrH, if_pos hrH, bnd_pos (c_rowWith hw' h hcW hr), zw_eq (x := c + 1) (by omega) (by omega), zw_eq (x := r + 1) (by omega) (by omega)]
        have hs := fsR_spec A c (H - r).toNat r hr.1
        generalize fsR A c (H - r).toNat r = v at *
        by_cases hv : v = -1
        · rw [if_pos hv, if_pos hv]
          exact ih fu m r (c + 1) A μ (by omega) hr (by omega) (by omega) h hb
        · rw [if_neg hv, if_neg hv]
          rcases hs with ⟨q, _⟩ | ⟨q1, q2, q3⟩
          · exact absurd q hv
          · refine ok_bnd.mpr ((c_swapRows hw' h (a := v) (b := r) ⟨by omega, by omega⟩ ⟨hr.1, hrH⟩).imp fun μ2 s => ?_)
            obtain ⟨s1, s2⟩ := s
            have hb2 : BdP p H W (swp A v r) := by
              intro i k i0 i1 k0 k1
              unfold swp
              split
              · exact hb r k hr.1 hrH k0 k1
              · split
                · exact hb v k (by omega) (by omega) k0 k1
                · exact hb i k i0 i1 k0 k1
            refine ok_bnd.mpr ((c_clearBelow (m := m) hw' hp s2 ⟨hr.1, hrH⟩ hcW hb2).imp fun μ3 t => ?_)
            obtain ⟨t1, t2⟩ := t
            have hb3 : BdP p H W (nwR (fP p) m (swp A v r) r c) := by
              intro i k i0 i1 k0 k1
              unfold nwR
              split
              · exact fP_rg hp (hb2 i k i0 i1 k0 k1)
              · exact hb2 i k i0 i1 k0 k1
            refine (ih fu (A v c) (r + 1) (c + 1) (nwR (fP p) m (swp A v r) r c) μ3 (by omega) ⟨by omega, by omega⟩ (by omega) (by omega) t2 hb3).imp fun w x => ?_
            exact ⟨fun k hk => ((x.1 k hk).trans (t1 k hk)).trans (s1 k hk), x.2⟩
      · rw [if_neg hrH, if_neg hrH]
        exact ok_some.mpr ⟨fun _ _ => rfl, rfl⟩
theorem c_rankModulo {μ : zMem} {H W p : Int} {A : Mx} (hw : HW H W) (hp : Pr p) (h : CM μ H W A) (hA : ∀ i k, 0 ≤ i → i < H → 0 ≤ k → k < W → Rl (A i k)) : Ok (f_X2_rankModulo p μ) (fun w => Fr μ w.2 ∧ w.1 = elG (fP p) H W.toNat 1 0 0 (fun i k => A i k % p)) := by
  have hpb := hp.b
  obtain ⟨w1, w2, w3, w4, w5⟩ := hw
  have hw' : HW H W := ⟨w1, w2, w3, w4, w5⟩
  unfold f_X2_rankModulo
  refine ok_bnd.mpr ((c_keepBelow hw' h (by omega) (by omega) hA).imp fun μ1 q => ?_)
  obtain ⟨q1, q2⟩ := q
  refine (c_rankModuloL hw' hp W.toNat zfu 1 0 0 _ μ1 (by unfold zfu; omega) ⟨by omega, w1⟩ (by omega) (by omega) q2 (fun i k _ _ _ _ => ⟨Int.emod_nonneg _ (by omega), Int.emod_lt_of_pos _ (by omega)⟩)).imp fun w x => ?_
  exact ⟨fun k hk => (x.1 k hk).trans (q1 k hk), x.2⟩
