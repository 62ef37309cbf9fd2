/-! the reference lays the common divisors; its whole rank -/
theorem pcb_half : ∀ (n S : Nat), pcb (n + 1) S = (if S.testBit 0 then 1 else 0) + pcb n (S / 2) := by
  intro n
  induction n with
  | zero => intro S; simp [pcb]
  | succ n ih =>
    intro S
    have e1 : pcb (n + 1 + 1) S = pcb (n + 1) S + (if S.testBit (n + 1) then 1 else 0) := rfl
    have e2 : pcb (n + 1) (S / 2) = pcb n (S / 2) + (if (S / 2).testBit n then 1 else 0) := rfl
    rw [e1, e2, ih S, Nat.testBit_succ]
    omega
theorem pcb_le (n S : Nat) : pcb n S ≤ n := by
  induction n with
  | zero => exact Nat.le_refl _
  | succ n ih => unfold pcb; split <;> omega
/-- what the common divisors are -/
def CmR (μ : zMem) (σ : Sp) : Prop := μ 125 0 = 1 ∧ Cms μ ∧ ∀ k : Nat, 1 ≤ k → k ≤ 8 → ∀ d, d ∣ μ 125 k ↔ ∀ vs, List.Sublist vs (rwL σ (sP σ).toNat 0) → vs.length = k → ∀ S, S < 2 ^ (sE σ).toNat → d ∣ wdl (sE σ).toNat wd1 vs S
theorem m_layCommon {μ : zMem} {s : Int} {σ : Sp} (hs : 0 ≤ s ∧ s < 3) (hc : MS μ s σ) (hw : WfE σ 8 12) (hp : WfP σ 8) : Ok (f_X10_layCommon s μ) (fun μ' => Fm [124, 125, 126, 127] [] μ μ' ∧ CmR μ' σ) := by
  have hE0 := hw.2.2.1
  have hE := hw.2.2.2.1
  have hP0 := hp.1
  have hP8 := hp.2.1
  have hp32 : WfP σ 32 := hp.mono (by omega)
  -- the search
  have k139 : ∀ μ1 : zMem, Fm [124, 125, 126, 127] [] μ μ1 → (∀ k, 0 ≤ k → k < 9 → μ1 125 k = if k = 0 then 1 else 0) → (∀ S : Nat, S < 4096 → μ1 126 S = (if S = 0 then 1 else 0) ∧ μ1 127 S = (pcb 12 S : Nat)) → (∀ f e, 0 ≤ f → f < sP σ → 0 ≤ e → e < sE σ → μ1 124 (48 * f + e) = goE σ f e) → Ok (f_X10_layCommon_K139 s μ1) (fun μ' => Fm [124, 125, 126, 127] [] μ μ' ∧ CmR μ' σ) := by
    intro μ1 g1 g2 g3 g4
    have hR : Rws μ1 s σ := ⟨g1.ms (by unfold noSp; decide) hc, g4, fun S hS => (g3 S hS).2⟩
    have hpw : (2 : Nat) ^ (sE σ).toNat ≤ 4096 := Nat.pow_le_pow_right (n := 2) (by decide) (show (sE σ).toNat ≤ 12 by omega)
    have hL : Lvl μ1 (sE σ).toNat [] := by
      intro T hT _
      have := (g3 T (by omega)).1
      rw [show (4096 : Int) * (([] : List Vc).length : Int) + (T : Int) = (T : Int) by simp, this]
      rfl
    have hC : Cms μ1 := by
      intro k k0 k1
      rw [g2 k k0 (by omega)]
      split <;> omega
    unfold f_X10_layCommon_K139
    have hgo := m_goRows hs hw hp (sP σ).toNat 40 0 [] μ1 (by omega) (by omega) (by omega) (by simp) (fun u h => absurd h (by simp)) hR hL hC
    refine ok_bnd.mpr (hgo.imp fun μ2 q => ok_some.mpr ?_)
    obtain ⟨a1, a2, a3, a4, a5⟩ := q
    refine ⟨g1.trans (a1.sub (by decide) (by decide)), ?_, a3, fun k k0 k1 d => ?_⟩
    · rw [a4 0 (by simp), g2 0 (by omega) (by omega)]; rfl
    · rw [a5 k (by simp; omega) k1 d, g2 k (by omega) (by omega), if_neg (by omega)]
      constructor
      · rintro ⟨_, h⟩ vs hv hk S hS
        have := h vs hv (fun e => by rw [e] at hk; simp at hk; omega) (by simpa using hk) S hS
        exact this
      · intro h
        exact ⟨Int.dvd_zero d, fun vs hv _ hk S hS => h vs hv (by simpa using hk) S hS⟩
  -- the rows
  have k87 : ∀ (m fu : Nat) (f : Int) (μ1 : zMem), m < fu → 0 ≤ f → f + m = sP σ → Fm [124, 125, 126, 127] [] μ μ1 → (∀ k, 0 ≤ k → k < 9 → μ1 125 k = if k = 0 then 1 else 0) → (∀ S : Nat, S < 4096 → μ1 126 S = (if S = 0 then 1 else 0) ∧ μ1 127 S = (pcb 12 S : Nat)) → (∀ i e, 0 ≤ i → i < f → 0 ≤ e → e < sE σ → μ1 124 (48 * i + e) = goE σ i e) → Ok (f_X10_layCommon_L87 s (f_X10_layCommon_K139 s) fu f μ1) (fun μ' => Fm [124, 125, 126, 127] [] μ μ' ∧ CmR μ' σ) := by
    intro m
    induction m with
    | zero =>
      intro fu f μ1 hfu f0 hf g1 g2 g3 g4
      cases fu with
      | zero => omega
      | succ fu =>
        have hc1 : MS μ1 s σ := g1.ms (by unfold noSp; decide) hc
        unfold f_X10_layCommon_L87
        rw [chk_pos hs, hc1.2.2.1, if_neg (by omega)]
        exact k139 μ1 g1 g2 g3 fun i e a b c d => g4 i e a (by omega) c d
    | succ m ih =>
      intro fu f μ1 hfu f0 hf g1 g2 g3 g4
      cases fu with
      | zero => omega
      | succ fu =>
        have hc1 : MS μ1 s σ := g1.ms (by unfold noSp; decide) hc
        unfold f_X10_layCommon_L87
        rw [chk_pos hs, hc1.2.2.1, if_pos (by omega)]
        have inner : ∀ (q fv : Nat) (e : Int) (μ2 : zMem), q < fv → 0 ≤ e → e + q = sE σ → Fm [124] [] μ1 μ2 → (∀ i k, 0 ≤ i → i ≤ f → 0 ≤ k → k < sE σ → (i = f → k < e) → μ2 124 (48 * i + k) = goE σ i k) → Ok (f_X10_layCommon_L99 s f (f_X10_layCommon_K133 f (f_X10_layCommon_L87 s (f_X10_layCommon_K139 s) fu)) fv e μ2) (fun μ' => Fm [124, 125, 126, 127] [] μ μ' ∧ CmR μ' σ) := by
          intro q
          induction q with
          | zero =>
            intro fv e μ2 hfv e0 he k1 k2
            cases fv with
            | zero => omega
            | succ fv =>
              have hc2 : MS μ2 s σ := k1.ms (by unfold noSp; decide) hc1
              unfold f_X10_layCommon_L99
              rw [chk_pos hs, hc2.2.1, if_neg (by omega)]
              unfold f_X10_layCommon_K133
              simp only [zlet]
              rw [zw_eq (by omega) (by omega)]
              refine ih fu (f + 1) μ2 (by omega) (by omega) (by omega) (g1.trans (k1.sub (by decide) (by decide))) (fun k a b => by rw [k1.1 125 (by decide) (by decide)]; exact g2 k a b) (fun S hS => by rw [k1.1 126 (by decide) (by decide), k1.1 127 (by decide) (by decide)]; exact g3 S hS) fun i k i0 i1 k0 kk1 => k2 i k i0 (by omega) k0 kk1 (fun _ => by omega)
          | succ q ihq =>
            intro fv e μ2 hfv e0 he k1 k2
            cases fv with
            | zero => omega
            | succ fv =>
              have hc2 : MS μ2 s σ := k1.ms (by unfold noSp; decide) hc1
              unfold f_X10_layCommon_L99
              simp only [zlet]
              rw [chk_pos hs, hc2.2.1, if_pos (by omega), bnd_pos (m_goes hs hc2 hp32 (by omega) ⟨f0, by omega⟩ ⟨e0, by omega⟩), zw_eq (x := 48 * f) (by omega) (by omega), zw_eq (x := 48 * f + e) (by omega) (by omega), chk_pos (by omega), zw_eq (x := e + 1) (by omega) (by omega)]
              refine ihq fv (e + 1) _ (by omega) (by omega) (by omega) (k1.up (by decide) (by decide) _ _) fun i k i0 i1 k0 kk1 hh => ?_
              rw [zup_s]
              by_cases q : i = f ∧ k = e
              · rw [q.1, q.2, up1_s]
              · rw [up1_n _ _ (by omega)]
                exact k2 i k i0 i1 k0 kk1 (fun z => by have := hh z; omega)
        exact inner (sE σ).toNat zfu 0 μ1 (by unfold zfu; omega) (by omega) (by omega) (Fm.refl _ _ _) fun i k i0 i1 k0 kk1 hh => g4 i k i0 (by by_cases q : i = f <;> omega) k0 kk1
  -- the masks
  have k31 : ∀ (m fu x : Nat) (μ1 : zMem), m < fu → x + m = 4096 → Fm [124, 125, 126, 127] [] μ μ1 → (∀ k, 0 ≤ k → k < 9 → μ1 125 k = if k = 0 then 1 else 0) → (∀ S : Nat, S < x → μ1 126 S = (if S = 0 then 1 else 0) ∧ μ1 127 S = (pcb 12 S : Nat)) → Ok (f_X10_layCommon_L31 (f_X10_layCommon_K85 s) fu (x : Int) μ1) (fun μ' => Fm [124, 125, 126, 127] [] μ μ' ∧ CmR μ' σ) := by
    intro m
    induction m with
    | zero =>
      intro fu x μ1 hfu hx g1 g2 g3
      cases fu with
      | zero => omega
      | succ fu =>
        unfold f_X10_layCommon_L31
        rw [if_neg (by omega)]
        unfold f_X10_layCommon_K85
        exact k87 (sP σ).toNat zfu 0 μ1 (by unfold zfu; omega) (by omega) (by omega) g1 g2 (fun S hS => g3 S (by omega)) (fun i e a b => by omega)
    | succ m ih =>
      intro fu x μ1 hfu hx g1 g2 g3
      cases fu with
      | zero => omega
      | succ fu =>
        have hle := pcb_le 12 x
        have nxt : ∀ v, v = ((pcb 12 x : Nat) : Int) → Ok (f_X10_layCommon_J78 (x : Int) (f_X10_layCommon_L31 (f_X10_layCommon_K85 s) fu) v (zup μ1 126 (x : Int) (if (x : Int) = 0 then 1 else 0))) (fun μ' => Fm [124, 125, 126, 127] [] μ μ' ∧ CmR μ' σ) := by
          intro v hv
          unfold f_X10_layCommon_J78
          simp only [zlet]
          rw [chk_pos (by omega), zw_eq (by omega) (by omega), hv, show (x : Int) + 1 = ((x + 1 : Nat) : Int) by omega]
          refine ih fu (x + 1) _ (by omega) (by omega) ((g1.up (by decide) (by decide) _ _).up (by decide) (by decide) _ _) (fun k a b => by rw [zup_n _ _ _ (by decide), zup_n _ _ _ (by decide)]; exact g2 k a b) (fun S hS => ?_)
          rw [zup_n _ _ _ (by decide), zup_s, zup_s, zup_n _ _ _ (by decide)]
          by_cases e : S = x
          · rw [e, up1_s, up1_s]
            refine ⟨?_, rfl⟩
            by_cases q : x = 0
            · rw [if_pos q, if_pos (by omega)]
            · rw [if_neg q, if_neg (by omega)]
          · rw [up1_n _ _ (by omega), up1_n _ _ (by omega)]
            exact g3 S (by omega)
        unfold f_X10_layCommon_L31
        rw [if_pos (by omega)]
        unfold f_X10_layCommon_J52
        simp only [zlet]
        rw [chk_pos (by omega)]
        by_cases q : x = 0
        · rw [if_pos (c := (x : Int) = 0) (by omega)]
          refine nxt 0 ?_
          rw [q, pcb_0]; rfl
        · have hh : x / 2 < x := by omega
          have hhalf := pcb_half 11 x
          have hlo : pcb 12 (x / 2) = pcb 11 (x / 2) := pcb_lo (by omega)
          have h127 : μ1 127 ((x : Int) / 2) = ((pcb 12 (x / 2) : Nat) : Int) := by
            have := (g3 (x / 2) hh).2
            rw [show ((x / 2 : Nat) : Int) = (x : Int) / 2 by omega] at this
            exact this
          have hb0 : (if x.testBit 0 then 1 else 0) = x % 2 := by
            rw [Nat.testBit_zero]
            by_cases z : x % 2 = 1
            · simp [z]
            · simp [z]; omega
          have hle2 := pcb_le 12 (x / 2)
          rw [if_neg (c := (x : Int) = 0) (by omega), zshr1 ⟨by omega, by omega⟩, zand1 ⟨by omega, by omega⟩, chk_pos (by omega), zup_n _ _ _ (by decide), h127, zw_eq (by omega) (by omega)]
          have := nxt (((pcb 12 (x / 2) : Nat) : Int) + (x : Int) % 2) (by rw [hhalf, hb0, hlo]; omega)
          exact this
  -- the divisors
  have k2 : ∀ (m fu : Nat) (x : Int) (μ1 : zMem), m < fu → 0 ≤ x → x + m = 9 → Fm [124, 125, 126, 127] [] μ μ1 → (∀ k, 0 ≤ k → k < x → μ1 125 k = if k = 0 then 1 else 0) → Ok (f_X10_layCommon_L2 (f_X10_layCommon_K29 s) fu x μ1) (fun μ' => Fm [124, 125, 126, 127] [] μ μ' ∧ CmR μ' σ) := by
    intro m
    induction m with
    | zero =>
      intro fu x μ1 hfu x0 hx g1 g2
      cases fu with
      | zero => omega
      | succ fu =>
        unfold f_X10_layCommon_L2
        rw [if_neg (by omega)]
        unfold f_X10_layCommon_K29
        exact k31 4096 zfu 0 μ1 (by unfold zfu; omega) (by omega) g1 (fun k a b => g2 k a (by omega)) (fun S hS => by omega)
    | succ m ih =>
      intro fu x μ1 hfu x0 hx g1 g2
      cases fu with
      | zero => omega
      | succ fu =>
        unfold f_X10_layCommon_L2
        rw [if_pos (by omega)]
        unfold f_X10_layCommon_J22
        simp only [zlet]
        rw [chk_pos (by omega), zw_eq (by omega) (by omega)]
        refine ih fu (x + 1) _ (by omega) (by omega) (by omega) (g1.up (by decide) (by decide) _ _) (fun k a b => ?_)
        rw [zup_s]
        by_cases e : k = x
        · rw [e, up1_s]
        · rw [up1_n _ _ e]; exact g2 k a (by omega)
  unfold f_X10_layCommon
  exact k2 9 zfu 0 μ (by unfold zfu; omega) (by omega) (by omega) (Fm.refl _ _ _) (fun k a b => by omega)
theorem wdl_scl {n : Nat} {us : List Vc} : ∀ (vs : List Vc), (∀ v ∈ vs, ∃ s, s ≠ 0 ∧ ZS us (fun e => s * v e)) → ∃ (P : Int) (vs' : List Vc), P ≠ 0 ∧ vs'.length = vs.length ∧ (∀ v ∈ vs', ZS us v) ∧ ∀ w S, S < 2 ^ n → wdl n w vs' S = P * wdl n w vs S := by
  intro vs
  induction vs with
  | nil => intro _; exact ⟨1, [], by decide, rfl, fun v h => absurd h (by simp), fun w S _ => (Int.one_mul _).symm⟩
  | cons v vs ih =>
    intro h
    obtain ⟨P, vs', p0, p1, p2, p3⟩ := ih fun x hx => h x (List.mem_cons_of_mem _ hx)
    obtain ⟨s, s0, s1⟩ := h v (List.mem_cons_self ..)
    refine ⟨s * P, (fun e => s * v e) :: vs', fun q => ?_, by simp [p1], fun x hx => ?_, fun w S hS => ?_⟩
    · rcases Int.mul_eq_zero.mp q with q | q
      · exact s0 q
      · exact p0 q
    · rcases List.mem_cons.mp hx with q | q
      · rw [q]; exact s1
      · exact p2 x q
    · rw [wdl_cons, wdl_cons, p3 _ S hS]
      have e1 : ∀ T, wdg n w (fun e => s * v e) T = s * wdg n w v T := fun T => by
        have := wdg_addr n w v (fun _ => 0) s 0 T
        simp only [Int.zero_mul, Int.add_zero] at this
        exact this
      rw [wdl_congr vs (w' := fun T => s * wdg n w v T) (fun T _ => e1 T) S hS, wdl_scal]
      grind
/-- up to the rank the divisors aren't 0, behind it they are -/
theorem cm_rank {μ : zMem} {σ : Sp} {rk m : Int} (hC : CmR μ σ) (hF : FnB (sE σ).toNat (sP σ) (rwP σ) rk m) (hr : 0 ≤ rk ∧ rk ≤ 8) : (∀ k : Nat, (k : Int) ≤ rk → μ 125 k ≠ 0) ∧ (rk < 8 → μ 125 (rk + 1) = 0) := by
  obtain ⟨c0, c1, c2⟩ := hC
  obtain ⟨us, C, u1, u2, u3, u4, u5, u6⟩ := hF
  constructor
  · intro k hk h0
    by_cases hk0 : k = 0
    · rw [hk0] at h0
      have : μ 125 ((0 : Nat) : Int) = 1 := c0
      omega
    · have hz := (c2 k (by omega) (by omega) 0).mp (by rw [h0]; exact Int.dvd_zero 0)
      have hsp := dv_span (d := 0) (rwL σ (sP σ).toNat 0) wd1 k hz (us.take k) (by rw [List.length_take]; omega) (fun v hv => by
        obtain ⟨j, j0, j1, e⟩ := u2 v (List.mem_of_mem_take hv)
        rw [e]
        exact ZS.mem (rwL_in _ _ _ j0 (by omega)))
      have e : wdl (sE σ).toNat wd1 us C = wdl (sE σ).toNat (wdl (sE σ).toNat wd1 (us.take k)) (us.drop k) C := by rw [← wdl_app, List.take_append_drop]
      rw [u4, e, wdl_congr (us.drop k) (w' := fun _ => 0) (fun T hT => Int.zero_dvd.mp (hsp T hT)) C u3, wdl_0] at u5
      exact u5 rfl
  · intro h8
    have := (c2 (rk.toNat + 1) (by omega) (by omega) 0).mpr fun vs hv hl S hS => ?_
    · rw [show ((rk.toNat + 1 : Nat) : Int) = rk + 1 by omega] at this
      exact Int.zero_dvd.mp this
    · obtain ⟨P, vs', p0, p1, p2, p3⟩ := wdl_scl (n := (sE σ).toNat) (us := us) vs fun v hx => by
        obtain ⟨j, j0, j1, e⟩ := rwL_mem _ _ (hv.subset hx)
        rw [e]
        exact u6 j j0 (by omega)
      have hz := wdl_more (n := (sE σ).toNat) (us := us) (vs := vs') wd1 (by omega) p2 S hS
      rw [p3 wd1 S hS] at hz
      rcases Int.mul_eq_zero.mp hz with q | q
      · exact absurd q p0
      · rw [q]; exact Int.dvd_zero 0
theorem m_wholeRank {μ : zMem} {rk : Int} (hr : 0 ≤ rk ∧ rk ≤ 8) (h1 : ∀ k : Nat, (k : Int) ≤ rk → μ 125 k ≠ 0) (h2 : rk < 8 → μ 125 (rk + 1) = 0) : f_X10_wholeRank μ = some rk := by
  have key : ∀ (m fu x : Nat), m < fu → (x : Int) + m = rk → f_X10_wholeRank_L2 μ fu (x : Int) = some rk := by
    intro m
    induction m with
    | zero =>
      intro fu x hfu hx
      cases fu with
      | zero => omega
      | succ fu =>
        unfold f_X10_wholeRank_L2
        by_cases q : (x : Int) < 8
        · rw [if_pos q, zw_eq (by omega) (by omega), chk_pos (by omega), show (x : Int) + 1 = rk + 1 by omega, if_pos (h2 (by omega)), show (x : Int) = rk by omega]
        · rw [if_neg q, show (x : Int) = rk by omega]
    | succ m ih =>
      intro fu x hfu hx
      cases fu with
      | zero => omega
      | succ fu =>
        have := h1 (x + 1) (by omega)
        rw [show ((x + 1 : Nat) : Int) = (x : Int) + 1 by omega] at this
        unfold f_X10_wholeRank_L2
        simp only [zlet]
        rw [if_pos (by omega), zw_eq (by omega) (by omega), chk_pos (by omega), if_neg this, show (x : Int) + 1 = ((x + 1 : Nat) : Int) by omega]
        exact ih fu (x + 1) (by omega) (by omega)
  unfold f_X10_wholeRank
  exact key rk.toNat zfu 0 (by unfold zfu; omega) (by omega)
