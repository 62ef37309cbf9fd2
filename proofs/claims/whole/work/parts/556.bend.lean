/-! the factors are the quotients of the common divisors -/
theorem fc_pf {n : Nat} {M H W t : Int} {A0 : Mx} {μ : zMem} (hF : FcS n M H W t A0 μ) (hW : W = n) (ht : 0 ≤ t ∧ t ≤ H ∧ t ≤ W) (k : Nat) (hk : (k : Int) ≤ t) (d : Int) : Dv n (LAm n M H A0) k d ↔ d ∣ pf (fun p => μ 25 (p : Int)) k := by
  obtain ⟨fp, D, A, f1, ⟨s1, s2, s3, s4, s5⟩, f3, f4, f5⟩ := hF
  rw [← s3 k d]
  refine diag_dv (t := t.toNat) (by omega) (fun i hi => ?_) (fun v hv => ?_) (fun p q hpq hq => ?_) k (by omega) d
  · refine (LA.row ⟨(i : Int), by omega, by omega, rfl⟩ : LAm n M H A (vA n A i)).cong fun e he => ?_
    show M ∣ (if e = i then μ 25 (i : Int) else 0) - (if e < n then A i e else 0)
    rw [if_pos he]
    by_cases q : e = i
    · rw [if_pos q, q, s5 i (by omega) (by omega)]
      rcases (f5 i (by omega) (by omega)).1 with z | ⟨z1, z2⟩
      · rw [z, Int.sub_self]; exact Int.dvd_zero _
      · rw [z2, Int.sub_zero, z1]; exact Int.dvd_refl _
    · rw [if_neg q, s2 i e (by omega) (by omega) (by omega) (by omega) (Or.inl (by omega)) (by omega), Int.sub_self]
      exact Int.dvd_zero _
  · refine hv (fun v => ∀ e, e < n → ∀ p, p ≤ e → p < t.toNat → μ 25 (p : Int) ∣ v e) (fun a b x y hx hy e he p hpe hp => ?_) (fun x y hx hxy e he p hpe hp => ?_) (fun e he p hpe hp => Int.dvd_zero _) (fun x hx e he p hpe hp => ?_)
    · exact Int.dvd_add (Int.dvd_mul_of_dvd_right (hx e he p hpe hp)) (Int.dvd_mul_of_dvd_right (hy e he p hpe hp))
    · have h1 := hx e he p hpe hp
      have h2 := Int.dvd_trans (Int.dvd_trans (f5 p (by omega) (by omega)).2.2.1 f4) (hxy e he)
      have e1 : y e = (y e - x e) + x e := by omega
      rw [e1]
      exact Int.dvd_add h2 h1
    · obtain ⟨i, i0, i1, hxi⟩ := hx
      rw [hxi]
      show _ ∣ (if e < n then A i e else 0)
      rw [if_pos he]
      obtain ⟨_, _, g3, g4⟩ := f5 p (by omega) (by omega)
      by_cases z : i < t ∨ (e : Int) < t
      · by_cases y : i = e
        · rw [y, s5 e (by omega) (by omega)]
          rcases (f5 e (by omega) (by omega)).1 with w | ⟨_, w⟩
          · rw [w]; exact g4 e (by omega) (by omega)
          · rw [w]; exact Int.dvd_zero _
        · rw [s2 i e i0 i1 (by omega) (by omega) z y]; exact Int.dvd_zero _
      · exact Int.dvd_trans g3 (s4 i e (by omega) i1 (by omega) (by omega))
  · exact (f5 p (by omega) (by omega)).2.2.2 q (by omega) (by omega)
theorem cm_dv {μ : zMem} {σ : Sp} {M m rk : Int} (hC : CmR μ σ) (hF : FnB (sE σ).toNat (sP σ) (rwP σ) rk m) (hM : M = m ∨ M = -m) (hP0 : 0 ≤ sP σ) (hr : rk ≤ 8) (k : Nat) (hk1 : 1 ≤ k) (hk : (k : Int) ≤ rk) (d : Int) : Dv (sE σ).toNat (LAm (sE σ).toNat M (sP σ) (fun i k => goE σ i k % M)) k d ↔ d ∣ μ 125 k := by
  obtain ⟨c0, c1, c2⟩ := hC
  obtain ⟨us, C, u1, u2, u3, u4, u5, u6⟩ := hF
  constructor
  · intro h
    rw [c2 k hk1 (by omega)]
    intro vs hv hl S hS
    refine h vs hl (fun v hx => ?_) S hS
    obtain ⟨j, j0, j1, e⟩ := rwL_mem _ _ (hv.subset hx)
    rw [e]
    refine (LA.row ⟨j, j0, by omega, rfl⟩ : LAm (sE σ).toNat M (sP σ) (fun i k => goE σ i k % M) (vA (sE σ).toNat (fun i k => goE σ i k % M) j)).cong fun e he => ?_
    unfold rwP vA
    rw [if_pos he, if_pos he]
    exact mod_dvd _ _
  · intro h
    have hz := (c2 k hk1 (by omega) d).mp h
    have hdm : d ∣ m := by
      have hsp := dv_span (d := d) (rwL σ (sP σ).toNat 0) wd1 k hz (us.take k) (by rw [List.length_take]; omega) (fun v hv => by
        obtain ⟨j, j0, j1, e⟩ := u2 v (List.mem_of_mem_take hv)
        rw [e]
        exact ZS.mem (rwL_in _ _ _ j0 (by omega)))
      have e : wdl (sE σ).toNat wd1 us C = wdl (sE σ).toNat (wdl (sE σ).toNat wd1 (us.take k)) (us.drop k) C := by rw [← wdl_app, List.take_append_drop]
      rw [u4, e]
      exact wdl_dvd (us.drop k) hsp C u3
    have hdM : d ∣ M := by
      rcases hM with e | e
      · rw [e]; exact hdm
      · rw [e]; exact Int.dvd_neg.mpr hdm
    refine (dv_LM hdM hz).sub fun v hv => ?_
    refine hv (LM (sE σ).toNat M (rwL σ (sP σ).toNat 0)) (fun a b x y hx hy => ?_) (fun x y hx hxy => ?_) ⟨fun _ => 0, ZS.zero _, fun e he => by rw [Int.sub_self]; exact Int.dvd_zero _⟩ (fun x hx => ?_)
    · obtain ⟨x', x1, x2⟩ := hx
      obtain ⟨y', y1, y2⟩ := hy
      refine ⟨fun e => a * x' e + b * y' e, ZS.lin a b x1 y1, fun e he => ?_⟩
      show M ∣ (a * x e + b * y e) - (a * x' e + b * y' e)
      have e1 : (a * x e + b * y e) - (a * x' e + b * y' e) = a * (x e - x' e) + b * (y e - y' e) := by
        rw [Int.mul_sub, Int.mul_sub]; omega
      rw [e1]
      exact Int.dvd_add (Int.dvd_mul_of_dvd_right (x2 e he)) (Int.dvd_mul_of_dvd_right (y2 e he))
    · obtain ⟨x', x1, x2⟩ := hx
      refine ⟨x', x1, fun e he => ?_⟩
      have e1 : y e - x' e = (y e - x e) + (x e - x' e) := by omega
      rw [e1]
      exact Int.dvd_add (hxy e he) (x2 e he)
    · obtain ⟨j, j0, j1, e⟩ := hx
      refine ⟨rwP σ j, ZS.mem (rwL_in _ _ _ j0 (by omega)), fun e' he => ?_⟩
      rw [e]
      unfold rwP vA
      rw [if_pos he, if_pos he]
      exact mod_dvd' _ _
theorem pf_pos {f : Nat → Int} : ∀ k, (∀ i, i < k → 1 ≤ f i) → 1 ≤ pf f k := by
  intro k
  induction k with
  | zero => intro _; exact Int.le_refl 1
  | succ k ih =>
    intro h
    have h1 := ih fun i hi => h i (by omega)
    have h2 := h k (by omega)
    have h3 : 1 * 1 ≤ pf f k * f k := Int.mul_le_mul h1 h2 (by omega) (by omega)
    show 1 ≤ pf f k * f k
    omega
theorem cm_pf {μ μ' : zMem} {σ : Sp} {M m rk : Int} (hC : CmR μ' σ) (hF : FnB (sE σ).toNat (sP σ) (rwP σ) rk m) (hM : M = m ∨ M = -m) (hE0 : 0 ≤ sE σ) (hP0 : 0 ≤ sP σ) (hr : 0 ≤ rk ∧ rk ≤ 8 ∧ rk ≤ sP σ ∧ rk ≤ sE σ) (hS : FcS (sE σ).toNat M (sP σ) (sE σ) rk (fun i k => goE σ i k % M) μ) (k : Nat) (hk : (k : Int) ≤ rk) : μ' 125 k = pf (fun p => μ 25 (p : Int)) k := by
  by_cases k0 : k = 0
  · rw [k0]; exact hC.1
  have h1 : ∀ d, d ∣ μ' 125 k ↔ d ∣ pf (fun p => μ 25 (p : Int)) k := fun d => (cm_dv hC hF hM hP0 hr.2.1 k (by omega) hk d).symm.trans (fc_pf hS (by omega) ⟨hr.1, hr.2.2.1, hr.2.2.2⟩ k hk d)
  have h2 : 1 ≤ pf (fun p => μ 25 (p : Int)) k := by
    obtain ⟨fp, D, A, f1, f2, f3, f4, f5⟩ := hS
    exact pf_pos k fun i hi => (f5 i (by omega) (by omega)).2.1
  exact Int.dvd_antisymm (hC.2.1 k (by omega) (by omega)).1 (by omega) ((h1 _).mp (Int.dvd_refl _)) ((h1 _).mpr (Int.dvd_refl _))
/-! both loops answer alike -/
theorem lock_bend {μ1 μ2 : zMem} {i rk : Int} (hr : 0 ≤ rk ∧ rk ≤ 8) (hwr : f_X10_wholeRank μ2 = some rk) (hf : ∀ t : Nat, (t : Int) < rk → 1 ≤ μ1 25 t ∧ μ1 25 t ≤ 16777216 ∧ μ2 125 t ≠ 0 ∧ μ2 125 ((t : Int) + 1) = μ2 125 t * μ1 25 t) : ∀ (m fu fv t : Nat) (c : Int), m < fu → m < fv → (t : Int) + m = rk → 0 ≤ c → c ≤ t → ∃ r, f_X9_bend_L35 i rk f_X9_bend_K82 f_X9_bend_K62 fu c t μ1 = some (r, μ1) ∧ f_X10_bend_L25 i f_X10_bend_K77 fv c ((t : Int) + 1) μ2 = some (r, μ2) := by
  intro m
  induction m with
  | zero =>
    intro fu fv t c hfu hfv ht c0 ct
    cases fu with
    | zero => omega
    | succ fu =>
      cases fv with
      | zero => omega
      | succ fv =>
        refine ⟨-4, ?_, ?_⟩
        · unfold f_X9_bend_L35
          rw [if_neg (by omega)]
          rfl
        · unfold f_X10_bend_L25
          rw [bnd_pos hwr, if_neg (by omega)]
          rfl
  | succ m ih =>
    intro fu fv t c hfu hfv ht c0 ct
    cases fu with
    | zero => omega
    | succ fu =>
      cases fv with
      | zero => omega
      | succ fv =>
        obtain ⟨h1, h2, h3, h4⟩ := hf t (by omega)
        have hq : zl (Int.tdiv (μ2 125 ((t : Int) + 1)) (μ2 125 t)) = μ1 25 t := by
          rw [h4, Int.mul_tdiv_cancel_left _ h3, zl_eq (by omega) (by omega)]
        have hc : ∀ k : Int, 0 ≤ k → k ≤ 8 → zw (k + 1) = k + 1 := fun k a b => zw_eq (by omega) (by omega)
        have e1 : zw ((t : Int) + 1 - 1) = t := by rw [zw_eq (by omega) (by omega)]; omega
        by_cases z1 : μ1 25 t ≤ 1
        · obtain ⟨r, a, b⟩ := ih fu fv (t + 1) c (by omega) (by omega) (by omega) c0 (by omega)
          rw [show ((t + 1 : Nat) : Int) = (t : Int) + 1 by omega] at a b
          refine ⟨r, ?_, ?_⟩
          · unfold f_X9_bend_L35
            simp only [zlet]
            rw [if_pos (by omega), chk_pos (by omega), if_pos z1, hc t (by omega) (by omega)]
            exact a
          · unfold f_X10_bend_L25
            simp only [zlet]
            rw [bnd_pos hwr, if_pos (by omega), chk_pos (by omega), e1, chk_pos (by omega), chk_pos h3, hq, if_pos z1, zw_eq (x := (t : Int) + 1 + 1) (by omega) (by omega)]
            exact b
        · by_cases z2 : c = i
          · refine ⟨μ1 25 t, ?_, ?_⟩
            · unfold f_X9_bend_L35
              simp only [zlet]
              rw [if_pos (by omega), chk_pos (by omega), if_neg z1, if_pos z2]
              unfold f_X9_bend_K62
              rw [chk_pos (by omega)]
            · unfold f_X10_bend_L25
              simp only [zlet]
              rw [bnd_pos hwr, if_pos (by omega), chk_pos (by omega), e1, chk_pos (by omega), chk_pos h3, hq, if_neg z1, if_pos z2]
          · obtain ⟨r, a, b⟩ := ih fu fv (t + 1) (c + 1) (by omega) (by omega) (by omega) (by omega) (by omega)
            rw [show ((t + 1 : Nat) : Int) = (t : Int) + 1 by omega] at a b
            refine ⟨r, ?_, ?_⟩
            · unfold f_X9_bend_L35
              simp only [zlet]
              rw [if_pos (by omega), chk_pos (by omega), if_neg z1, if_neg z2, hc t (by omega) (by omega), hc c c0 (by omega)]
              exact a
            · unfold f_X10_bend_L25
              simp only [zlet]
              rw [bnd_pos hwr, if_pos (by omega), chk_pos (by omega), e1, chk_pos (by omega), chk_pos h3, hq, if_neg z1, if_neg z2, zw_eq (x := (t : Int) + 1 + 1) (by omega) (by omega), hc c c0 (by omega)]
              exact b
/-! BEND agrees -/
theorem sim_bend {μ : zMem} {a b : Int} (h : Rel μ) : Ok (f_X9_bend a b μ) (fun v => Ok (f_X10_bend a b v.2) (fun w => w.1 = v.1 ∧ Rel w.2)) := by
  by_cases h1 : 0 ≤ a ∧ a ≤ 1
  rotate_left
  · refine sim_same h (r := -1) ?_ ?_
    · unfold f_X9_bend
      rw [if_pos (isOwn0.mpr h1)]
      rfl
    · unfold f_X10_bend
      rw [if_pos (isSpace0.mpr h1)]
      rfl
  by_cases hb : b < 0
  · refine sim_same h (r := -1) ?_ ?_
    · unfold f_X9_bend
      rw [if_neg (fun e => isOwn0.mp e h1), if_pos hb]
      rfl
    · unfold f_X10_bend
      rw [if_neg (fun e => isSpace0.mp e h1), if_pos hb]
      rfl
  have hk := h.own h1
  have hkb := hk.b
  obtain ⟨σ, c1, c2, c3, c4, c5⟩ := h.2.1 a h1.1 h1.2
  have hE0 := c4.2.2.1
  have hP0 := c5.1
  have hP2 := c5.2.1
  unfold f_X9_bend
  simp only [zlet]
  rw [if_neg (fun e => isOwn0.mp e h1), if_neg hb, chk_pos (by omega), chk_pos (by omega)]
  refine ok_bnd2.mpr ((c_findFactors hk c1 hk.sz c4 c5).imp fun w q => ?_)
  obtain ⟨q1, m, M, q2, q3, q4, q5, q6, q7, q8⟩ := q
  have hR : Rel w.2 := h.scr ⟨fun k hk _ => q1 k (by unfold rlv at hk; omega) (by unfold rlv at hk; omega) (by unfold rlv at hk; omega), by rw [q1 1 (by decide) (by decide) (by decide)], by rw [q1 19 (by decide) (by decide) (by decide)], fun i _ => by rw [q1 101 (by decide) (by decide) (by decide)]⟩
  have hMS : MS w.2 a σ := c3.congr fun k x y => q1 k (by omega) (by omega) (by omega)
  obtain ⟨μ2, e2, r1, r2⟩ := m_layCommon ⟨h1.1, by omega⟩ hMS c4 c5
  have hrk : 0 ≤ w.1 ∧ w.1 ≤ 8 := ⟨q3, by omega⟩
  have hcr := cm_rank r2 q2 hrk
  have hwr := m_wholeRank hrk hcr.1 hcr.2
  have hpf := fun k hk => cm_pf r2 q2 q7 hE0 hP0 ⟨q3, hrk.2, q4, q5⟩ q8 k hk
  have hM := q6
  unfold Mok at hM
  obtain ⟨r, l1, l2⟩ := lock_bend (μ1 := w.2) (i := b) hrk hwr (fun t ht => by
    obtain ⟨fp, D, A, f1, f2, f3, f4, f5⟩ := q8
    obtain ⟨_, g2, g3, _⟩ := f5 t (by omega) ht
    have g4 := Int.le_of_dvd (by omega) (Int.dvd_trans g3 f4)
    refine ⟨g2, by omega, hcr.1 t (by omega), ?_⟩
    have x1 := hpf t (by omega)
    have x2 := hpf (t + 1) (by omega)
    rw [show ((t + 1 : Nat) : Int) = (t : Int) + 1 by omega] at x2
    rw [x1, x2]
    rfl) w.1.toNat zfu zfu 0 0 (by unfold zfu; omega) (by unfold zfu; omega) (by omega) (by omega) (by omega)
  refine ⟨(r, w.2), l1, ?_⟩
  show Ok (f_X10_bend a b w.2) _
  unfold f_X10_bend
  rw [if_neg (fun e => isSpace0.mp e h1), if_neg hb, e2, bnd_pos rfl]
  refine ⟨(r, μ2), l2, rfl, ?_⟩
  exact hR.scr (r1.kpt (fun k hk => by unfold rlv; simp at hk; omega) (by decide))
