/-! the reference's common divisors of all forms -/
def rwL (σ : Sp) : Nat → Int → List Vc
  | 0, _ => []
  | m + 1, f => rwP σ f :: rwL σ m (f + 1)
theorem rwL_mem {σ : Sp} {u : Vc} : ∀ (m : Nat) (f : Int), u ∈ rwL σ m f → ∃ j, f ≤ j ∧ j < f + m ∧ u = rwP σ j := by
  intro m
  induction m with
  | zero => intro f h; simp [rwL] at h
  | succ m ih =>
    intro f h
    rcases List.mem_cons.mp h with e | e
    · exact ⟨f, by omega, by omega, e⟩
    · obtain ⟨j, a, b, c⟩ := ih (f + 1) e
      exact ⟨j, by omega, by omega, c⟩
theorem rwL_in {σ : Sp} : ∀ (m : Nat) (f j : Int), f ≤ j → j < f + m → rwP σ j ∈ rwL σ m f := by
  intro m
  induction m with
  | zero => intro f j a b; omega
  | succ m ih =>
    intro f j a b
    by_cases e : j = f
    · rw [e]; exact List.mem_cons_self ..
    · exact List.mem_cons_of_mem _ (ih (f + 1) j (by omega) (by omega))
/-- rows, counts of bits -/
def Rws (μ : zMem) (s : Int) (σ : Sp) : Prop := MS μ s σ ∧ (∀ f e, 0 ≤ f → f < sP σ → 0 ≤ e → e < sE σ → μ 124 (48 * f + e) = goE σ f e) ∧ (∀ S : Nat, S < 4096 → μ 127 S = (pcb 12 S : Nat))
theorem Rws.cg {μ μ' : zMem} {s : Int} {σ : Sp} (h : Rws μ s σ) (hF : Fm [125, 126] [] μ μ') : Rws μ' s σ := by
  refine ⟨hF.ms (by unfold noSp; decide) h.1, fun f e a b c d => ?_, fun S hS => ?_⟩
  · rw [hF.1 124 (by decide) (by decide)]; exact h.2.1 f e a b c d
  · rw [hF.1 127 (by decide) (by decide)]; exact h.2.2 S hS
def Lvl (μ : zMem) (n : Nat) (ps : List Vc) : Prop := ∀ T : Nat, T < 2 ^ n → pcb n T = ps.length → μ 126 (4096 * ps.length + T) = wdl n wd1 ps T
def Cms (μ : zMem) : Prop := ∀ k, 0 ≤ k → k ≤ 8 → 0 ≤ μ 125 k ∧ μ 125 k ≤ 16777216
theorem pcb_12 {n S : Nat} (hn : n ≤ 12) (hS : S < 2 ^ n) : pcb 12 S = pcb n S := by
  have key : ∀ k, pcb (n + k) S = pcb n S := by
    intro k
    induction k with
    | zero => rfl
    | succ k ih =>
      have : S < 2 ^ (n + k) := Nat.lt_of_lt_of_le hS (Nat.pow_le_pow_right (by decide) (by omega))
      rw [show n + (k + 1) = (n + k) + 1 by omega, pcb_lo this, ih]
  have := key (12 - n)
  rw [show n + (12 - n) = 12 by omega] at this
  exact this
theorem wdl_b8 {σ : Sp} {ps : List Vc} (hp : WfP σ 8) (hl : ps.length ≤ 8) (hps : ∀ u ∈ ps, ∃ j, 0 ≤ j ∧ j < sP σ ∧ u = rwP σ j) (T : Nat) (hT : T < 2 ^ (sE σ).toNat) : -16777216 ≤ wdl (sE σ).toNat wd1 ps T ∧ wdl (sE σ).toNat wd1 ps T ≤ 16777216 := by
  have b1 := wdl_bd (n := (sE σ).toNat) ps (w := wd1) (B := 1) (by decide) (fun T _ => by unfold wd1; split <;> omega) (fun u hu => by
    obtain ⟨j, a, b, c⟩ := hps u hu
    rw [c]; exact l1_rwP hp ⟨a, b⟩) T hT
  have hpow : (8 : Int) ^ ps.length ≤ 16777216 := by
    have e1 : (8 : Int) ^ ps.length = ((8 ^ ps.length : Nat) : Int) := by rw [Int.natCast_pow]; rfl
    have e2 := Nat.pow_le_pow_right (n := 8) (by decide) hl
    rw [e1]
    have : (8 : Nat) ^ 8 = 16777216 := by decide
    omega
  omega
/-- one row more: its forms, and their common divisor -/
theorem m_rowForms {μ : zMem} {s f : Int} {σ : Sp} {ps : List Vc} {g : zMem → Option zMem} {Q : zMem → Prop} (hs : 0 ≤ s ∧ s < 3) (hw : WfE σ 8 12) (hp : WfP σ 8) (hR : Rws μ s σ) (hf : 0 ≤ f ∧ f < sP σ) (hl : (ps.length : Int) ≤ f) (hps : ∀ u ∈ ps, ∃ j, 0 ≤ j ∧ j < sP σ ∧ u = rwP σ j) (hL : Lvl μ (sE σ).toNat ps) (hC : Cms μ) (hg : ∀ μ', Fm [125, 126] [] μ μ' → (∀ j, j < 4096 * ((ps.length : Int) + 1) → μ' 126 j = μ 126 j) → (∀ k, k ≠ (ps.length : Int) + 1 → μ' 125 k = μ 125 k) → Lvl μ' (sE σ).toNat (ps ++ [rwP σ f]) → Cms μ' → (∀ d, d ∣ μ' 125 ((ps.length : Int) + 1) ↔ d ∣ μ 125 ((ps.length : Int) + 1) ∧ ∀ S, S < 2 ^ (sE σ).toNat → d ∣ wdl (sE σ).toNat wd1 (ps ++ [rwP σ f]) S) → Ok (g μ') Q) : Ok (f_X10_goRows_L33 s f (ps.length : Int) (2 ^ (sE σ).toNat) g zfu 0 μ) Q := by
  have hE0 := hw.2.2.1
  have hE := hw.2.2.2.1
  have hP8 := hp.2.1
  have hpow : (2 : Nat) ^ (sE σ).toNat ≤ 4096 := Nat.pow_le_pow_right (n := 2) (by decide) (show (sE σ).toNat ≤ 12 by omega)
  have hpI : (2 : Int) ^ (sE σ).toNat = ((2 ^ (sE σ).toNat : Nat) : Int) := by rw [Int.natCast_pow]; rfl
  have ew : wdl (sE σ).toNat wd1 (ps ++ [rwP σ f]) = wdg (sE σ).toNat (wdl (sE σ).toNat wd1 ps) (rwP σ f) := by rw [wdl_app]; rfl
  have hps' : ∀ u ∈ ps ++ [rwP σ f], ∃ j, 0 ≤ j ∧ j < sP σ ∧ u = rwP σ j := by
    intro u hu
    rcases List.mem_append.mp hu with q | q
    · exact hps u q
    · exact ⟨f, hf.1, hf.2, List.mem_singleton.mp q⟩
  have hl' : (ps ++ [rwP σ f]).length = ps.length + 1 := by simp
  have key : ∀ (m fu x : Nat) (μ1 : zMem), m < fu → x + m = 2 ^ (sE σ).toNat → Fm [125, 126] [] μ μ1 → (∀ j, j < 4096 * ((ps.length : Int) + 1) → μ1 126 j = μ 126 j) → (∀ k, k ≠ (ps.length : Int) + 1 → μ1 125 k = μ 125 k) → Cms μ1 → (∀ T : Nat, T < x → pcb (sE σ).toNat T = ps.length + 1 → μ1 126 (4096 * ((ps.length : Int) + 1) + T) = wdl (sE σ).toNat wd1 (ps ++ [rwP σ f]) T) → (∀ d, d ∣ μ1 125 ((ps.length : Int) + 1) ↔ d ∣ μ 125 ((ps.length : Int) + 1) ∧ ∀ S, S < x → d ∣ wdl (sE σ).toNat wd1 (ps ++ [rwP σ f]) S) → Ok (f_X10_goRows_L33 s f (ps.length : Int) (2 ^ (sE σ).toNat) g fu (x : Int) μ1) Q := by
    intro m
    induction m with
    | zero =>
      intro fu x μ1 hfu hx g1 g2 g3 g4 g5 g6
      cases fu with
      | zero => omega
      | succ fu =>
        unfold f_X10_goRows_L33
        rw [hpI, if_neg (by omega)]
        refine hg μ1 g1 g2 g3 (fun T hT hpc => ?_) g4 (by rw [show x = 2 ^ (sE σ).toNat by omega] at g6; exact g6)
        rw [hl', show ((ps.length + 1 : Nat) : Int) = (ps.length : Int) + 1 by omega]
        rw [hl'] at hpc
        exact g5 T (by omega) hpc
    | succ m ih =>
      intro fu x μ1 hfu hx g1 g2 g3 g4 g5 g6
      cases fu with
      | zero => omega
      | succ fu =>
        have hxn : x < 2 ^ (sE σ).toNat := by omega
        have hR1 := hR.cg g1
        have hL1 : Lvl μ1 (sE σ).toNat ps := by
          intro T hT hpc
          rw [g2 _ (by omega)]
          exact hL T hT hpc
        have hbits := hR1.2.2 x (by omega)
        rw [pcb_12 (by omega) hxn] at hbits
        unfold f_X10_goRows_L33
        simp only [zlet]
        rw [hpI, if_pos (by omega), chk_pos (by omega), hbits, zw_eq (x := (ps.length : Int) + 1) (by omega) (by omega), zw_eq (x := (x : Int) + 1) (by omega) (by omega)]
        by_cases hq : pcb (sE σ).toNat x = ps.length + 1
        · have hwo := m_worthOf (μ := μ1) (f := f) (wide := sE σ) (many := ps.length) (S := x) (w := wdl (sE σ).toNat wd1 ps) (v := rwP σ f) ⟨hf.1, by omega⟩ ⟨hE0, hE⟩ (by omega) hxn hq (fun e he => by
            have hgb := goE_b (e := (e : Int)) hp hf
            have ev : rwP σ f e = goE σ f e := by unfold rwP vA; rw [if_pos (by omega)]
            rw [hR1.2.1 f e hf.1 hf.2 (by omega) he, ev]
            exact ⟨rfl, hgb⟩) (fun T hT hpc => hL1 T hT hpc) (fun T hT => wdl_b8 hp (by omega) hps T hT)
          rw [← ew] at hwo
          have hvb := wdl_b8 hp (by rw [hl']; omega) hps' x hxn
          have hcm := g4 ((ps.length : Int) + 1) (by omega) (by omega)
          obtain ⟨gg, q1, q2, q3, q4⟩ := m_gcd (a := μ1 125 ((ps.length : Int) + 1)) (b := wdl (sE σ).toNat wd1 (ps ++ [rwP σ f]) x) (by omega) hvb
          rw [if_pos (by omega), chk_pos hs, hR1.1.2.1, bnd_pos hwo, zw_eq (x := 4096 * ((ps.length : Int) + 1)) (by omega) (by omega), zw_eq (x := 4096 * ((ps.length : Int) + 1) + (x : Int)) (by omega) (by omega), chk_pos (by omega), chk_pos (by omega), zup_n _ _ _ (by decide), bnd_pos q1, chk_pos (by omega), show (x : Int) + 1 = ((x + 1 : Nat) : Int) by omega]
          have hpc12 : ((pcb (sE σ).toNat x : Nat) : Int) = (ps.length : Int) + 1 := by omega
          refine ih fu (x + 1) _ (by omega) (by omega) ((g1.up (by decide) (by decide) _ _).up (by decide) (by decide) _ _) (fun j hj => ?_) (fun k hk => ?_) (fun k k0 k1 => ?_) (fun T hT hpc => ?_) (fun d => ?_)
          · rw [zup_n _ _ _ (by decide), zup_s, up1_n _ _ (by omega)]
            exact g2 j hj
          · rw [zup_s, up1_n _ _ hk, zup_n _ _ _ (by decide)]
            exact g3 k hk
          · rw [zup_s]
            by_cases e : k = (ps.length : Int) + 1
            · rw [e, up1_s]; exact ⟨q3, q2⟩
            · rw [up1_n _ _ e, zup_n _ _ _ (by decide)]; exact g4 k k0 k1
          · rw [zup_n _ _ _ (by decide), zup_s]
            by_cases e : T = x
            · rw [e, up1_s]
            · rw [up1_n _ _ (by omega)]
              exact g5 T (by omega) hpc
          · rw [zup_s, up1_s, q4, g6]
            constructor
            · rintro ⟨⟨h1, h2⟩, h3⟩
              refine ⟨h1, fun S hS => ?_⟩
              by_cases e : S = x
              · rw [e]; exact h3
              · exact h2 S (by omega)
            · rintro ⟨h1, h2⟩
              exact ⟨⟨h1, fun S hS => h2 S (by omega)⟩, h2 x (by omega)⟩
        · rw [if_neg (by omega), show (x : Int) + 1 = ((x + 1 : Nat) : Int) by omega]
          refine ih fu (x + 1) μ1 (by omega) (by omega) g1 g2 g3 g4 (fun T hT hpc => ?_) (fun d => ?_)
          · by_cases e : T = x
            · rw [e] at hpc; exact absurd hpc hq
            · exact g5 T (by omega) hpc
          · rw [g6]
            constructor
            · rintro ⟨h1, h2⟩
              refine ⟨h1, fun S hS => ?_⟩
              by_cases e : S = x
              · rw [e, wdl_deg _ x hxn (by rw [hl']; exact hq)]
                exact Int.dvd_zero d
              · exact h2 S (by omega)
            · rintro ⟨h1, h2⟩
              exact ⟨h1, fun S hS => h2 S (by omega)⟩
  exact key (2 ^ (sE σ).toNat) zfu 0 μ (by unfold zfu; omega) (by omega) (Fm.refl _ _ _) (fun _ _ => rfl) (fun _ _ => rfl) hC (fun T hT => by omega) (fun d => ⟨fun h => ⟨h, fun S hS => by omega⟩, fun h => h.1⟩)
theorem m_goRows {s : Int} {σ : Sp} (hs : 0 ≤ s ∧ s < 3) (hw : WfE σ 8 12) (hp : WfP σ 8) : ∀ (m fu : Nat) (f : Int) (ps : List Vc) (μ : zMem), m < fu → 0 ≤ f → f + m = sP σ → (ps.length : Int) ≤ f → (∀ u ∈ ps, ∃ j, 0 ≤ j ∧ j < sP σ ∧ u = rwP σ j) → Rws μ s σ → Lvl μ (sE σ).toNat ps → Cms μ → Ok (f_X10_goRows fu s f (ps.length : Int) μ) (fun μ' => Fm [125, 126] [] μ μ' ∧ (∀ j, j < 4096 * ((ps.length : Int) + 1) → μ' 126 j = μ 126 j) ∧ Cms μ' ∧ (∀ k, k ≤ (ps.length : Int) → μ' 125 k = μ 125 k) ∧ ∀ k : Nat, ps.length < k → k ≤ 8 → ∀ d, d ∣ μ' 125 k ↔ d ∣ μ 125 k ∧ ∀ vs, List.Sublist vs (rwL σ m f) → vs ≠ [] → ps.length + vs.length = k → ∀ S, S < 2 ^ (sE σ).toNat → d ∣ wdl (sE σ).toNat wd1 (ps ++ vs) S) := by
  have hE0 := hw.2.2.1
  have hE := hw.2.2.2.1
  have hP8 := hp.2.1
  intro m
  induction m with
  | zero =>
    intro fu f ps μ hfu f0 hf hl hps hR hL hC
    cases fu with
    | zero => omega
    | succ fu =>
      unfold f_X10_goRows
      rw [chk_pos hs, hR.1.2.2.1, if_pos (by omega)]
      refine ok_some.mpr ⟨Fm.refl _ _ _, fun _ _ => rfl, hC, fun _ _ => rfl, fun k _ _ d => ⟨fun h => ⟨h, fun vs hv hne => ?_⟩, fun h => h.1⟩⟩
      have : vs = [] := List.sublist_nil.mp hv
      exact absurd this hne
  | succ m ih =>
    intro fu f ps μ hfu f0 hf hl hps hR hL hC
    cases fu with
    | zero => omega
    | succ fu =>
      have hl' : (ps ++ [rwP σ f]).length = ps.length + 1 := by simp
      have hps' : ∀ u ∈ ps ++ [rwP σ f], ∃ j, 0 ≤ j ∧ j < sP σ ∧ u = rwP σ j := by
        intro u hu
        rcases List.mem_append.mp hu with q | q
        · exact hps u q
        · exact ⟨f, f0, by omega, List.mem_singleton.mp q⟩
      unfold f_X10_goRows
      simp only [zlet]
      rw [chk_pos hs, hR.1.2.2.1, if_neg (by omega), zw_eq (x := f + 1) (by omega) (by omega)]
      refine ok_bnd.mpr ((ih fu (f + 1) ps μ (by omega) (by omega) (by omega) (by omega) hps hR hL hC).imp fun μ1 q => ?_)
      obtain ⟨a1, a2, a3, a4, a5⟩ := q
      have hR1 := hR.cg a1
      have hsh : zshl 1 (sE σ) = 2 ^ (sE σ).toNat := by
        have hpw : (2 : Nat) ^ (sE σ).toNat ≤ 4096 := Nat.pow_le_pow_right (n := 2) (by decide) (show (sE σ).toNat ≤ 12 by omega)
        have := zshl_nat (a := 1) (n := (sE σ).toNat) (by omega) (by omega)
        rw [show (((sE σ).toNat : Nat) : Int) = sE σ by omega, Nat.one_mul, Int.natCast_pow] at this
        exact this
      rw [chk_pos hs, hR1.1.2.1, hsh]
      have hpw2 : (2 : Nat) ^ (sE σ).toNat ≤ 4096 := Nat.pow_le_pow_right (n := 2) (by decide) (show (sE σ).toNat ≤ 12 by omega)
      have hLv : Lvl μ1 (sE σ).toNat ps := by
        intro T hT hpc
        rw [a2 _ (by omega)]
        exact hL T hT hpc
      refine m_rowForms hs hw hp hR1 ⟨f0, by omega⟩ hl hps hLv a3 fun μ2 b1 b2 b3 b4 b5 b6 => ?_
      unfold f_X10_goRows_K113
      rw [zw_eq (x := f + 1) (by omega) (by omega), zw_eq (x := (ps.length : Int) + 1) (by omega) (by omega), show (ps.length : Int) + 1 = (((ps ++ [rwP σ f]).length : Nat) : Int) by rw [hl']; omega]
      refine ok_bnd.mpr ((ih fu (f + 1) (ps ++ [rwP σ f]) μ2 (by omega) (by omega) (by omega) (by rw [hl']; omega) hps' (hR1.cg b1) b4 b5).imp fun μ3 q => ok_some.mpr ?_)
      obtain ⟨c1, c2, c3, c4, c5⟩ := q
      rw [hl'] at c2 c4 c5
      refine ⟨(a1.trans b1).trans c1, fun j hj => ?_, c3, fun k hk => ?_, fun k k0 k1 d => ?_⟩
      · have hj' : j < 4096 * ((ps.length : Int) + 1) := by
          rw [hl'] at hj
          omega
        rw [c2 j (by omega), b2 j hj', a2 j hj']
      · rw [c4 k (by omega), b3 k (by omega), a4 k hk]
      · have split3 : (∀ vs, List.Sublist vs (rwL σ (m + 1) f) → vs ≠ [] → ps.length + vs.length = k → ∀ S, S < 2 ^ (sE σ).toNat → d ∣ wdl (sE σ).toNat wd1 (ps ++ vs) S) ↔ (∀ vs, List.Sublist vs (rwL σ m (f + 1)) → vs ≠ [] → ps.length + vs.length = k → ∀ S, S < 2 ^ (sE σ).toNat → d ∣ wdl (sE σ).toNat wd1 (ps ++ vs) S) ∧ (k = ps.length + 1 → ∀ S, S < 2 ^ (sE σ).toNat → d ∣ wdl (sE σ).toNat wd1 (ps ++ [rwP σ f]) S) ∧ (∀ vs, List.Sublist vs (rwL σ m (f + 1)) → vs ≠ [] → ps.length + 1 + vs.length = k → ∀ S, S < 2 ^ (sE σ).toNat → d ∣ wdl (sE σ).toNat wd1 (ps ++ [rwP σ f] ++ vs) S) := by
          constructor
          · intro h
            refine ⟨fun vs hv => h vs (List.Sublist.cons _ hv), fun hk S hS => h [rwP σ f] ?_ (by simp) (by simp; omega) S hS, fun vs hv hne hk S hS => ?_⟩
            · exact (List.nil_sublist (rwL σ m (f + 1))).cons_cons (rwP σ f)
            · rw [List.append_assoc]
              exact h (rwP σ f :: vs) (hv.cons_cons _) (by simp) (by simp; omega) S hS
          · rintro ⟨h1, h2, h3⟩ vs hv hne hk S hS
            rcases List.sublist_cons_iff.mp hv with q | ⟨r, q, hr⟩
            · exact h1 vs q hne hk S hS
            · by_cases hrn : r = []
              · rw [q, hrn]
                rw [q, hrn] at hk
                exact h2 (by simp at hk; omega) S hS
              · rw [q] at hk ⊢
                have := h3 r hr hrn (by simp at hk; omega) S hS
                rw [List.append_assoc] at this
                exact this
        rw [split3]
        by_cases hk1 : k = ps.length + 1
        · have e3 : μ3 125 (k : Int) = μ2 125 ((ps.length : Int) + 1) := by rw [c4 (k : Int) (by omega), show (k : Int) = (ps.length : Int) + 1 by omega]
          rw [e3, b6, show (ps.length : Int) + 1 = (k : Int) by omega, a5 k k0 k1]
          constructor
          · rintro ⟨⟨h1, h2⟩, h3⟩
            exact ⟨h1, h2, fun _ => h3, fun vs hv hne hl2 => by
              have : vs.length ≠ 0 := fun q => hne (List.length_eq_zero_iff.mp q)
              omega⟩
          · rintro ⟨h1, h2, h3, h4⟩
            exact ⟨⟨h1, h2⟩, h3 hk1⟩
        · rw [c5 k (by omega) k1, b3 (k : Int) (by omega), a5 k k0 k1]
          constructor
          · rintro ⟨⟨h1, h2⟩, h3⟩
            exact ⟨h1, h2, fun q => absurd q hk1, h3⟩
          · rintro ⟨h1, h2, h3, h4⟩
            exact ⟨⟨h1, h2⟩, h4⟩
