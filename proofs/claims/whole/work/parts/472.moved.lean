/-! MOVED: the word's turns; the reference's search -/
def wrw (σ : Sp) (w : Int → Int) : Nat → Int → List Int
  | 0, _ => []
  | m + 1, i => if isTn σ (w i / 2) then tcd σ (w i) :: wrw σ w m (i + 1) else wrw σ w m (i + 1)
theorem wrw_rg {σ : Sp} {w : Int → Int} {L : Int} (h : ∀ i, 0 ≤ i → i < L → 0 ≤ w i ∧ w i < 2 * sE σ) : ∀ (m : Nat) (i : Int), 0 ≤ i → i + m ≤ L → WdR (sN σ) (wrw σ w m i) := by
  intro m
  induction m with
  | zero => intro i _ _ c hc; simp [wrw] at hc
  | succ m ih =>
    intro i i0 i1
    unfold wrw
    by_cases hi : isTn σ (w i / 2) = true
    · rw [if_pos hi]
      intro c hc
      rcases List.mem_cons.mp hc with e | e
      · rw [e]; exact tcd_rg (h i i0 (by omega)) hi
      · exact ih (i + 1) (by omega) (by omega) c e
    · rw [if_neg hi]; exact ih (i + 1) (by omega) (by omega)
theorem wrw_len (σ : Sp) (w : Int → Int) : ∀ (m : Nat) (i : Int), (wrw σ w m i).length ≤ m := by
  intro m
  induction m with
  | zero => intro i; simp [wrw]
  | succ m ih =>
    intro i
    unfold wrw
    have := ih (i + 1)
    split
    · simp; exact this
    · omega
def mvq (n : Int) (ws : List Int) (t : Int → Int) : Bool := !(decide (alg n t ws 0 = 0))
theorem m_movesSome {μ : zMem} {n q L : Int} {σ : Sp} {t : Int → Int} {w : Int → Int} (hq : 0 ≤ q ∧ q < 4) (hm : MT μ σ) (hE : sE σ ≤ 48) (hn : 2 ≤ n ∧ n ≤ 4) (h28 : μ 101 28 = n) (hN : sN σ ≤ 16) (hb : MTb μ n (sN σ) t) (ht : TbR n (sN σ) t) (hL : 0 ≤ L ∧ L ≤ 16) (h149 : μ 149 q = L) (h152 : ∀ i, 0 ≤ i → i < L → μ 152 (16 * q + i) = stp (w i)) (hw : ∀ i, 0 ≤ i → i < L → 0 ≤ w i ∧ w i < 2 * sE σ) : f_X10_movesSome q μ = some (b2i (mvq n (wrw σ w L.toNat 0) t)) := by
  have hwd := wrw_rg hw L.toNat 0 (by omega) (by omega)
  have k18 : ∀ (g : Int → Option Int) (m fu : Nat) (i a : Int), m < fu → 0 ≤ i → i + m = L → 0 ≤ a ∧ a < n → f_X10_movesSome_L18 q μ g fu a i = g (mvs n t (wrw σ w m i) a) := by
    intro g m
    induction m with
    | zero =>
      intro fu i a hfu i0 hi ha
      cases fu with
      | zero => omega
      | succ fu =>
        unfold f_X10_movesSome_L18
        rw [chk_pos (by omega), h149, if_neg (by omega)]
        rfl
    | succ m ih =>
      intro fu i a hfu i0 hi ha
      cases fu with
      | zero => omega
      | succ fu =>
        have hr := hw i i0 (by omega)
        unfold f_X10_movesSome_L18
        simp only [zlet]
        rw [chk_pos (by omega), h149, if_pos (by omega), zw_eq (x := 16 * q) (by omega) (by omega), zw_eq (x := 16 * q + i) (by omega) (by omega), chk_pos (by omega), h152 i i0 (by omega), bnd_pos (m_stepMoves hm hE hn hN hb hr ha), zw_eq (by omega) (by omega)]
        unfold wrw
        by_cases hi2 : isTn σ (w i / 2) = true
        · rw [if_pos hi2, if_pos hi2]
          have := prm_rg hn (tdo_rg hn ht (tcd_rg hr hi2)) ha
          rw [ih fu (i + 1) _ (by omega) (by omega) (by omega) this]
          rfl
        · rw [if_neg hi2, if_neg hi2]
          exact ih fu (i + 1) a (by omega) (by omega) (by omega) ha
  have key : ∀ (m fu : Nat) (k : Int) (b : Bool), m < fu → 0 ≤ k → k + m = n → ∃ b', f_X10_movesSome_L4 q μ fu (b2i b) k = some (b2i b') ∧ (b' = true ↔ b = true ∨ ∃ x, k ≤ x ∧ x < n ∧ mvs n t (wrw σ w L.toNat 0) x ≠ x) := by
    intro m
    induction m with
    | zero =>
      intro fu k b hfu k0 hk
      cases fu with
      | zero => omega
      | succ fu =>
        refine ⟨b, ?_, fun h => Or.inl h, fun h => ?_⟩
        · unfold f_X10_movesSome_L4
          have : 0 ≤ b2i b ∧ b2i b ≤ 1 := by unfold b2i; split <;> omega
          rw [h28, if_neg (by omega), chk_pos this]
        · rcases h with h | ⟨x, a, c, _⟩
          · exact h
          · omega
    | succ m ih =>
      intro fu k b hfu k0 hk
      cases fu with
      | zero => omega
      | succ fu =>
        have hk18 := k18 (f_X10_movesSome_K55 (b2i b) k (f_X10_movesSome_L4 q μ fu)) L.toNat zfu 0 k (by unfold zfu; omega) (by omega) (by omega) ⟨k0, by omega⟩
        have step : f_X10_movesSome_L4 q μ (fu + 1) (b2i b) k = f_X10_movesSome_L4 q μ fu (b2i (b || decide (mvs n t (wrw σ w L.toNat 0) k ≠ k))) (k + 1) := by
          conv => lhs; unfold f_X10_movesSome_L4
          rw [h28, if_pos (by omega), hk18]
          unfold f_X10_movesSome_K55 f_X10_movesSome_J65 f_X10_movesSome_J70
          simp only [zlet]
          rw [zw_eq (by omega) (by omega)]
          cases b with
          | true => rfl
          | false =>
            show (if (0 : Int) = 0 then _ else _) = _
            rw [if_pos rfl]
            by_cases hmk : mvs n t (wrw σ w L.toNat 0) k = k
            · rw [if_pos hmk]
              simp [hmk, b2i]
            · rw [if_neg hmk]
              simp [hmk, b2i]
        obtain ⟨b', b1, b2⟩ := ih fu (k + 1) (b || decide (mvs n t (wrw σ w L.toNat 0) k ≠ k)) (by omega) (by omega) (by omega)
        refine ⟨b', step.trans b1, ?_⟩
        rw [b2, Bool.or_eq_true, decide_eq_true_eq]
        constructor
        · intro h
          rcases h with (h | h) | ⟨x, a, c, d⟩
          · exact Or.inl h
          · exact Or.inr ⟨k, by omega, by omega, h⟩
          · exact Or.inr ⟨x, by omega, c, d⟩
        · intro h
          rcases h with h | ⟨x, a, c, d⟩
          · exact Or.inl (Or.inl h)
          · by_cases hx : x = k
            · rw [hx] at d; exact Or.inl (Or.inr d)
            · exact Or.inr ⟨x, by omega, c, d⟩
  obtain ⟨b', b1, b2⟩ := key n.toNat zfu 0 false (by unfold zfu; omega) (by omega) (by omega)
  unfold f_X10_movesSome
  have e : b' = mvq n (wrw σ w L.toNat 0) t := by
    rw [Bool.eq_iff_iff, b2]
    unfold mvq
    rw [Bool.not_eq_true', decide_eq_false_iff_not, alg_0 hn ht _ hwd]
    constructor
    · intro h
      rcases h with h | ⟨x, a, c, d⟩
      · exact absurd h (by decide)
      · exact fun q => d (q x a c)
    · intro h
      refine Or.inr ?_
      by_cases hq2 : ∃ x, 0 ≤ x ∧ x < n ∧ mvs n t (wrw σ w L.toNat 0) x ≠ x
      · exact hq2
      · exact absurd (fun x a c => Classical.byContradiction fun d => hq2 ⟨x, a, c, d⟩) h
  rw [← e]
  exact b1
/-- a search that ends at the first that moves -/
theorem m_goMoves {μ : zMem} {s n : Int} {N : Nat} {p q : (Int → Int) → Bool} (hn : 2 ≤ n ∧ n ≤ 4) (ho : MOr μ n) (hN : μ 101 29 = N) (hN16 : N ≤ 16) (hleaf : ∀ (fu : Nat) (t : Int → Int) (μ1 : zMem), Fm [128, 129] [] μ μ1 → MTb μ1 n N t → TbR n N t → Ok (f_X10_goTables (fu + 1) s N μ1) (fun w => w.2 = μ1 ∧ w.1 = b2i (p t && q t))) :
    ∀ (m fu : Nat) (x : Int) (t : Int → Int) (μ1 : zMem), m < fu → 0 ≤ x → x + m = N → Fm [128, 129] [] μ μ1 → MTb μ1 n x t → TbR n x t → Ok (f_X10_goTables fu s x μ1) (fun w => Fm [128, 129] [] μ w.2 ∧ w.1 = b2i ((sols p (fct n).toNat m x t).any q) ∧ MTb w.2 n x t) := by
  have hfc := fct_pos hn
  intro m
  induction m with
  | zero =>
    intro fu x t μ1 hfu x0 hx hF hB hR
    cases fu with
    | zero => omega
    | succ fu =>
      have e : x = N := by omega
      subst e
      refine (hleaf fu t μ1 hF hB hR).imp fun w r => ?_
      obtain ⟨r1, r2⟩ := r
      rw [r1]
      refine ⟨hF, ?_, hB⟩
      rw [r2]
      unfold sols
      by_cases hp : p t = true
      · rw [if_pos hp, hp]; simp
      · rw [if_neg hp, Bool.eq_false_iff.mpr hp]; rfl
  | succ m ih =>
    intro fu x t μ1 hfu x0 hx hF hB hR
    cases fu with
    | zero => omega
    | succ fu =>
      unfold f_X10_goTables
      rw [hF.2 29 (by decide), hN, if_pos (by omega)]
      have key : ∀ (k z y : Nat) (μ2 : zMem), k < z → y + k = (fct n).toNat → Fm [128, 129] [] μ μ2 → MTb μ2 n x t → Ok (f_X10_goTables_L10 s x (f_X10_goTables fu) z (y : Int) μ2) (fun w => Fm [128, 129] [] μ w.2 ∧ w.1 = b2i ((solF p (fct n).toNat m x t y k).any q) ∧ MTb w.2 n x t) := by
        intro k
        induction k with
        | zero =>
          intro z y μ2 hz hy hF2 hB2
          cases z with
          | zero => omega
          | succ z =>
            unfold f_X10_goTables_L10
            rw [hF2.2 30 (by decide), ho.2.1, if_neg (by omega), solF_nil]
            exact ok_some.mpr ⟨hF2, rfl, hB2⟩
        | succ k ihk =>
          intro z y μ2 hz hy hF2 hB2
          cases z with
          | zero => omega
          | succ z =>
            unfold f_X10_goTables_L10
            simp only [zlet]
            rw [hF2.2 30 (by decide), ho.2.1, if_pos (by omega), zw_eq (x := x + 1) (by omega) (by omega), zw_eq (x := (y : Int) + 1) (by omega) (by omega)]
            have hj : 0 ≤ (y : Int) ∧ (y : Int) < fct n := by omega
            refine ok_bnd.mpr ((m_putTurn hn (hF2.mor (by decide) (by decide) (by decide) ho) ⟨x0, by omega⟩ hj hB2).imp fun μ3 q3 => ?_)
            obtain ⟨q1, q2⟩ := q3
            have hF3 := hF2.trans q1
            refine ok_bnd2.mpr ((ih fu (x + 1) (seT t x y) μ3 (by omega) (by omega) (by omega) hF3 q2 (seT_R hR hj)).imp fun w r => ?_)
            obtain ⟨w1, w2, w3⟩ := r
            have hB4 : MTb w.2 n x t := by
              intro i kk i0 i1 k0 k1
              have := w3 i kk i0 (by omega) k0 k1
              unfold seT at this
              rw [if_neg (by omega)] at this
              exact this
            rw [solF_succ, List.any_append]
            by_cases hr : (sols p (fct n).toNat m (x + 1) (seT t x (y : Int))).any q = true
            · rw [hr] at w2
              rw [w2, if_neg (by decide), hr, Bool.true_or]
              exact ok_some.mpr ⟨w1, rfl, hB4⟩
            · rw [Bool.eq_false_iff.mpr hr] at w2
              rw [w2, if_pos (by decide), Bool.eq_false_iff.mpr hr, Bool.false_or]
              exact ihk z (y + 1) w.2 (by omega) (by omega) w1 hB4
      exact key (fct n).toNat zfu 0 μ1 (by unfold zfu; omega) (by omega) hF hB
theorem m_seek2 {μ : zMem} {s n q L : Int} {σ : Sp} {w : Int → Int} (hc : MS μ s σ) (hs : 0 ≤ s ∧ s < 3) (hn : 2 ≤ n ∧ n ≤ 4) (hw : WfE σ 32 48) (hp : WfP σ 32) (hm : MT μ σ) (ho : MOr μ n) (h29 : μ 101 29 = sN σ) (hmn : mnL (fct n) (sN σ).toNat 1 = 0) (hq : 0 ≤ q ∧ q < 4) (h36 : μ 101 36 = q) (hL : 0 ≤ L ∧ L ≤ 16) (h149 : μ 149 q = L) (h152 : ∀ i, 0 ≤ i → i < L → μ 152 (16 * q + i) = stp (w i)) (hww : ∀ i, 0 ≤ i → i < L → 0 ≤ w i ∧ w i < 2 * sE σ) : Ok (f_X10_seek s 2 (-1) μ) (fun v => Fm [128, 129] [33, 34, 35] μ v.2 ∧ v.1 = b2i ((tbs (pH σ n) n (sN σ)).any (mvq n (wrw σ w L.toNat 0)))) := by
  obtain ⟨m1, m2⟩ := mn_nat hn hmn
  have hN0 := (sN_b (σ := σ) hw.2.2.1).1
  have hE := hw.2.2.2.1
  have hNN : ((sN σ).toNat : Int) = sN σ := by omega
  unfold f_X10_seek
  simp only [zlet]
  have g1 : Fm [] [33, 34, 35] μ (zup (zup (zup μ 101 33 2) 101 34 (-1)) 101 35 0) := (((Fm.refl _ _ μ).upo (by decide) _).upo (by decide) _).upo (by decide) _
  generalize hg : zup (zup (zup μ 101 33 2) 101 34 (-1)) 101 35 0 = μ3 at g1 ⊢
  have e33 : μ3 101 33 = 2 := by
    rw [← hg]
    simp (disch := omega) only [zup_s, zup_n, up1_s, up1_n]
  have e36 : μ3 101 36 = q := by rw [g1.2 36 (by decide)]; exact h36
  have c3 : MS μ3 s σ := g1.ms (by unfold noSp; decide) hc
  have t3 : MT μ3 σ := by
    unfold MT
    rw [g1.1 120 (by decide) (by decide), g1.1 121 (by decide) (by decide), g1.1 123 (by decide) (by decide), g1.2 20 (by decide)]
    exact hm
  have o3 : MOr μ3 n := g1.mor (by decide) (by decide) (by decide) ho
  have n3 : μ3 101 29 = sN σ := by rw [g1.2 29 (by decide)]; exact h29
  have hleaf : ∀ (fu : Nat) (t : Int → Int) (μ1 : zMem), Fm [128, 129] [] μ3 μ1 → MTb μ1 n ((sN σ).toNat : Int) t → TbR n ((sN σ).toNat : Int) t → Ok (f_X10_goTables (fu + 1) s ((sN σ).toNat : Int) μ1) (fun v => v.2 = μ1 ∧ v.1 = b2i (pH σ n t && mvq n (wrw σ w L.toNat 0) t)) := by
    rw [hNN]
    intro fu t μ1 hF hB hR
    have hm1 : MT μ1 σ := by
      unfold MT
      rw [hF.1 120 (by decide) (by decide), hF.1 121 (by decide) (by decide), hF.1 123 (by decide) (by decide), hF.2 20 (by decide)]
      exact t3
    have hc1 : MS μ1 s σ := hF.ms (by unfold noSp; decide) c3
    have h28 : μ1 101 28 = n := by rw [hF.2 28 (by decide)]; exact o3.1
    unfold f_X10_goTables
    rw [hF.2 29 (by decide), n3, if_neg (by omega)]
    refine ok_bnd.mpr ((m_holds hc1 hs hw hp hm1 hn h28 (by omega) hR hB).imp fun v r => ?_)
    rcases r with ⟨q1, q2⟩ | ⟨q1, q2⟩
    · have e : pH σ n t = true := (pH_iff hn hp hR).mpr q2
      have hmv := m_movesSome (w := w) hq hm1 (by omega) hn h28 (by omega) hB hR hL (by rw [hF.1 149 (by decide) (by decide), g1.1 149 (by decide) (by decide)]; exact h149) (fun i a b => by rw [hF.1 152 (by decide) (by decide), g1.1 152 (by decide) (by decide)]; exact h152 i a b) hww
      rw [q1, if_neg (by decide), hF.2 33 (by decide), e33, if_pos rfl, hF.2 36 (by decide), e36, bnd_pos hmv, e, Bool.true_and]
      exact ok_some.mpr ⟨rfl, rfl⟩
    · have e : pH σ n t = false := Bool.eq_false_iff.mpr fun h => q2 ((pH_iff hn hp hR).mp h)
      rw [q1, if_pos rfl, e, Bool.false_and]
      exact ok_some.mpr ⟨rfl, rfl⟩
  have hgo := m_goMoves (N := (sN σ).toNat) (p := pH σ n) (q := mvq n (wrw σ w L.toNat 0)) hn o3 (by rw [n3, hNN]) (by omega) hleaf (sN σ).toNat 40 0 (fun _ => 0) μ3 (by omega) (by omega) (by omega) (Fm.refl _ _ _) (fun j k a b => by omega) (fun j a b => by omega)
  refine ok_bnd2.mpr (hgo.imp fun v r => ?_)
  obtain ⟨v1, v2, _⟩ := r
  exact ok_some.mpr ⟨(g1.sub (by decide) (by decide)).trans (v1.sub (by decide) (by decide)), v2⟩
