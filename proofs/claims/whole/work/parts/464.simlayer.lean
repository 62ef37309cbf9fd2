/-! LAYER agrees -/
theorem sols_p {p : (Int → Int) → Bool} {o : Nat} {t' : Int → Int} : ∀ (m : Nat) (x : Int) (t : Int → Int), t' ∈ sols p o m x t → p t' = true := by
  intro m
  induction m with
  | zero =>
    intro x t h
    unfold sols at h
    by_cases hp : p t = true
    · rw [if_pos hp, List.mem_singleton] at h
      rw [h]; exact hp
    · rw [if_neg hp] at h
      simp at h
  | succ m ih =>
    intro x t h
    unfold sols at h
    rw [List.mem_flatMap] at h
    obtain ⟨j, _, h⟩ := h
    exact ih _ _ h
theorem Rel.lay {μ μ1 μ2 : zMem} (h : Rel μ) (cf : ∀ k, ¬ (3 ≤ k ∧ k ≤ 15) → ¬ (27 ≤ k ∧ k ≤ 31) → μ1 k = μ k) (mf : ∀ k, ¬ (102 ≤ k ∧ k ≤ 108) → ¬ (116 ≤ k ∧ k ≤ 147) → k ≠ 101 → μ2 k = μ1 k) (m9 : μ2 101 9 = μ1 101 9) (hm : Ms 2 μ1 μ2) (hL : LyR μ2) : Rel μ2 := by
  obtain ⟨⟨r1, r2, r3⟩, r4, r5, r6, r7, r8⟩ := h
  have e : ∀ k, ¬ (3 ≤ k ∧ k ≤ 15) → ¬ (27 ≤ k ∧ k ≤ 31) → ¬ (102 ≤ k ∧ k ≤ 108) → ¬ (116 ≤ k ∧ k ≤ 147) → k ≠ 101 → μ2 k = μ k := fun k a b c d f => (mf k c d f).trans (cf k a b)
  have e1 : ∀ k, 102 ≤ k → k ≤ 108 → μ1 k = μ k := fun k a b => cf k (by omega) (by omega)
  refine ⟨⟨r1.congr fun k hk => e k (by omega) (by omega) (by omega) (by omega) (by omega), r2.congr (e 2 (by omega) (by omega) (by omega) (by omega) (by omega)) (by rw [e 1 (by omega) (by omega) (by omega) (by omega) (by omega)]), r3.congr fun k hk => e k (by omega) (by omega) (by omega) (by omega) (by omega)⟩, fun s s0 s1 => ?_, r5.congr (by rw [e 19 (by omega) (by omega) (by omega) (by omega) (by omega)]) (by rw [m9, cf 101 (by omega) (by omega)]) (e 20 (by omega) (by omega) (by omega) (by omega) (by omega)) (e 110 (by omega) (by omega) (by omega) (by omega) (by omega)), fun q q0 q1 => ?_, fun q q0 q1 => (r7 q q0 q1).congr ⟨q0, q1⟩ fun k hk => e k (by omega) (by omega) (by omega) (by omega) (by omega), hL⟩
  · obtain ⟨σ, c1, c2, c3, c4, c5⟩ := r4 s s0 s1
    have hk : PK (μ 2 s) := by
      have : s = 0 ∨ s = 1 := by omega
      rcases this with e | e <;> subst e
      · exact r2.1
      · exact r2.2.1
    unfold PK at hk
    refine ⟨σ, ?_⟩
    unfold SpR
    rw [e 2 (by omega) (by omega) (by omega) (by omega) (by omega)]
    exact ⟨c1.congr fun k a b => e k (by omega) (by omega) (by omega) (by omega) (by omega), c2.congr fun k a b => e k (by omega) (by omega) (by omega) (by omega) (by omega), hm.ms (by omega) (c4.mono (by omega) (by omega)) (c5.mono (by omega)) (c3.congr e1), c4, c5⟩
  · have hq := r6 q q0 q1
    unfold SlR at *
    rw [e (58 + 2 * q) (by omega) (by omega) (by omega) (by omega) (by omega), e (58 + 2 * q + 1) (by omega) (by omega) (by omega) (by omega) (by omega), e 148 (by omega) (by omega) (by omega) (by omega) (by omega), e 149 (by omega) (by omega) (by omega) (by omega) (by omega), e 150 (by omega) (by omega) (by omega) (by omega) (by omega), e 151 (by omega) (by omega) (by omega) (by omega) (by omega), e 152 (by omega) (by omega) (by omega) (by omega) (by omega)]
    rcases hq with hq | ⟨a1, a2, a3⟩
    · exact Or.inl hq
    · refine Or.inr ⟨a1, a2, ?_⟩
      rw [(hm.1 _ (by omega)).2.1, e1 103 (by omega) (by omega)]
      exact a3
theorem c_findLayer {μ : zMem} {s n x3 : Int} {σ : Sp} (hT : ShT μ) (hk : PK (μ 2 s)) (hs : 0 ≤ s ∧ s < 2) (hn : 2 ≤ n ∧ n ≤ 4) (hc : CS μ (μ 2 s) σ) (hcp : CP μ (μ 2 s) σ) (hw : WfE σ 8 12) (hp : WfP σ 8) (hm : mnL (fct n) (sN σ).toNat 1 = 0) (hx : 0 ≤ x3) : Ok (f_X6_begin (μ 2 s) (66 + 4 * n) μ) (fun μ6 => Ok (f_X6_findLayer x3 μ6) (fun w => Ft [28, 29, 30, 31] [5, 6, 7, 8, 9] μ w.2 ∧ w.2 27 9 = 66 + 4 * n ∧ w.2 27 8 = sN σ ∧ FdL n (sN σ).toNat 0 x3 (tbs (pL σ n) n (sN σ)) w.1 w.2)) := by
  have hz := hk.sz
  have ht : 32 < μ 2 s := by unfold PK at hk; omega
  have hE := hw.2.2.2.1
  have hNb := sN_b (σ := σ) hw.2.2.1
  have hfc := fct_pos hn
  obtain ⟨m1, m2⟩ := mn_nat hn hm
  refine (c_begin (n := n) ht hc hcp hz hw hp).imp fun μ2 q => ?_
  obtain ⟨q1, b1, b2, b3, b4, b5, b6⟩ := q
  have hT2 : ShT μ2 := q1.sht hT
  by_cases hN : sN σ = 0
  · rw [tbs_L0 hn hN]
    have z2 : zfu = (zfu - 1) + 1 := by unfold zfu; omega
    unfold f_X6_findLayer
    rw [z2]
    unfold f_X6_findLayer_L2
    rw [if_pos (by omega)]
    refine ok_bnd2.mpr ((c_nextLayer0 hn hT2 b1 (by rw [b2, hN]) b4).imp fun w r => ?_)
    obtain ⟨r1, r2⟩ := r
    rw [if_pos r2]
    exact ok_some.mpr ⟨q1.trans (r1.sub (by decide) (by decide)), by rw [r1.2 9 (by decide)]; exact b1, by rw [r1.2 8 (by decide)]; exact b2, Or.inl ⟨rfl, by simp⟩⟩
  · have hNN : ((sN σ).toNat : Int) = sN σ := by omega
    have hlf := lft_first (pF σ n) (fct n).toNat (sN σ).toNat (by omega) (fun _ => 0)
    have hwf := wgl_first (fct n).toNat (sN σ).toNat (by omega) (fun _ => 0)
    have hwl := wgt_le (o := (fct n).toNat) (by omega) (sN σ).toNat
    have hsl := sols_len (pF σ n) (fct n).toNat (sN σ).toNat 0 (fun _ => 0)
    have hfl := List.length_filter_le (fun t => isO n t (sN σ)) (sols (pF σ n) (fct n).toNat (sN σ).toNat 0 (fun _ => 0))
    have hst : StT μ2 n (sN σ).toNat (rms σ) 0 (fun _ => 0) 0 := ⟨b1, by rw [b2]; omega, b3, b6, fun j a b => by omega, b5, fun j a b => by omega, by omega, by omega⟩
    unfold f_X6_findLayer
    refine (c_findLayerL (N := (sN σ).toNat) (x1 := x3) hn hNN ⟨by omega, by omega⟩ hp hp.2.1 _ zfu 0 0 0 (fun _ => 0) μ2 rfl (by rw [hlf]; unfold zfu; omega) (by omega) (by rw [hlf]; omega) (by rw [hwf]; omega) hT2 hst (fun j h => by omega)).imp fun w q => ?_
    obtain ⟨w1, w2⟩ := q
    refine ⟨q1.trans (w1.sub (by decide) (by decide)), by rw [w1.2 9 (by decide)]; exact b1, by rw [w1.2 8 (by decide)]; exact b2, ?_⟩
    rw [hlf] at w2
    rw [tbs_L]
    exact w2
