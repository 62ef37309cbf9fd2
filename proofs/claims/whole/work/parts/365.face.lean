set_option maxHeartbeats 8000000 in
theorem sim_face {μ : zMem} {a : Int} (h : Rel μ) : Ok (f_X9_face a μ) (fun v => Ok (f_X10_face a v.2) (fun w => w.1 = v.1 ∧ Rel w.2)) := by
  by_cases h1 : 0 ≤ a ∧ a ≤ 1
  · have hk := h.own h1
    have hb := hk.b
    have hz := hk.sz
    obtain ⟨σ, s1, s2, s3, s4, s5⟩ := h.2.1 a h1.1 h1.2
    obtain ⟨hT, hCT, hMT⟩ := h.tape
    generalize hTT : μ 20 = T at *
    generalize hNN : μ 19 1 = N at *
    have hsp := rds_spec (σ := σ) hT 8 0 (fun _ => 0) 0 (by omega) (by omega) hT.1 ⟨fun i a b => by omega, fun i a b => by omega⟩
    have hN := hT.2.1
    have hp0 := s5.1
    have hp8 := s5.2.1
    unfold f_X9_face
    rw [if_neg (fun e => isOwn0.mp e h1), chk_pos (by omega), chk_pos (by omega)]
    simp only [zlet]
    unfold f_X7_rewind
    simp only [zlet]
    rw [bnd_pos rfl]
    unfold f_X7_readRim
    have g0 : FPn μ (zup μ 19 2 0) := (FPn.refl μ).pl 0
    have hrd := c_readSteps (p := 0) (most := 8) hT (g0.tp hCT) (g0.cs s1 hb.1) hz s4 hb.1 ⟨by omega, hT.1⟩ (by rw [zup_s, up1_s]) (by omega)
    rw [show (8 : Int).toNat = 8 from rfl] at hrd
    obtain ⟨μa, ea, qa⟩ := hrd
    rw [ea, bnd_pos rfl, bnd2_pos rfl]
    generalize hr : rds σ T N 8 0 (fun _ => 0) 0 = r at *
    obtain ⟨a1, a2, a3, a4, a5⟩ := qa
    have ga := g0.trans a1
    have hrim := c_isRim (by omega) a2
    -- what face does behind the reading
    have tail : ∀ (x : Int) (μb : zMem), FPn μ μb → CPn μb σ r.1 r.2.1 → 0 ≤ μb 19 2 → μb 19 2 ≤ N → skp T N (μb 19 2) = r.2.2 → (x = 0 ↔ ¬ (rok σ r.1 r.2.1 ∧ r.2.2 = N)) → Ok (f_X9_face_J53 (μ 2 a) x μb) (fun v => Ok (f_X10_face a v.2) (fun w => w.1 = v.1 ∧ Rel w.2)) := by
      intro x μb b1 b2 b3 b4 b5 hx
      unfold f_X9_face_J53
      rw [c_faultHere hT (b1.tp hCT) ⟨b3, b4⟩ rfl, b5, bnd2_pos rfl]
      unfold f_X7_wipe
      simp only [zlet]
      rw [bnd_pos rfl]
      have b6 := b1.pl r.2.2
      generalize hμc : zup (zup μb 19 2 r.2.2) 19 1 0 = μc
      have cf : ∀ c, c ≠ 19 → c ≠ 21 → c ≠ 22 → μc c = μ c := fun c c1 c2 c3 => by rw [← hμc, zup_n _ _ _ c1]; exact b6.1 c c1 c2 c3
      have c91 : μc 19 1 = 0 := by rw [← hμc, zup_s, up1_s]
      have hMr := fun (μd : zMem) (hd : ∀ c, 101 ≤ c → μd c = μ c) => m_face h1 hT hMT s3 s4 s5 hr μd hd
      by_cases hgood : rok σ r.1 r.2.1 ∧ r.2.2 = N
      · rw [if_neg (fun e => hx.mp e hgood)]
        have csc : CS μc (μ 2 a) σ := s1.congr fun k x y => cf k (by omega) (by omega) (by omega)
        rw [csc.2.2.1]
        by_cases h8 : sP σ < 8
        · rw [if_pos h8]
          have e212 : μc 21 2 = r.1 := by rw [← hμc, zup_n _ _ _ (by decide), zup_n _ _ _ (by decide)]; exact b2.1
          have e22 : ∀ i, 0 ≤ i → i < r.1 → μc (21 + 1) i = r.2.1 i := fun i x y => by
            show μc 22 i = _
            rw [← hμc, zup_n _ _ _ (by decide), zup_n _ _ _ (by decide)]; exact b2.2.1 i x y
          rw [e212]
          refine ok_bnd.mpr ((c_addPane csc hz s5.1 h8 (fun f x y => (s5.2.2 f x y).2.1) ⟨by omega, by omega⟩ ⟨by omega, by omega, by omega⟩ (by decide) e22).imp fun μ1 q => ok_some.mpr ?_)
          obtain ⟨q1, q2, q3⟩ := q
          have e8 : μ1 (μ 2 a) 8 = sP σ + 1 := q1.2.2.1
          rw [e8, zw_eq (by omega) (by omega)]
          have cf1 : ∀ c, ¬ (μ 2 a ≤ c ∧ c ≤ μ 2 a + 6) → c ≠ 19 → c ≠ 21 → c ≠ 22 → μ1 c = μ c := fun c x y z u => (q2 c (by omega) (by omega) (by omega)).trans (cf c y z u)
          refine (hMr μ1 (fun c hc => cf1 c (by omega) (by omega) (by omega) (by omega))).imp fun w g => ?_
          obtain ⟨g1, g2, g3, g4, g5⟩ := g
          obtain ⟨k1, k2, k3⟩ := g5 hgood (by omega)
          refine ⟨by simp only; omega, h.spcG h1 (σ := addP σ r.1 r.2.1) q1 ?_ (fun c x y => ?_) ⟨fun c hc => g1.1 c (by simp; omega) (by omega), fun c x y z => ?_, fun i hi => g1.2 i (by simp; omega)⟩ ((Ms.of fun c x y => (cf1 c (by omega) (by omega) (by omega) (by omega)).symm).trans k3) k2 (addP_wfE s4) (addP_wfP s5 h8 (by omega) hsp.2.2.1 hgood.1) (by rw [s3.2.1]; exact Int.le_refl _) ?_⟩
          · have hcp : CP μ1 (μ 2 a) σ := by
              unfold CP at *
              rw [q3 9 (by decide), q3 10 (by decide), q2 (μ 2 a + 3) (by omega) (by omega) (by omega), q2 (μ 2 a + 4) (by omega) (by omega) (by omega), cf (μ 2 a) (by omega) (by omega) (by omega), cf (μ 2 a + 3) (by omega) (by omega) (by omega), cf (μ 2 a + 4) (by omega) (by omega) (by omega)]
              exact s2
            exact CP.cg (σ := σ) (τ := addP σ r.1 r.2.1) rfl rfl rfl rfl hcp
          · refine cf1 c x ?_ ?_ ?_ <;> (intro e; subst e; unfold rlv at y; omega)
          · unfold spmX at z
            refine g1.1 c ?_ (by omega)
            simp
            unfold rlv at x
            omega
          · have e1 : w.2 19 1 = 0 := by rw [g1.1 19 (by decide) (by decide), q2 19 (by omega) (by omega) (by omega)]; exact c91
            exact ⟨by rw [e1, g2], by rw [e1]; decide, by rw [e1]; decide, fun i x y => by rw [e1] at y; omega⟩
        · have h88 : sP σ = 8 := by have := s5.2.1; omega
          rw [if_neg h8]
          refine ok_some.mpr ((hMr μc (fun c hc => cf c (by omega) (by omega) (by omega))).imp fun w g => ?_)
          obtain ⟨g1, g2, g3, g4, g5⟩ := g
          obtain ⟨k1, k2⟩ := g4 hgood h88
          refine ⟨k1, h.wipe (fun k x y z => ?_) ?_ (fun i hi => ?_) ?_ g2⟩
          · by_cases hk2 : 102 ≤ k ∧ k ≤ 108
            · exact k2 k hk2.1 hk2.2
            · unfold rlv at x
              rw [g1.1 k (by simp; omega) (by omega), cf k (by omega) (by omega) (by omega)]
          · rw [g1.1 1 (by decide) (by decide), cf 1 (by decide) (by decide) (by decide)]
          · rw [g1.2 i (by simp; omega), cf 101 (by decide) (by decide) (by decide)]
          · rw [g1.1 19 (by decide) (by decide)]; exact c91
      · rw [if_pos (hx.mpr hgood)]
        refine ok_some.mpr ((hMr μc (fun c hc => cf c (by omega) (by omega) (by omega))).imp fun w g => ?_)
        obtain ⟨g1, g2, g3, g4, g5⟩ := g
        obtain ⟨k1, k2⟩ := g3 hgood
        refine ⟨k1, h.wipe (fun k x y z => ?_) ?_ (fun i hi => ?_) ?_ g2⟩
        · by_cases hk2 : 102 ≤ k ∧ k ≤ 108
          · exact k2 k hk2.1 hk2.2
          · unfold rlv at x
            rw [g1.1 k (by simp; omega) (by omega), cf k (by omega) (by omega) (by omega)]
        · rw [g1.1 1 (by decide) (by decide), cf 1 (by decide) (by decide) (by decide)]
        · rw [g1.2 i (by simp; omega), cf 101 (by decide) (by decide) (by decide)]
        · rw [g1.1 19 (by decide) (by decide)]; exact c91
    unfold f_X9_face_J52
    by_cases hk1 : rok σ r.1 r.2.1
    · rw [if_neg (fun e => hrim.mp e hk1), c_isRead hT (ga.tp hCT) ⟨a3, a4⟩ rfl, a5, bnd2_pos rfl]
      have cpn : CPn (zup μa 19 2 r.2.2) σ r.1 r.2.1 := by
        unfold CPn at *
        rw [zup_n _ _ _ (by decide), zup_n _ _ _ (by decide)]
        exact a2
      have e19 : zup μa 19 2 r.2.2 19 2 = r.2.2 := by rw [zup_s, up1_s]
      by_cases hk2 : r.2.2 = N
      · rw [if_pos hk2, if_neg (by decide)]
        exact tail 1 _ (ga.pl _) cpn (by omega) (by omega) (by rw [e19]; exact hsp.2.2.2.2.2) ⟨fun e => by omega, fun e => absurd ⟨hk1, hk2⟩ e⟩
      · rw [if_neg hk2, if_pos rfl]
        exact tail 0 _ (ga.pl _) cpn (by omega) (by omega) (by rw [e19]; exact hsp.2.2.2.2.2) ⟨fun _ e => hk2 e.2, fun _ => rfl⟩
    · rw [if_pos (hrim.mpr hk1)]
      exact tail 0 _ ga a2 a3 a4 a5 ⟨fun _ e => hk1 e.1, fun _ => rfl⟩
  · refine sim_same h (r := -1) ?_ ?_
    · unfold f_X9_face; rw [if_pos (isOwn0.mpr h1)]
    · unfold f_X10_face; rw [if_pos (isSpace0.mpr h1)]
