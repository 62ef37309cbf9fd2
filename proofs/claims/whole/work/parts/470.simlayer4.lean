/-! LAYER agrees: both -/
theorem sim_layer {μ : zMem} {a b c : Int} (gc : Rg c) (h : Rel μ) : Ok (f_X9_layer a b c μ) (fun v => Ok (f_X10_layer a b c v.2) (fun w => w.1 = v.1 ∧ Rel w.2)) := by
  by_cases h1 : 0 ≤ a ∧ a ≤ 1
  rotate_left
  · refine sim_same h (r := -1) ?_ ?_
    · unfold f_X9_layer; rw [if_pos (isOwn0.mpr h1)]
    · unfold f_X10_layer; rw [if_pos (isSpace0.mpr h1)]
  by_cases h2 : 2 ≤ b ∧ b ≤ 4
  rotate_left
  · refine sim_same h (r := -1) ?_ ?_
    · unfold f_X9_layer; rw [if_neg (fun q => isOwn0.mp q h1), if_pos (isStoreys0.mpr h2)]
    · unfold f_X10_layer; rw [if_neg (fun q => isSpace0.mp q h1), if_pos (areStoreys0.mpr h2)]
  by_cases h3 : c < 0
  · refine sim_same h (r := -1) ?_ ?_
    · unfold f_X9_layer; rw [if_neg (fun q => isOwn0.mp q h1), if_neg (fun q => isStoreys0.mp q h2), if_pos h3]
    · unfold f_X10_layer; rw [if_neg (fun q => isSpace0.mp q h1), if_neg (fun q => areStoreys0.mp q h2), if_pos h3]
  obtain ⟨σ, hc, hcp, hm, hw, hp⟩ := h.2.1 a h1.1 h1.2
  have hk : PK (μ 2 a) := by
    have : a = 0 ∨ a = 1 := by omega
    rcases this with e | e <;> subst e
    · exact h.1.2.1.1
    · exact h.1.2.1.2.1
  have hT := h.1.1
  have ht : 32 < μ 2 a ∧ μ 2 a < 58 := by unfold PK at hk; omega
  have hz := hk.sz
  have hw32 : WfE σ 32 48 := hw.mono (by omega) (by omega)
  have hp32 : WfP σ 32 := hp.mono (by omega)
  have hNb := sN_b (σ := σ) hw.2.2.1
  have hE := hw.2.2.2.1
  have h18 := (hT b h2.1 h2.2).1
  have hR : ∀ v : zMem, Ft [28, 29, 30, 31] [5, 6, 7, 8, 9] μ v → Rel v := fun v q1 => h.scr (q1.kp (by decide))
  unfold f_X9_layer
  simp only [zlet]
  rw [if_neg (fun q => isOwn0.mp q h1), if_neg (fun q => isStoreys0.mp q h2), if_neg h3, chk_pos (by omega), chk_pos (by omega), chk_pos (by omega), h18, chk_pos (by omega), bnd_pos (c_isMany hT h2 hcp ⟨hw.2.2.1, by omega⟩)]
  have MM : ∀ v : zMem, MS v a σ → Ok (f_X10_isMany a b v) (fun w => Fm [120, 121, 123, 133, 134] [20, 28, 29, 30] v w.2 ∧ MT w.2 σ ∧ MOr w.2 b ∧ w.2 101 29 = sN σ ∧ w.1 = mnL (fct b) (sN σ).toNat 1) := fun v hv => m_isMany hv ⟨h1.1, by omega⟩ h2 hw32
  by_cases hmn : mnL (fct b) (sN σ).toNat 1 = 0
  rotate_left
  · rw [if_neg hmn]
    refine ok_some.mpr ?_
    unfold f_X10_layer
    rw [if_neg (fun q => isSpace0.mp q h1), if_neg (fun q => areStoreys0.mp q h2), if_neg h3]
    refine ok_bnd2.mpr ((MM μ hm).imp fun w r => ?_)
    obtain ⟨r1, r2, r3, r4, r5⟩ := r
    rw [r5, if_neg hmn]
    refine ok_some.mpr ⟨rfl, h.scr (r1.kpt ?_ (by decide))⟩
    intro k hk
    unfold rlv
    simp at hk
    omega
  rw [if_pos hmn, chk_pos (by omega), chk_pos (by omega), chk_pos (by omega), chk_pos (by omega)]
  refine ok_bnd.mpr ((c_findLayer (x3 := c) hT hk ⟨h1.1, by omega⟩ h2 hc hcp hw hp hmn (by omega)).imp fun μ6 q6 => ok_bnd2.mpr (q6.imp fun w q => ?_))
  obtain ⟨q1, q2, q3, q4⟩ := q
  have hm2 := q1.ms (by decide) hm
  have hlen : (tbs (pL σ b) b (sN σ)).length ≤ 20000 := by
    have := sols_len (pL σ b) (fct b).toNat (sN σ).toNat 0 (fun _ => 0)
    have := (mn_nat h2 hmn).1
    unfold tbs
    omega
  have hwant : zw (c + 1) = c + 1 ∨ (zw (c + 1) < 0 ∧ 20000 < c) := by
    by_cases hcc : c = 2147483647
    · rw [hcc, zw_wrap]; exact Or.inr ⟨by decide, by decide⟩
    · unfold Rg at gc
      exact Or.inl (zw_eq (by omega) (by omega))
  -- the reference up to its search
  have ref : ∀ v : zMem, MS v a σ → ∀ Q : Int × zMem → Prop, (∀ w3 w4, (∀ k, ¬ (116 ≤ k ∧ k ≤ 147) → k ≠ 101 → w4 k = v k) → (∀ i, i = 7 ∨ i = 9 ∨ i = 37 ∨ i = 38 ∨ i = 39 → w4 101 i = v 101 i) → Kp (fun _ => False) v w4 → MS w4 a σ → MT w4 σ → w4 101 28 = b → w4 101 29 = sN σ → Res b (sN σ) 0 (zw (c + 1)) (tbs (pL σ b) b (sN σ)) w3 w4 → Ok (if w3 = 0 then some ((-1 : Int), w4) else bnd (f_X10_layLayer a w4) fun μ_5 => zlet (zup μ_5 101 7 1) fun μ_6 => zlet (zup μ_6 101 37 a) fun μ_7 => zlet (zup μ_7 101 38 (μ_7 101 28)) fun μ_8 => zlet (zup μ_8 101 39 (μ_8 101 29)) fun μ_9 => (f_X10_layer_L80 (f_X10_layer_K121 a)) zfu 0 μ_9) Q) → Ok (f_X10_layer a b c v) Q := by
    intro v hv Q hQ
    unfold f_X10_layer
    rw [if_neg (fun q => isSpace0.mp q h1), if_neg (fun q => areStoreys0.mp q h2), if_neg h3]
    refine ok_bnd2.mpr ((MM v hv).imp fun w r => ?_)
    obtain ⟨r1, r2, r3, r4, r5⟩ := r
    rw [r5, if_pos hmn]
    refine ok_bnd2.mpr ((m_seek1 (want := zw (c + 1)) (r1.ms (by unfold noSp; decide) hv) ⟨h1.1, by omega⟩ h2 hw32 hp32 r2 r3 r4 hmn).imp fun x y => ?_)
    obtain ⟨y1, y2⟩ := y
    have hF : Fm [120, 121, 123, 128, 129, 133, 134] [20, 28, 29, 30, 33, 34, 35] v x.2 := (r1.sub (by decide) (by decide)).trans (y1.sub (by decide) (by decide))
    refine hQ x.1 x.2 (fun k p1 p2 => hF.1 k (by simp; omega) p2) (fun i hi => hF.2 i (by simp; omega)) (hF.kpt (fun k hk => by unfold rlv; simp at hk; omega) (by decide)) (hF.ms (by unfold noSp; decide) hv) ?_ (by rw [y1.2 28 (by decide)]; exact r3.1) (by rw [y1.2 29 (by decide)]; exact r4) y2
    unfold MT
    rw [y1.1 120 (by decide) (by decide), y1.1 121 (by decide) (by decide), y1.1 123 (by decide) (by decide), y1.2 20 (by decide)]
    exact r2
  rcases q4 with ⟨f1, f2⟩ | ⟨i, hi, f1, f2, t', f3, f4, f5⟩
  · rw [if_pos f1]
    refine ok_some.mpr ?_
    refine ref w.2 hm2 _ fun w3 w4 k1 k2 k3 k4 k5 k6 k7 k8 => ?_
    rcases k8 with ⟨e1, _⟩ | ⟨j, hj, e1, e2, _⟩
    · rw [if_pos e1]
      exact ok_some.mpr ⟨rfl, (hR w.2 q1).scr k3⟩
    · omega
  · rw [f1, if_neg (by decide), chk_pos (by omega)]
    have e2a : w.2 2 = μ 2 := q1.1 2 (by decide) (by decide)
    have hT2 : ShT w.2 := q1.sht hT
    have hNN : ((sN σ).toNat : Int) = sN σ := by omega
    rw [hNN] at f3 f4 f5
    have hcl : ∀ j, 0 ≤ j → j < sN σ → clp t' (sN σ) j = t' j := fun j x y => by unfold clp; rw [if_pos ⟨x, y⟩]
    have hmem : pL σ b (clp t' (sN σ)) = true := by
      have := List.getElem_mem hi
      rw [f4] at this
      exact sols_p _ _ _ this
    have htc : TbR b (sN σ) (clp t' (sN σ)) := fun j x y => by rw [hcl j x y]; exact f3 j x y
    have hhl : hld σ b (clp t' (sN σ)) 0 := by
      refine (pH_iff h2 hp htc).mp ?_
      unfold pL pF at hmem
      rw [Bool.and_eq_true, Bool.and_eq_true] at hmem
      exact hmem.1.1
    rw [e2a, chk_pos (by omega)]
    refine ok_bnd.mpr ((c_lay (s := a) hT2 h2 ht (q1.cs ht.1 hc) (q1.cp ht.1 hcp) hz hw hp htc hhl q2 q3 (fun j x y => by rw [hcl j x y]; exact f5 j x y)).imp fun μa r => ?_)
    obtain ⟨r1, r2, r3, r4, r5, r6, r7⟩ := r
    refine ok_some.mpr ?_
    have hma : MS μa a σ := hm2.congr fun k x y => r1 k (by omega)
    refine ref μa hma _ fun w3 w4 k1 k2 k3 k4 k5 k6 k7 k8 => ?_
    rcases k8 with ⟨e1, e2, e3⟩ | ⟨j, hj, e1, e2, e3, e4⟩
    · omega
    · have hij : j = i := by omega
      subst hij
      rw [f4] at e4
      rw [if_neg (by omega)]
      refine (m_layerL ⟨h1.1, by omega⟩ h2 k4 hw hp k5 k6 k7 e4 htc hhl).imp fun x y => ?_
      obtain ⟨y1, y2, y3, y4, y5, y6, y7, y8, y9, y10, y11⟩ := y
      refine ⟨y1.trans r3.2.1.symm, ?_⟩
      have hfr : ∀ k, ¬ (102 ≤ k ∧ k ≤ 108) → ¬ (116 ≤ k ∧ k ≤ 147) → k ≠ 101 → x.2 k = μa k := fun k p1 p2 p3 => (y2 k p1 p2 p3).trans (k1 k p2 p3)
      refine h.lay (μ1 := μa) (fun k p1 p2 => ?_) hfr (y3.trans (k2 9 (by omega))) ?_ ?_
      · rw [r1 k (by omega)]
        exact q1.1 k (by simp; omega) (by omega)
      · exact Ms.trans (Ms.of fun k p1 p2 => k1 k (by omega) (by omega)) y4
      · refine lyr_new (σ := σ) (t := clp t' (sN σ)) ⟨h1.1, by omega⟩ h2 hw hp htc hhl (r2.congr fun k p1 p2 => hfr k (by omega) (by omega) (by omega)) (r3.congr fun k p1 p2 => hfr k (by omega) (by omega) (by omega)) y5 (by rw [hfr 3 (by omega) (by omega) (by omega)]; exact r4) (by rw [hfr 3 (by omega) (by omega) (by omega)]; exact r5) (r6.cg (hfr 3 (by omega) (by omega) (by omega)) (hfr 11 (by omega) (by omega) (by omega)) (hfr 12 (by omega) (by omega) (by omega))) (fun e p1 p2 => by rw [hfr 12 (by omega) (by omega) (by omega)]; exact r7 e p1 p2) y6 y7 y8 y9 y10 y11
