/-! LAYERS agree -/
theorem tbs_L (σ : Sp) (n : Int) : tbs (pL σ n) n (sN σ) = (tbs (pF σ n) n (sN σ)).filter (fun t => isO n t (sN σ)) := sols_filter (p := pF σ n) (q := fun t => isO n t (sN σ)) (o := (fct n).toNat) (sN σ).toNat 0 (fun _ => 0)
theorem tbs_L0 {σ : Sp} {n : Int} (hn : 2 ≤ n ∧ n ≤ 4) (h : sN σ = 0) : tbs (pL σ n) n (sN σ) = [] := by
  rw [tbs_L, List.filter_eq_nil_iff]
  intro t _
  rw [h, isO_0 hn]
  decide
theorem c_layers {μ : zMem} {s n : Int} {σ : Sp} (hT : ShT μ) (hk : PK (μ 2 s)) (hs : 0 ≤ s ∧ s < 2) (hn : 2 ≤ n ∧ n ≤ 4) (hc : CS μ (μ 2 s) σ) (hcp : CP μ (μ 2 s) σ) (hw : WfE σ 8 12) (hp : WfP σ 8) : Ok (f_X9_layers s n μ) (fun w => Ft [28, 29, 30, 31] [5, 6, 7, 8, 9] μ w.2 ∧ w.1 = if mnL (fct n) (sN σ).toNat 1 = 0 then ((tbs (pL σ n) n (sN σ)).length : Int) else -2) := by
  have h1 : ¬ f_X9_isOwn s = 0 := fun h => isOwn0.mp h (by omega)
  have h2 : f_X9_isStoreys n ≠ 0 := by rcases n234 hn with h | h | h <;> subst h <;> decide
  have hz := hk.sz
  have ht : 32 < μ 2 s := by unfold PK at hk; omega
  have hE := hw.2.2.2.1
  have hNb := sN_b (σ := σ) hw.2.2.1
  have hfc := fct_pos hn
  have h18 := (hT n hn.1 hn.2).1
  unfold f_X9_layers
  simp only [zlet]
  rw [if_neg h1, if_neg h2, chk_pos (by omega), chk_pos (by omega), chk_pos (by omega), h18, chk_pos (by omega), bnd_pos (c_isMany hT hn hcp ⟨hw.2.2.1, by omega⟩)]
  by_cases hm : mnL (fct n) (sN σ).toNat 1 = 0
  · obtain ⟨m1, m2⟩ := mn_nat hn hm
    rw [if_pos hm, if_pos hm, chk_pos (by omega), chk_pos (by omega), chk_pos (by omega), chk_pos (by omega)]
    refine ok_bnd.mpr ((c_begin (n := n) ht hc hcp hz hw hp).imp fun μ2 q => ?_)
    obtain ⟨q1, b1, b2, b3, b4, b5, b6⟩ := q
    have hT2 : ShT μ2 := q1.sht hT
    by_cases hN : sN σ = 0
    · rw [tbs_L0 hn hN]
      have z2 : zfu = (zfu - 1) + 1 := by unfold zfu; omega
      rw [z2]
      unfold f_X9_layers_L62
      rw [if_pos (by omega)]
      refine ok_bnd2.mpr ((c_nextLayer0 hn hT2 b1 (by rw [b2, hN]) b4).imp fun w r => ?_)
      obtain ⟨r1, r2⟩ := r
      rw [if_pos r2]
      exact ok_some.mpr ⟨q1.trans (r1.sub (by decide) (by decide)), rfl⟩
    · have hNN : ((sN σ).toNat : Int) = sN σ := by omega
      have hlf := lft_first (pF σ n) (fct n).toNat (sN σ).toNat (by omega) (fun _ => 0)
      have hwf := wgl_first (fct n).toNat (sN σ).toNat (by omega) (fun _ => 0)
      have hwl := wgt_le (o := (fct n).toNat) (by omega) (sN σ).toNat
      have hsl := sols_len (pF σ n) (fct n).toNat (sN σ).toNat 0 (fun _ => 0)
      have hfl := List.length_filter_le (fun t => isO n t (sN σ)) (sols (pF σ n) (fct n).toNat (sN σ).toNat 0 (fun _ => 0))
      have hst : StT μ2 n (sN σ).toNat (rms σ) 0 (fun _ => 0) 0 := ⟨b1, by rw [b2]; omega, b3, b6, fun j a b => by omega, b5, fun j a b => by omega, by omega, by omega⟩
      refine (c_countY (N := (sN σ).toNat) hn hNN ⟨by omega, by omega⟩ hp hp.2.1 _ zfu 0 0 0 (fun _ => 0) μ2 rfl (by rw [hlf]; unfold zfu; omega) (by omega) (by rw [hlf]; omega) (by rw [hwf]; omega) hT2 hst (fun j h => by omega)).imp fun w q => ?_
      refine ⟨q1.trans (q.1.sub (by decide) (by decide)), ?_⟩
      rw [q.2, hlf, Int.zero_add, tbs_L]
      rfl
  · rw [if_neg hm, if_neg hm]
    exact ok_some.mpr ⟨Ft.refl _ _ _, rfl⟩
theorem sim_layers {μ : zMem} {a b : Int} (h : Rel μ) : Ok (f_X9_layers a b μ) (fun v => Ok (f_X10_layers a b v.2) (fun w => w.1 = v.1 ∧ Rel w.2)) := by
  by_cases h1 : 0 ≤ a ∧ a ≤ 1
  rotate_left
  · refine sim_same h (r := -1) ?_ ?_
    · unfold f_X9_layers; rw [if_pos (isOwn0.mpr h1)]
    · unfold f_X10_layers; rw [if_pos (isSpace0.mpr h1)]
  by_cases h2 : 2 ≤ b ∧ b ≤ 4
  rotate_left
  · refine sim_same h (r := -1) ?_ ?_
    · unfold f_X9_layers; rw [if_neg (fun q => isOwn0.mp q h1), if_pos (isStoreys0.mpr h2)]
    · unfold f_X10_layers; rw [if_neg (fun q => isSpace0.mp q h1), if_pos (areStoreys0.mpr h2)]
  obtain ⟨σ, hc, hcp, hm, hw, hp⟩ := h.2.1 a h1.1 h1.2
  have hk : PK (μ 2 a) := by
    have : a = 0 ∨ a = 1 := by omega
    rcases this with e | e <;> subst e
    · exact h.1.2.1.1
    · exact h.1.2.1.2.1
  refine (c_layers h.1.1 hk ⟨h1.1, by omega⟩ h2 hc hcp hw hp).imp fun v q => ?_
  obtain ⟨q1, q2⟩ := q
  have hr : Rel v.2 := h.scr (q1.kp (by decide))
  have hm2 := q1.ms (by decide) hm
  refine (m_layers hm2 ⟨h1.1, by omega⟩ h2 (hw.mono (by omega) (by omega)) (hp.mono (by omega))).imp fun w r => ?_
  obtain ⟨r1, r2⟩ := r
  refine ⟨by rw [r2, q2], hr.scr (r1.kpt ?_ (by decide))⟩
  intro k hk
  unfold rlv
  simp at hk
  omega
