/-! TABLES agree -/
theorem c_tables {μ : zMem} {s n : Int} {σ : Sp} (hT : ShT μ) (hk : PK (μ 2 s)) (hs : 0 ≤ s ∧ s < 2) (hn : 2 ≤ n ∧ n ≤ 4) (hc : CS μ (μ 2 s) σ) (hcp : CP μ (μ 2 s) σ) (hw : WfE σ 8 12) (hp : WfP σ 8) : Ok (f_X9_tables s n μ) (fun w => Ft [28, 29, 30, 31] [5, 6, 7, 8, 9] μ w.2 ∧ w.1 = if mnL (fct n) (sN σ).toNat 1 = 0 then ((tbs (pH σ n) n (sN σ)).length : Int) else -2) := by
  have h1 : ¬ f_X9_isOwn s = 0 := fun h => isOwn0.mp h (by omega)
  have h2 : f_X9_isStoreys n ≠ 0 := by rcases n234 hn with h | h | h <;> subst h <;> decide
  have hz := hk.sz
  have ht : 32 < μ 2 s := by unfold PK at hk; omega
  have hE := hw.2.2.2.1
  have hNb := sN_b (σ := σ) hw.2.2.1
  have hfc := fct_pos hn
  have h18 := (hT n hn.1 hn.2).1
  unfold f_X9_tables
  simp only [zlet]
  rw [if_neg h1, if_neg h2, chk_pos (by omega), chk_pos (by omega), chk_pos (by omega), h18, chk_pos (by omega), bnd_pos (c_isMany hT hn hcp ⟨hw.2.2.1, by omega⟩)]
  by_cases hm : mnL (fct n) (sN σ).toNat 1 = 0
  · obtain ⟨m1, m2⟩ := mn_nat hn hm
    rw [if_pos hm, if_pos hm, chk_pos (by omega), chk_pos (by omega), chk_pos (by omega), chk_pos (by omega)]
    refine ok_bnd.mpr ((c_begin (n := n) ht hc hcp hz hw hp).imp fun μ2 q => ?_)
    obtain ⟨q1, b1, b2, b3, b4, b5, b6⟩ := q
    have hT2 : ShT μ2 := q1.sht hT
    by_cases hN : sN σ = 0
    · have e0 : clp (fun _ => 0) (sN σ) = fun _ => 0 := by
        funext i
        unfold clp
        rw [if_neg (by omega)]
      have hpt := prn2 (n := n) (t := fun _ => 0) hp hNb.1 (fun L h => by omega)
      rw [e0] at hpt
      have hlen : tbs (pH σ n) n (sN σ) = [fun _ => 0] := by
        unfold tbs
        rw [hN]
        show (if pH σ n (fun _ => 0) then [fun _ => 0] else []) = _
        rw [hpt]
        rfl
      rw [hlen]
      have z2 : zfu = (zfu - 2) + 1 + 1 := by unfold zfu; omega
      rw [z2]
      unfold f_X9_tables_L62 f_X6_findNext f_X6_findNext_J19
      simp only [zlet]
      rw [if_pos (by omega), if_pos (by omega), b4, if_pos rfl, chk_pos (by omega)]
      refine ok_bnd2.mpr (ok_some.mpr ?_)
      show Ok (if (1 : Int) = 0 then _ else _) _
      rw [if_neg (by decide), zw_eq (by omega) (by omega)]
      unfold f_X9_tables_L62 f_X6_findNext f_X6_findNext_J19
      simp only [zlet]
      have e8 : zup μ2 27 7 1 27 8 = 0 := by rw [zup_s, up1_n _ _ (by decide)]; omega
      have e7 : zup μ2 27 7 1 27 7 = 1 := by rw [zup_s, up1_s]
      rw [if_pos (by omega), if_pos e8, if_neg (c := zup μ2 27 7 1 27 7 = 0) (by omega), chk_pos (by omega)]
      refine ok_bnd2.mpr (ok_some.mpr ?_)
      show Ok (if (0 : Int) = 0 then _ else _) _
      rw [if_pos rfl]
      exact ok_some.mpr ⟨(q1.upo (by decide) _).upo (by decide) _, rfl⟩
    · have hNN : ((sN σ).toNat : Int) = sN σ := by omega
      have hlf := lft_first (pH σ n) (fct n).toNat (sN σ).toNat (by omega) (fun _ => 0)
      have hwf := wgl_first (fct n).toNat (sN σ).toNat (by omega) (fun _ => 0)
      have hwl := wgt_le (o := (fct n).toNat) (by omega) (sN σ).toNat
      have hsl := sols_len (pH σ n) (fct n).toNat (sN σ).toNat 0 (fun _ => 0)
      have hst : StT μ2 n (sN σ).toNat (rms σ) 0 (fun _ => 0) 0 := ⟨b1, by rw [b2]; omega, b3, b6, fun j a b => by omega, b5, fun j a b => by omega, by omega, by omega⟩
      refine (c_countL (N := (sN σ).toNat) hn hNN ⟨by omega, by omega⟩ hp hp.2.1 _ zfu 0 0 0 (fun _ => 0) μ2 rfl (by rw [hlf]; unfold zfu; omega) (by omega) (by rw [hlf]; omega) (by rw [hwf]; omega) hT2 hst (fun j h => by omega)).imp fun w q => ?_
      refine ⟨q1.trans (q.1.sub (by decide) (by decide)), ?_⟩
      rw [q.2, hlf, Int.zero_add]
      rfl
  · rw [if_neg hm, if_neg hm]
    exact ok_some.mpr ⟨Ft.refl _ _ _, rfl⟩
theorem Ft.kp {cs ss : List Int} {μ μ' : zMem} (h : Ft cs ss μ μ') (hs : ∀ k ∈ cs, 27 ≤ k ∧ k ≤ 31) : Kp (fun _ => False) μ μ' := by
  have e : ∀ k, ¬ (27 ≤ k ∧ k ≤ 31) → μ' k = μ k := fun k hk => h.1 k (fun q => hk (hs k q)) (by omega)
  refine ⟨fun k hk _ => e k ?_, by rw [e 1 (by omega)], by rw [e 19 (by omega)], fun i _ => by rw [e 101 (by omega)]⟩
  unfold rlv at hk
  omega
theorem Ft.ms {cs ss : List Int} {μ μ' : zMem} {s : Int} {σ : Sp} (h : Ft cs ss μ μ') (hs : ∀ k ∈ cs, 27 ≤ k ∧ k ≤ 31) (c : MS μ s σ) : MS μ' s σ := by
  have e : ∀ k, ¬ (27 ≤ k ∧ k ≤ 31) → μ' k = μ k := fun k hk => h.1 k (fun q => hk (hs k q)) (by omega)
  unfold MS
  rw [e 102 (by omega), e 103 (by omega), e 104 (by omega), e 105 (by omega), e 106 (by omega), e 107 (by omega), e 108 (by omega)]
  exact c
theorem Fm.kpt {cs ss : List Int} {μ μ' : zMem} (h : Fm cs ss μ μ') (hs : ∀ k ∈ cs, 109 < k ∧ ¬ rlv k) (h7 : 7 ∉ ss ∧ 9 ∉ ss ∧ 37 ∉ ss ∧ 38 ∉ ss ∧ 39 ∉ ss) : Kp (fun _ => False) μ μ' := by
  refine ⟨fun k hk _ => h.1 k (fun q => (hs k q).2 hk) (by unfold rlv at hk; omega), by rw [h.1 1 (fun q => by have := (hs 1 q).1; omega) (by decide)], by rw [h.1 19 (fun q => by have := (hs 19 q).1; omega) (by decide)], fun i hi => h.2 i ?_⟩
  rcases hi with e | e | e | e | e <;> subst e
  · exact h7.1
  · exact h7.2.1
  · exact h7.2.2.1
  · exact h7.2.2.2.1
  · exact h7.2.2.2.2
theorem sim_tables {μ : zMem} {a b : Int} (h : Rel μ) : Ok (f_X9_tables a b μ) (fun v => Ok (f_X10_tables a b v.2) (fun w => w.1 = v.1 ∧ Rel w.2)) := by
  by_cases h1 : 0 ≤ a ∧ a ≤ 1
  rotate_left
  · refine sim_same h (r := -1) ?_ ?_
    · unfold f_X9_tables; rw [if_pos (isOwn0.mpr h1)]
    · unfold f_X10_tables; rw [if_pos (isSpace0.mpr h1)]
  by_cases h2 : 2 ≤ b ∧ b ≤ 4
  rotate_left
  · refine sim_same h (r := -1) ?_ ?_
    · unfold f_X9_tables; rw [if_neg (fun q => isOwn0.mp q h1), if_pos (isStoreys0.mpr h2)]
    · unfold f_X10_tables; rw [if_neg (fun q => isSpace0.mp q h1), if_pos (areStoreys0.mpr h2)]
  obtain ⟨σ, hc, hcp, hm, hw, hp⟩ := h.2.1 a h1.1 h1.2
  have hk : PK (μ 2 a) := by
    have : a = 0 ∨ a = 1 := by omega
    rcases this with e | e <;> subst e
    · exact h.1.2.1.1
    · exact h.1.2.1.2.1
  refine (c_tables h.1.1 hk ⟨h1.1, by omega⟩ h2 hc hcp hw hp).imp fun v q => ?_
  obtain ⟨q1, q2⟩ := q
  have hr : Rel v.2 := h.scr (q1.kp (by decide))
  have hm2 := q1.ms (by decide) hm
  refine (m_tables hm2 ⟨h1.1, by omega⟩ h2 (hw.mono (by omega) (by omega)) (hp.mono (by omega))).imp fun w r => ?_
  obtain ⟨r1, r2⟩ := r
  refine ⟨by rw [r2, q2], hr.scr (r1.kpt ?_ (by decide))⟩
  intro k hk
  unfold rlv
  simp at hk
  omega
