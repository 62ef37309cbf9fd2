/-! type -/
theorem zc255 {x : Int} (h : 0 ≤ x ∧ x ≤ 255) : zc (zc x) = x := by
  have : ∀ m : Fin 256, zc (zc (m.val : Nat)) = (m.val : Nat) := by decide +kernel
  have h1 := this ⟨x.toNat, by omega⟩
  simp only [show ((x.toNat : Nat) : Int) = x by omega] at h1
  exact h1
def prt (w i : Int) : Prop := 32 ≤ f_X9_byteOf w i ∧ f_X9_byteOf w i ≤ 126
theorem sim_type {μ : zMem} {w n : Int} (hw : Rl w) (h : Rel μ) : Ok (f_X9_type w n μ) (fun v => Ok (f_X10_type w n v.2) (fun u => u.1 = v.1 ∧ Rel u.2)) := by
  by_cases hn : 1 ≤ n ∧ n ≤ 8
  rotate_left
  · refine sim_same h (r := -1) ?_ ?_
    · unfold f_X9_type
      by_cases h1 : n < 1
      · rw [if_pos h1]
      · rw [if_neg h1, if_neg (by omega)]
    · unfold f_X10_type
      rw [if_pos (in0.mpr hn)]
  -- are all bytes signs
  have cp : ∀ (fu : Nat) (x : Int), 0 ≤ x → x ≤ n → (n - x).toNat < fu → ((∀ i, x ≤ i → i < n → prt w i) → f_X9_isPrintable_L2 w n fu x = some 1) ∧ (¬ (∀ i, x ≤ i → i < n → prt w i) → f_X9_isPrintable_L2 w n fu x = some 0) := by
    intro fu
    induction fu with
    | zero => intro x _ _ h; omega
    | succ fu ih =>
      intro x x0 x1 x2
      unfold f_X9_isPrintable_L2
      by_cases hx : x < n
      · rw [if_pos hx]
        simp only [zlet]
        rw [zw_eq (by omega) (by omega)]
        by_cases h1 : f_X9_byteOf w x < 32
        · rw [if_pos h1]
          exact ⟨fun hall => by have := hall x (by omega) hx; unfold prt at this; omega, fun _ => rfl⟩
        · rw [if_neg h1]
          by_cases h2 : f_X9_byteOf w x ≤ 126
          · rw [if_pos h2]
            have i1 := ih (x + 1) (by omega) (by omega) (by omega)
            refine ⟨fun hall => i1.1 (fun i a b => hall i (by omega) b), fun hn => i1.2 (fun hall => hn (fun i a b => ?_))⟩
            by_cases hi : i = x
            · rw [hi]; exact ⟨by omega, h2⟩
            · exact hall i (by omega) b
          · rw [if_neg h2]
            exact ⟨fun hall => by have := hall x (by omega) hx; unfold prt at this; omega, fun _ => rfl⟩
      · rw [if_neg hx]
        exact ⟨fun _ => rfl, fun hn => absurd (fun i a b => by omega) hn⟩
  have mp : ∀ (fu : Nat) (x g : Int) (μ1 : zMem), 0 ≤ x → x ≤ n → (n - x).toNat < fu → (g = 0 ∨ g = 1) → ((g = 1 ∧ ∀ i, x ≤ i → i < n → prt w i) → f_X10_type_L18 w n (f_X10_type_K64 w n) fu g x μ1 = f_X10_type_K64 w n 1 μ1) ∧ (¬ (g = 1 ∧ ∀ i, x ≤ i → i < n → prt w i) → f_X10_type_L18 w n (f_X10_type_K64 w n) fu g x μ1 = f_X10_type_K64 w n 0 μ1) := by
    intro fu
    induction fu with
    | zero => intro x g μ1 _ _ h; omega
    | succ fu ih =>
      intro x g μ1 x0 x1 x2 hg
      unfold f_X10_type_L18 f_X10_type_J55 f_X10_type_J56
      simp only [zlet]
      by_cases hx : x < n
      · have hby := byt hw (i := x) ⟨x0, by omega⟩
        rw [if_pos hx, ← hby.1, zw_eq (x := x + 1) (by omega) (by omega)]
        have i0 := ih (x + 1) 0 μ1 (by omega) (by omega) (by omega) (by omega)
        have i1 := ih (x + 1) 1 μ1 (by omega) (by omega) (by omega) (by omega)
        by_cases hg0 : g = 0
        · rw [if_pos hg0]
          exact ⟨fun e => by omega, fun _ => i0.2 (fun e => by omega)⟩
        · rw [if_neg hg0]
          by_cases hpx : prt w x
          · rw [if_neg (fun e => in0.mp e hpx)]
            refine ⟨fun e => i1.1 ⟨rfl, fun i a b => e.2 i (by omega) b⟩, fun e => i1.2 (fun q => e ⟨by omega, fun i a b => ?_⟩)⟩
            by_cases hi : i = x
            · rw [hi]; exact hpx
            · exact q.2 i (by omega) b
          · rw [if_pos (in0.mpr hpx)]
            exact ⟨fun e => absurd (e.2 x (by omega) hx) hpx, fun _ => i0.2 (fun e => by omega)⟩
      · rw [if_neg hx]
        refine ⟨fun e => by rw [e.1], fun e => ?_⟩
        have : g = 0 := by
          rcases hg with hg | hg
          · exact hg
          · exact absurd ⟨hg, fun i a b => by omega⟩ e
        rw [this]
  have hC : f_X9_type w n μ = bnd (f_X9_isPrintable w n) fun x_1 => if x_1 = 0 then some (-1, μ) else if zw (μ 19 1 + n) ≤ 120 then zlet (zw (n - 1)) fun x_2 => f_X9_type_L43 w zfu x_2 μ else some (-3, μ) := by
    unfold f_X9_type
    rw [if_neg (show ¬ n < 1 by omega), if_pos hn.2]
  have hM : ∀ μ' : zMem, f_X10_type w n μ' = f_X10_type_L18 w n (f_X10_type_K64 w n) zfu 1 0 μ' := by
    intro μ'
    unfold f_X10_type
    rw [if_neg (fun e => in0.mp e hn)]
  have cp0 := cp zfu 0 (by omega) (by omega) (by unfold zfu; omega)
  have mp0 := fun μ' => mp zfu 0 1 μ' (by omega) (by omega) (by unfold zfu; omega) (by omega)
  obtain ⟨t1, t2, t3, t4⟩ := h.2.2.1
  unfold f_X9_isPrintable at hC
  by_cases hall : ∀ i, 0 ≤ i → i < n → prt w i
  rotate_left
  · refine sim_same h (r := -1) ?_ ?_
    · rw [hC, cp0.2 hall, bnd_pos rfl, if_pos rfl]
    · rw [hM, (mp0 μ).2 (fun e => hall e.2)]
      unfold f_X10_type_K64
      rw [if_pos rfl]
  rw [cp0.1 hall, bnd_pos rfl, if_neg (by decide), zw_eq (x := μ 19 1 + n) (by omega) (by omega)] at hC
  by_cases hl : μ 19 1 + n ≤ 120
  rotate_left
  · refine sim_same h (r := -3) ?_ ?_
    · rw [hC, if_neg hl]
    · rw [hM, (mp0 μ).1 ⟨rfl, hall⟩]
      unfold f_X10_type_K64
      rw [if_neg (by decide), ← t1, zw_eq (by omega) (by omega), if_neg hl]
  rw [if_pos hl] at hC
  simp only [zlet] at hC
  rw [zw_eq (by omega) (by omega)] at hC
  -- the class writes
  have cw : ∀ (fu : Nat) (x : Int) (μ1 : zMem), -1 ≤ x → x < n → (x + 1).toNat < fu → (∀ k, k ≠ 19 → k ≠ 20 → μ1 k = μ k) → μ1 19 1 = μ 19 1 + (n - 1 - x) → (∀ i, i ≠ 1 → μ1 19 i = μ 19 i) → (∀ i, μ1 20 i = if μ 19 1 ≤ i ∧ i < μ 19 1 + (n - 1 - x) then f_X9_byteOf w (n - 1 - (i - μ 19 1)) else μ 20 i) → Ok (f_X9_type_L43 w fu x μ1) (fun v => v.1 = μ 19 1 + n ∧ (∀ k, k ≠ 19 → k ≠ 20 → v.2 k = μ k) ∧ v.2 19 1 = μ 19 1 + n ∧ (∀ i, v.2 20 i = if μ 19 1 ≤ i ∧ i < μ 19 1 + n then f_X9_byteOf w (n - 1 - (i - μ 19 1)) else μ 20 i)) := by
    intro fu
    induction fu with
    | zero => intro x μ1 _ _ h; omega
    | succ fu ih =>
      intro x μ1 x0 x1 x2 f1 f2 f3 f4
      unfold f_X9_type_L43
      by_cases hx : x < 0
      · rw [if_pos hx]
        have : x = -1 := by omega
        subst this
        rw [show n - 1 - -1 = n by omega] at f2 f4
        exact ok_some.mpr ⟨f2, f1, f2, f4⟩
      · have hby := byt hw (i := x) ⟨by omega, by omega⟩
        rw [if_neg hx]
        unfold f_X7_put
        rw [f2, if_pos (by omega), chk_pos (by omega)]
        simp only [zlet]
        rw [zc255 ⟨hby.2.1, hby.2.2⟩, zup_n _ _ _ (by decide), f2, zw_eq (x := μ 19 1 + (n - 1 - x) + 1) (by omega) (by omega), bnd_pos rfl, zw_eq (by omega) (by omega)]
        refine ih (x + -1) _ (by omega) (by omega) (by omega) (fun k a b => by rw [zup_n _ _ _ a, zup_n _ _ _ b]; exact f1 k a b) (by rw [zup_s, up1_s]; omega) (fun i hi => by rw [zup_s, up1_n _ _ hi, zup_n _ _ _ (by decide)]; exact f3 i hi) (fun i => ?_)
        rw [zup_n _ _ _ (by decide), zup_s, up1_e]
        by_cases hi : i = μ 19 1 + (n - 1 - x)
        · rw [if_pos hi, if_pos (by omega), hi, show n - 1 - (μ 19 1 + (n - 1 - x) - μ 19 1) = x by omega]
        · rw [if_neg hi, f4]
          by_cases hi2 : μ 19 1 ≤ i ∧ i < μ 19 1 + (n - 1 - x)
          · rw [if_pos hi2, if_pos (by omega)]
          · rw [if_neg hi2, if_neg (by omega)]
  rw [hC]
  refine (cw zfu (n - 1) μ (by omega) (by omega) (by unfold zfu; omega) (fun _ _ _ => rfl) (by omega) (fun _ _ => rfl) (fun i => by rw [if_neg (by omega)])).imp fun v q => ?_
  obtain ⟨q1, q2, q3, q4⟩ := q
  have v101 : v.2 101 = μ 101 := q2 101 (by decide) (by decide)
  rw [hM, (mp0 v.2).1 ⟨rfl, hall⟩]
  unfold f_X10_type_K64
  rw [if_neg (by decide), v101, ← t1, zw_eq (x := μ 19 1 + n) (by omega) (by omega), if_pos hl]
  simp only [zlet]
  rw [zw_eq (by omega) (by omega)]
  have mw : ∀ (fu : Nat) (x : Int) (μ1 : zMem), -1 ≤ x → x < n → (x + 1).toNat < fu → (∀ k, k ≠ 101 → k ≠ 110 → μ1 k = v.2 k) → μ1 101 9 = μ 19 1 + (n - 1 - x) → (∀ i, i ≠ 9 → μ1 101 i = v.2 101 i) → (∀ i, μ1 110 i = if μ 19 1 ≤ i ∧ i < μ 19 1 + (n - 1 - x) then f_X9_byteOf w (n - 1 - (i - μ 19 1)) else μ 110 i) → Ok (f_X10_type_L90 w fu x μ1) (fun u => u.1 = μ 19 1 + n ∧ (∀ k, k ≠ 101 → k ≠ 110 → u.2 k = v.2 k) ∧ u.2 101 9 = μ 19 1 + n ∧ (∀ i, i ≠ 9 → u.2 101 i = v.2 101 i) ∧ (∀ i, u.2 110 i = if μ 19 1 ≤ i ∧ i < μ 19 1 + n then f_X9_byteOf w (n - 1 - (i - μ 19 1)) else μ 110 i)) := by
    intro fu
    induction fu with
    | zero => intro x μ1 _ _ h; omega
    | succ fu ih =>
      intro x μ1 x0 x1 x2 f1 f2 f3 f4
      unfold f_X10_type_L90
      by_cases hx : x < 0
      · rw [if_pos hx]
        have : x = -1 := by omega
        subst this
        rw [show n - 1 - -1 = n by omega] at f2 f4
        exact ok_some.mpr ⟨f2, f1, f2, f3, f4⟩
      · have hby := byt hw (i := x) ⟨by omega, by omega⟩
        rw [if_neg hx, f2, chk_pos (by omega)]
        simp only [zlet]
        rw [← hby.1, zup_n _ _ _ (by decide), f2, zw_eq (x := μ 19 1 + (n - 1 - x) + 1) (by omega) (by omega), zw_eq (by omega) (by omega)]
        refine ih (x + -1) _ (by omega) (by omega) (by omega) (fun k a b => by rw [zup_n _ _ _ a, zup_n _ _ _ b]; exact f1 k a b) (by rw [zup_s, up1_s]; omega) (fun i hi => by rw [zup_s, up1_n _ _ hi, zup_n _ _ _ (by decide)]; exact f3 i hi) (fun i => ?_)
        rw [zup_n _ _ _ (by decide), zup_s, up1_e]
        by_cases hi : i = μ 19 1 + (n - 1 - x)
        · rw [if_pos hi, if_pos (by omega), hi, show n - 1 - (μ 19 1 + (n - 1 - x) - μ 19 1) = x by omega]
        · rw [if_neg hi, f4]
          by_cases hi2 : μ 19 1 ≤ i ∧ i < μ 19 1 + (n - 1 - x)
          · rw [if_pos hi2, if_pos (by omega)]
          · rw [if_neg hi2, if_neg (by omega)]
  refine (mw zfu (n - 1) v.2 (by omega) (by omega) (by unfold zfu; omega) (fun _ _ _ => rfl) (by rw [v101, ← t1]; omega) (fun _ _ => rfl) (fun i => by rw [if_neg (by omega), q2 110 (by decide) (by decide)])).imp fun u g => ?_
  obtain ⟨g1, g2, g3, g4, g5⟩ := g
  refine ⟨by rw [g1, q1], ?_⟩
  obtain ⟨⟨r1, r2, r3⟩, r4, r5, r6, r7, r8⟩ := h
  have e : ∀ k, k ≠ 19 → k ≠ 20 → k ≠ 101 → k ≠ 110 → u.2 k = μ k := fun k a b c d => by rw [g2 k c d, q2 k a b]
  have eo : ∀ i, i ≠ 9 → u.2 101 i = μ 101 i := fun i a => by rw [g4 i a, v101]
  have e19 : u.2 19 1 = μ 19 1 + n := by rw [g2 19 (by decide) (by decide), q3]
  refine ⟨⟨r1.congr fun k a => e k (by omega) (by omega) (by omega) (by omega), r2.congr (e 2 (by decide) (by decide) (by decide) (by decide)) (by rw [e 1 (by decide) (by decide) (by decide) (by decide)]), r3.congr fun k a => e k (by omega) (by omega) (by omega) (by omega)⟩, fun s a b => ?_, ⟨?_, ?_, ?_, fun i a b => ?_⟩, fun q a b => (r6 q a b).congr ⟨a, b⟩ (fun k c => e k (by omega) (by omega) (by omega) (by omega)), fun q a b => (r7 q a b).congr ⟨a, b⟩ (fun k c => e k (by omega) (by omega) (by omega) (by omega)), r8.congr (fun k c => e k (by omega) (by omega) (by omega) (by omega)) (eo 7 (by decide)) (eo 37 (by decide)) (eo 38 (by decide)) (eo 39 (by decide))⟩
  · obtain ⟨σ, q⟩ := r4 s a b
    have hb : 37 ≤ μ 2 s ∧ μ 2 s ≤ 51 := by
      have h01 : s = 0 ∨ s = 1 := by omega
      rcases h01 with h | h <;> subst h
      · have := r2.1.b; omega
      · have := r2.2.1.b; omega
    exact ⟨σ, q.congr (by rw [e 2 (by decide) (by decide) (by decide) (by decide)]) (fun k a b => e k (by omega) (by omega) (by omega) (by omega)) (fun k a b => e k (by omega) (by omega) (by omega) (by omega))⟩
  · rw [e19, g3]
  · rw [e19]; omega
  · rw [e19]; omega
  · rw [e19] at b
    rw [g2 20 (by decide) (by decide), q4, g5]
    by_cases hi : μ 19 1 ≤ i ∧ i < μ 19 1 + n
    · rw [if_pos hi, if_pos hi]
      have := hall (n - 1 - (i - μ 19 1)) (by omega) (by omega)
      exact ⟨rfl, this.1, this.2⟩
    · rw [if_neg hi, if_neg hi]
      exact t4 i a (by omega)
