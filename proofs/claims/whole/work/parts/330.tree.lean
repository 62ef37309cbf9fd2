/-! findPart of the class -/
def FP (t : Int) (μ μ' : zMem) : Prop := (∀ k, k ≠ t → k ≠ t + 3 → k ≠ t + 4 → μ' k = μ k) ∧ (∀ i, i ≠ 9 → i ≠ 10 → μ' t i = μ t i)
def CP (μ : zMem) (t : Int) (σ : Sp) : Prop := μ t 9 = sQ σ ∧ μ t 10 = sN σ ∧ (∀ c, 0 ≤ c → c < sC σ → μ (t + 4) c = b2i (tR σ c)) ∧ (∀ e, 0 ≤ e → e < sE σ → μ (t + 3) e = sW σ e)
theorem FP.refl (t : Int) (μ : zMem) : FP t μ μ := ⟨fun _ _ _ _ => rfl, fun _ _ _ => rfl⟩
theorem FP.trans {t : Int} {μ μ1 μ2 : zMem} (h : FP t μ μ1) (h' : FP t μ1 μ2) : FP t μ μ2 := ⟨fun k a b c => (h'.1 k a b c).trans (h.1 k a b c), fun i a b => (h'.2 i a b).trans (h.2 i a b)⟩
theorem FP.up3 {t : Int} {μ μ1 : zMem} (h : FP t μ μ1) (i v : Int) : FP t μ (zup μ1 (t + 3) i v) := ⟨fun k a b c => by rw [zup_n _ _ _ b]; exact h.1 k a b c, fun i a b => by rw [zup_n _ _ _ (by omega)]; exact h.2 i a b⟩
theorem FP.up4 {t : Int} {μ μ1 : zMem} (h : FP t μ μ1) (i v : Int) : FP t μ (zup μ1 (t + 4) i v) := ⟨fun k a b c => by rw [zup_n _ _ _ c]; exact h.1 k a b c, fun i a b => by rw [zup_n _ _ _ (by omega)]; exact h.2 i a b⟩
theorem FP.up9 {t : Int} {μ μ1 : zMem} (h : FP t μ μ1) (v : Int) : FP t μ (zup μ1 t 9 v) := ⟨fun k a b c => by rw [zup_n _ _ _ a]; exact h.1 k a b c, fun i a b => by rw [zup_s, up1_n _ _ a]; exact h.2 i a b⟩
theorem FP.up10 {t : Int} {μ μ1 : zMem} (h : FP t μ μ1) (v : Int) : FP t μ (zup μ1 t 10 v) := ⟨fun k a b c => by rw [zup_n _ _ _ a]; exact h.1 k a b c, fun i a b => by rw [zup_s, up1_n _ _ b]; exact h.2 i a b⟩
theorem FP.cs {t : Int} {μ μ1 : zMem} {σ : Sp} (h : FP t μ μ1) (c : CS μ t σ) : CS μ1 t σ := by
  unfold CS at *
  rw [h.2 6 (by decide) (by decide), h.2 7 (by decide) (by decide), h.2 8 (by decide) (by decide), h.1 (t + 1) (by omega) (by omega) (by omega), h.1 (t + 2) (by omega) (by omega) (by omega), h.1 (t + 5) (by omega) (by omega) (by omega), h.1 (t + 6) (by omega) (by omega) (by omega)]
  exact c
section
variable {μ : zMem} {t mC mE mP : Int} {σ : Sp}
theorem c_least (hc : CS μ t σ) (hz : SZ t mC mE mP) (hw : WfE σ mC mE) {r : Int → Bool} (hr : ∀ c, 0 ≤ c → c < sC σ → μ (t + 4) c = b2i (r c)) : f_X5_leastLeadingOut t μ = some (tou σ r) := by
  obtain ⟨c1, c2, c3, c4, c5⟩ := hc
  obtain ⟨z1, z2, z3, z4, z5, z6, z7, z8, z9⟩ := hz
  obtain ⟨w1, w2, w3, w4, w5⟩ := hw
  have key : ∀ (n : Nat) (x : Int), 0 ≤ x → x ≤ sE σ → (sE σ - x).toNat < n → f_X5_leastLeadingOut_L2 t μ n x = some (lsu (fun e => r (sF σ e) != r (sT σ e)) (sE σ - x).toNat x) := by
    intro n
    induction n with
    | zero => intro x _ _ h; omega
    | succ n ih =>
      intro x h0 h1 h2
      unfold f_X5_leastLeadingOut_L2
      by_cases hx : x < sE σ
      · have h3 := c4 x h0 hx
        have h4 := w5 x h0 hx
        rw [if_pos (by omega), chk_pos (by omega), h3.1, h3.2, chk_pos (by omega), chk_pos (by omega), chk_pos (by omega), hr _ (by omega) (by omega), hr _ (by omega) (by omega), show (sE σ - x).toNat = (sE σ - (x + 1)).toNat + 1 by omega]
        unfold lsu
        by_cases h5 : r (sF σ x) = r (sT σ x)
        · rw [if_pos (by rw [h5]), if_neg (by simp [h5])]
          unfold zlet
          rw [zw_eq (by omega) (by omega)]
          exact ih (x + 1) (by omega) (by omega) (by omega)
        · rw [if_neg (fun h => h5 (b2i_inj h)), if_pos (by simp [h5])]
      · rw [if_neg (by omega), show (sE σ - x).toNat = 0 by omega]
        rfl
  unfold f_X5_leastLeadingOut tou
  rw [key zfu 0 (by omega) (by omega) (by unfold zfu; omega), Int.sub_zero]
theorem c_numberTurns (hc : CS μ t σ) (hz : SZ t mC mE mP) (hw : WfE σ mC mE) (hr : ∀ c, 0 ≤ c → c < sC σ → μ (t + 4) c = b2i (tR σ c)) (ht : ∀ e, 0 ≤ e → e < sE σ → μ (t + 3) e = if tT σ e then -1 else -2) :
    Ok (f_X5_numberTurns t μ) (fun μ' => FP t μ μ' ∧ (∀ i, μ' (t + 4) i = μ (t + 4) i) ∧ μ' t 9 = μ t 9 ∧ μ' t 10 = sN σ ∧ (∀ e, 0 ≤ e → e < sE σ → μ' (t + 3) e = sW σ e)) := by
  have hw' := hw
  obtain ⟨z1, z2, z3, z4, z5, z6, z7, z8, z9⟩ := hz
  obtain ⟨w1, w2, w3, w4, w5⟩ := hw
  have key : ∀ (n : Nat) (x : Int) (μ1 : zMem), 0 ≤ x → x ≤ sE σ → (sE σ - x).toNat < n → FP t μ μ1 → (∀ i, μ1 (t + 4) i = μ (t + 4) i) → μ1 t 9 = μ t 9 → μ1 t 10 = cnt (isTn σ) x.toNat → (∀ e, 0 ≤ e → e < x → μ1 (t + 3) e = sW σ e) → (∀ e, x ≤ e → e < sE σ → μ1 (t + 3) e = if tT σ e then -1 else -2) →
      Ok (f_X5_numberTurns_L7 t n x μ1) (fun μ' => FP t μ μ' ∧ (∀ i, μ' (t + 4) i = μ (t + 4) i) ∧ μ' t 9 = μ t 9 ∧ μ' t 10 = sN σ ∧ (∀ e, 0 ≤ e → e < sE σ → μ' (t + 3) e = sW σ e)) := by
    intro n
    induction n with
    | zero => intro x μ1 _ _ h; omega
    | succ n ih =>
      intro x μ1 h0 h1 h2 f1 f4 f9 f10 fa fb
      have hc1 := f1.cs hc
      obtain ⟨c1, c2, c3, c4, c5⟩ := hc1
      unfold f_X5_numberTurns_L7
      by_cases hx : x < sE σ
      · have h3 := c4 x h0 hx
        have h4 := w5 x h0 hx
        have hs : cnt (isTn σ) (x + 1).toNat = cnt (isTn σ) x.toNat + b2i (isTn σ x) := cnt_succ _ h0
        have hb := fb x (by omega) hx
        have hcl := cnt_le (isTn σ) x.toNat
        rw [if_pos (by omega), chk_pos (by omega), hb]
        cases htx : tT σ x with
        | true =>
          rw [if_pos (by simp)]
          unfold zlet
          rw [zw_eq (by omega) (by omega)]
          refine ih (x + 1) μ1 (by omega) (by omega) (by omega) f1 f4 f9 ?_ ?_ (fun e a b => fb e (by omega) b)
          · rw [f10, hs]
            simp [isTn, htx, b2i]
          · intro e a b
            by_cases he : e = x
            · rw [he, hb]
              simp [sW, htx]
            · exact fa e a (by omega)
        | false =>
          rw [if_neg (by simp), chk_pos (by omega), h3.1, chk_pos (by omega), f4, hr _ (by omega) (by omega)]
          cases hrx : tR σ (sF σ x) with
          | false =>
            rw [if_pos (by rfl)]
            unfold zlet
            rw [zw_eq (by omega) (by omega)]
            refine ih (x + 1) μ1 (by omega) (by omega) (by omega) f1 f4 f9 ?_ ?_ (fun e a b => fb e (by omega) b)
            · rw [f10, hs]
              simp [isTn, hrx, b2i]
            · intro e a b
              by_cases he : e = x
              · rw [he, hb]
                simp [sW, htx, hrx]
              · exact fa e a (by omega)
          | true =>
            rw [if_neg (by simp [b2i]), chk_pos (by omega)]
            unfold zlet
            simp (disch := omega) only [zup_s, zup_n, f10]
            rw [zw_eq (by omega) (by omega), zw_eq (by omega) (by omega)]
            refine ih (x + 1) _ (by omega) (by omega) (by omega) ((f1.up3 _ _).up10 _) ?_ ?_ ?_ ?_ ?_
            · intro i
              simp (disch := omega) only [zup_s, zup_n, f4]
            · simp (disch := omega) only [zup_s, zup_n, up1_n, f9]
            · simp (disch := omega) only [zup_s, zup_n, up1_s]
              rw [hs]
              simp [isTn, htx, hrx, b2i]
            · intro e a b
              simp (disch := omega) only [zup_s, zup_n]
              by_cases he : e = x
              · rw [he, up1_s]
                simp [sW, htx, hrx]
              · rw [up1_n _ _ he]
                exact fa e a (by omega)
            · intro e a b
              simp (disch := omega) only [zup_s, zup_n, up1_n]
              exact fb e (by omega) b
      · rw [if_neg (by omega)]
        have hxe : x = sE σ := by omega
        subst hxe
        exact ok_some.mpr ⟨f1, f4, f9, f10, fun e a b => fa e a b⟩
  unfold f_X5_numberTurns zlet
  refine key zfu 0 _ (by omega) (by omega) (by unfold zfu; omega) ((FP.refl t μ).up10 0) ?_ ?_ ?_ (fun e a b => by omega) ?_
  · intro i
    rw [zup_n _ _ _ (by omega)]
  · rw [zup_s, up1_n _ _ (by decide)]
  · rw [zup_s, up1_s]
    rfl
  · intro e a b
    rw [zup_n _ _ _ (by omega)]
    exact ht e a b
theorem c_findPart (hc : CS μ t σ) (hz : SZ t mC mE mP) (hw : WfE σ mC mE) : Ok (f_X5_findPart t μ) (fun μ' => FP t μ μ' ∧ CP μ' t σ) := by
  have hz' := hz
  have hw' := hw
  obtain ⟨z1, z2, z3, z4, z5, z6, z7, z8, z9⟩ := hz
  obtain ⟨w1, w2, w3, w4, w5⟩ := hw
  have key65 : ∀ (n k : Nat) (μ1 : zMem), (sC σ - cnt (trs σ k).1 (sC σ).toNat).toNat < n → (∀ j, j < k → tou σ (trs σ j).1 ≠ -1) → FP t μ μ1 → μ1 t 9 = cnt (trs σ k).1 (sC σ).toNat → (∀ c, 0 ≤ c → c < sC σ → μ1 (t + 4) c = b2i ((trs σ k).1 c)) → (∀ e, 0 ≤ e → e < sE σ → μ1 (t + 3) e = if (trs σ k).2 e then -1 else -2) →
      Ok (f_X5_findPart_L65 t (f_X5_findPart_K130 t) n (tou σ (trs σ k).1) μ1) (fun μ' => FP t μ μ' ∧ CP μ' t σ) := by
    intro n
    induction n with
    | zero => intro k μ1 h; omega
    | succ n ih =>
      intro k μ1 h0 hk f1 f9 fr ft
      have hc1 := f1.cs hc
      have fin : tou σ (trs σ k).1 = -1 → Ok (f_X5_findPart_K130 t μ1) (fun μ' => FP t μ μ' ∧ CP μ' t σ) := by
        intro hl
        have he := trs_end hw' z7 hl hk
        unfold f_X5_findPart_K130
        refine ok_bnd.mpr (Ok.imp (c_numberTurns hc1 hz' hw' (fun c a b => by rw [fr c a b]; unfold tR; rw [he]) (fun e a b => by rw [ft e a b]; unfold tT; rw [he])) (fun μ' q => ok_some.mpr ?_))
        obtain ⟨q1, q2, q3, q4, q5⟩ := q
        refine ⟨f1.trans q1, ?_, q4, fun c a b => ?_, q5⟩
        · rw [q3, f9]
          unfold sQ tR
          rw [he]
        · rw [q2, fr c a b]
          unfold tR
          rw [he]
      unfold f_X5_findPart_L65
      obtain ⟨c1, c2, c3, c4, c5⟩ := hc1
      rw [f9, c1]
      by_cases hlt : cnt (trs σ k).1 (sC σ).toNat < sC σ
      · rw [if_pos hlt]
        by_cases hl : tou σ (trs σ k).1 = -1
        · rw [if_pos hl]
          exact fin hl
        · rw [if_neg hl]
          rcases tou_spec σ (trs σ k).1 w3 with ⟨h1, _⟩ | ⟨h1, h2, h3, h4⟩
          · exact absurd h1 hl
          · have hft := c4 _ h1 h2
            have hwe := w5 _ h1 h2
            have e1 : (trs σ (k + 1)) = (fun c => (trs σ k).1 c || decide (c = sF σ (tou σ (trs σ k).1)) || decide (c = sT σ (tou σ (trs σ k).1)), fun e => (trs σ k).2 e || decide (e = tou σ (trs σ k).1)) := by
              show (if tou σ (trs σ k).1 = -1 then trs σ k else _) = _
              rw [if_neg hl]
            have hk1 : ∀ j, j < k + 1 → tou σ (trs σ j).1 ≠ -1 := fun j hj => by
              by_cases hjk : j = k
              · rw [hjk]; exact hl
              · exact hk j (by omega)
            have hcnt := trs_cnt hw' (k + 1) hk1
            have hcnt0 := trs_cnt hw' k hk
            have hcl := cnt_le (trs σ (k + 1)).1 (sC σ).toNat
            unfold zlet
            simp (disch := omega) only [zup_s, zup_n, hft.1, hft.2, zz1, up1_n, f9]
            rw [chk_pos (by omega), chk_pos (by omega), chk_pos (by omega), chk_pos (by omega), chk_pos (by omega), zw_eq (by omega) (by omega)]
            generalize hμ2 : zup (zup (zup (zup μ1 (t + 3) (tou σ (trs σ k).1) (-1)) (t + 4) (sF σ (tou σ (trs σ k).1)) 1) (t + 4) (sT σ (tou σ (trs σ k).1)) 1) t 9 (cnt (trs σ k).1 (sC σ).toNat + 1) = μ2
            have g1 : FP t μ μ2 := by
              rw [← hμ2]
              exact (((f1.up3 _ _).up4 _ _).up4 _ _).up9 _
            have gr : ∀ c, 0 ≤ c → c < sC σ → μ2 (t + 4) c = b2i ((trs σ (k + 1)).1 c) := by
              intro c a b
              rw [← hμ2, e1]
              simp (disch := omega) only [zup_s, zup_n, up1_e]
              have := fr c a b
              by_cases a1 : c = sT σ (tou σ (trs σ k).1)
              · simp [a1, b2i]
              · by_cases a2 : c = sF σ (tou σ (trs σ k).1)
                · simp [a2, b2i]
                · simp [a1, a2, this]
            have gt : ∀ e, 0 ≤ e → e < sE σ → μ2 (t + 3) e = if (trs σ (k + 1)).2 e then -1 else -2 := by
              intro e a b
              rw [← hμ2, e1]
              simp (disch := omega) only [zup_s, zup_n, up1_e]
              have := ft e a b
              by_cases a1 : e = tou σ (trs σ k).1
              · simp [a1]
              · simp [a1, this]
            have g9 : μ2 t 9 = cnt (trs σ (k + 1)).1 (sC σ).toNat := by
              rw [← hμ2, zup_s, up1_s]
              omega
            rw [c_least (g1.cs hc) hz' hw' gr, bnd_pos rfl]
            exact ih (k + 1) μ2 (by omega) hk1 g1 g9 gr gt
      · rw [if_neg hlt]
        refine fin ?_
        have hcl := cnt_le (trs σ k).1 (sC σ).toNat
        have hall := cnt_full (sC σ).toNat (r := (trs σ k).1) (by omega)
        rcases tou_spec σ (trs σ k).1 w3 with ⟨h1, _⟩ | ⟨h1, h2, h3, h4⟩
        · exact h1
        · have hwe := w5 _ h1 h2
          exact absurd ((hall (sF σ (tou σ (trs σ k).1)) (by omega) (by omega)).trans (hall (sT σ (tou σ (trs σ k).1)) (by omega) (by omega)).symm) h3
  have key55 : ∀ (μ1 : zMem), FP t μ μ1 → (∀ c, 0 ≤ c → c < sC σ → μ1 (t + 4) c = b2i ((trs σ 0).1 c)) → (∀ e, 0 ≤ e → e < sE σ → μ1 (t + 3) e = -2) → Ok (f_X5_findPart_K55 t μ1) (fun μ' => FP t μ μ' ∧ CP μ' t σ) := by
    intro μ1 f1 fr ft
    unfold f_X5_findPart_K55
    simp only [zlet]
    have g1 := f1.up9 1
    have gr : ∀ c, 0 ≤ c → c < sC σ → zup μ1 t 9 1 (t + 4) c = b2i ((trs σ 0).1 c) := fun c a b => by rw [zup_n _ _ _ (by omega)]; exact fr c a b
    have h0 := trs_cnt hw' 0 (fun j hj => by omega)
    rw [c_least (g1.cs hc) hz' hw' gr, bnd_pos rfl]
    refine key65 zfu 0 _ (by unfold zfu; omega) (fun j hj => by omega) g1 ?_ gr (fun e a b => ?_)
    · rw [zup_s, up1_s, h0]
      rfl
    · rw [zup_n _ _ _ (by omega), ft e a b]
      rfl
  have key33 : ∀ (n : Nat) (x : Int) (μ1 : zMem), 0 ≤ x → x ≤ sE σ → (sE σ - x).toNat < n → FP t μ μ1 → (∀ c, 0 ≤ c → c < sC σ → μ1 (t + 4) c = b2i ((trs σ 0).1 c)) → (∀ e, 0 ≤ e → e < x → μ1 (t + 3) e = -2) → Ok (f_X5_findPart_L33 t (f_X5_findPart_K55 t) n x μ1) (fun μ' => FP t μ μ' ∧ CP μ' t σ) := by
    intro n
    induction n with
    | zero => intro x μ1 _ _ h; omega
    | succ n ih =>
      intro x μ1 h0 h1 h2 f1 fr ft
      unfold f_X5_findPart_L33
      rw [(f1.cs hc).2.1]
      by_cases hx : x < sE σ
      · rw [if_pos hx, chk_pos (by omega)]
        unfold zlet
        rw [zw_eq (by omega) (by omega)]
        refine ih (x + 1) _ (by omega) (by omega) (by omega) (f1.up3 _ _) (fun c a b => ?_) (fun e a b => ?_)
        · rw [zup_n _ _ _ (by omega)]; exact fr c a b
        · rw [zup_s]
          by_cases he : e = x
          · rw [he, up1_s]
          · rw [up1_n _ _ he]; exact ft e a (by omega)
      · rw [if_neg hx]
        exact key55 μ1 f1 fr (fun e a b => ft e a (by omega))
  have key2 : ∀ (n : Nat) (x : Int) (μ1 : zMem), 0 ≤ x → x ≤ sC σ → (sC σ - x).toNat < n → FP t μ μ1 → (∀ c, 0 ≤ c → c < x → μ1 (t + 4) c = b2i ((trs σ 0).1 c)) → Ok (f_X5_findPart_L2 t (f_X5_findPart_K31 t) n x μ1) (fun μ' => FP t μ μ' ∧ CP μ' t σ) := by
    intro n
    induction n with
    | zero => intro x μ1 _ _ h; omega
    | succ n ih =>
      intro x μ1 h0 h1 h2 f1 fr
      unfold f_X5_findPart_L2
      rw [(f1.cs hc).1]
      by_cases hx : x < sC σ
      · rw [if_pos hx]
        unfold f_X5_findPart_J24
        rw [chk_pos (by omega)]
        unfold zlet
        rw [zw_eq (by omega) (by omega)]
        refine ih (x + 1) _ (by omega) (by omega) (by omega) (f1.up4 _ _) (fun c a b => ?_)
        rw [zup_s]
        by_cases he : c = x
        · rw [he, up1_s]
          by_cases h00 : x = 0
          · rw [if_pos h00, zz1]; simp [trs, b2i, h00]
          · rw [if_neg h00, zz0]; simp [trs, b2i, h00]
        · rw [up1_n _ _ he]; exact fr c a (by omega)
      · rw [if_neg hx]
        exact key33 zfu 0 μ1 (by omega) (by omega) (by unfold zfu; omega) f1 (fun c a b => fr c a (by omega)) (fun e a b => by omega)
  exact key2 zfu 0 μ (by omega) (by omega) (by unfold zfu; omega) (FP.refl t μ) (fun c a b => by omega)
end
