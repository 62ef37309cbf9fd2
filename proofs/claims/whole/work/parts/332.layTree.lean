/-! what a call of the reference may change: cells cs, slots ss of its object -/
def Fm (cs ss : List Int) (μ μ' : zMem) : Prop := (∀ k, k ∉ cs → k ≠ 101 → μ' k = μ k) ∧ (∀ i, i ∉ ss → μ' 101 i = μ 101 i)
theorem Fm.refl (cs ss : List Int) (μ : zMem) : Fm cs ss μ μ := ⟨fun _ _ _ => rfl, fun _ _ => rfl⟩
theorem Fm.trans {cs ss : List Int} {μ μ1 μ2 : zMem} (h : Fm cs ss μ μ1) (h' : Fm cs ss μ1 μ2) : Fm cs ss μ μ2 := ⟨fun k a b => (h'.1 k a b).trans (h.1 k a b), fun i a => (h'.2 i a).trans (h.2 i a)⟩
theorem Fm.up {cs ss : List Int} {μ μ1 : zMem} (h : Fm cs ss μ μ1) {k : Int} (hk : k ∈ cs) (h1 : k ≠ 101) (i v : Int) : Fm cs ss μ (zup μ1 k i v) := ⟨fun k' a b => by rw [zup_n _ _ _ (fun e : k' = k => a (by rw [e]; exact hk))]; exact h.1 k' a b, fun i a => by rw [zup_n _ _ _ (Ne.symm h1)]; exact h.2 i a⟩
theorem Fm.upo {cs ss : List Int} {μ μ1 : zMem} (h : Fm cs ss μ μ1) {i : Int} (hi : i ∈ ss) (v : Int) : Fm cs ss μ (zup μ1 101 i v) := ⟨fun k' a b => by rw [zup_n _ _ _ b]; exact h.1 k' a b, fun j a => by rw [zup_s, up1_n _ _ (fun e : j = i => a (by rw [e]; exact hi))]; exact h.2 j a⟩
theorem Fm.sub {cs ss cs' ss' : List Int} {μ μ1 : zMem} (h : Fm cs ss μ μ1) (h1 : ∀ k ∈ cs, k ∈ cs') (h2 : ∀ k ∈ ss, k ∈ ss') : Fm cs' ss' μ μ1 := ⟨fun k a b => h.1 k (fun q => a (h1 k q)) b, fun i a => h.2 i (fun q => a (h2 i q))⟩
def noSp (cs : List Int) : Prop := 102 ∉ cs ∧ 103 ∉ cs ∧ 104 ∉ cs ∧ 105 ∉ cs ∧ 106 ∉ cs ∧ 107 ∉ cs ∧ 108 ∉ cs
theorem Fm.ms {cs ss : List Int} {μ μ1 : zMem} {s : Int} {σ : Sp} (h : Fm cs ss μ μ1) (hn : noSp cs) (c : MS μ s σ) : MS μ1 s σ := by
  obtain ⟨n2, n3, n4, n5, n6, n7, n8⟩ := hn
  unfold MS at *
  rw [h.1 102 n2 (by decide), h.1 103 n3 (by decide), h.1 104 n4 (by decide), h.1 105 n5 (by decide), h.1 106 n6 (by decide), h.1 107 n7 (by decide), h.1 108 n8 (by decide)]
  exact c
/-- the tree as the reference lays it -/
def MT (μ : zMem) (σ : Sp) : Prop := (∀ c, 0 ≤ c → c < 32 → μ 120 c = b2i (tR σ c)) ∧ (∀ e, 0 ≤ e → e < sE σ → μ 121 e = b2i (tT σ e)) ∧ μ 101 20 = sN σ ∧ (∀ e, 0 ≤ e → e < sE σ → μ 123 e = if isTn σ e then cnt (isTn σ) e.toNat else -4)
section
variable {μ : zMem} {s : Int} {σ : Sp}
set_option maxHeartbeats 1000000 in
theorem m_layTree (hc : MS μ s σ) (hs : 0 ≤ s ∧ s < 3) (hw : WfE σ 32 48) : Ok (f_X10_layTree s μ) (fun μ' => Fm [120, 121, 123] [20] μ μ' ∧ MT μ' σ) := by
  have hw' := hw
  obtain ⟨w1, w2, w3, w4, w5⟩ := hw
  have hns : noSp [120, 121, 123] := by unfold noSp; decide
  -- the numbers of turns
  have key179 : ∀ (n : Nat) (x : Int) (μ1 : zMem), 0 ≤ x → x ≤ sE σ → (sE σ - x).toNat < n → Fm [120, 121, 123] [20] μ μ1 → (∀ c, 0 ≤ c → c < 32 → μ1 120 c = b2i (tR σ c)) → (∀ e, 0 ≤ e → e < sE σ → μ1 121 e = b2i (tT σ e)) → μ1 101 20 = cnt (isTn σ) x.toNat → (∀ e, 0 ≤ e → e < x → μ1 123 e = if isTn σ e then cnt (isTn σ) e.toNat else -4) →
      Ok (f_X10_layTree_L179 s n x μ1) (fun μ' => Fm [120, 121, 123] [20] μ μ' ∧ MT μ' σ) := by
    intro n
    induction n with
    | zero => intro x μ1 _ _ h; omega
    | succ n ih =>
      intro x μ1 h0 h1 h2 f1 fr ft f20 fa
      have hc1 := f1.ms hns hc
      obtain ⟨c1, c2, c3, c4, c5⟩ := hc1
      have jn : x < sE σ → ∀ b : Int, b = b2i (isTn σ x) → Ok (f_X10_layTree_J222 x (f_X10_layTree_L179 s n) b μ1) (fun μ' => Fm [120, 121, 123] [20] μ μ' ∧ MT μ' σ) := by
        intro hx b hb
        have hcl := cnt_le (isTn σ) x.toNat
        unfold f_X10_layTree_J222 f_X10_layTree_J243
        rw [chk_pos (by omega)]
        simp only [zlet]
        unfold f_X10_layTree_J259
        simp only [zlet]
        simp (disch := omega) only [zup_s, zup_n, f20]
        have hb2 : (if b = 0 then (0 : Int) else 1) = b := by
          rw [hb]
          cases isTn σ x <;> rfl
        have hb3 : 0 ≤ b ∧ b ≤ 1 := by
          rw [hb]
          cases isTn σ x <;> exact ⟨by decide, by decide⟩
        rw [hb2, zw_eq (by omega) (by omega), zw_eq (by omega) (by omega)]
        refine ih (x + 1) _ (by omega) (by omega) (by omega) ((f1.up (by decide) (by decide) _ _).upo (by decide) _) ?_ ?_ ?_ ?_
        · simp (disch := omega) only [zup_n]
          exact fr
        · simp (disch := omega) only [zup_n]
          exact ft
        · rw [zup_s, up1_s, cnt_succ _ h0, hb]
        · intro e a b'
          simp (disch := omega) only [zup_s, zup_n]
          by_cases he : e = x
          · rw [he, up1_s, hb]
            cases isTn σ x <;> rfl
          · rw [up1_n _ _ he]
            exact fa e a (by omega)
      unfold f_X10_layTree_L179
      rw [chk_pos hs, c2]
      by_cases hx : x < sE σ
      · have h3 := c4 x h0 hx
        have h4 := w5 x h0 hx
        rw [if_pos hx, zw_eq (x := 48 * s) (by omega) (by omega), zw_eq (by omega) (by omega), h3.1, chk_pos (by omega), chk_pos (by omega), fr _ (by omega) (by omega), chk_pos (by omega), ft x h0 hx]
        unfold f_X10_layTree_J221
        by_cases hr : tR σ (sF σ x) = true
        · rw [if_neg (by simp [hr, b2i])]
          by_cases htt : tT σ x = true
          · rw [if_neg (by simp [htt, b2i])]
            exact jn hx 0 (by simp [isTn, htt, b2i])
          · rw [if_pos (by simp [htt, b2i])]
            exact jn hx 1 (by simp [isTn, htt, hr, b2i])
        · rw [if_pos (by simp [hr, b2i])]
          exact jn hx 0 (by simp [isTn, hr, b2i])
      · rw [if_neg hx]
        have hxe : x = sE σ := by omega
        subst hxe
        exact ok_some.mpr ⟨f1, fr, ft, f20, fa⟩
  -- the search for the least edge that leads out
  have key55 : ∀ (g : Int → zMem → Option zMem) (r : Int → Bool) (μ1 : zMem), MS μ1 s σ → (∀ c, 0 ≤ c → c < 32 → μ1 120 c = b2i (r c)) → ∀ (n : Nat) (x : Int), 0 ≤ x → x ≤ sE σ → (sE σ - x).toNat + 1 < n → f_X10_layTree_L55 s g n (-4) x μ1 = g (if lsu (fun e => r (sF σ e) != r (sT σ e)) (sE σ - x).toNat x = -1 then -4 else lsu (fun e => r (sF σ e) != r (sT σ e)) (sE σ - x).toNat x) μ1 := by
    intro g r μ1 hc1 fr n
    obtain ⟨c1, c2, c3, c4, c5⟩ := hc1
    induction n with
    | zero => intro x _ _ h; omega
    | succ n ih =>
      intro x h0 h1 h2
      unfold f_X10_layTree_L55
      rw [chk_pos hs, c2]
      by_cases hx : x < sE σ
      · have h3 := c4 x h0 hx
        have h4 := w5 x h0 hx
        rw [if_pos hx, if_pos rfl, zw_eq (x := 48 * s) (by omega) (by omega), zw_eq (by omega) (by omega), h3.1, h3.2, chk_pos (by omega), chk_pos (by omega), chk_pos (by omega), chk_pos (by omega), fr _ (by omega) (by omega), fr _ (by omega) (by omega)]
        unfold f_X10_layTree_J112
        simp only [zlet]
        rw [zw_eq (by omega) (by omega), show (sE σ - x).toNat = (sE σ - (x + 1)).toNat + 1 by omega]
        unfold lsu
        by_cases h5 : r (sF σ x) = r (sT σ x)
        · rw [if_pos (by rw [h5])]
          have h6 : (r (sF σ x) != r (sT σ x)) = false := by simp [h5]
          simp only [h6]
          exact ih (x + 1) (by omega) (by omega) (by omega)
        · rw [if_neg (fun h => h5 (b2i_inj h))]
          have h6 : (r (sF σ x) != r (sT σ x)) = true := by simp [h5]
          simp only [h6, if_true]
          rw [if_neg (by omega)]
          cases n with
          | zero => omega
          | succ n =>
            unfold f_X10_layTree_L55
            rw [chk_pos hs, c2]
            split
            · rw [if_neg (by omega)]
            · rfl
      · rw [if_neg hx, show (sE σ - x).toNat = 0 by omega]
        rfl
  have key50 : ∀ (n k : Nat) (μ1 : zMem), (sC σ - cnt (trs σ k).1 (sC σ).toNat).toNat < n → (∀ j, j < k → tou σ (trs σ j).1 ≠ -1) → Fm [120, 121, 123] [20] μ μ1 → (∀ c, 0 ≤ c → c < 32 → μ1 120 c = b2i ((trs σ k).1 c)) → (∀ e, 0 ≤ e → e < sE σ → μ1 121 e = b2i ((trs σ k).2 e)) →
      Ok (f_X10_layTree_L50 s (f_X10_layTree_K172 s) n μ1) (fun μ' => Fm [120, 121, 123] [20] μ μ' ∧ MT μ' σ) := by
    intro n
    induction n with
    | zero => intro k μ1 h; omega
    | succ n ih =>
      intro k μ1 h0 hk f1 fr ft
      have hc1 := f1.ms hns hc
      unfold f_X10_layTree_L50
      rw [key55 _ (trs σ k).1 μ1 hc1 fr zfu 0 (by omega) (by omega) (by unfold zfu; omega), Int.sub_zero]
      show Ok (f_X10_layTree_K119 s (f_X10_layTree_K172 s) (f_X10_layTree_L50 s (f_X10_layTree_K172 s) n) (if tou σ (trs σ k).1 = -1 then -4 else tou σ (trs σ k).1) μ1) _
      by_cases hl : tou σ (trs σ k).1 = -1
      · rw [if_pos hl]
        have he := trs_end hw' (by decide) hl hk
        unfold f_X10_layTree_K119 f_X10_layTree_J166
        rw [if_pos rfl, if_pos rfl]
        unfold f_X10_layTree_K172
        simp only [zlet]
        refine key179 zfu 0 _ (by omega) (by omega) (by unfold zfu; omega) (f1.upo (by decide) _) ?_ ?_ ?_ (fun e a b => by omega)
        · simp (disch := omega) only [zup_n]
          unfold tR
          rw [he]
          exact fr
        · simp (disch := omega) only [zup_n]
          unfold tT
          rw [he]
          exact ft
        · rw [zup_s, up1_s]
          rfl
      · rw [if_neg hl]
        rcases tou_spec σ (trs σ k).1 w3 with ⟨h1, _⟩ | ⟨h1, h2, h3, h4⟩
        · exact absurd h1 hl
        · obtain ⟨c1, c2, c3, c4, c5⟩ := hc1
          have hft := c4 _ h1 h2
          have hwe := w5 _ h1 h2
          have e1 : (trs σ (k + 1)) = (fun c => (trs σ k).1 c || decide (c = sF σ (tou σ (trs σ k).1)) || decide (c = sT σ (tou σ (trs σ k).1)), fun e => (trs σ k).2 e || decide (e = tou σ (trs σ k).1)) := by
            show (if tou σ (trs σ k).1 = -1 then trs σ k else _) = _
            rw [if_neg hl]
          have hk1 : ∀ j, j < k + 1 → tou σ (trs σ j).1 ≠ -1 := fun j hj => by
            by_cases hjk : j = k
            · rw [hjk]; exact hl
            · exact hk j (by omega)
          have hcnt := trs_cnt hw' (k + 1) hk1
          have hcnt0 := trs_cnt hw' k hk
          have hcl := cnt_le (trs σ (k + 1)).1 (sC σ).toNat
          unfold f_X10_layTree_K119
          rw [if_neg (by omega), zw_eq (x := 48 * s) (by omega) (by omega), zw_eq (by omega) (by omega)]
          simp only [zlet]
          simp (disch := omega) only [zup_s, zup_n, hft.1, hft.2, zz1]
          rw [chk_pos (by omega), chk_pos (by omega), chk_pos (by omega), chk_pos (by omega), chk_pos (by omega)]
          unfold f_X10_layTree_J166
          rw [if_neg (by omega)]
          refine ih (k + 1) _ (by omega) hk1 (((f1.up (by decide) (by decide) _ _).up (by decide) (by decide) _ _).up (by decide) (by decide) _ _) ?_ ?_
          · intro c a b
            rw [e1]
            simp (disch := omega) only [zup_s, zup_n, up1_e]
            have := fr c a b
            by_cases a1 : c = sT σ (tou σ (trs σ k).1)
            · simp [a1, b2i]
            · by_cases a2 : c = sF σ (tou σ (trs σ k).1)
              · simp [a2, b2i]
              · simp [a1, a2, this]
          · intro e a b
            rw [e1]
            simp (disch := omega) only [zup_s, zup_n, up1_e]
            have := ft e a b
            by_cases a1 : e = tou σ (trs σ k).1
            · simp [a1, b2i]
            · simp [a1, this]
  have key31 : ∀ (n : Nat) (x : Int) (μ1 : zMem), 0 ≤ x → x ≤ 48 → (48 - x).toNat < n → Fm [120, 121, 123] [20] μ μ1 → (∀ c, 0 ≤ c → c < 32 → μ1 120 c = b2i ((trs σ 0).1 c)) → (∀ e, 0 ≤ e → e < x → μ1 121 e = 0) → Ok (f_X10_layTree_L31 (f_X10_layTree_K50 s) n x μ1) (fun μ' => Fm [120, 121, 123] [20] μ μ' ∧ MT μ' σ) := by
    intro n
    induction n with
    | zero => intro x μ1 _ _ h; omega
    | succ n ih =>
      intro x μ1 h0 h1 h2 f1 fr ft
      unfold f_X10_layTree_L31
      by_cases hx : x < 48
      · rw [if_pos hx, chk_pos (by omega)]
        simp only [zlet]
        rw [zw_eq (by omega) (by omega), zz0]
        refine ih (x + 1) _ (by omega) (by omega) (by omega) (f1.up (by decide) (by decide) _ _) ?_ (fun e a b => ?_)
        · simp (disch := omega) only [zup_n]
          exact fr
        · rw [zup_s]
          by_cases he : e = x
          · rw [he, up1_s]
          · rw [up1_n _ _ he]; exact ft e a (by omega)
      · rw [if_neg hx]
        unfold f_X10_layTree_K50
        have h00 := trs_cnt hw' 0 (fun j hj => by omega)
        exact key50 zfu 0 μ1 (by unfold zfu; omega) (fun j hj => by omega) f1 fr (fun e a b => by rw [ft e a (by omega)]; rfl)
  have key2 : ∀ (n : Nat) (x : Int) (μ1 : zMem), 0 ≤ x → x ≤ 32 → (32 - x).toNat < n → Fm [120, 121, 123] [20] μ μ1 → (∀ c, 0 ≤ c → c < x → μ1 120 c = b2i ((trs σ 0).1 c)) → Ok (f_X10_layTree_L2 (f_X10_layTree_K29 s) n x μ1) (fun μ' => Fm [120, 121, 123] [20] μ μ' ∧ MT μ' σ) := by
    intro n
    induction n with
    | zero => intro x μ1 _ _ h; omega
    | succ n ih =>
      intro x μ1 h0 h1 h2 f1 fr
      unfold f_X10_layTree_L2
      by_cases hx : x < 32
      · rw [if_pos hx]
        unfold f_X10_layTree_J22
        rw [chk_pos (by omega)]
        simp only [zlet]
        rw [zw_eq (by omega) (by omega)]
        refine ih (x + 1) _ (by omega) (by omega) (by omega) (f1.up (by decide) (by decide) _ _) (fun c a b => ?_)
        rw [zup_s]
        by_cases he : c = x
        · rw [he, up1_s]
          by_cases h00 : x = 0
          · rw [if_pos h00, zz1]; simp [trs, b2i, h00]
          · rw [if_neg h00, zz0]; simp [trs, b2i, h00]
        · rw [up1_n _ _ he]; exact fr c a (by omega)
      · rw [if_neg hx]
        exact key31 zfu 0 μ1 (by omega) (by omega) (by unfold zfu; omega) f1 (fun c a b => fr c a (by omega)) (fun e a b => by omega)
  exact key2 zfu 0 μ (by omega) (by omega) (by unfold zfu; omega) (Fm.refl _ _ μ) (fun c a b => by omega)
end
