/-! the class's search: what begin lays -/
def Ft (cs ss : List Int) (μ μ' : zMem) : Prop := (∀ k, k ∉ cs → k ≠ 27 → μ' k = μ k) ∧ (∀ i, i ∉ ss → μ' 27 i = μ 27 i)
theorem Ft.refl (cs ss : List Int) (μ : zMem) : Ft cs ss μ μ := ⟨fun _ _ _ => rfl, fun _ _ => rfl⟩
theorem Ft.trans {cs ss : List Int} {μ μ1 μ2 : zMem} (h : Ft cs ss μ μ1) (h' : Ft cs ss μ1 μ2) : Ft cs ss μ μ2 := ⟨fun k a b => (h'.1 k a b).trans (h.1 k a b), fun i a => (h'.2 i a).trans (h.2 i a)⟩
theorem Ft.up {cs ss : List Int} {μ μ1 : zMem} (h : Ft cs ss μ μ1) {k : Int} (hk : k ∈ cs) (h1 : k ≠ 27) (i v : Int) : Ft cs ss μ (zup μ1 k i v) := ⟨fun k' a b => by rw [zup_n _ _ _ (fun e : k' = k => a (by rw [e]; exact hk))]; exact h.1 k' a b, fun i a => by rw [zup_n _ _ _ (Ne.symm h1)]; exact h.2 i a⟩
theorem Ft.upo {cs ss : List Int} {μ μ1 : zMem} (h : Ft cs ss μ μ1) {i : Int} (hi : i ∈ ss) (v : Int) : Ft cs ss μ (zup μ1 27 i v) := ⟨fun k' a b => by rw [zup_n _ _ _ b]; exact h.1 k' a b, fun j a => by rw [zup_s, up1_n _ _ (fun e : j = i => a (by rw [e]; exact hi))]; exact h.2 j a⟩
theorem Ft.sub {cs ss cs' ss' : List Int} {μ μ1 : zMem} (h : Ft cs ss μ μ1) (h1 : ∀ k ∈ cs, k ∈ cs') (h2 : ∀ k ∈ ss, k ∈ ss') : Ft cs' ss' μ μ1 := ⟨fun k a b => h.1 k (fun q => a (h1 k q)) b, fun i a => h.2 i (fun q => a (h2 i q))⟩
/-- the last turn of a word -/
def lst : List Int → Int → Int
  | [], a => a
  | c :: ws, a => lst ws (zmaxi a (c / 2))
/-- rim number q lies in the cells as the word ws -/
def RmT (μ : zMem) (q : Int) (ws : List Int) : Prop := μ 30 q = ws.length ∧ μ 31 q = lst ws (-1) ∧ ∀ i (h : i < ws.length), μ 29 (8 * q + i) = ws[i]
theorem lst_app (ws : List Int) (c : Int) : ∀ a, lst (ws ++ [c]) a = zmaxi (lst ws a) (c / 2) := by
  induction ws with
  | nil => intro a; rfl
  | cons d ws ih => intro a; exact ih _
theorem Ft.cs {ss : List Int} {μ μ1 : zMem} {t : Int} {σ : Sp} (h : Ft [28, 29, 30, 31] ss μ μ1) (ht : 32 < t) (c : CS μ t σ) : CS μ1 t σ := by
  have e : ∀ k, 32 < k → μ1 k = μ k := fun k hk => h.1 k (by simp; omega) (by omega)
  unfold CS
  rw [e t ht, e (t + 1) (by omega), e (t + 2) (by omega), e (t + 5) (by omega), e (t + 6) (by omega)]
  exact c
theorem Ft.cp {ss : List Int} {μ μ1 : zMem} {t : Int} {σ : Sp} (h : Ft [28, 29, 30, 31] ss μ μ1) (ht : 32 < t) (c : CP μ t σ) : CP μ1 t σ := by
  have e : ∀ k, 32 < k → μ1 k = μ k := fun k hk => h.1 k (by simp; omega) (by omega)
  unfold CP
  rw [e t ht, e (t + 3) (by omega), e (t + 4) (by omega)]
  exact c
theorem Ft.sht {ss : List Int} {μ μ1 : zMem} (h : Ft [28, 29, 30, 31] ss μ μ1) (c : ShT μ) : ShT μ1 := c.congr fun k hk => h.1 k (by simp; omega) (by omega)
theorem c_takeRim {μ : zMem} {t q f mC mE : Int} {σ : Sp} (ht : 32 < t) (hc : CS μ t σ) (hcp : CP μ t σ) (hz : SZ t mC mE 8) (hw : WfE σ mC mE) (hp : WfP σ 8) (hf : 0 ≤ f ∧ f < sP σ) (hq : 0 ≤ q ∧ q < 8) (h5 : μ 27 5 = q) : Ok (f_X6_takeRim t f μ) (fun μ' => Ft [29, 30, 31] [5] μ μ' ∧ μ' 27 5 = q + 1 ∧ RmT μ' q (rmW σ f) ∧ ∀ q' ws, 0 ≤ q' → q' < q → ws.length ≤ 8 → RmT μ q' ws → RmT μ' q' ws) := by
  obtain ⟨p1, p2, p3, _⟩ := hp.2.2 f hf.1 hf.2
  have hl := (hc.2.2.2.2 f hf.1 hf.2).1
  have hP := hp.2.1
  have hE := hw.2.2.2.1
  have hz' := hz
  obtain ⟨z1, z2, z3, z4, z5, z6, z7, z8, z9⟩ := hz'
  have key : ∀ (m fu : Nat) (i : Int) (ws : List Int) (μ1 : zMem), m < fu → 0 ≤ i → i + m = sL σ f → ws.length ≤ i → Ft [29] [] μ μ1 → (∀ j (h : j < ws.length), μ1 29 (8 * q + j) = ws[j]) → (∀ x, x < 8 * q → μ1 29 x = μ 29 x) → Ok (f_X6_takeRim_L8 t f f_X6_takeRim_K85 fu (ws.length : Int) (lst ws (-1)) i μ1) (fun μ' => Ft [29, 30, 31] [5] μ μ' ∧ μ' 27 5 = q + 1 ∧ RmT μ' q (ws ++ rmw σ f m i) ∧ ∀ q' ws, 0 ≤ q' → q' < q → ws.length ≤ 8 → RmT μ q' ws → RmT μ' q' ws) := by
    intro m
    induction m with
    | zero =>
      intro fu i ws μ1 hfu i0 hi hlen hF hK hO
      cases fu with
      | zero => omega
      | succ fu =>
        have e6 : μ1 (t + 6) = μ (t + 6) := hF.1 _ (by simp; omega) (by omega)
        have e5 : μ1 27 5 = q := by rw [hF.2 5 (by decide)]; exact h5
        unfold f_X6_takeRim_L8
        rw [chk_pos (by omega), e6, hl, if_neg (by omega)]
        unfold f_X6_takeRim_K85
        simp only [zlet]
        rw [e5, chk_pos (by omega), zup_n _ _ _ (by decide), e5, chk_pos (by omega), zup_n _ _ _ (by decide), zup_n _ _ _ (by decide), e5, zw_eq (by omega) (by omega)]
        refine ok_some.mpr ⟨?_, ?_, ?_, ?_⟩
        · exact (((hF.sub (cs' := [29, 30, 31]) (ss' := [5]) (by decide) (by decide)).up (by decide) (by decide) _ _).up (by decide) (by decide) _ _).upo (by decide) _
        · rw [zup_s, up1_s]
        · refine ⟨?_, ?_, ?_⟩
          · simp [rmw, zup_s, zup_n, up1_s]
          · simp [rmw, zup_s, zup_n, up1_s]
          · intro j hj
            simp only [rmw, List.append_nil] at hj ⊢
            rw [zup_n _ _ _ (by decide), zup_n _ _ _ (by decide), zup_n _ _ _ (by decide)]
            exact hK j hj
        · intro q' ws' a b c d
          obtain ⟨d1, d2, d3⟩ := d
          refine ⟨?_, ?_, fun j hj => ?_⟩
          · rw [zup_n _ _ _ (by decide), zup_n _ _ _ (by decide), zup_s, up1_n _ _ (by omega), hF.1 30 (by decide) (by decide)]
            exact d1
          · rw [zup_n _ _ _ (by decide), zup_s, up1_n _ _ (by omega), zup_n _ _ _ (by decide), hF.1 31 (by decide) (by decide)]
            exact d2
          · rw [zup_n _ _ _ (by decide), zup_n _ _ _ (by decide), zup_n _ _ _ (by decide), hO _ (by omega)]
            exact d3 j hj
    | succ m ih =>
      intro fu i ws μ1 hfu i0 hi hlen hF hK hO
      cases fu with
      | zero => omega
      | succ fu =>
        have hF' : Ft [28, 29, 30, 31] [] μ μ1 := hF.sub (by decide) (by decide)
        have e6 : μ1 (t + 6) = μ (t + 6) := hF.1 _ (by simp; omega) (by omega)
        have e3 : μ1 (t + 3) = μ (t + 3) := hF.1 _ (by simp; omega) (by omega)
        have e5 : μ1 27 5 = q := by rw [hF.2 5 (by decide)]; exact h5
        have hr := p3 i i0 (by omega)
        have hsw := sW_tn σ (sR σ f i / 2)
        unfold f_X6_takeRim_L8
        simp only [zlet]
        rw [chk_pos (by omega), e6, hl, if_pos (by omega), bnd_pos (c_rimStep (hF'.cs ht hc) hz hp hf ⟨i0, by omega⟩), zshr1 ⟨by omega, by omega⟩, chk_pos (by omega), e3, hcp.2.2.2 _ (by omega) (by omega), zw_eq (x := i + 1) (by omega) (by omega)]
        unfold rmw
        by_cases hi' : isTn σ (sR σ f i / 2) = true
        · have hcn := cnt_in (σ := σ) (e := sR σ f i / 2) (by omega) hi'
          have hNb := sN_b (σ := σ) hw.2.2.1
          rw [hsw.1 hi', if_neg (by omega), if_pos hi', e5, zw_eq (x := q * 8) (by omega) (by omega), zw_eq (x := q * 8 + (ws.length : Int)) (by omega) (by omega), chk_pos (by omega), zw_eq (x := 2 * cnt (isTn σ) (sR σ f i / 2).toNat) (by omega) (by omega), zand1 ⟨by omega, by omega⟩, zw_eq (x := 2 * cnt (isTn σ) (sR σ f i / 2).toNat + sR σ f i % 2) (by omega) (by omega), zw_eq (x := (ws.length : Int) + 1) (by omega) (by omega)]
          have et : tcd σ (sR σ f i) / 2 = cnt (isTn σ) (sR σ f i / 2).toNat := by unfold tcd; omega
          have := ih fu (i + 1) (ws ++ [tcd σ (sR σ f i)]) (zup μ1 29 (q * 8 + (ws.length : Int)) (tcd σ (sR σ f i))) (by omega) (by omega) (by omega) (by simp; omega) (hF.up (by decide) (by decide) _ _) ?_ ?_
          · rw [lst_app, et, List.length_append, List.append_assoc] at this
            exact this
          · intro j hj
            rw [List.length_append] at hj
            simp at hj
            by_cases hjw : j = ws.length
            · subst hjw
              rw [zup_s, show 8 * q + (ws.length : Int) = q * 8 + (ws.length : Int) by omega, up1_s]
              simp
            · rw [zup_s, up1_n _ _ (by omega), List.getElem_append_left (by omega)]
              exact hK j (by omega)
          · intro x hx
            rw [zup_s, up1_n _ _ (by omega)]
            exact hO x hx
        · rw [if_pos (hsw.2 (Bool.eq_false_iff.mpr hi')), if_neg hi']
          exact ih fu (i + 1) ws μ1 (by omega) (by omega) (by omega) (by omega) hF hK hO
  unfold f_X6_takeRim
  exact key (sL σ f).toNat zfu 0 [] μ (by unfold zfu; omega) (by omega) (by omega) (by simp) (Ft.refl _ _ _) (fun j h => absurd h (by simp)) (fun x _ => rfl)
