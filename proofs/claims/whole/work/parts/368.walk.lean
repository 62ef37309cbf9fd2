/-! walk -/
def ic (v E : Int) : Int := if 1 ≤ v ∧ v ≤ E then 2 * (v - 1) else if -E ≤ v ∧ v ≤ -1 then 2 * (-v - 1) + 1 else -1
theorem soi {v E : Int} (g : Rg v) (hE : 0 ≤ E ∧ E ≤ 12) : f_X9_stepOfItem v E = ic v E := by
  unfold Rg at g
  unfold f_X9_stepOfItem f_X9_stepOfItem_J13 f_X9_stepOfItem_J37 ic
  by_cases h0 : v = 0
  · rw [if_pos h0, if_neg (by omega), if_neg (by omega)]
  · rw [if_neg h0]
    by_cases h1 : v ≤ 0
    · rw [if_pos h1, zw_eq (x := -1 - v) (by omega) (by omega), if_neg (show ¬ (1 ≤ v ∧ v ≤ E) by omega)]
      by_cases h2 : -E ≤ v ∧ v ≤ -1
      · rw [if_pos (show -1 - v < E by omega), if_pos (show v < 0 by omega), if_pos h2, zw_eq (x := 2 * (-1 - v)) (by omega) (by omega), zw_eq (by omega) (by omega)]
        omega
      · rw [if_neg (show ¬ -1 - v < E by omega), if_neg h2]
    · rw [if_neg h1, zw_eq (x := v - 1) (by omega) (by omega)]
      by_cases h2 : v ≤ E
      · rw [if_pos (show v - 1 < E by omega), if_neg (show ¬ v < 0 by omega), if_pos (show 1 ≤ v ∧ v ≤ E by omega), zw_eq (x := 2 * (v - 1)) (by omega) (by omega), zw_eq (by omega) (by omega)]
        omega
      · rw [if_neg (show ¬ v - 1 < E by omega), if_neg (show ¬ (1 ≤ v ∧ v ≤ E) by omega), if_neg (by omega)]
theorem ic_spec {v E : Int} (h : ic v E ≠ -1) : 0 ≤ ic v E ∧ ic v E < 2 * E ∧ stp (ic v E) = v := by
  unfold ic at *
  unfold stp
  split at h
  · rw [if_pos (by assumption), if_pos (by omega)]; omega
  · split at h
    · rw [if_neg (by assumption), if_pos (by assumption), if_neg (by omega)]; omega
    · exact absurd rfl h
def wok (σ : Sp) (w : Int → Int) (i : Int) : Prop := w i ≠ -1 ∧ (i = 0 ∨ sA σ (w i) = sB σ (w (i - 1)))
theorem CPn.cg {μ : zMem} {σ : Sp} {k : Int} {w w' : Int → Int} (hk : 0 ≤ k) (h : CPn μ σ k w) (he : ∀ i, 0 ≤ i → i < k → w i = w' i) : CPn μ σ k w' := by
  obtain ⟨p1, p2, p3, p4⟩ := h
  refine ⟨p1, fun i a b => by rw [p2 i a b, he i a b], ?_, ?_⟩
  · rw [p3]
    by_cases h0 : k = 0
    · rw [if_pos h0, if_pos h0]
    · rw [if_neg h0, if_neg h0, he 0 (by omega) (by omega)]
  · rw [p4]
    by_cases h0 : k = 0
    · rw [if_pos h0, if_pos h0]
    · rw [if_neg h0, if_neg h0, he (k - 1) (by omega) (by omega)]
theorem c_walkL {μ : zMem} {a b c q5 n : Int} {σ : Sp} (h : Rel μ) (hb : 0 ≤ b ∧ b ≤ 1) (hq : 0 ≤ c ∧ c < 4) (hf : 0 ≤ q5 ∧ q5 + n ≤ 20) (hn : 0 ≤ n ∧ n ≤ 16) (s1 : CS μ (μ 2 b) σ) (s4 : WfE σ 8 12) (hg : ∀ i, 0 ≤ i → i < 20 → Rg (μ (66 + 2 * c + 1) i)) : ∀ (fu : Nat) (x : Int) (μ1 : zMem), 0 ≤ x → x ≤ n → (n - x).toNat < fu → FPn μ μ1 → CPn μ1 σ x (fun i => ic (μ (66 + 2 * c + 1) (q5 + i)) (sE σ)) → (∀ i, 0 ≤ i → i < x → wok σ (fun i => ic (μ (66 + 2 * c + 1) (q5 + i)) (sE σ)) i) →
    ((∀ i, x ≤ i → i < n → wok σ (fun i => ic (μ (66 + 2 * c + 1) (q5 + i)) (sE σ)) i) → ∃ μ2, f_X9_walk_L84 b q5 n (66 + 2 * c) (f_X9_walk_K149 a b) fu x μ1 = f_X9_walk_K149 a b μ2 ∧ FPn μ μ2 ∧ CPn μ2 σ n (fun i => ic (μ (66 + 2 * c + 1) (q5 + i)) (sE σ))) ∧ (¬ (∀ i, x ≤ i → i < n → wok σ (fun i => ic (μ (66 + 2 * c + 1) (q5 + i)) (sE σ)) i) → ∃ μ2, f_X9_walk_L84 b q5 n (66 + 2 * c) (f_X9_walk_K149 a b) fu x μ1 = some (-2, μ2) ∧ FPn μ μ2) := by
  have hk := h.own hb
  have hbb := hk.b
  have hz := hk.sz
  have hzl : zlen (66 + 2 * c + 1) = 20 := by
    have : c = 0 ∨ c = 1 ∨ c = 2 ∨ c = 3 := by omega
    rcases this with h | h | h | h <;> subst h <;> decide
  have hE := s4.2.2
  generalize hw : (fun i => ic (μ (66 + 2 * c + 1) (q5 + i)) (sE σ)) = w
  have hwi : ∀ i, w i = ic (μ (66 + 2 * c + 1) (q5 + i)) (sE σ) := fun i => by rw [← hw]
  intro fu
  induction fu with
  | zero => intro x μ1 _ _ h; omega
  | succ fu ih =>
    intro x μ1 x0 x1 x2 f1 f2 f3
    unfold f_X9_walk_L84
    by_cases hx : x < n
    · have hcs := f1.cs s1 hbb.1
      have e2 : μ1 2 = μ 2 := f1.1 2 (by decide) (by decide) (by decide)
      rw [if_pos hx, zw_eq (x := q5 + x) (by omega) (by omega), chk_pos (by omega), chk_pos (by omega), e2, chk_pos (by omega)]
      simp only [zlet]
      rw [f1.1 (66 + 2 * c + 1) (by omega) (by omega) (by omega), hcs.2.1, soi (hg _ (by omega) (by omega)) ⟨hE.1, hE.2.1⟩, ← hwi x]
      by_cases hw1 : w x = -1
      · rw [if_pos hw1]
        exact ⟨fun hall => absurd hw1 (hall x (by omega) hx).1, fun _ => ⟨μ1, rfl, f1⟩⟩
      · have his := ic_spec (v := μ (66 + 2 * c + 1) (q5 + x)) (E := sE σ) (by rw [← hwi x]; exact hw1)
        rw [← hwi x] at his
        rw [if_neg hw1, chk_pos (by omega), chk_pos (by omega)]
        have hgo := c_goOn (c := w x) hcs hz s4 hbb.1 f2 ⟨x0, by omega⟩ ⟨his.1, his.2.1⟩
        by_cases hj : x = 0 ∨ sA σ (w x) = sB σ (w (x - 1))
        · obtain ⟨v, ev, q1, q2, q3, q4⟩ := hgo.1 hj
          rw [ev, bnd2_pos (v := v.1) (μ := v.2) rfl, q1, if_neg (by decide), zw_eq (by omega) (by omega)]
          have hn1 := ih (x + 1) v.2 (by omega) (by omega) (by omega) (f1.trans q2) (q4.cg (by omega) (fun i i0 i1 => by
            by_cases hi : i = x
            · rw [hi, up1_s]
            · rw [up1_n _ _ hi])) (fun i i0 i1 => by
            by_cases hi : i = x
            · rw [hi]; exact ⟨hw1, hj⟩
            · exact f3 i i0 (by omega))
          refine ⟨fun hall => hn1.1 (fun i i0 i1 => hall i (by omega) i1), fun hnall => hn1.2 (fun hall => hnall (fun i i0 i1 => ?_))⟩
          by_cases hi : i = x
          · rw [hi]; exact ⟨hw1, hj⟩
          · exact hall i (by omega) i1
        · rw [hgo.2 hj, bnd2_pos rfl, if_pos rfl]
          exact ⟨fun hall => absurd (hall x (by omega) hx).2 hj, fun _ => ⟨μ1, rfl, f1⟩⟩
    · rw [if_neg hx]
      have : x = n := by omega
      subst this
      exact ⟨fun _ => ⟨μ1, rfl, f1, f2⟩, fun hna => absurd (fun i i0 i1 => by omega) hna⟩
theorem m_walkL {μ : zMem} {a b c q5 n : Int} {σ : Sp} (hb : 0 ≤ b ∧ b ≤ 1) (hq : 0 ≤ c ∧ c < 4) (hf : 0 ≤ q5 ∧ q5 + n ≤ 20) (hn : 0 ≤ n ∧ n ≤ 16) (s3 : MS μ b σ) (s4 : WfE σ 8 12) (it : Int → Int) (hit : ∀ i, 0 ≤ i → i < 20 → μ 160 (20 * c + i) = it i) : ∀ (fu : Nat) (x : Int) (μ1 : zMem), 0 ≤ x → x ≤ n → (n - x).toNat < fu → Fm [116] [] μ μ1 → (∀ i, 0 ≤ i → i < x → μ1 116 i = stp (ic (it (q5 + i)) (sE σ)) ∧ wok σ (fun i => ic (it (q5 + i)) (sE σ)) i) →
    ((∀ i, x ≤ i → i < n → wok σ (fun i => ic (it (q5 + i)) (sE σ)) i) → ∃ μ2, f_X10_walk_L99 b c q5 n (f_X10_walk_K223 a b n) fu x μ1 = f_X10_walk_K223 a b n μ2 ∧ Fm [116] [] μ μ2 ∧ (∀ i, 0 ≤ i → i < n → μ2 116 i = stp (ic (it (q5 + i)) (sE σ)))) ∧ (¬ (∀ i, x ≤ i → i < n → wok σ (fun i => ic (it (q5 + i)) (sE σ)) i) → ∃ μ2, f_X10_walk_L99 b c q5 n (f_X10_walk_K223 a b n) fu x μ1 = some (-2, μ2) ∧ Fm [116] [] μ μ2) := by
  have hE := s4.2.2
  have s4' : WfE σ 32 48 := s4.mono (by decide) (by decide)
  generalize hw : (fun i => ic (it (q5 + i)) (sE σ)) = w
  have hwi : ∀ i, w i = ic (it (q5 + i)) (sE σ) := fun i => by rw [← hw]
  simp only [← hwi]
  intro fu
  induction fu with
  | zero => intro x μ1 _ _ h; omega
  | succ fu ih =>
    intro x μ1 x0 x1 x2 f1 f2
    unfold f_X10_walk_L99
    by_cases hx : x < n
    · have hms := f1.ms (by unfold noSp; decide) s3
      have e160 : μ1 160 (20 * c + q5 + x) = it (q5 + x) := by
        rw [f1.1 160 (by decide) (by decide), show 20 * c + q5 + x = 20 * c + (q5 + x) by omega]
        exact hit _ (by omega) (by omega)
      rw [if_pos hx, zw_eq (x := 20 * c) (by omega) (by omega), zw_eq (x := 20 * c + q5) (by omega) (by omega), zw_eq (x := 20 * c + q5 + x) (by omega) (by omega), chk_pos (by omega), e160]
      simp only [zlet]
      rw [chk_pos (by omega), chk_pos (by omega), hms.2.1, zw_eq (x := -sE σ) (by omega) (by omega)]
      unfold f_X10_walk_J168
      -- a step that is none
      have bad : w x = -1 → ((∀ i, x ≤ i → i < n → wok σ w i) → ∃ μ2, f_X10_walk_J169 b x (it (q5 + x)) (f_X10_walk_L99 b c q5 n (f_X10_walk_K223 a b n) fu) 0 μ1 = f_X10_walk_K223 a b n μ2 ∧ Fm [116] [] μ μ2 ∧ ∀ i, 0 ≤ i → i < n → μ2 116 i = stp (w i)) ∧ (¬ (∀ i, x ≤ i → i < n → wok σ w i) → ∃ μ2, f_X10_walk_J169 b x (it (q5 + x)) (f_X10_walk_L99 b c q5 n (f_X10_walk_K223 a b n) fu) 0 μ1 = some (-2, μ2) ∧ Fm [116] [] μ μ2) := by
        intro hw1
        unfold f_X10_walk_J169
        rw [if_pos rfl]
        exact ⟨fun hall => absurd hw1 (hall x (by omega) hx).1, fun _ => ⟨μ1, rfl, f1⟩⟩
      have good : w x ≠ -1 → ((∀ i, x ≤ i → i < n → wok σ w i) → ∃ μ2, f_X10_walk_J169 b x (it (q5 + x)) (f_X10_walk_L99 b c q5 n (f_X10_walk_K223 a b n) fu) 1 μ1 = f_X10_walk_K223 a b n μ2 ∧ Fm [116] [] μ μ2 ∧ ∀ i, 0 ≤ i → i < n → μ2 116 i = stp (w i)) ∧ (¬ (∀ i, x ≤ i → i < n → wok σ w i) → ∃ μ2, f_X10_walk_J169 b x (it (q5 + x)) (f_X10_walk_L99 b c q5 n (f_X10_walk_K223 a b n) fu) 1 μ1 = some (-2, μ2) ∧ Fm [116] [] μ μ2) := by
        intro hw1
        have his := ic_spec (v := it (q5 + x)) (E := sE σ) (by rw [← hwi x]; exact hw1)
        rw [← hwi x] at his
        unfold f_X10_walk_J169
        rw [if_neg (by decide), ← his.2.2]
        have go : (x = 0 ∨ sA σ (w x) = sB σ (w (x - 1))) → ((∀ i, x ≤ i → i < n → wok σ w i) → ∃ μ2, f_X10_walk_J208 x (stp (w x)) (f_X10_walk_L99 b c q5 n (f_X10_walk_K223 a b n) fu) μ1 = f_X10_walk_K223 a b n μ2 ∧ Fm [116] [] μ μ2 ∧ ∀ i, 0 ≤ i → i < n → μ2 116 i = stp (w i)) ∧ (¬ (∀ i, x ≤ i → i < n → wok σ w i) → ∃ μ2, f_X10_walk_J208 x (stp (w x)) (f_X10_walk_L99 b c q5 n (f_X10_walk_K223 a b n) fu) μ1 = some (-2, μ2) ∧ Fm [116] [] μ μ2) := by
          intro hj
          unfold f_X10_walk_J208
          rw [chk_pos (by omega)]
          simp only [zlet]
          rw [zw_eq (by omega) (by omega)]
          have hn1 := ih (x + 1) (zup μ1 116 x (stp (w x))) (by omega) (by omega) (by omega) (f1.up (by decide) (by decide) _ _) (fun i i0 i1 => by
            rw [zup_s]
            by_cases hi : i = x
            · rw [hi, up1_s]; exact ⟨rfl, hw1, hj⟩
            · rw [up1_n _ _ hi]; exact f2 i i0 (by omega))
          refine ⟨fun hall => hn1.1 (fun i i0 i1 => hall i (by omega) i1), fun hnall => hn1.2 (fun hall => hnall (fun i i0 i1 => ?_))⟩
          by_cases hi : i = x
          · rw [hi]; exact ⟨hw1, hj⟩
          · exact hall i (by omega) i1
        by_cases hx0 : x ≤ 0
        · rw [if_pos hx0]
          exact go (Or.inl (by omega))
        · obtain ⟨p1, p2, p3⟩ := f2 (x - 1) (by omega) (by omega)
          have hip := ic_spec (v := it (q5 + (x - 1))) (E := sE σ) (by rw [← hwi (x - 1)]; exact p2)
          rw [← hwi (x - 1)] at hip
          rw [if_neg hx0, zw_eq (by omega) (by omega), chk_pos (by omega), p1, m_toOf hms (by omega) s4' ⟨hip.1, hip.2.1⟩, bnd_pos rfl, m_fromOf hms (by omega) s4' ⟨his.1, his.2.1⟩, bnd_pos rfl]
          by_cases hj : sB σ (w (x - 1)) = sA σ (w x)
          · rw [if_pos hj]
            exact go (Or.inr hj.symm)
          · rw [if_neg hj]
            exact ⟨fun hall => by rcases (hall x (by omega) hx).2 with e | e; omega; exact absurd e.symm hj, fun _ => ⟨μ1, rfl, f1⟩⟩
      have hwx := hwi x
      unfold ic at hwx
      by_cases hv : it (q5 + x) ≤ 0
      · rw [if_pos hv]
        rw [if_neg (by omega)] at hwx
        by_cases hv0 : it (q5 + x) < 0
        · rw [if_pos hv0]
          by_cases hvE : it (q5 + x) < -sE σ
          · rw [if_pos hvE]
            rw [if_neg (by omega)] at hwx
            exact bad hwx
          · rw [if_neg hvE]
            rw [if_pos (by omega)] at hwx
            exact good (by omega)
        · rw [if_neg hv0]
          rw [if_neg (by omega)] at hwx
          exact bad hwx
      · rw [if_neg hv]
        by_cases hvE : it (q5 + x) ≤ sE σ
        · rw [if_pos hvE]
          rw [if_pos (by omega)] at hwx
          exact good (by omega)
        · rw [if_neg hvE]
          rw [if_neg (by omega), if_neg (by omega)] at hwx
          exact bad hwx
    · rw [if_neg hx]
      have : x = n := by omega
      subst this
      exact ⟨fun _ => ⟨μ1, rfl, f1, fun i i0 i1 => (f2 i i0 i1).1⟩, fun hna => absurd (fun i i0 i1 => by omega) hna⟩
theorem wok_wd {σ : Sp} {w it : Int → Int} {n E q5 : Int} (hw : ∀ i, w i = ic (it (q5 + i)) (sE σ)) (h : ∀ i, 0 ≤ i → i < n → wok σ w i) : Wd σ n w := by
  refine ⟨fun i a b => ?_, fun i a b => ?_⟩
  · have := ic_spec (v := it (q5 + i)) (E := sE σ) (by rw [← hw i]; exact (h i a b).1)
    rw [← hw i] at this
    exact ⟨this.1, this.2.1⟩
  · rcases (h (i + 1) (by omega) b).2 with e | e
    · omega
    · rw [e, show i + 1 - 1 = i by omega]
theorem sim_walk {μ : zMem} {a b c d q5 n : Int} (g5 : Rg q5) (h : Rel μ) : Ok (f_X9_walk a b c d q5 n μ) (fun v => Ok (f_X10_walk a b c d q5 n v.2) (fun w => w.1 = v.1 ∧ Rel w.2)) := by
  unfold Rg at g5
  by_cases h1 : 0 ≤ a ∧ a ≤ 3
  rotate_left
  · refine sim_same h (r := -1) ?_ ?_
    · unfold f_X9_walk; rw [if_pos (isSlot0.mpr h1)]
    · unfold f_X10_walk; rw [if_pos (isSlotM0.mpr h1)]
  by_cases h2 : 0 ≤ b ∧ b ≤ 1
  rotate_left
  · refine sim_same h (r := -1) ?_ ?_
    · unfold f_X9_walk; rw [if_neg (fun e => isSlot0.mp e h1), if_pos (isOwn0.mpr h2)]
    · unfold f_X10_walk; rw [if_neg (fun e => isSlotM0.mp e h1), if_pos (isSpace0.mpr h2)]
  have hMs : ∀ μ' : zMem, f_X10_walk a b c d q5 n μ' = if f_X10_isSheet c = 0 then some (-1, μ') else if f_X10_in d 0 2 = 0 then some (-1, μ') else if f_X10_in n 0 16 = 0 then some (-1, μ') else chk (0 ≤ c ∧ c < 4) (if μ' 158 c < 0 then some (-11, μ') else chk (0 ≤ c ∧ c < 4) (if μ' 158 c = d then if q5 < 0 then some (-13, μ') else chk (0 ≤ c ∧ c < 4) (if zl (q5 + n) ≤ μ' 159 c then f_X10_walk_L99 b c q5 n (f_X10_walk_K223 a b n) zfu 0 μ' else some (-13, μ')) else some (-12, μ'))) := by
    intro μ'
    unfold f_X10_walk
    rw [if_neg (fun e => isSlotM0.mp e h1), if_neg (fun e => isSpace0.mp e h2)]
  by_cases hn : 0 ≤ n ∧ n ≤ 16
  rotate_left
  · refine sim_same h (r := -1) ?_ ?_
    · unfold f_X9_walk
      rw [if_neg (fun e => isSlot0.mp e h1), if_neg (fun e => isOwn0.mp e h2)]
      by_cases hn0 : n < 0
      · rw [if_pos hn0]
      · rw [if_neg hn0, if_neg (by omega)]
    · rw [hMs]
      split
      · rfl
      · split
        · rfl
        · rw [if_pos (in0.mpr hn)]
  have hCs : f_X9_walk a b c d q5 n μ = bnd (f_X9_refuseRow c d μ) fun x_1 => if x_1 = 0 then chk (0 ≤ c ∧ c < 4) (chk (μ 17 c ≠ 0) (zlet (μ 17 c) fun x_2 => if q5 < 0 then some (-13, μ) else if q5 ≤ zw (μ x_2 2 - n) then bnd (f_X8_clear 21 μ) fun μ_3 => f_X9_walk_L84 b q5 n x_2 (f_X9_walk_K149 a b) zfu 0 μ_3 else some (-13, μ))) else some (x_1, μ) := by
    unfold f_X9_walk
    rw [if_neg (fun e => isSlot0.mp e h1), if_neg (fun e => isOwn0.mp e h2), if_neg (show ¬ n < 0 by omega), if_pos hn.2]
  rw [refuse h] at hCs
  by_cases h3 : 0 ≤ c ∧ c ≤ 3
  rotate_left
  · refine sim_same h (r := -1) ?_ ?_
    · rw [hCs, if_pos (Or.inl h3), bnd_pos rfl, if_neg (by decide)]
    · rw [hMs, if_pos (isSheetM0.mpr h3)]
  by_cases h4 : 0 ≤ d ∧ d ≤ 2
  rotate_left
  · refine sim_same h (r := -1) ?_ ?_
    · rw [hCs, if_pos (Or.inr h4), bnd_pos rfl, if_neg (by decide)]
    · rw [hMs, if_neg (fun e => isSheetM0.mp e h3), if_pos (in0.mpr h4)]
  rw [if_neg (show ¬ (¬ (0 ≤ c ∧ c ≤ 3) ∨ ¬ (0 ≤ d ∧ d ≤ 2)) by omega)] at hCs
  have hMs2 : ∀ μ' : zMem, f_X10_walk a b c d q5 n μ' = (if μ' 158 c < 0 then some (-11, μ') else (if μ' 158 c = d then if q5 < 0 then some (-13, μ') else (if zl (q5 + n) ≤ μ' 159 c then f_X10_walk_L99 b c q5 n (f_X10_walk_K223 a b n) zfu 0 μ' else some (-13, μ')) else some (-12, μ'))) := by
    intro μ'
    rw [hMs, if_neg (fun e => isSheetM0.mp e h3), if_neg (fun e => in0.mp e h4), if_neg (fun e => in0.mp e hn), chk_pos (by omega), chk_pos (by omega), chk_pos (by omega)]
  have hs := h.2.2.2.2.1 c (by omega) (by omega)
  have hl := hs.lane
  by_cases h5 : μ (66 + 2 * c) 1 = -1
  · refine sim_same h (r := -11) ?_ ?_
    · rw [hCs, if_pos h5, bnd_pos rfl, if_neg (by decide)]
    · rw [hMs2, if_pos (hl.1.mpr h5)]
  have h5' : ¬ μ 158 c < 0 := fun e => h5 (hl.1.mp e)
  by_cases h6 : μ (66 + 2 * c) 1 = d
  rotate_left
  · refine sim_same h (r := -12) ?_ ?_
    · rw [hCs, if_neg h5, if_neg h6, bnd_pos rfl, if_neg (by decide)]
    · rw [hMs2, if_neg h5', if_neg (by rw [hl.2 h5']; exact h6)]
  rcases hs with hs | ⟨o1, o2, o3, o4, o5, o6, o7⟩
  · exact absurd hs.1 h5
  rw [if_neg h5, if_pos h6, bnd_pos rfl, if_pos rfl, chk_pos (by omega), (h.1.2.2 c (by omega) (by omega)).2, chk_pos (by omega)] at hCs
  simp only [zlet] at hCs
  rw [zw_eq (x := μ (66 + 2 * c) 2 - n) (by omega) (by omega)] at hCs
  by_cases h7 : q5 < 0
  · refine sim_same h (r := -13) ?_ ?_
    · rw [hCs, if_pos h7]
    · rw [hMs2, if_neg h5', if_pos (by omega), if_pos h7]
  rw [if_neg h7] at hCs
  by_cases h8 : q5 ≤ μ (66 + 2 * c) 2 - n
  rotate_left
  · refine sim_same h (r := -13) ?_ ?_
    · rw [hCs, if_neg h8]
    · rw [hMs2, if_neg h5', if_pos (by omega), if_neg h7, zl_eq (by omega) (by omega), if_neg (by omega)]
  rw [if_pos h8] at hCs
  have hk := h.own h2
  have hb := hk.b
  obtain ⟨σ, s1, s2, s3, s4, s5⟩ := h.2.1 b h2.1 h2.2
  have hE12 := s4.2.2.2.1
  have hcl : f_X8_clear 21 μ = some (zup (zup (zup μ 21 2 0) 21 3 0) 21 4 0) := rfl
  rw [hcl, bnd_pos rfl] at hCs
  have g0 : FPn μ (zup (zup (zup μ 21 2 0) 21 3 0) 21 4 0) := (((FPn.refl μ).p21 2 0).p21 3 0).p21 4 0
  have cp0 : CPn (zup (zup (zup μ 21 2 0) 21 3 0) 21 4 0) σ 0 (fun i => ic (μ (66 + 2 * c + 1) (q5 + i)) (sE σ)) := by
    refine ⟨?_, fun i x y => by omega, ?_, ?_⟩
    · simp (disch := omega) only [zup_s, up1_s, up1_n]
    · simp (disch := omega) only [zup_s, up1_s, up1_n]; rfl
    · simp (disch := omega) only [zup_s, up1_s]; rfl
  have hcw := c_walkL (a := a) (b := b) (c := c) (q5 := q5) (n := n) h h2 (by omega) ⟨by omega, by omega⟩ hn s1 s4 (fun i x y => (o7 i x y).2) zfu 0 _ (by omega) hn.1 (by unfold zfu; omega) g0 cp0 (fun i x y => by omega)
  have hmw : ∀ μd : zMem, (∀ k, 101 ≤ k → μd k = μ k) → _ := fun μd hd => m_walkL (μ := μd) (a := a) (b := b) (c := c) (q5 := q5) (n := n) (σ := σ) h2 (by omega) ⟨by omega, by omega⟩ hn (s3.congr fun k x y => hd k (by omega)) s4 (fun i => μ (66 + 2 * c + 1) i) (fun i x y => by rw [hd 160 (by decide)]; exact (o7 i x y).1) zfu 0 μd (by omega) hn.1 (by unfold zfu; omega) (Fm.refl _ _ μd) (fun i x y => by omega)
  have hMd : ∀ μd : zMem, (∀ k, 101 ≤ k → μd k = μ k) → f_X10_walk a b c d q5 n μd = f_X10_walk_L99 b c q5 n (f_X10_walk_K223 a b n) zfu 0 μd := by
    intro μd hd
    rw [hMs2, hd 158 (by decide), hd 159 (by decide), if_neg h5', if_pos (by omega), if_neg h7, zl_eq (by omega) (by omega), if_pos (by omega)]
  rw [hCs]
  by_cases hall : ∀ i, 0 ≤ i → i < n → wok σ (fun i => ic (μ (66 + 2 * c + 1) (q5 + i)) (sE σ)) i
  · obtain ⟨μ2, e2, f1, f2⟩ := hcw.1 hall
    have hwd : Wd σ n (fun i => ic (μ (66 + 2 * c + 1) (q5 + i)) (sE σ)) := wok_wd (E := 0) (it := fun i => μ (66 + 2 * c + 1) i) (q5 := q5) (fun i => rfl) hall
    generalize hw : (fun i => ic (μ (66 + 2 * c + 1) (q5 + i)) (sE σ)) = w at *
    rw [e2]
    unfold f_X9_walk_K149
    refine ok_bnd2.mpr ((c_keepReduced (q := a) (s := b) (k := n) (E := sE σ) (w := w) (h.1.2.2.congr fun k x => f1.1 k (by omega) (by omega) (by omega)) (by omega) hn (by omega) f2.1 (fun i x y => ⟨f2.2.1 i x y, hwd.1 i x y⟩)).imp fun v g => ok_some.mpr ?_)
    obtain ⟨g1, g2, g3, g4, g5', g6⟩ := g
    show Ok (f_X10_walk a b c d q5 n v.2) _
    have hd : ∀ k, 101 ≤ k → v.2 k = μ k := fun k hk => by rw [g2 k (by omega) (by omega), f1.1 k (by omega) (by omega) (by omega)]
    obtain ⟨μ3, e3, f3, f4⟩ := (hmw v.2 hd).1 hall
    rw [hMd v.2 hd, e3]
    unfold f_X10_walk_K223
    simp only [zlet]
    have f5 : Fm [116] [13] v.2 (zup μ3 101 13 n) := (f3.sub (by decide) (by decide)).upo (by decide) _
    have ms3 : MS (zup μ3 101 13 n) b σ := f5.ms (by unfold noSp; decide) (s3.congr fun k x y => hd k (by omega))
    have hmr : MRd (zup μ3 101 13 n) n w := ⟨by rw [zup_s, up1_s], fun i x y => by rw [zup_n _ _ _ (by decide), f4 i x y, ← hw]⟩
    refine ok_bnd2.mpr ((m_keepWord (q := a) ms3 (by omega) (s4.mono (by decide) (by decide)) (by omega) hn hmr hwd).imp fun u k => ok_some.mpr ?_)
    obtain ⟨k1, k2, k4, k5, k6, k7, k8⟩ := k
    rw [f5.1 148 (by decide) (by decide)] at k4
    rw [f5.1 149 (by decide) (by decide)] at k5
    rw [f5.1 150 (by decide) (by decide)] at k6
    rw [f5.1 151 (by decide) (by decide)] at k7
    rw [f5.1 152 (by decide) (by decide)] at k8
    refine ⟨by simp only; rw [k1, g1], Rel.keepw (ν := μ) (μ1 := v.2) (σ := σ) (k := n) (w := w) (q := a) (s := b) h (by omega) h2 s3.2.1 hn hwd (fun k hk => ?_) ?_ ?_ g3 (by rw [g4]; exact f2.2.2.1) (by rw [g5']; exact f2.2.2.2) g6 (fun k hk => ?_) (fun i hi => ?_) k4 k5 k6 k7 k8⟩
    · have hc2 : k ≠ 58 + 2 * a ∧ k ≠ 58 + 2 * a + 1 ∧ k ≠ 19 ∧ k ≠ 21 ∧ k ≠ 22 := by unfold rlv at hk; omega
      rw [g2 k hc2.1 hc2.2.1, f1.1 k hc2.2.2.1 hc2.2.2.2.1 hc2.2.2.2.2]
    · rw [g2 1 (by omega) (by omega), f1.1 1 (by decide) (by decide) (by decide)]
    · rw [g2 19 (by omega) (by omega), f1.2 1 (by decide)]
    · have hc2 : k ≠ 101 ∧ k ≠ 116 ∧ k ≠ 154 ∧ ¬ (148 ≤ k ∧ k ≤ 152) := by unfold rlv at hk; omega
      rw [k2.1 k (by simp; omega) hc2.1, f5.1 k (by simp; omega) hc2.1]
    · rw [k2.2 i (by simp; omega), f5.2 i (by simp; omega)]
  · obtain ⟨μ2, e2, f1⟩ := hcw.2 hall
    rw [e2]
    refine ok_some.mpr ?_
    show Ok (f_X10_walk a b c d q5 n μ2) _
    have hd : ∀ k, 101 ≤ k → μ2 k = μ k := fun k hk => f1.1 k (by omega) (by omega) (by omega)
    obtain ⟨μ3, e3, f3⟩ := (hmw μ2 hd).2 hall
    rw [hMd μ2 hd, e3]
    refine ok_some.mpr ⟨rfl, h.scr ⟨fun k x _ => ?_, ?_, ?_, fun i hi => ?_⟩⟩
    · unfold rlv at x
      simp only
      rw [f3.1 k (by simp; omega) (by omega), f1.1 k (by omega) (by omega) (by omega)]
    · simp only
      rw [f3.1 1 (by decide) (by decide), f1.1 1 (by decide) (by decide) (by decide)]
    · simp only
      rw [f3.1 19 (by decide) (by decide), f1.2 1 (by decide)]
    · simp only
      rw [f3.2 i (by simp), f1.1 101 (by decide) (by decide) (by decide)]
