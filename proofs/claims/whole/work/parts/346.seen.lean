/-! steps of rims, where they begin and end, on both sides -/
section
variable {μ : zMem} {t s mC mE mP : Int} {σ : Sp}
theorem c_rimStep (hc : CS μ t σ) (hz : SZ t mC mE mP) (hp : WfP σ mP) {f i : Int} (hf : 0 ≤ f ∧ f < sP σ) (hi : 0 ≤ i ∧ i < sL σ f) : f_X5_rimStep t f i μ = some (sR σ f i) := by
  obtain ⟨z1, z2, z3, z4, z5, z6, z7, z8, z9⟩ := hz
  obtain ⟨p1, p2, p3⟩ := hp
  have h3 := p3 f hf.1 hf.2
  unfold f_X5_rimStep
  rw [zw_eq (x := f * 8) (by omega) (by omega), zw_eq (by omega) (by omega), chk_pos (by omega), show f * 8 + i = 8 * f + i by omega, (hc.2.2.2.2 f hf.1 hf.2).2 i hi.1 hi.2]
theorem m_rimAt (hc : MS μ s σ) (hs : 0 ≤ s ∧ s < 3) (hp : WfP σ 32) {f i : Int} (hf : 0 ≤ f ∧ f < sP σ) (hi : 0 ≤ i ∧ i < sL σ f) : f_X10_rimAt s f i μ = some (stp (sR σ f i)) := by
  obtain ⟨p1, p2, p3⟩ := hp
  have h3 := p3 f hf.1 hf.2
  unfold f_X10_rimAt
  rw [zw_eq (x := 32 * s) (by omega) (by omega), zw_eq (x := 32 * s + f) (by omega) (by omega), zw_eq (x := 8 * (32 * s + f)) (by omega) (by omega), zw_eq (by omega) (by omega), chk_pos (by omega), (hc.2.2.2.2 f hf.1 hf.2).2 i hi.1 hi.2]
theorem WfP.mono {mP mP' : Int} (h : WfP σ mP) (hm : mP ≤ mP') : WfP σ mP' := ⟨h.1, by have := h.2.1; omega, h.2.2⟩
theorem WfE.mono {mC' mE' : Int} (h : WfE σ mC mE) (h1 : mC ≤ mC') (h2 : mE ≤ mE') : WfE σ mC' mE' := ⟨h.1, by have := h.2.1; omega, h.2.2.1, by have := h.2.2.2.1; omega, h.2.2.2.2⟩
theorem c_startOf (hc : CS μ t σ) (hz : SZ t mC mE mP) (hw : WfE σ mC mE) {c : Int} (h : 0 ≤ c ∧ c < 2 * sE σ) : f_X5_startOf t c μ = some (sA σ c) := by
  obtain ⟨z1, z2, z3, z4, z5, z6, z7, z8, z9⟩ := hz
  obtain ⟨w1, w2, w3, w4, w5⟩ := hw
  have hr : Rg c := ⟨by omega, by omega⟩
  have h1 := hc.2.2.2.1 (c / 2) (by omega) (by omega)
  unfold f_X5_startOf sA
  rw [zand1 hr, zshr1 hr, chk_pos (by omega), chk_pos (by omega), h1.1, h1.2]
  split <;> rfl
theorem c_endOf (hc : CS μ t σ) (hz : SZ t mC mE mP) (hw : WfE σ mC mE) {c : Int} (h : 0 ≤ c ∧ c < 2 * sE σ) : f_X5_endOf t c μ = some (sB σ c) := by
  obtain ⟨z1, z2, z3, z4, z5, z6, z7, z8, z9⟩ := hz
  obtain ⟨w1, w2, w3, w4, w5⟩ := hw
  have hr : Rg c := ⟨by omega, by omega⟩
  have h1 := hc.2.2.2.1 (c / 2) (by omega) (by omega)
  unfold f_X5_endOf sB
  rw [zand1 hr, zshr1 hr, chk_pos (by omega), chk_pos (by omega), h1.1, h1.2]
  split <;> rfl
theorem m_fromOf (hc : MS μ s σ) (hs : 0 ≤ s ∧ s < 3) (hw : WfE σ 32 48) {c : Int} (h : 0 ≤ c ∧ c < 2 * sE σ) : f_X10_fromOf s (stp c) μ = some (sA σ c) := by
  obtain ⟨w1, w2, w3, w4, w5⟩ := hw
  have h1 := hc.2.2.2.1 (c / 2) (by omega) (by omega)
  unfold f_X10_fromOf sA stp
  by_cases h2 : c % 2 = 0
  · rw [if_pos h2, if_neg (by omega), zw_eq (x := 48 * s) (by omega) (by omega), zw_eq (x := 48 * s + _) (by omega) (by omega), zw_eq (by omega) (by omega), chk_pos (by omega), if_pos h2, show 48 * s + (c / 2 + 1) - 1 = 48 * s + c / 2 by omega, h1.1]
  · rw [if_neg h2, if_pos (by omega), zw_eq (x := 48 * s) (by omega) (by omega), zw_eq (x := 48 * s - _) (by omega) (by omega), zw_eq (by omega) (by omega), chk_pos (by omega), if_neg h2, show 48 * s - (-(c / 2) - 1) - 1 = 48 * s + c / 2 by omega, h1.2]
/-- a step and its back -/
def bck (c : Int) : Int := if c % 2 = 0 then c + 1 else c - 1
theorem stp_bck {c : Int} (h : 0 ≤ c) : stp (bck c) = - stp c := by
  unfold stp bck
  split <;> split <;> omega
theorem sA_bck (σ : Sp) {c : Int} (h : 0 ≤ c) : sA σ (bck c) = sB σ c := by
  unfold sA sB bck
  by_cases h2 : c % 2 = 0
  · rw [if_pos h2, if_neg (by omega), if_pos h2, show (c + 1) / 2 = c / 2 by omega]
  · rw [if_neg h2, if_pos (by omega), if_neg h2, show (c - 1) / 2 = c / 2 by omega]
theorem sB_bck (σ : Sp) {c : Int} (h : 0 ≤ c) : sB σ (bck c) = sA σ c := by
  unfold sA sB bck
  by_cases h2 : c % 2 = 0
  · rw [if_pos h2, if_neg (by omega), if_pos h2, show (c + 1) / 2 = c / 2 by omega]
  · rw [if_neg h2, if_pos (by omega), if_neg h2, show (c - 1) / 2 = c / 2 by omega]
theorem bck_rg {c E : Int} (h : 0 ≤ c ∧ c < 2 * E) : 0 ≤ bck c ∧ bck c < 2 * E := by
  unfold bck
  split <;> omega
theorem m_toOf (hc : MS μ s σ) (hs : 0 ≤ s ∧ s < 3) (hw : WfE σ 32 48) {c : Int} (h : 0 ≤ c ∧ c < 2 * sE σ) : f_X10_toOf s (stp c) μ = some (sB σ c) := by
  have hE := hw.2.2.2.1
  unfold f_X10_toOf
  rw [zw_eq (by unfold stp; split <;> omega) (by unfold stp; split <;> omega), ← stp_bck h.1, m_fromOf hc hs hw (bck_rg h), bnd_pos rfl, sA_bck σ h.1]
theorem tolds {c : Int} (h : 0 ≤ c ∧ c < 1000) : f_X9_toldStep c = c / 2 + (if c % 2 = 1 then 100 else 0) ∧ f_X10_tellsStep (stp c) = c / 2 + (if c % 2 = 1 then 100 else 0) := by
  have hr : Rg c := ⟨by omega, by omega⟩
  unfold f_X9_toldStep f_X9_toldStep_J16 f_X10_tellsStep stp
  rw [zand1 hr, zshr1 hr]
  by_cases h2 : c % 2 = 1
  · rw [if_pos h2, zw_eq (by omega) (by omega), if_neg (show ¬ c % 2 = 0 by omega), if_pos (by omega), zw_eq (by omega) (by omega)]
    exact ⟨rfl, by omega⟩
  · rw [if_neg h2, zw_eq (by omega) (by omega), if_pos (show c % 2 = 0 by omega), if_neg (by omega), zw_eq (by omega) (by omega)]
    exact ⟨rfl, by omega⟩
end
/-! the spaces that are there -/
theorem Rel.own {μ : zMem} (h : Rel μ) {s : Int} (hs : 0 ≤ s ∧ s ≤ 1) : PK (μ 2 s) := by
  have h01 : s = 0 ∨ s = 1 := by omega
  rcases h01 with h1 | h1 <;> subst h1
  · exact h.1.2.1.1
  · exact h.1.2.1.2.1
theorem seen {μ : zMem} (h : Rel μ) (x : Int) : (f_X9_seenSpace x μ = some 0 ∧ f_X10_isAny x μ = 0) ∨ (∃ (t : Int) (σ : Sp) (mC mE mP : Int), f_X9_seenSpace x μ = some t ∧ f_X10_isAny x μ = 1 ∧ t ≠ 0 ∧ 0 ≤ x ∧ x < 3 ∧ SZ t mC mE mP ∧ CS μ t σ ∧ CP μ t σ ∧ MS μ x σ ∧ WfE σ mC mE ∧ WfP σ mP) := by
  unfold f_X9_seenSpace f_X10_isAny
  by_cases h1 : 0 ≤ x ∧ x ≤ 1
  · have hk := h.own h1
    have hb := hk.b
    obtain ⟨σ, c1, c2, c3, c4, c5⟩ := h.2.1 x h1.1 h1.2
    refine Or.inr ⟨μ 2 x, σ, 8, 12, 8, ?_, ?_, by omega, by omega, by omega, hk.sz, c1, c2, c3, c4, c5⟩
    · rw [if_neg (fun e => isOwn0.mp e h1), chk_pos (by omega), chk_pos (by omega)]
      rfl
    · rw [if_neg (fun e => isSpace0.mp e h1)]
  · rw [if_pos (isOwn0.mpr h1), if_pos (isSpace0.mpr h1)]
    by_cases h2 : x = 2
    · rw [if_pos h2, if_pos h2]
      unfold f_X1_isLaid
      rcases h.2.2.2.2.2 with ⟨e1, e2⟩ | ⟨n, a, b, c, d, e, f, g, i, j, k, l, m, σ, o1, o2, o3, o4, o5⟩
      · rw [if_pos e1, if_pos rfl, if_pos e2]
        exact Or.inl ⟨rfl, rfl⟩
      · rw [if_neg (by omega), if_neg (by omega)]
        subst h2
        exact Or.inr ⟨4, σ, 32, 48, 32, rfl, rfl, by decide, by decide, by decide, SZ4, o1, o2, o3, o4, o5⟩
    · rw [if_neg h2, if_neg h2]
      exact Or.inl ⟨rfl, rfl⟩
theorem Fm.kp {cs ss : List Int} {μ μ' : zMem} (h : Fm cs ss μ μ') (h1 : ∀ k ∈ cs, ¬ rlv k ∧ k ≠ 1 ∧ k ≠ 19) (h2 : 7 ∉ ss ∧ 9 ∉ ss ∧ 37 ∉ ss ∧ 38 ∉ ss ∧ 39 ∉ ss) : Kp (fun _ => False) μ μ' := by
  refine ⟨fun k a _ => h.1 k (fun q => (h1 k q).1 a) (fun e => ?_), ?_, ?_, fun i a => h.2 i ?_⟩
  · subst e; unfold rlv at a; omega
  · rw [h.1 1 (fun q => (h1 1 q).2.1 rfl) (by decide)]
  · rw [h.1 19 (fun q => (h1 19 q).2.2 rfl) (by decide)]
  · rcases a with a | a | a | a | a <;> subst a
    · exact h2.1
    · exact h2.2.1
    · exact h2.2.2.1
    · exact h2.2.2.2.1
    · exact h2.2.2.2.2
theorem Fm.kpT {μ μ' : zMem} (h : Fm [120, 121, 123] [20] μ μ') : Kp (fun _ => False) μ μ' := h.kp (by unfold rlv; decide) (by decide)
theorem m_countL {μ : zMem} {s : Int} {σ : Sp} {x2 : Int} (hc : μ 102 s = sC σ) (hs : 0 ≤ s ∧ s < 3) (hw : WfE σ 32 48) (hT : MT μ σ) : f_X10_count_L96 s (f_X10_count_K131 x2) zfu 0 0 μ = f_X10_count_K131 x2 (sQ σ) μ := by
  have key : ∀ (n : Nat) (x : Int), 0 ≤ x → x ≤ sC σ → (sC σ - x).toNat < n → f_X10_count_L96 s (f_X10_count_K131 x2) n (cnt (tR σ) x.toNat) x μ = f_X10_count_K131 x2 (sQ σ) μ := by
    intro n
    induction n with
    | zero => intro x _ _ h; omega
    | succ n ih =>
      intro x h0 h1 h2
      have hC := hw.2.1
      have hcl := cnt_le (tR σ) x.toNat
      unfold f_X10_count_L96
      rw [chk_pos hs, hc]
      by_cases hx : x < sC σ
      · have hv : (if μ 120 x = 0 then (0 : Int) else 1) = b2i (tR σ x) := by
          rw [hT.1 x h0 (by omega)]
          cases tR σ x <;> rfl
        have hb : 0 ≤ b2i (tR σ x) ∧ b2i (tR σ x) ≤ 1 := by cases tR σ x <;> exact ⟨by decide, by decide⟩
        rw [if_pos hx, chk_pos (by omega), hv]
        unfold f_X10_count_J123
        simp only [zlet]
        rw [zw_eq (by omega) (by omega), zw_eq (by omega) (by omega), ← cnt_succ _ h0]
        exact ih (x + 1) (by omega) (by omega) (by omega)
      · rw [if_neg hx]
        have : x = sC σ := by omega
        subst this
        rfl
  have := hw.1
  have := hw.2.1
  exact key zfu 0 (by omega) (by omega) (by unfold zfu; omega)
theorem sim_count {μ : zMem} {a b : Int} (h : Rel μ) : ∃ r, f_X9_count a b μ = some r ∧ Ok (f_X10_count a b μ) (fun w => w.1 = r ∧ Rel w.2) := by
  rcases seen h a with ⟨e1, e2⟩ | ⟨t, σ, mC, mE, mP, e1, e2, ht, ha0, ha3, hz, cs, cp, msp, we, wp⟩
  · refine ⟨-1001, ?_, ?_⟩
    · unfold f_X9_count
      rw [e1, bnd_pos rfl, if_pos rfl]
    · unfold f_X10_count
      rw [if_pos e2]
      exact ok_some.mpr ⟨rfl, h⟩
  · obtain ⟨z1, z2, z3, z4, z5, z6, z7, z8, z9⟩ := hz
    have we' : WfE σ 32 48 := we.mono (by omega) (by omega)
    have hC : f_X9_count a b μ = if b = 0 then some (sC σ) else if b = 1 then some (sE σ) else if b = 2 then some (sP σ) else if b = 3 then some (zw (zw (sC σ - sE σ) + sP σ)) else if b = 4 then some (sQ σ) else if b = 5 then some (sN σ) else some (-1001) := by
      unfold f_X9_count
      rw [e1, bnd_pos rfl, if_neg ht, cs.1, cs.2.1, cs.2.2.1, cp.1, cp.2.1]
    have hM0 : Ok (bnd (f_X10_layTree a μ) fun μ_1 => f_X10_count_L96 a (f_X10_count_K131 b) zfu 0 0 μ_1) (fun w => w.1 = (if b = 4 then sQ σ else sN σ) ∧ Rel w.2) := by
      refine ok_bnd.mpr ((m_layTree msp ⟨ha0, ha3⟩ we').imp fun μ1 q => ?_)
      obtain ⟨q1, q2⟩ := q
      rw [m_countL (σ := σ) (by rw [q1.1 102 (by decide) (by decide)]; exact msp.1) ⟨ha0, ha3⟩ we' q2]
      unfold f_X10_count_K131
      have hR := h.scr q1.kpT
      split
      · exact ok_some.mpr ⟨rfl, hR⟩
      · exact ok_some.mpr ⟨q2.2.2.1, hR⟩
    have hM : Ok (f_X10_count a b μ) (fun w => w.1 = (if b = 0 then sC σ else if b = 1 then sE σ else if b = 2 then sP σ else if b = 3 then zw (zw (sC σ - sE σ) + sP σ) else if b = 4 then sQ σ else if b = 5 then sN σ else -1001) ∧ Rel w.2) := by
      unfold f_X10_count
      rw [if_neg (show ¬ f_X10_isAny a μ = 0 by omega), chk_pos ⟨ha0, ha3⟩, chk_pos ⟨ha0, ha3⟩, chk_pos ⟨ha0, ha3⟩, chk_pos ⟨ha0, ha3⟩, chk_pos ⟨ha0, ha3⟩, chk_pos ⟨ha0, ha3⟩, msp.1, msp.2.1, msp.2.2.1]
      by_cases h5 : 0 ≤ b ∧ b ≤ 5
      · rw [if_neg (fun e => in0.mp e h5)]
        by_cases b0 : b = 0
        · rw [if_pos (show b < 3 by omega), if_pos b0]
          exact ok_some.mpr ⟨by rw [if_pos b0], h⟩
        by_cases b1 : b = 1
        · rw [if_pos (show b < 3 by omega), if_neg b0, if_pos b1]
          exact ok_some.mpr ⟨by rw [if_neg b0, if_pos b1], h⟩
        by_cases b2 : b = 2
        · rw [if_pos (show b < 3 by omega), if_neg b0, if_neg b1]
          exact ok_some.mpr ⟨by rw [if_neg b0, if_neg b1, if_pos b2], h⟩
        by_cases b3 : b = 3
        · rw [if_neg (show ¬ b < 3 by omega), if_pos b3]
          exact ok_some.mpr ⟨by rw [if_neg b0, if_neg b1, if_neg b2, if_pos b3], h⟩
        rw [if_neg (show ¬ b < 3 by omega), if_neg b3]
        refine hM0.imp fun w q => ⟨?_, q.2⟩
        rw [q.1, if_neg b0, if_neg b1, if_neg b2, if_neg b3]
        by_cases b4 : b = 4
        · rw [if_pos b4, if_pos b4]
        · rw [if_neg b4, if_neg b4, if_pos (by omega)]
      · rw [if_pos (in0.mpr h5)]
        exact ok_some.mpr ⟨by rw [if_neg (show ¬ b = 0 by omega), if_neg (show ¬ b = 1 by omega), if_neg (show ¬ b = 2 by omega), if_neg (show ¬ b = 3 by omega), if_neg (show ¬ b = 4 by omega), if_neg (show ¬ b = 5 by omega)], h⟩
    refine ⟨_, ?_, hM⟩
    rw [hC]
    split
    · rfl
    · split
      · rfl
      · split
        · rfl
        · split
          · rfl
          · split
            · rfl
            · split <;> rfl
theorem sim_told {μ : zMem} {a b c : Int} (h : Rel μ) : ∃ r, f_X9_told a b c μ = some r ∧ Ok (f_X10_told a b c μ) (fun w => w.1 = r ∧ Rel w.2) := by
  rcases seen h a with ⟨e1, e2⟩ | ⟨t, σ, mC, mE, mP, e1, e2, ht, ha0, ha3, hz, cs, cp, msp, we, wp⟩
  · refine ⟨-1, ?_, ?_⟩
    · unfold f_X9_told
      rw [e1, bnd_pos rfl, if_pos rfl]
    · unfold f_X10_told
      rw [if_pos e2]
      exact ok_some.mpr ⟨rfl, h⟩
  · obtain ⟨z1, z2, z3, z4, z5, z6, z7, z8, z9⟩ := hz
    have we' : WfE σ 32 48 := we.mono (by omega) (by omega)
    obtain ⟨w1, w2, w3, w4, w5⟩ := we
    by_cases hb : 0 ≤ b ∧ b < sE σ
    · by_cases hc : 0 ≤ c ∧ c ≤ 2
      · have hcl := cnt_le (isTn σ) b.toNat
        have hW : sW σ b = -1 ↔ tT σ b = true := by
          unfold sW
          split
          · exact ⟨fun _ => by assumption, fun _ => rfl⟩
          · split
            · exact ⟨fun e => by omega, fun e => absurd e (by assumption)⟩
            · exact ⟨fun e => by omega, fun e => absurd e (by assumption)⟩
        refine ⟨if c = 0 then sF σ b else if c = 1 then sT σ b else b2i (tT σ b), ?_, ?_⟩
        · unfold f_X9_told
          rw [e1, bnd_pos rfl, if_neg ht, cs.2.1, if_neg (show ¬ b < 0 by omega), if_pos hb.2, chk_pos (by omega), chk_pos (by omega), chk_pos (by omega), (cs.2.2.2.1 b hb.1 hb.2).1, (cs.2.2.2.1 b hb.1 hb.2).2, cp.2.2.2 b hb.1 hb.2]
          by_cases c0 : c = 0
          · rw [if_pos c0, if_pos c0]
          by_cases c1 : c = 1
          · rw [if_neg c0, if_neg c0, if_pos c1, if_pos c1]
          rw [if_neg c0, if_neg c0, if_neg c1, if_neg c1, if_pos (show c = 2 by omega)]
          cases htt : tT σ b with
          | true => rw [if_pos (hW.mpr htt)]; rfl
          | false => rw [if_neg (fun e => by rw [hW.mp e] at htt; cases htt)]; rfl
        · unfold f_X10_told
          rw [if_neg (show ¬ f_X10_isAny a μ = 0 by omega), chk_pos ⟨ha0, ha3⟩, msp.2.1, zw_eq (x := sE σ - 1) (by omega) (by omega), if_neg (fun e => in0.mp e (by omega)), if_neg (fun e => in0.mp e hc)]
          refine ok_bnd.mpr ((m_layTree msp ⟨ha0, ha3⟩ we').imp fun μ1 q => ?_)
          have hR := h.scr q.1.kpT
          rw [zw_eq (x := 48 * a) (by omega) (by omega), zw_eq (x := 48 * a + b) (by omega) (by omega), chk_pos (by omega), chk_pos (by omega), chk_pos (by omega), q.1.1 105 (by decide) (by decide), q.1.1 106 (by decide) (by decide), (msp.2.2.2.1 b hb.1 hb.2).1, (msp.2.2.2.1 b hb.1 hb.2).2, q.2.2.1 b hb.1 hb.2]
          by_cases c0 : c = 0
          · rw [if_pos c0]
            exact ok_some.mpr ⟨by rw [if_pos c0], hR⟩
          by_cases c1 : c = 1
          · rw [if_neg c0, if_pos c1]
            exact ok_some.mpr ⟨by rw [if_neg c0, if_pos c1], hR⟩
          rw [if_neg c0, if_neg c1]
          cases htt : tT σ b with
          | true => exact ok_some.mpr ⟨by rw [if_neg c0, if_neg c1]; rfl, hR⟩
          | false => exact ok_some.mpr ⟨by rw [if_neg c0, if_neg c1]; rfl, hR⟩
      · refine ⟨-1, ?_, ?_⟩
        · unfold f_X9_told
          rw [e1, bnd_pos rfl, if_neg ht, cs.2.1, if_neg (show ¬ b < 0 by omega), if_pos hb.2, if_neg (show ¬ c = 0 by omega), if_neg (show ¬ c = 1 by omega), if_neg (show ¬ c = 2 by omega)]
        · unfold f_X10_told
          rw [if_neg (show ¬ f_X10_isAny a μ = 0 by omega), chk_pos ⟨ha0, ha3⟩, msp.2.1, zw_eq (x := sE σ - 1) (by omega) (by omega), if_neg (fun e => in0.mp e (by omega)), if_pos (in0.mpr hc)]
          exact ok_some.mpr ⟨rfl, h⟩
    · refine ⟨-1, ?_, ?_⟩
      · unfold f_X9_told
        rw [e1, bnd_pos rfl, if_neg ht, cs.2.1]
        by_cases hb0 : b < 0
        · rw [if_pos hb0]
        · rw [if_neg hb0, if_neg (by omega)]
      · unfold f_X10_told
        rw [if_neg (show ¬ f_X10_isAny a μ = 0 by omega), chk_pos ⟨ha0, ha3⟩, msp.2.1, zw_eq (x := sE σ - 1) (by omega) (by omega), if_pos (in0.mpr (by omega))]
        exact ok_some.mpr ⟨rfl, h⟩
theorem sim_rim {μ : zMem} {a b c : Int} (h : Rel μ) : ∃ r, f_X9_rim a b c μ = some r ∧ f_X10_rim a b c μ = some r := by
  have hz0 : f_X10_rim_J50 a b c μ 0 = some (-1) := by unfold f_X10_rim_J50; rw [if_pos rfl]
  rcases seen h a with ⟨e1, e2⟩ | ⟨t, σ, mC, mE, mP, e1, e2, ht, ha0, ha3, hz, cs, cp, msp, we, wp⟩
  · refine ⟨-1, ?_, ?_⟩
    · unfold f_X9_rim
      rw [e1, bnd_pos rfl, if_pos rfl]
    · unfold f_X10_rim f_X10_rim_J49
      rw [if_pos e2, hz0]
  · have hz' := hz
    have wp' := wp
    obtain ⟨z1, z2, z3, z4, z5, z6, z7, z8, z9⟩ := hz
    obtain ⟨p1, p2, p3⟩ := wp
    have hE := we.2.2.2.1
    have hM : f_X10_rim a b c μ = if f_X10_in b 0 (sP σ - 1) = 0 then some (-1) else if f_X10_in c 0 (zw (μ 107 (zw (32 * a + b)) - 1)) = 0 then some (-1) else f_X10_rim_J50 a b c μ 1 := by
      unfold f_X10_rim f_X10_rim_J49
      rw [hz0, if_neg (show ¬ f_X10_isAny a μ = 0 by omega), chk_pos ⟨ha0, ha3⟩, msp.2.2.1, zw_eq (x := sP σ - 1) (by omega) (by omega), zw_eq (x := 32 * a) (by omega) (by omega)]
      by_cases hb : f_X10_in b 0 (sP σ - 1) = 0
      · rw [if_pos hb, if_pos hb]
      · have hb' : 0 ≤ b ∧ b ≤ sP σ - 1 := Decidable.byContradiction fun e => hb (in0.mpr e)
        rw [if_neg hb, if_neg hb, chk_pos (by rw [zw_eq (by omega) (by omega)]; omega)]
    by_cases hb : 0 ≤ b ∧ b < sP σ
    · have h3 := p3 b hb.1 hb.2
      rw [if_neg (fun e => in0.mp e (by omega)), zw_eq (x := 32 * a + b) (by omega) (by omega), (msp.2.2.2.2 b hb.1 hb.2).1, zw_eq (x := sL σ b - 1) (by omega) (by omega)] at hM
      by_cases hc : 0 ≤ c ∧ c < sL σ b
      · have h4 := h3.2.2.1 c hc.1 hc.2
        have h5 := tolds (c := sR σ b c) (by omega)
        refine ⟨sR σ b c / 2 + (if sR σ b c % 2 = 1 then 100 else 0), ?_, ?_⟩
        rotate_left
        · rw [hM, if_neg (fun e => in0.mp e (by omega))]
          unfold f_X10_rim_J50
          rw [if_neg (by decide), m_rimAt msp ⟨ha0, ha3⟩ (wp'.mono (by omega)) hb hc, bnd_pos rfl, h5.2]
        · unfold f_X9_rim
          rw [e1, bnd_pos rfl, if_neg ht, cs.2.2.1, if_neg (show ¬ b < 0 by omega), if_pos hb.2, if_neg (show ¬ c < 0 by omega), chk_pos (by omega), (cs.2.2.2.2 b hb.1 hb.2).1, if_pos hc.2, c_rimStep cs hz' wp' hb hc, bnd_pos rfl, h5.1]
      · refine ⟨-1, ?_, ?_⟩
        · unfold f_X9_rim
          rw [e1, bnd_pos rfl, if_neg ht, cs.2.2.1, if_neg (show ¬ b < 0 by omega), if_pos hb.2]
          by_cases hc0 : c < 0
          · rw [if_pos hc0]
          · rw [if_neg hc0, chk_pos (by omega), (cs.2.2.2.2 b hb.1 hb.2).1, if_neg (by omega)]
        · rw [hM, if_pos (in0.mpr (by omega))]
    · refine ⟨-1, ?_, ?_⟩
      · unfold f_X9_rim
        rw [e1, bnd_pos rfl, if_neg ht, cs.2.2.1]
        by_cases hb0 : b < 0
        · rw [if_pos hb0]
        · rw [if_neg hb0, if_neg (by omega)]
      · rw [hM, if_pos (in0.mpr (by omega))]
/-! the questions about slots -/
theorem SlR.none {μ : zMem} {q : Int} (h : SlR μ q) : (μ 148 q < 0 ↔ μ (58 + 2 * q) 1 = -1) := by
  unfold SlR at h
  omega
theorem zlen_sl {q : Int} (hq : 0 ≤ q ∧ q < 4) : zlen (58 + 2 * q + 1) = 16 := by
  have : q = 0 ∨ q = 1 ∨ q = 2 ∨ q = 3 := by omega
  rcases this with h | h | h | h <;> subst h <;> decide
/-- how many edges a space has at most -/
theorem Rel.edges {μ : zMem} (h : Rel μ) {s : Int} (hs : 0 ≤ s ∧ s ≤ 1) : 0 ≤ μ 103 s ∧ μ 103 s ≤ 12 := by
  obtain ⟨σ, c1, c2, c3, c4, c5⟩ := h.2.1 s hs.1 hs.2
  rw [c3.2.1]
  exact ⟨c4.2.2.1, c4.2.2.2.1⟩
theorem sim_about {μ : zMem} {a b : Int} (h : Rel μ) : ∃ r, f_X9_about a b μ = some r ∧ f_X10_about a b μ = some r := by
  by_cases h1 : 0 ≤ a ∧ a ≤ 3
  · by_cases h2 : 0 ≤ b ∧ b ≤ 3
    · have h5 := h.1.2.2 a (by omega) (by omega)
      have hs := h.2.2.2.1 a (by omega) (by omega)
      have hn := hs.none
      have hC : f_X9_about a b μ = if μ (58 + 2 * a) 1 = -1 then some (-4) else if b = 0 then some (μ (58 + 2 * a) 2) else if b = 1 then some (μ (58 + 2 * a) 1) else if b = 2 then some (μ (58 + 2 * a) 3) else some (μ (58 + 2 * a) 4) := by
        unfold f_X9_about
        rw [if_neg (fun e => isSlot0.mp e h1), if_neg (by omega), if_pos h2.2, chk_pos (by omega), h5.1, chk_pos (by omega)]
        rfl
      have hM : f_X10_about a b μ = if μ 148 a < 0 then some (-4) else if b = 0 then some (μ 149 a) else if b = 1 then some (μ 148 a) else if b = 2 then some (μ 150 a) else some (μ 151 a) := by
        unfold f_X10_about
        rw [if_neg (fun e => isSlotM0.mp e h1), if_neg (fun e => in0.mp e h2), chk_pos (by omega), chk_pos (by omega), chk_pos (by omega), chk_pos (by omega), chk_pos (by omega)]
      by_cases h3 : μ (58 + 2 * a) 1 = -1
      · exact ⟨-4, by rw [hC, if_pos h3], by rw [hM, if_pos (hn.mpr h3)]⟩
      · rcases hs with hs | ⟨o1, o2, o3, o4, o5, o6, o7⟩
        · exact absurd hs.1 h3
        · rw [hC, hM, if_neg h3, if_neg (fun e => h3 (hn.mp e)), o3, o4, o5, o6]
          split
          · exact ⟨_, rfl, rfl⟩
          · split
            · exact ⟨_, rfl, rfl⟩
            · split
              · exact ⟨_, rfl, rfl⟩
              · exact ⟨_, rfl, rfl⟩
    · refine ⟨-1, ?_, ?_⟩
      · unfold f_X9_about
        rw [if_neg (fun e => isSlot0.mp e h1)]
        by_cases hb0 : b < 0
        · rw [if_pos hb0]
        · rw [if_neg hb0, if_neg (by omega)]
      · unfold f_X10_about
        rw [if_neg (fun e => isSlotM0.mp e h1), if_pos (in0.mpr h2)]
  · refine ⟨-1, ?_, ?_⟩
    · unfold f_X9_about
      rw [if_pos (isSlot0.mpr h1)]
    · unfold f_X10_about
      rw [if_pos (isSlotM0.mpr h1)]
theorem sim_step {μ : zMem} {a b : Int} (h : Rel μ) : ∃ r, f_X9_step a b μ = some r ∧ f_X10_step a b μ = some r := by
  by_cases h1 : 0 ≤ a ∧ a ≤ 3
  · by_cases h2 : b < 0
    · refine ⟨-1, ?_, ?_⟩
      · unfold f_X9_step
        rw [if_neg (fun e => isSlot0.mp e h1), if_pos h2]
      · unfold f_X10_step
        rw [if_neg (fun e => isSlotM0.mp e h1), if_pos h2]
    · have h5 := h.1.2.2 a (by omega) (by omega)
      have hs := h.2.2.2.1 a (by omega) (by omega)
      have hn := hs.none
      by_cases h3 : μ (58 + 2 * a) 1 = -1
      · refine ⟨-4, ?_, ?_⟩
        · unfold f_X9_step
          rw [if_neg (fun e => isSlot0.mp e h1), if_neg h2, chk_pos (by omega), h5.1, chk_pos (by omega)]
          simp only [zlet]
          rw [if_pos h3]
        · unfold f_X10_step
          rw [if_neg (fun e => isSlotM0.mp e h1), if_neg h2, chk_pos (by omega), if_pos (hn.mpr h3)]
      · rcases hs with hs | ⟨o1, o2, o3, o4, o5, o6, o7, o8, o9⟩
        · exact absurd hs.1 h3
        · have hzl := zlen_sl (q := a) (by omega)
          have hed := h.edges (s := μ (58 + 2 * a) 1) ⟨o1, o2⟩
          by_cases h4 : b < μ (58 + 2 * a) 2
          · obtain ⟨q1, q2, q3⟩ := o9 b (by omega) h4
            have h6 := tolds (c := μ (58 + 2 * a + 1) b) (by omega)
            refine ⟨μ (58 + 2 * a + 1) b / 2 + (if μ (58 + 2 * a + 1) b % 2 = 1 then 100 else 0), ?_, ?_⟩
            · unfold f_X9_step
              rw [if_neg (fun e => isSlot0.mp e h1), if_neg h2, chk_pos (by omega), h5.1, chk_pos (by omega)]
              simp only [zlet]
              rw [if_neg h3, if_pos h4, chk_pos (by omega), h6.1]
            · unfold f_X10_step
              rw [if_neg (fun e => isSlotM0.mp e h1), if_neg h2, chk_pos (by omega), if_neg (fun e => h3 (hn.mp e)), chk_pos (by omega), o4, zw_eq (x := μ (58 + 2 * a) 2 - 1) (by omega) (by omega), if_neg (fun e => in0.mp e (by omega)), zw_eq (x := 16 * a) (by omega) (by omega), zw_eq (x := 16 * a + b) (by omega) (by omega), chk_pos (by omega), q1, h6.2]
          · refine ⟨-1, ?_, ?_⟩
            · unfold f_X9_step
              rw [if_neg (fun e => isSlot0.mp e h1), if_neg h2, chk_pos (by omega), h5.1, chk_pos (by omega)]
              simp only [zlet]
              rw [if_neg h3, if_neg h4]
            · unfold f_X10_step
              rw [if_neg (fun e => isSlotM0.mp e h1), if_neg h2, chk_pos (by omega), if_neg (fun e => h3 (hn.mp e)), chk_pos (by omega), o4, zw_eq (x := μ (58 + 2 * a) 2 - 1) (by omega) (by omega), if_pos (in0.mpr (by omega))]
  · refine ⟨-1, ?_, ?_⟩
    · unfold f_X9_step
      rw [if_pos (isSlot0.mpr h1)]
    · unfold f_X10_step
      rw [if_pos (isSlotM0.mpr h1)]
theorem sim_storeys {μ : zMem} {a : Int} (h : Rel μ) : f_X9_storeys a μ = some (f_X10_storeys a μ) := by
  unfold f_X9_storeys f_X10_storeys f_X10_isAny f_X1_isLaid
  by_cases h1 : 0 ≤ a ∧ a ≤ 1
  · rw [if_neg (fun e => isOwn0.mp e h1), if_neg (show ¬ f_X10_isSpace a = 0 from fun e => isSpace0.mp e h1), if_neg (by decide), if_pos (by omega)]
  · rw [if_pos (isOwn0.mpr h1), if_pos (show f_X10_isSpace a = 0 from isSpace0.mpr h1)]
    by_cases h2 : a = 2
    · rw [if_pos h2, if_pos h2]
      rcases h.2.2.2.2.2 with ⟨e1, e2⟩ | ⟨n, a1, b, c, d, e, _⟩
      · rw [if_pos e1, if_pos e2]
        rfl
      · rw [if_neg (show ¬ μ 3 8 = 0 by omega), if_neg (show ¬ μ 101 7 = 0 by omega), if_neg (by decide), if_neg (by decide), chk_pos (by omega), if_neg (by omega), e, c]
        simp only [zlet]
        rw [(h.1.1 n a1 b).2.1]
    · rw [if_neg h2, if_neg h2]
      rfl
