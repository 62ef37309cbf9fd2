/-- the pane that goes with the least lonely edge -/
def pfl (σ : Sp) : Int := lsu (fun f => decide (nby σ (2 ^ (lon σ).toNat) f (sL σ f).toNat ≠ 0)) (sP σ).toNat 0
def fzl : Nat → Sp → Int → Sp × Int
  | 0, σ, k => (σ, k)
  | n + 1, σ, k => if lon σ = -1 then (σ, k) else fzl n (fld σ (pfl σ) (lon σ)) (k + 1)
theorem pfl_spec {σ : Sp} (hE : 0 ≤ sE σ) (hw : WfP σ 8) (hl : lon σ ≠ -1) : 0 ≤ lon σ ∧ lon σ < sE σ ∧ 0 ≤ pfl σ ∧ pfl σ < sP σ ∧ nby σ (2 ^ (lon σ).toNat) (pfl σ) (sL σ (pfl σ)).toNat ≠ 0 ∧ ∀ g, 0 ≤ g → g < sP σ → g ≠ pfl σ → nby σ (2 ^ (lon σ).toNat) g (sL σ g).toNat = 0 := by
  rcases lon_spec σ hE with ⟨h1, _⟩ | ⟨h1, h2, h3⟩
  · exact absurd h1 hl
  · have hp := hw.1
    obtain ⟨f, f0, f1, f2, f3⟩ := ctE_1 (σ := σ) (e := lon σ) (n := (sP σ).toNat) (fun f a b => (hw.2.2 f a (by omega)).2.1) h3
    have hpf : pfl σ = f := by
      unfold pfl
      rcases lsu_spec (fun f => decide (nby σ (2 ^ (lon σ).toNat) f (sL σ f).toNat ≠ 0)) (sP σ).toNat 0 (by omega) with ⟨_, q2⟩ | ⟨q1, q2, q3, _⟩
      · have := q2 f f0 (by omega)
        simp at this
        exact absurd this f2
      · generalize lsu (fun f => decide (nby σ (2 ^ (lon σ).toNat) f (sL σ f).toNat ≠ 0)) (sP σ).toNat 0 = g at *
        cases Int.decEq g f with
        | isTrue e => exact e
        | isFalse e =>
          have := f3 g q1 (by omega) e
          simp [this] at q3
    rw [hpf]
    exact ⟨h1, h2, f0, by omega, f2, fun g a b c => f3 g a (by omega) c⟩
theorem fld_ok {σ : Sp} (w : WfE σ 8 12) (p : WfP σ 8) (hl : lon σ ≠ -1) : WfE (fld σ (pfl σ) (lon σ)) 8 12 ∧ WfP (fld σ (pfl σ) (lon σ)) 8 := by
  obtain ⟨a1, a2, a3, a4, a5, a6⟩ := pfl_spec w.2.2.1 p hl
  refine fld_wf w p ⟨a1, a2⟩ ⟨a3, a4⟩ (fun g g0 g1 hg => ?_)
  have hb := p.2.2 g g0 g1
  have := (nby_0 (σ := σ) (f := g) a1 (sL σ g).toNat (fun i x y => (hb.2.2.1 i x (by omega)).1)).mp (a6 g g0 g1 hg)
  exact fun i x y => this i x (by omega)
theorem lon_none {σ : Sp} (hE : 0 ≤ sE σ) (hP : sP σ = 0) : lon σ = -1 := by
  rcases lon_spec σ hE with ⟨h1, _⟩ | ⟨h1, h2, h3⟩
  · exact h1
  · rw [hP] at h3
    exact absurd h3 (by show ¬ (0 : Int) = 1; decide)
section
variable {μ : zMem}
theorem c_collapse {t : Int} (hz : SZ t 8 12 8) : ∀ (m n : Nat) (σ : Sp) (k : Int) (μ1 : zMem), m < n → sP σ = m → 0 ≤ k → k + m ≤ 8 → WfE σ 8 12 → WfP σ 8 → CS μ1 t σ → (∀ c, ¬ (t ≤ c ∧ c ≤ t + 6) → μ1 c = μ c) → Ok (f_X5_collapse_L7 t n k (lon σ) μ1) (fun v => v.1 = (fzl m σ k).2 ∧ CS v.2 t (fzl m σ k).1 ∧ WfE (fzl m σ k).1 8 12 ∧ WfP (fzl m σ k).1 8 ∧ ∀ c, ¬ (t ≤ c ∧ c ≤ t + 6) → v.2 c = μ c) := by
  intro m
  induction m with
  | zero =>
    intro n σ k μ1 hn hp k0 k1 w p hs hf
    cases n with
    | zero => omega
    | succ n =>
      have hl := lon_none w.2.2.1 hp
      unfold f_X5_collapse_L7
      rw [if_pos hl]
      split
      · exact ok_some.mpr ⟨rfl, hs, w, p, hf⟩
      · exact ok_some.mpr ⟨rfl, hs, w, p, hf⟩
  | succ m ih =>
    intro n σ k μ1 hn hp k0 k1 w p hs hf
    cases n with
    | zero => omega
    | succ n =>
      have hE : 0 ≤ sE σ ∧ sE σ ≤ 12 := ⟨w.2.2.1, w.2.2.2.1⟩
      unfold f_X5_collapse_L7
      rw [if_pos (by omega)]
      unfold fzl
      by_cases hl : lon σ = -1
      · rw [if_pos hl, if_pos hl]
        exact ok_some.mpr ⟨rfl, hs, w, p, hf⟩
      · obtain ⟨a1, a2, a3, a4, a5, a6⟩ := pfl_spec w.2.2.1 p hl
        have hok := fld_ok w p hl
        rw [if_neg hl, if_neg hl, c_paneBy hs hz p hE ⟨a1, a2⟩ ⟨a3, a4⟩ a5 a6, bnd_pos rfl]
        refine ok_bnd.mpr ((c_removePane hs hz p ⟨a3, a4⟩).imp fun μ2 q => ?_)
        obtain ⟨q1, q2⟩ := q
        have hP1 : sP (dropP σ (pfl σ)) = sP σ - 1 := rfl
        refine ok_bnd.mpr ((c_removeEdge (e := lon σ) q1 hz ⟨by rw [hP1]; omega, by rw [hP1]; omega⟩ (fun g g0 g1 => ?_) hE ⟨a1, a2⟩).imp fun μ3 r => ?_)
        · rw [hP1] at g1
          by_cases hg : g < pfl σ
          · have e1 : sL (dropP σ (pfl σ)) g = sL σ g := if_pos hg
            have e2 : ∀ i, sR (dropP σ (pfl σ)) g i = sR σ g i := fun i => if_pos hg
            have hb := p.2.2 g g0 (by omega)
            rw [e1]
            exact ⟨by omega, hb.2.1, fun i x y => by rw [e2]; have := hb.2.2.1 i x y; omega⟩
          · have e1 : sL (dropP σ (pfl σ)) g = sL σ (g + 1) := if_neg hg
            have e2 : ∀ i, sR (dropP σ (pfl σ)) g i = sR σ (g + 1) i := fun i => if_neg hg
            have hb := p.2.2 (g + 1) (by omega) (by omega)
            rw [e1]
            exact ⟨by omega, hb.2.1, fun i x y => by rw [e2]; have := hb.2.2.1 i x y; omega⟩
        obtain ⟨r1, r2⟩ := r
        simp only [zlet]
        have hs3 : CS μ3 t (fld σ (pfl σ) (lon σ)) := r1
        have hE3 : 0 ≤ sE (fld σ (pfl σ) (lon σ)) ∧ sE (fld σ (pfl σ) (lon σ)) ≤ 12 := ⟨hok.1.2.2.1, hok.1.2.2.2.1⟩
        rw [c_lonely hs3 hz hok.2 hE3, bnd_pos rfl, zw_eq (by omega) (by omega)]
        refine ih n _ (k + 1) μ3 (by omega) ?_ (by omega) (by omega) hok.1 hok.2 hs3 (fun c hc => ?_)
        · show sP σ - 1 = (m : Int)
          omega
        · rw [r2 c (by omega) (by omega) (by omega) (by omega), q2 c (by omega) (by omega) (by omega), hf c hc]
theorem m_fold {s : Int} (h3 : 0 ≤ s ∧ s < 3) : ∀ (m n : Nat) (σ : Sp) (k : Int) (μ1 : zMem), m < n → sP σ = m → 0 ≤ k → k + m ≤ 8 → WfE σ 8 12 → WfP σ 8 → MS μ1 s σ → Ms s μ μ1 → (∀ c, ¬ (102 ≤ c ∧ c ≤ 108) → μ1 c = μ c) → Ok (f_X10_fold_L17 s (f_X10_fold_K39 s) n k (if lon σ = -1 then -4 else lon σ) μ1) (fun v => v.1 = (fzl m σ k).2 ∧ MS v.2 s (fzl m σ k).1 ∧ Ms s μ v.2 ∧ MEm s μ v.2 ∧ ∀ c, ¬ (102 ≤ c ∧ c ≤ 108) → c ≠ 148 → v.2 c = μ c) := by
  have k39 : ∀ (σ : Sp) (k : Int) (μ1 : zMem), MS μ1 s σ → Ms s μ μ1 → (∀ c, ¬ (102 ≤ c ∧ c ≤ 108) → μ1 c = μ c) → Ok (f_X10_fold_K39 s k μ1) (fun v => v.1 = k ∧ MS v.2 s σ ∧ Ms s μ v.2 ∧ MEm s μ v.2 ∧ ∀ c, ¬ (102 ≤ c ∧ c ≤ 108) → c ≠ 148 → v.2 c = μ c) := by
    intro σ k μ1 a b c
    unfold f_X10_fold_K39
    refine ok_bnd.mpr (m_emptySlots.imp fun μ2 q => ok_some.mpr ⟨rfl, a.congr fun k x y => q.1 k (by omega), b.trans (Ms.of fun k x y => q.1 k (by omega)), fun q' x y => ?_, fun c' x y => by simp only; rw [q.1 c' y, c c' x]⟩)
    have := q.2 q' x y
    rw [c 148 (by omega)] at this
    exact this
  intro m
  induction m with
  | zero =>
    intro n σ k μ1 hn hp k0 k1 w p hs hm hf
    cases n with
    | zero => omega
    | succ n =>
      have hl := lon_none w.2.2.1 hp
      unfold f_X10_fold_L17
      rw [if_pos hl, if_pos (by decide)]
      exact k39 σ k μ1 hs hm hf
  | succ m ih =>
    intro n σ k μ1 hn hp k0 k1 w p hs hm hf
    cases n with
    | zero => omega
    | succ n =>
      have hE : 0 ≤ sE σ ∧ sE σ ≤ 12 := ⟨w.2.2.1, w.2.2.2.1⟩
      unfold f_X10_fold_L17
      unfold fzl
      by_cases hl : lon σ = -1
      · rw [if_pos hl, if_pos (by decide), if_pos hl]
        exact k39 σ k μ1 hs hm hf
      · obtain ⟨a1, a2, a3, a4, a5, a6⟩ := pfl_spec w.2.2.1 p hl
        have hok := fld_ok w p hl
        rw [if_neg hl, if_neg (by omega), if_neg hl]
        refine ok_bnd.mpr ((m_foldOne hs h3 p hE ⟨a1, a2⟩ ⟨a3, a4⟩ a5 a6).imp fun μ2 q => ?_)
        obtain ⟨q1, q2, q3⟩ := q
        simp only [zlet]
        have hE3 : 0 ≤ sE (fld σ (pfl σ) (lon σ)) ∧ sE (fld σ (pfl σ) (lon σ)) ≤ 12 := ⟨hok.1.2.2.1, hok.1.2.2.2.1⟩
        rw [m_lonely q1 h3 hok.2 hE3, bnd_pos rfl, zw_eq (by omega) (by omega)]
        refine ih n _ (k + 1) μ2 (by omega) ?_ (by omega) (by omega) hok.1 hok.2 q1 (hm.trans q2) (fun c hc => by rw [q3 c hc, hf c hc])
        show sP σ - 1 = (m : Int)
        omega
end
theorem sim_fold {μ : zMem} {a : Int} (h : Rel μ) : Ok (f_X9_fold a μ) (fun v => Ok (f_X10_fold a v.2) (fun w => w.1 = v.1 ∧ Rel w.2)) := by
  by_cases h1 : 0 ≤ a ∧ a ≤ 1
  rotate_left
  · refine sim_same h (r := -1) ?_ ?_
    · unfold f_X9_fold; rw [if_pos (isOwn0.mpr h1)]
    · unfold f_X10_fold; rw [if_pos (isSpace0.mpr h1)]
  have hk := h.own h1
  have hb := hk.b
  have hz := hk.sz
  obtain ⟨σ, s1, s2, s3, s4, s5⟩ := h.2.1 a h1.1 h1.2
  have hE : 0 ≤ sE σ ∧ sE σ ≤ 12 := ⟨s4.2.2.1, s4.2.2.2.1⟩
  have p1 := s5.1
  have p2 := s5.2.1
  unfold f_X9_fold
  rw [if_neg (fun e => isOwn0.mp e h1), chk_pos (by omega), chk_pos (by omega)]
  simp only [zlet]
  have hcol : Ok (f_X5_collapse (μ 2 a) μ) (fun v => v.1 = (fzl (sP σ).toNat σ 0).2 ∧ CS v.2 (μ 2 a) (fzl (sP σ).toNat σ 0).1 ∧ WfE (fzl (sP σ).toNat σ 0).1 8 12 ∧ WfP (fzl (sP σ).toNat σ 0).1 8 ∧ ∀ c, ¬ (μ 2 a ≤ c ∧ c ≤ μ 2 a + 6) → v.2 c = μ c) := by
    unfold f_X5_collapse
    rw [c_lonely s1 hz s5 hE, bnd_pos rfl]
    exact c_collapse hz (sP σ).toNat zfu σ 0 μ (by unfold zfu; omega) (by omega) (by omega) (by omega) s4 s5 s1 (fun _ _ => rfl)
  refine ok_bnd2.mpr (hcol.imp fun v q => ?_)
  obtain ⟨q1, q2, q3, q4, q5⟩ := q
  rw [chk_pos (by omega), q5 2 (by omega), chk_pos (by omega)]
  generalize hτ : fzl (sP σ).toNat σ 0 = τ at *
  refine ok_bnd.mpr ((c_tail (s := a) h h1 (fun c hc => q5 c hc) q2 q3).imp fun μb g => ok_bnd.mpr (g.imp fun μ1 g => ok_some.mpr ?_))
  obtain ⟨g1, g2, g3, g4⟩ := g
  show Ok (f_X10_fold a μ1) _
  have ms1 : MS μ1 a σ := s3.congr fun k x y => g3 k (by omega) (by omega)
  unfold f_X10_fold
  rw [if_neg (fun e => isSpace0.mp e h1), m_lonely ms1 (by omega) s5 hE, bnd_pos rfl]
  refine (m_fold (μ := μ1) (s := a) (by omega) (sP σ).toNat zfu σ 0 μ1 (by unfold zfu; omega) (by omega) (by omega) (by omega) s4 s5 ms1 (Ms.refl a μ1) (fun _ _ => rfl)).imp fun w r => ?_
  rw [hτ] at r
  obtain ⟨r1, r2, r3, r4, r5⟩ := r
  refine ⟨by rw [r1, q1], h.spcE h1 g1 g2 (fun c x y _ => g3 c x y) g4 ⟨fun c x => r5 c (by omega) (by omega), fun c x y z => ?_, fun i hi => by rw [r5 101 (by omega) (by decide)]⟩ r3 r4 r2 q3 q4 (by rw [r5 101 (by omega) (by decide)]) (r5 110 (by omega) (by decide))⟩
  unfold spmX at z
  exact r5 c (by omega) (by omega)
