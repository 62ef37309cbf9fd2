/-! the reference lays the layer -/
def Fl : List Int := [102, 103, 104, 105, 106, 107, 108, 116, 146, 147]
def Gl (μ μ1 : zMem) : Prop := Fm Fl [13] μ μ1 ∧ Ms 2 μ μ1
theorem Gl.refl (μ : zMem) : Gl μ μ := ⟨Fm.refl _ _ _, Ms.refl _ _⟩
theorem Gl.trans {μ μ1 μ2 : zMem} (h : Gl μ μ1) (h' : Gl μ1 μ2) : Gl μ μ2 := ⟨h.1.trans h'.1, h.2.trans h'.2⟩
theorem Gl.up {μ μ1 : zMem} (h : Gl μ μ1) {k : Int} (hk : k = 116 ∨ k = 146 ∨ k = 147) (i v : Int) : Gl μ (zup μ1 k i v) := by
  refine ⟨h.1.up (by unfold Fl; simp; omega) (by omega) _ _, h.2.trans (Ms.of fun c a b => zup_n _ _ _ (by omega))⟩
theorem Gl.upo {μ μ1 : zMem} (h : Gl μ μ1) (v : Int) : Gl μ (zup μ1 101 13 v) := ⟨h.1.upo (by decide) _, h.2.trans (Ms.of fun c a b => zup_n _ _ _ (by omega))⟩
theorem Gl.mt {μ μ1 : zMem} {σ : Sp} (h : Gl μ μ1) (hm : MT μ σ) : MT μ1 σ := by
  unfold MT
  rw [h.1.1 120 (by decide) (by decide), h.1.1 121 (by decide) (by decide), h.1.1 123 (by decide) (by decide), h.1.2 20 (by decide)]
  exact hm
theorem Gl.mtb {μ μ1 : zMem} {n N : Int} {t : Int → Int} (h : Gl μ μ1) (hm : MTb μ n N t) : MTb μ1 n N t := by
  unfold MTb
  rw [h.1.1 128 (by decide) (by decide), h.1.1 129 (by decide) (by decide)]
  exact hm
theorem m_lifted {μ : zMem} {n c a : Int} {σ : Sp} {t : Int → Int} (hm : MT μ σ) (hE : sE σ ≤ 12) (hn : 2 ≤ n ∧ n ≤ 4) (h28 : μ 101 28 = n) (hb : MTb μ n (sN σ) t) (ht : TbR n (sN σ) t) (hc : 0 ≤ c ∧ c < 2 * sE σ) (ha : 0 ≤ a ∧ a < n) (h147 : μ 147 (c / 2) = per σ (c / 2)) : f_X10_lifted (stp c) a μ = some (stp (lfC σ n t c a)) := by
  have hNb := cnt_le (isTn σ) (sE σ).toNat
  have hN : 0 ≤ sN σ ∧ sN σ ≤ 12 := by unfold sN; omega
  have hm1 := m_stepMoves hm (by omega) hn (by omega) hb hc ha
  have hmr := mvc_rg hn ht hc ha
  have hp := per_rg σ (c / 2).toNat
  rw [show (((c / 2).toNat : Nat) : Int) = c / 2 by omega] at hp
  have b3 : 0 ≤ n * per σ (c / 2) ∧ n * per σ (c / 2) ≤ 48 := by rcases n234 hn with h | h | h <;> subst h <;> omega
  obtain ⟨c1, c2⟩ := lfC_h (σ := σ) (n := n) (c := c) (a := a) (t := t)
  have hs : stp (lfC σ n t c a) = if c % 2 = 0 then (n * per σ (c / 2) + a) + 1 else -(n * per σ (c / 2) + mvc σ n t c a) - 1 := by
    unfold stp
    rw [c1, c2]
    by_cases h0 : c % 2 = 0
    · rw [if_pos h0, if_pos h0, if_pos h0]
    · rw [if_neg h0, if_neg h0, if_neg h0]
  unfold f_X10_lifted f_X10_lifted_J14
  simp only [zlet]
  by_cases h0 : c % 2 = 0
  · have e1 : stp c = c / 2 + 1 := if_pos h0
    rw [hs, if_pos h0, e1, if_neg (by omega), if_neg (by omega), zw_eq (x := c / 2 + 1 - 1) (by omega) (by omega), show c / 2 + 1 - 1 = c / 2 by omega, chk_pos (by omega), h28, h147, zw_eq (x := n * per σ (c / 2)) (by omega) (by omega), zw_eq (x := n * per σ (c / 2) + a) (by omega) (by omega), zw_eq (by omega) (by omega)]
  · have e1 : stp c = -(c / 2) - 1 := if_neg h0
    rw [hs, if_neg h0]
    rw [show f_X10_stepMoves (stp c) a μ = some (mvc σ n t c a) from hm1, bnd_pos rfl, e1, if_pos (by omega), if_pos (by omega), zw_eq (x := -(-(c / 2) - 1)) (by omega) (by omega), zw_eq (x := -(-(c / 2) - 1) - 1) (by omega) (by omega), show -(-(c / 2) - 1) - 1 = c / 2 by omega, chk_pos (by omega), h28, h147, zw_eq (x := n * per σ (c / 2)) (by omega) (by omega), zw_eq (x := n * per σ (c / 2) + mvc σ n t c a) (by omega) (by omega), zw_eq (x := -(n * per σ (c / 2) + mvc σ n t c a)) (by omega) (by omega), zw_eq (by omega) (by omega)]
/-- one rim lifted -/
theorem m_layFace {μ : zMem} {s n f k : Int} {σ τ : Sp} {t : Int → Int} {g : zMem → Option zMem} {Q : zMem → Prop} (hs : 0 ≤ s ∧ s < 2) (hn : 2 ≤ n ∧ n ≤ 4) (hc : MS μ s σ) (hw : WfE σ 8 12) (hp : WfP σ 8) (hm : MT μ σ) (h28 : μ 101 28 = n) (hb : MTb μ n (sN σ) t) (ht : TbR n (sN σ) t) (h147 : ∀ e, 0 ≤ e → e < sE σ → μ 147 e = per σ e) (hf : 0 ≤ f ∧ f < sP σ) (hk : 0 ≤ k ∧ k < n) (h13 : μ 101 13 = sL σ f) (h2 : MS μ 2 τ) (hg : ∀ μ', Gl μ μ' → μ' 147 = μ 147 → MS μ' 2 τ → MRd μ' (sL σ f) (lfW σ n t f k) → Ok (g μ') Q) : Ok (f_X10_layLayer_L248 s f g zfu k 0 μ) Q := by
  obtain ⟨p1, p2, p3, p4, p5⟩ := hp.2.2 f hf.1 hf.2
  have hE := hw.2.2.2.1
  have hNb := cnt_le (isTn σ) (sE σ).toNat
  have hN : 0 ≤ sN σ ∧ sN σ ≤ 12 := by unfold sN; omega
  have hp32 : WfP σ 32 := hp.mono (by omega)
  have key : ∀ (m fu i : Nat) (μ1 : zMem), m < fu → (i : Int) + m = sL σ f → Gl μ μ1 → (∀ x, x ≠ 116 → μ1 x = μ x) → (∀ j, 0 ≤ j → j < (i : Int) → μ1 116 j = stp (lfW σ n t f k j)) → Ok (f_X10_layLayer_L248 s f g fu (lfA σ n t f k i) (i : Int) μ1) Q := by
    intro m
    induction m with
    | zero =>
      intro fu i μ1 hfu him g1 g2 g3
      cases fu with
      | zero => omega
      | succ fu =>
        unfold f_X10_layLayer_L248
        rw [g2 101 (by decide), h13, if_neg (by omega)]
        refine hg μ1 g1 (g2 147 (by decide)) (h2.congr fun x a b => g2 x (by omega)) ⟨by rw [g2 101 (by decide)]; exact h13, fun j a b => g3 j a (by omega)⟩
    | succ m ih =>
      intro fu i μ1 hfu him g1 g2 g3
      cases fu with
      | zero => omega
      | succ fu =>
        have hr := p3 i (by omega) (by omega)
        have har := lfA_rg hn ht hp hf hk i (by omega)
        have hc1 : MS μ1 s σ := hc.congr fun x a b => g2 x (by omega)
        have hl := m_lifted (g1.mt hm) hE hn (by rw [g2 101 (by decide)]; exact h28) (g1.mtb hb) ht hr har (by rw [g2 147 (by decide)]; exact h147 _ (by omega) (by omega))
        have g1' := g1.up (k := 116) (by omega) (i : Int) (stp (lfC σ n t (sR σ f i) (lfA σ n t f k i)))
        have hc1' : MS (zup μ1 116 (i : Int) (stp (lfC σ n t (sR σ f i) (lfA σ n t f k i)))) s σ := hc1.congr fun x a b => zup_n _ _ _ (by omega)
        have hmv := m_stepMoves (g1'.mt hm) (by omega) hn (by omega) (g1'.mtb hb) hr har
        unfold f_X10_layLayer_L248
        simp only [zlet]
        rw [g2 101 (by decide), h13, if_pos (by omega), bnd_pos (m_rimAt hc1 ⟨hs.1, by omega⟩ hp32 hf ⟨by omega, by omega⟩), bnd_pos hl, chk_pos (by omega), bnd_pos (m_rimAt hc1' ⟨hs.1, by omega⟩ hp32 hf ⟨by omega, by omega⟩), bnd_pos hmv, zw_eq (by omega) (by omega), show (i : Int) + 1 = ((i + 1 : Nat) : Int) by omega]
        refine ih fu (i + 1) _ (by omega) (by omega) g1' (fun x hx => by rw [zup_n _ _ _ hx]; exact g2 x hx) (fun j a b => ?_)
        rw [zup_s]
        by_cases hj : j = i
        · rw [hj, up1_s]
          unfold lfW
          rw [show ((i : Int)).toNat = i by omega]
        · rw [up1_n _ _ hj]; exact g3 j a (by omega)
  exact key (sL σ f).toNat zfu 0 μ (by unfold zfu; omega) (by omega) (Gl.refl _) (fun _ _ => rfl) (fun j a b => by omega)
theorem m_layFaces {μ : zMem} {s n : Int} {σ : Sp} {t : Int → Int} (hs : 0 ≤ s ∧ s < 2) (hn : 2 ≤ n ∧ n ≤ 4) (hc : MS μ s σ) (hw : WfE σ 8 12) (hp : WfP σ 8) (hm : MT μ σ) (h28 : μ 101 28 = n) (hb : MTb μ n (sN σ) t) (ht : TbR n (sN σ) t) (hh : hld σ n t 0) (h147 : ∀ e, 0 ≤ e → e < sE σ → μ 147 e = per σ e) (h2 : MS μ 2 (lyP σ n t 0)) : Ok (f_X10_layLayer_L198 s zfu 0 μ) (fun μ' => Gl μ μ' ∧ MS μ' 2 (Lay σ n t)) := by
  have hP0 := hp.1
  have hP8 := hp.2.1
  have hw32 : WfE σ 32 48 := hw.mono (by omega) (by omega)
  have hp32 : WfP σ 32 := hp.mono (by omega)
  have key : ∀ (m fu f : Nat) (μ1 : zMem), m < fu → (f : Int) + m = sP σ → Gl μ μ1 → (μ1 147 = μ 147) → MS μ1 2 (lyP σ n t f) → Ok (f_X10_layLayer_L198 s fu (f : Int) μ1) (fun μ' => Gl μ μ' ∧ MS μ' 2 (Lay σ n t)) := by
    intro m
    induction m with
    | zero =>
      intro fu f μ1 hfu hfm g1 g7 g2
      cases fu with
      | zero => omega
      | succ fu =>
        have hc1 : MS μ1 s σ := g1.2.ms (by omega) hw32 hp32 hc
        unfold f_X10_layLayer_L198
        rw [chk_pos (by omega), hc1.2.2.1, if_neg (by omega)]
        rw [show f = (sP σ).toNat by omega] at g2
        exact ok_some.mpr ⟨g1, g2⟩
    | succ m ih =>
      intro fu f μ1 hfu hfm g1 g7 g2
      cases fu with
      | zero => omega
      | succ fu =>
        have hf : 0 ≤ (f : Int) ∧ (f : Int) < sP σ := ⟨by omega, by omega⟩
        have hc1 : MS μ1 s σ := g1.2.ms (by omega) hw32 hp32 hc
        have hln := lyP_n (σ := σ) (t := t) hn f
        have hwf := lyP_wf hn hw hp ht hh f (by omega)
        have hpp := cnt_le (inP σ) f
        have hpb : 0 ≤ pnr σ f ∧ pnr σ f ≤ 7 := by unfold pnr; omega
        have hnb : 0 ≤ n * pnr σ f ∧ n * pnr σ f + n ≤ 32 := by rcases n234 hn with h | h | h <;> subst h <;> omega
        have K : ∀ μ2 : zMem, Gl μ μ2 → μ2 147 = μ 147 → MS μ2 2 (lyP σ n t (f + 1)) → Ok (f_X10_layLayer_K312 f (f_X10_layLayer_L198 s fu) μ2) (fun μ' => Gl μ μ' ∧ MS μ' 2 (Lay σ n t)) := by
          intro μ2 a b c
          unfold f_X10_layLayer_K312
          simp only [zlet]
          rw [zw_eq (by omega) (by omega), show (f : Int) + 1 = ((f + 1 : Nat) : Int) by omega]
          exact ih fu (f + 1) μ2 (by omega) (by omega) a b c
        unfold f_X10_layLayer_L198
        rw [chk_pos (by omega), hc1.2.2.1, if_pos (by omega)]
        by_cases hi : inP σ f = true
        · have inner : ∀ (q fv k : Nat) (μ2 : zMem), q < fv → (k : Int) + q = n → Gl μ μ2 → μ2 147 = μ 147 → MS μ2 2 (lyPk (lyP σ n t f) σ n t f k) → Ok (f_X10_layLayer_L210 s f (f_X10_layLayer_K312 f (f_X10_layLayer_L198 s fu)) fv (k : Int) μ2) (fun μ' => Gl μ μ' ∧ MS μ' 2 (Lay σ n t)) := by
            intro q
            induction q with
            | zero =>
              intro fv k μ2 hfv hk k1 k7 k2
              cases fv with
              | zero => omega
              | succ fv =>
                unfold f_X10_layLayer_L210
                rw [k1.1.2 28 (by decide), h28, if_neg (by omega)]
                refine K μ2 k1 k7 ?_
                unfold lyP
                rw [if_pos hi, show n.toNat = k by omega]
                exact k2
            | succ q ihq =>
              intro fv k μ2 hfv hk k1 k7 k2
              cases fv with
              | zero => omega
              | succ fv =>
                have hlk := lyPk_n (lyP σ n t f) σ n t f k
                have hwk := lyPk_wf hn hw hp ht hh hf hi hln.2.1 hln.2.2.2.1 hln.2.2.2.2 hwf.1 k (by omega) (by rw [hln.2.2.1]; omega)
                have hc2 : MS μ2 s σ := k1.2.ms (by omega) hw32 hp32 hc
                have hlen := (hc2.2.2.2.2 f hf.1 hf.2).1
                unfold f_X10_layLayer_L210
                simp only [zlet]
                rw [k1.1.2 28 (by decide), h28, if_pos (by omega), bnd_pos (m_isFaceInPart hc2 ⟨hs.1, by omega⟩ hw32 hp32 (k1.mt hm) hf), hi, if_neg (by decide), zw_eq (x := 32 * s) (by omega) (by omega), zw_eq (x := 32 * s + (f : Int)) (by omega) (by omega), chk_pos (by omega), hlen]
                have k1' := k1.upo (sL σ f)
                have hc2' : MS (zup μ2 101 13 (sL σ f)) s σ := hc2.congr fun x a b => zup_n _ _ _ (by omega)
                refine m_layFace (k := k) (τ := lyPk (lyP σ n t f) σ n t f k) hs hn hc2' hw hp (k1'.mt hm) (by rw [k1'.1.2 28 (by decide)]; exact h28) (k1'.mtb hb) ht (fun e a b => by rw [zup_n _ _ _ (by decide), k7]; exact h147 e a b) hf ⟨by omega, by omega⟩ (by rw [zup_s, up1_s]) (k2.congr fun x a b => zup_n _ _ _ (by omega)) (fun μ3 a1 a7 a2 a3 => ?_)
                unfold f_X10_layLayer_K300
                simp only [zlet]
                refine ok_bnd2.mpr ((m_addFace a2 (by omega) hwk.1 (by rw [hlk.2.2.1, hln.2.2.1]; omega) (fun x y z => (hwk.2.2 x y z).2.1) ⟨by have := (hp.2.2 f hf.1 hf.2).1; omega, (hp.2.2 f hf.1 hf.2).2.1⟩ a3).imp fun w r => ?_)
                obtain ⟨r1, r2, r3, r4⟩ := r
                rw [zw_eq (by omega) (by omega), show (k : Int) + 1 = ((k + 1 : Nat) : Int) by omega]
                have e7 : μ3 147 = μ 147 := by rw [a7, zup_n _ _ _ (by decide)]; exact k7
                refine ihq fv (k + 1) w.2 (by omega) (by omega) ((k1'.trans a1).trans ⟨⟨fun c x y => r3 c (fun q => x (by rw [q]; decide)) (fun q => x (by rw [q]; decide)) (fun q => x (by rw [q]; decide)), fun i _ => by rw [r3 101 (by decide) (by decide) (by decide)]⟩, r4⟩) (by rw [r3 147 (by decide) (by decide) (by decide)]; exact e7) r2
          exact inner n.toNat zfu 0 μ1 (by unfold zfu; omega) (by omega) g1 g7 g2
        · have z1 : zfu = (zfu - 1) + 1 := by unfold zfu; omega
          rw [z1]
          unfold f_X10_layLayer_L210
          simp only [zlet]
          rw [g1.1.2 28 (by decide), h28, if_pos (by omega), bnd_pos (m_isFaceInPart hc1 ⟨hs.1, by omega⟩ hw32 hp32 (g1.mt hm) hf), Bool.eq_false_iff.mpr hi, if_pos (by decide)]
          refine K μ1 g1 g7 ?_
          unfold lyP
          rw [if_neg hi]
          exact g2
  exact key (sP σ).toNat zfu 0 μ (by unfold zfu; omega) (by omega) (Gl.refl _) rfl h2
