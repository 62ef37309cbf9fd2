/-! the class lays the layer's panes -/
theorem c_layPane {μ : zMem} {u n f k : Int} {σ τ : Sp} {t : Int → Int} (hT : ShT μ) (hn : 2 ≤ n ∧ n ≤ 4) (hu : 32 < u ∧ u < 58) (hc : CS μ u σ) (hz : SZ u 8 12 8) (hw : WfE σ 8 12) (hp : WfP σ 8) (hl : LC μ n σ t) (ht : TbR n (sN σ) t) (h14 : ∀ e, 0 ≤ e → e < sE σ → inE σ e = true → μ 14 e = per σ e) (hf : 0 ≤ f ∧ f < sP σ) (hi : inP σ f = true) (hk : 0 ≤ k ∧ k < n) (h4 : CS μ 4 τ) (hwt : WfP τ 32) (hP : sP τ < 32) : Ok (f_X1_addPane u f k μ) (fun μ' => (∀ x, x ≠ 4 → x ≠ 9 → x ≠ 10 → x ≠ 15 → μ' x = μ x) ∧ CS μ' 4 (addP τ (sL σ f) (lfW σ n t f k))) := by
  obtain ⟨p1, p2, p3, p4, p5⟩ := hp.2.2 f hf.1 hf.2
  have hE := hw.2.2.2.1
  have hP8 := hp.2.1
  have h0 := (hT n hn.1 hn.2).2.1
  have hlen := (hc.2.2.2.2 f hf.1 hf.2).1
  have hrim := rim_in hw hp hf hi
  have hz' := hz
  obtain ⟨z1, z2, z3, z4, z5, z6, z7, z8, z9⟩ := hz'
  have hz15 : zlen 15 = 8 := by decide
  have key : ∀ (m fu i : Nat) (μ1 : zMem), m < fu → (i : Int) + m = sL σ f → (∀ x, x ≠ 15 → μ1 x = μ x) → (∀ j, 0 ≤ j → j < (i : Int) → μ1 15 j = lfW σ n t f k j) → Ok (f_X1_addPane_L6 u f (f_X1_addPane_K96 u f) fu (lfA σ n t f k i) (i : Int) μ1) (fun μ' => (∀ x, x ≠ 4 → x ≠ 9 → x ≠ 10 → x ≠ 15 → μ' x = μ x) ∧ CS μ' 4 (addP τ (sL σ f) (lfW σ n t f k))) := by
    intro m
    induction m with
    | zero =>
      intro fu i μ1 hfu him g1 g2
      cases fu with
      | zero => omega
      | succ fu =>
        unfold f_X1_addPane_L6
        rw [chk_pos (by omega), g1 (u + 6) (by omega), hlen, if_neg (by omega)]
        unfold f_X1_addPane_K96
        rw [chk_pos (by omega), g1 (u + 6) (by omega), hlen]
        refine ok_bnd.mpr ((c_addPane (w := lfW σ n t f k) (h4.congr fun x a b => g1 x (by omega)) SZ4 hwt.1 hP (fun x a b => (hwt.2.2 x a b).2.1) ⟨by omega, p2⟩ ⟨by decide, by decide, by decide⟩ (by omega) (fun j a b => g2 j a (by omega))).imp fun μ2 q => ?_)
        exact ok_some.mpr ⟨fun x a b c d => (q.2.1 x a b c).trans (g1 x d), q.1⟩
    | succ m ih =>
      intro fu i μ1 hfu him g1 g2
      cases fu with
      | zero => omega
      | succ fu =>
        have hr := p3 i (by omega) (by omega)
        have hri := hrim i (by omega)
        have har := lfA_rg hn ht hp hf hk i (by omega)
        have hT1 : ShT μ1 := hT.congr fun x hx => g1 x (by omega)
        have hl1 : LC μ1 n σ t := hl.cg (g1 3 (by omega)) (g1 11 (by omega)) (g1 12 (by omega))
        have hmv := c_moveBy hT1 hn hl1 ht hE hr har
        have hmr := mvc_rg hn ht hr har
        have hpe := cnt_at (r := inE σ) (e := sR σ f i / 2) (E := sE σ) (by omega) hri.2
        have hpl := (cnt_le (inE σ) (sE σ).toNat).2
        have hpb : 0 ≤ per σ (sR σ f i / 2) ∧ per σ (sR σ f i / 2) ≤ 11 := by unfold per; omega
        unfold f_X1_addPane_L6
        rw [chk_pos (by omega), g1 (u + 6) (by omega), hlen, if_pos (by omega), bnd_pos (c_rimStep (hc.congr fun x a b => g1 x (by omega)) hz hp hf ⟨by omega, by omega⟩), bnd_pos hmv]
        unfold f_X1_addPane_J50
        simp only [zlet]
        have b3 : 0 ≤ n * per σ (sR σ f i / 2) ∧ n * per σ (sR σ f i / 2) ≤ 44 := by rcases n234 hn with h | h | h <;> subst h <;> omega
        have b4 : 0 ≤ (if sR σ f i % 2 = 0 then lfA σ n t f k i else mvc σ n t (sR σ f i) (lfA σ n t f k i)) ∧ (if sR σ f i % 2 = 0 then lfA σ n t f k i else mvc σ n t (sR σ f i) (lfA σ n t f k i)) < n := by split <;> omega
        rw [hl1.1, chk_pos (by omega), zshr1 ⟨by omega, by omega⟩, chk_pos (by omega), chk_pos (by omega), zand1 ⟨by omega, by omega⟩, (hT1 n hn.1 hn.2).2.1, g1 14 (by omega), h14 _ (by omega) (by omega) hri.2, zw_eq (x := (i : Int) + 1) (by omega) (by omega), zw_eq (x := n * per σ (sR σ f i / 2)) (by omega) (by omega)]
        generalize hX : (if sR σ f i % 2 = 0 then lfA σ n t f k i else mvc σ n t (sR σ f i) (lfA σ n t f k i)) = X at *
        rw [zw_eq (x := n * per σ (sR σ f i / 2) + X) (by omega) (by omega), zw_eq (x := 2 * (n * per σ (sR σ f i / 2) + X)) (by omega) (by omega), zw_eq (x := 2 * (n * per σ (sR σ f i / 2) + X) + sR σ f i % 2) (by omega) (by omega)]
        rw [show (i : Int) + 1 = ((i + 1 : Nat) : Int) by omega]
        refine ih fu (i + 1) _ (by omega) (by omega) (fun x hx => by rw [zup_n _ _ _ hx]; exact g1 x hx) (fun j a b => ?_)
        rw [zup_s]
        by_cases hj : j = i
        · rw [hj, up1_s]
          unfold lfW lfC
          rw [show ((i : Int)).toNat = i by omega, hX]
        · rw [up1_n _ _ hj]; exact g2 j a (by omega)
  unfold f_X1_addPane
  exact key (sL σ f).toNat zfu 0 μ (by unfold zfu; omega) (by omega) (fun _ _ => rfl) (fun j a b => by omega)
theorem c_layPanes {μ : zMem} {u n : Int} {σ : Sp} {t : Int → Int} (hT : ShT μ) (hn : 2 ≤ n ∧ n ≤ 4) (hu : 32 < u ∧ u < 58) (hc : CS μ u σ) (hcp : CP μ u σ) (hz : SZ u 8 12 8) (hw : WfE σ 8 12) (hp : WfP σ 8) (hl : LC μ n σ t) (ht : TbR n (sN σ) t) (hh : hld σ n t 0) (h14 : ∀ e, 0 ≤ e → e < sE σ → inE σ e = true → μ 14 e = per σ e) (h4 : CS μ 4 (lyP σ n t 0)) : Ok (f_X1_addPanes u μ) (fun μ' => (∀ x, x ≠ 4 → x ≠ 9 → x ≠ 10 → x ≠ 15 → μ' x = μ x) ∧ CS μ' 4 (lyP σ n t (sP σ).toNat)) := by
  have hP0 := hp.1
  have hP8 := hp.2.1
  have h0 := (hT n hn.1 hn.2).2.1
  have l1 := hl.1
  have key : ∀ (m fu f : Nat) (μ1 : zMem), m < fu → (f : Int) + m = sP σ → (∀ x, x ≠ 4 → x ≠ 9 → x ≠ 10 → x ≠ 15 → μ1 x = μ x) → CS μ1 4 (lyP σ n t f) → Ok (f_X1_addPanes_L2 u fu (f : Int) μ1) (fun μ' => (∀ x, x ≠ 4 → x ≠ 9 → x ≠ 10 → x ≠ 15 → μ' x = μ x) ∧ CS μ' 4 (lyP σ n t (sP σ).toNat)) := by
    intro m
    induction m with
    | zero =>
      intro fu f μ1 hfu hfm g1 g2
      cases fu with
      | zero => omega
      | succ fu =>
        unfold f_X1_addPanes_L2
        rw [g1 u (by omega) (by omega) (by omega) (by omega), hc.2.2.1, if_neg (by omega)]
        rw [show f = (sP σ).toNat by omega] at g2
        exact ok_some.mpr ⟨g1, g2⟩
    | succ m ih =>
      intro fu f μ1 hfu hfm g1 g2
      cases fu with
      | zero => omega
      | succ fu =>
        have hf : 0 ≤ (f : Int) ∧ (f : Int) < sP σ := ⟨by omega, by omega⟩
        have hln := lyP_n (σ := σ) (t := t) hn f
        have hwf := lyP_wf hn hw hp ht hh f (by omega)
        have hpp := cnt_le (inP σ) f
        have hpb : 0 ≤ pnr σ f ∧ pnr σ f ≤ 7 := by unfold pnr; omega
        have hnb : 0 ≤ n * pnr σ f ∧ n * pnr σ f + n ≤ 32 := by rcases n234 hn with h | h | h <;> subst h <;> omega
        have K : ∀ μ2 : zMem, (∀ x, x ≠ 4 → x ≠ 9 → x ≠ 10 → x ≠ 15 → μ2 x = μ x) → CS μ2 4 (lyP σ n t (f + 1)) → Ok (f_X1_addPanes_K44 f (f_X1_addPanes_L2 u fu) μ2) (fun μ' => (∀ x, x ≠ 4 → x ≠ 9 → x ≠ 10 → x ≠ 15 → μ' x = μ x) ∧ CS μ' 4 (lyP σ n t (sP σ).toNat)) := by
          intro μ2 a b
          unfold f_X1_addPanes_K44
          simp only [zlet]
          rw [zw_eq (by omega) (by omega), show (f : Int) + 1 = ((f + 1 : Nat) : Int) by omega]
          exact ih fu (f + 1) μ2 (by omega) (by omega) a b
        unfold f_X1_addPanes_L2
        rw [g1 u (by omega) (by omega) (by omega) (by omega), hc.2.2.1, if_pos (by omega)]
        by_cases hi : inP σ f = true
        · have inner : ∀ (q fv k : Nat) (μ2 : zMem), q < fv → (k : Int) + q = n → (∀ x, x ≠ 4 → x ≠ 9 → x ≠ 10 → x ≠ 15 → μ2 x = μ x) → CS μ2 4 (lyPk (lyP σ n t f) σ n t f k) → Ok (f_X1_addPanes_L12 u f (f_X1_addPanes_K44 f (f_X1_addPanes_L2 u fu)) fv (k : Int) μ2) (fun μ' => (∀ x, x ≠ 4 → x ≠ 9 → x ≠ 10 → x ≠ 15 → μ' x = μ x) ∧ CS μ' 4 (lyP σ n t (sP σ).toNat)) := by
            intro q
            induction q with
            | zero =>
              intro fv k μ2 hfv hk k1 k2
              cases fv with
              | zero => omega
              | succ fv =>
                unfold f_X1_addPanes_L12
                simp only [zlet]
                rw [k1 3 (by omega) (by omega) (by omega) (by omega), l1, chk_pos (by omega), k1 (66 + 4 * n) (by omega) (by omega) (by omega) (by omega), h0, if_neg (by omega)]
                refine K μ2 k1 ?_
                unfold lyP
                rw [if_pos hi, show n.toNat = k by omega]
                exact k2
            | succ q ihq =>
              intro fv k μ2 hfv hk k1 k2
              cases fv with
              | zero => omega
              | succ fv =>
                have hlk := lyPk_n (lyP σ n t f) σ n t f k
                have hwk := lyPk_wf hn hw hp ht hh hf hi hln.2.1 hln.2.2.2.1 hln.2.2.2.2 hwf.1 k (by omega) (by rw [hln.2.2.1]; omega)
                have hT2 : ShT μ2 := hT.congr fun x hx => k1 x (by omega) (by omega) (by omega) (by omega)
                have hc2 : CS μ2 u σ := hc.congr fun x a b => k1 x (by omega) (by omega) (by omega) (by omega)
                have hcp2 : CP μ2 u σ := hcp.congr fun x a b => k1 x (by omega) (by omega) (by omega) (by omega)
                have hl2 : LC μ2 n σ t := hl.cg (k1 3 (by omega) (by omega) (by omega) (by omega)) (k1 11 (by omega) (by omega) (by omega) (by omega)) (k1 12 (by omega) (by omega) (by omega) (by omega))
                unfold f_X1_addPanes_L12
                simp only [zlet]
                rw [hl2.1, chk_pos (by omega), (hT2 n hn.1 hn.2).2.1, if_pos (by omega), bnd_pos (c_isPaneOfPart hc2 hcp2 hz hw hp hf), hi, if_neg (by decide)]
                refine ok_bnd.mpr ((c_layPane (k := k) hT2 hn hu hc2 hz hw hp hl2 ht (fun e a b c => by rw [k1 14 (by omega) (by omega) (by omega) (by omega)]; exact h14 e a b c) hf hi ⟨by omega, by omega⟩ k2 hwk (by rw [hlk.2.2.1, hln.2.2.1]; omega)).imp fun μ3 r => ?_)
                obtain ⟨r1, r2⟩ := r
                rw [zw_eq (by omega) (by omega), show (k : Int) + 1 = ((k + 1 : Nat) : Int) by omega]
                exact ihq fv (k + 1) μ3 (by omega) (by omega) (fun x a b c d => (r1 x a b c d).trans (k1 x a b c d)) r2
          exact inner n.toNat zfu 0 μ1 (by unfold zfu; omega) (by omega) g1 g2
        · have z1 : zfu = (zfu - 1) + 1 := by unfold zfu; omega
          rw [z1]
          unfold f_X1_addPanes_L12
          simp only [zlet]
          have hc1 : CS μ1 u σ := hc.congr fun x a b => g1 x (by omega) (by omega) (by omega) (by omega)
          have hcp1 : CP μ1 u σ := hcp.congr fun x a b => g1 x (by omega) (by omega) (by omega) (by omega)
          rw [g1 3 (by omega) (by omega) (by omega) (by omega), l1, chk_pos (by omega), g1 (66 + 4 * n) (by omega) (by omega) (by omega) (by omega), h0, if_pos (by omega), bnd_pos (c_isPaneOfPart hc1 hcp1 hz hw hp hf), Bool.eq_false_iff.mpr hi, if_pos (by decide)]
          refine K μ1 g1 ?_
          unfold lyP
          rw [if_neg hi]
          exact g2
  unfold f_X1_addPanes
  exact key (sP σ).toNat zfu 0 μ (by unfold zfu; omega) (by omega) (fun _ _ _ _ _ => rfl) h4
def Lay (σ : Sp) (n : Int) (t : Int → Int) : Sp := lyP σ n t (sP σ).toNat
theorem c_lay {μ : zMem} {u n s : Int} {σ : Sp} {t : Int → Int} (hT : ShT μ) (hn : 2 ≤ n ∧ n ≤ 4) (hu : 32 < u ∧ u < 58) (hc : CS μ u σ) (hcp : CP μ u σ) (hz : SZ u 8 12 8) (hw : WfE σ 8 12) (hp : WfP σ 8) (ht : TbR n (sN σ) t) (hh : hld σ n t 0) (h9 : μ 27 9 = 66 + 4 * n) (h8 : μ 27 8 = sN σ) (h28 : ∀ j, 0 ≤ j → j < sN σ → μ 28 j = t j) : Ok (f_X1_lay u s μ) (fun μ' => (∀ k, ¬ (3 ≤ k ∧ k ≤ 15) → μ' k = μ k) ∧ CS μ' 4 (Lay σ n t) ∧ CP μ' 4 (Lay σ n t) ∧ μ' 3 6 = s ∧ μ' 3 7 = sN σ ∧ LC μ' n σ t ∧ ∀ e, sE σ ≤ e → e < 12 → μ' 12 e = -2) := by
  have hE := hw.2.2.2.1
  have hE0 := hw.2.2.1
  have hC := hw.2.1
  have hq := sQ_rg hw
  have hNb := cnt_le (isTn σ) (sE σ).toNat
  have hN : 0 ≤ sN σ ∧ sN σ ≤ 12 := by unfold sN; omega
  have hz' := hz
  obtain ⟨z1, z2, z3, z4, z5, z6, z7, z8, z9⟩ := hz'
  unfold f_X1_lay
  simp only [zlet]
  have e1 : ∀ k, k ≠ 3 → zup μ 3 6 s k = μ k := fun k hk => zup_n _ _ _ hk
  rw [e1 27 (by decide), h9, chk_pos (by omega)]
  have e2 : zup (zup μ 3 6 s) 3 8 (66 + 4 * n) 27 8 = sN σ := by rw [zup_n _ _ _ (by decide), zup_n _ _ _ (by decide)]; exact h8
  rw [e2]
  have f6 : zup (zup (zup μ 3 6 s) 3 8 (66 + 4 * n)) 3 7 (sN σ) 3 6 = s := by simp (disch := omega) only [zup_s, zup_n, up1_s, up1_n]
  have f7 : zup (zup (zup μ 3 6 s) 3 8 (66 + 4 * n)) 3 7 (sN σ) 3 7 = sN σ := by simp (disch := omega) only [zup_s, zup_n, up1_s, up1_n]
  have f8 : zup (zup (zup μ 3 6 s) 3 8 (66 + 4 * n)) 3 7 (sN σ) 3 8 = 66 + 4 * n := by simp (disch := omega) only [zup_s, zup_n, up1_s, up1_n]
  have fo : ∀ k, k ≠ 3 → zup (zup (zup μ 3 6 s) 3 8 (66 + 4 * n)) 3 7 (sN σ) k = μ k := fun k hk => by rw [zup_n _ _ _ hk, zup_n _ _ _ hk, zup_n _ _ _ hk]
  generalize zup (zup (zup μ 3 6 s) 3 8 (66 + 4 * n)) 3 7 (sN σ) = μ4 at *
  rw [f7, chk_pos ⟨by omega, by omega, by omega, by omega, by omega⟩]
  have c11 : ∀ j, 0 ≤ j → j < sN σ → zcpy μ4 28 0 11 0 (sN σ) 11 j = t j := by
    intro j a b
    rw [zcpy_eq, if_pos ⟨rfl, by omega, by omega⟩, fo 28 (by decide), show (0 : Int) + (j - 0) = j by omega]
    exact h28 j a b
  have c5 : ∀ k, k ≠ 11 → zcpy μ4 28 0 11 0 (sN σ) k = μ4 k := by
    intro k hk
    funext i
    rw [zcpy_eq, if_neg (fun q => hk q.1)]
  generalize zcpy μ4 28 0 11 0 (sN σ) = μ5 at *
  refine ok_bnd.mpr (c_fill.imp fun μ6 q => ?_)
  obtain ⟨q1, q2⟩ := q
  have hz12 : zlen 12 = 12 := by decide
  have e67 : μ6 u 7 = sE σ := by rw [q1 u (by omega), c5 u (by omega), fo u (by omega)]; exact hc.2.1
  rw [e67, chk_pos ⟨by omega, by omega, by omega, by omega, by omega⟩]
  have c12 : ∀ e, 0 ≤ e → e < 12 → zcpy μ6 (u + 3) 0 12 0 (sE σ) 12 e = if e < sE σ then sW σ e else -2 := by
    intro e a b
    rw [zcpy_eq]
    by_cases h : e < sE σ
    · rw [if_pos ⟨rfl, by omega, by omega⟩, if_pos h, q1 (u + 3) (by omega), c5 (u + 3) (by omega), fo (u + 3) (by omega), show (0 : Int) + (e - 0) = e by omega]
      exact hcp.2.2.2 e a h
    · rw [if_neg (by omega), if_neg h, q2, if_pos (by omega)]
  have c7 : ∀ k, k ≠ 12 → zcpy μ6 (u + 3) 0 12 0 (sE σ) k = μ6 k := by
    intro k hk
    funext i
    rw [zcpy_eq, if_neg (fun q => hk q.1)]
  generalize zcpy μ6 (u + 3) 0 12 0 (sE σ) = μ7 at *
  have d7 : ∀ k, k ≠ 3 → k ≠ 11 → k ≠ 12 → μ7 k = μ k := fun k a b c => by rw [c7 k c, q1 k c, c5 k b, fo k a]
  have d73 : μ7 3 = μ4 3 := by rw [c7 3 (by decide), q1 3 (by decide), c5 3 (by decide)]
  have hl7 : LC μ7 n σ t := by
    refine ⟨by rw [d73]; exact f8, fun j a b => ?_, fun e a b => ?_⟩
    · rw [c7 11 (by decide), q1 11 (by decide)]; exact c11 j a b
    · rw [c12 e a (by omega), if_pos b]
  have hc7 : CS μ7 u σ := hc.congr fun k a b => d7 k (by omega) (by omega) (by omega)
  have hcp7 : CP μ7 u σ := hcp.congr fun k a b => d7 k (by omega) (by omega) (by omega)
  refine ok_bnd.mpr ((c_placeCorners hu.1 hc7 hcp7 hz hw).imp fun μ8 r => ?_)
  obtain ⟨r1, r2⟩ := r
  have hl8 : LC μ8 n σ t := hl7.cg (r1 3 (by decide)) (r1 11 (by decide)) (r1 12 (by decide))
  have hT8 : ShT μ8 := hT.congr fun k hk => by rw [r1 k (by omega), d7 k (by omega) (by omega) (by omega)]
  have hc8 : CS μ8 u σ := hc7.congr fun k a b => r1 k (by omega)
  have hcp8 : CP μ8 u σ := hcp7.congr fun k a b => r1 k (by omega)
  have hqn : 0 ≤ n * sQ σ ∧ n * sQ σ ≤ 32 := by rcases n234 hn with h | h | h <;> subst h <;> omega
  rw [hl8.1, chk_pos (by omega), hcp8.1, (hT8 n hn.1 hn.2).2.1, Int.mul_comm (sQ σ) n, zw_eq (by omega) (by omega)]
  have hz8 : zlen (4 + 4) = 32 := by decide
  have hmin : zmin (n * sQ σ) 32 = n * sQ σ := by unfold zmin; split <;> omega
  have hclear : f_X5_clear 4 (n * sQ σ) μ8 = some (zup (zup (zup μ8 4 6 (n * sQ σ)) 4 7 0) 4 8 0) := by
    unfold f_X5_clear
    simp only [zlet]
    rw [hz8, hmin]
  rw [bnd_pos hclear]
  have e9 : ∀ k, k ≠ 4 → zup (zup (zup μ8 4 6 (n * sQ σ)) 4 7 0) 4 8 0 k = μ8 k := fun k hk => by rw [zup_n _ _ _ hk, zup_n _ _ _ hk, zup_n _ _ _ hk]
  have h46 : zup (zup (zup μ8 4 6 (n * sQ σ)) 4 7 0) 4 8 0 4 6 = n * sQ σ := by simp (disch := omega) only [zup_s, zup_n, up1_s, up1_n]
  have h47 : zup (zup (zup μ8 4 6 (n * sQ σ)) 4 7 0) 4 8 0 4 7 = 0 := by simp (disch := omega) only [zup_s, zup_n, up1_s, up1_n]
  have h48 : zup (zup (zup μ8 4 6 (n * sQ σ)) 4 7 0) 4 8 0 4 8 = 0 := by simp (disch := omega) only [zup_s, zup_n, up1_s, up1_n]
  generalize zup (zup (zup μ8 4 6 (n * sQ σ)) 4 7 0) 4 8 0 = μ10 at *
  have h4 : CS μ10 4 (lyE σ n t 0) := ⟨h46, h47, h48, fun e a b => absurd (Int.lt_of_le_of_lt a b) (by show ¬ (0 : Int) < 0; decide), fun e a b => absurd (Int.lt_of_le_of_lt a b) (by show ¬ (0 : Int) < 0; decide)⟩
  have hl10 : LC μ10 n σ t := hl8.cg (e9 3 (by decide)) (e9 11 (by decide)) (e9 12 (by decide))
  have hT10 : ShT μ10 := hT8.congr fun k hk => e9 k (by omega)
  have hc10 : CS μ10 u σ := hc8.congr fun k a b => e9 k (by omega)
  have hcp10 : CP μ10 u σ := hcp8.congr fun k a b => e9 k (by omega)
  refine ok_bnd.mpr ((c_layEdges hT10 hn hu hc10 hz hw hl10 ht (fun c a b d => by rw [e9 13 (by decide)]; exact r2 c a b d) h4).imp fun μ11 v => ?_)
  obtain ⟨v1, v2, v3⟩ := v
  have hl11 : LC μ11 n σ t := hl10.cg (v1 3 (by decide) (by decide) (by decide) (by decide)) (v1 11 (by decide) (by decide) (by decide) (by decide)) (v1 12 (by decide) (by decide) (by decide) (by decide))
  have hT11 : ShT μ11 := hT10.congr fun k hk => v1 k (by omega) (by omega) (by omega) (by omega)
  have hc11 : CS μ11 u σ := hc10.congr fun k a b => v1 k (by omega) (by omega) (by omega) (by omega)
  have hcp11 : CP μ11 u σ := hcp10.congr fun k a b => v1 k (by omega) (by omega) (by omega) (by omega)
  refine ok_bnd.mpr ((c_layPanes hT11 hn hu hc11 hcp11 hz hw hp hl11 ht hh v3 v2).imp fun μ12 w => ?_)
  obtain ⟨w1, w2⟩ := w
  have hwf := lyP_wf hn hw hp ht hh (sP σ).toNat (by have := hp.1; omega)
  refine ok_bnd.mpr ((c_findPart w2 SZ4 hwf.2).imp fun μ13 x => ?_)
  obtain ⟨x1, x2⟩ := x
  have y3 : ∀ k, k = 3 ∨ k = 11 ∨ k = 12 → μ13 k = μ7 k := by
    intro k hk
    rw [x1.1 k (by omega) (by omega) (by omega), w1 k (by omega) (by omega) (by omega) (by omega), v1 k (by omega) (by omega) (by omega) (by omega), e9 k (by omega), r1 k (by omega)]
  refine ok_some.mpr ⟨fun k hk => ?_, x1.cs w2, x2, ?_, ?_, hl7.cg (y3 3 (by omega)) (y3 11 (by omega)) (y3 12 (by omega)), fun e a b => ?_⟩
  · rw [x1.1 k (by omega) (by omega) (by omega), w1 k (by omega) (by omega) (by omega) (by omega), v1 k (by omega) (by omega) (by omega) (by omega), e9 k (by omega), r1 k (by omega), d7 k (by omega) (by omega) (by omega)]
  · rw [y3 3 (by omega), d73]; exact f6
  · rw [y3 3 (by omega), d73]; exact f7
  · rw [y3 12 (by omega), c12 e (by omega) b, if_neg (by omega)]
