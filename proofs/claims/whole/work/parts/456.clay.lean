/-! the class lays the layer -/
def LC (μ : zMem) (n : Int) (σ : Sp) (t : Int → Int) : Prop := μ 3 8 = 66 + 4 * n ∧ (∀ j, 0 ≤ j → j < sN σ → μ 11 j = t j) ∧ (∀ e, 0 ≤ e → e < sE σ → μ 12 e = sW σ e)
theorem LC.cg {μ μ' : zMem} {n : Int} {σ : Sp} {t : Int → Int} (h : LC μ n σ t) (h3 : μ' 3 = μ 3) (h11 : μ' 11 = μ 11) (h12 : μ' 12 = μ 12) : LC μ' n σ t := by
  unfold LC
  rw [h3, h11, h12]
  exact h
theorem c_moveBy {μ : zMem} {n c k : Int} {σ : Sp} {t : Int → Int} (hT : ShT μ) (hn : 2 ≤ n ∧ n ≤ 4) (hl : LC μ n σ t) (ht : TbR n (sN σ) t) (hE : sE σ ≤ 12) (hc : 0 ≤ c ∧ c < 2 * sE σ) (hk : 0 ≤ k ∧ k < n) : f_X1_moveByStep c k μ = some (mvc σ n t c k) := by
  obtain ⟨l1, l2, l3⟩ := hl
  have hsw := sW_tn σ (c / 2)
  unfold f_X1_moveByStep
  rw [zshr1 ⟨by omega, by omega⟩, chk_pos (by omega)]
  simp only [zlet]
  rw [l3 (c / 2) (by omega) (by omega)]
  unfold mvc
  by_cases hi : isTn σ (c / 2) = true
  · have hcn := cnt_in (σ := σ) (e := c / 2) (by omega) hi
    have hNb := cnt_le (isTn σ) (sE σ).toNat
    have htr := ht _ hcn.1 hcn.2
    have hN12 : sN σ ≤ 12 := by unfold sN; omega
    rw [hsw.1 hi, if_neg (by omega), if_pos hi, chk_pos (by omega), l2 _ hcn.1 hcn.2, l1, chk_pos (by omega), zand1 ⟨by omega, by omega⟩]
    have e2 : tcd σ c % 2 = c % 2 := by unfold tcd; omega
    have e3 : tcd σ c / 2 = cnt (isTn σ) (c / 2).toNat := by unfold tcd; omega
    by_cases h0 : c % 2 = 0
    · have e1 : tdo n t (tcd σ c) = t (cnt (isTn σ) (c / 2).toNat) := by
        unfold tdo
        rw [e2, e3, if_pos h0]
      rw [if_pos h0, e1]
      unfold f_X1_moveByStep_J47
      rw [bnd_pos (c_move hT hn htr hk)]
    · have e1 : tdo n t (tcd σ c) = bak n (t (cnt (isTn σ) (c / 2).toNat)) := by
        unfold tdo
        rw [e2, e3, if_neg h0]
      rw [if_neg h0, e1, chk_pos (by omega), bnd_pos (c_back hT hn htr)]
      unfold f_X1_moveByStep_J47
      rw [bnd_pos (c_move hT hn (bak_rg hn htr) hk)]
  · rw [if_pos (hsw.2 (Bool.eq_false_iff.mpr hi)), if_neg hi]
theorem c_placeCorners {μ : zMem} {u : Int} {σ : Sp} (hu : 32 < u) (hc : CS μ u σ) (hcp : CP μ u σ) (hz : SZ u 8 12 8) (hw : WfE σ 8 12) : Ok (f_X1_placeCorners u μ) (fun μ' => (∀ k, k ≠ 13 → μ' k = μ k) ∧ ∀ c, 0 ≤ c → c < sC σ → tR σ c = true → μ' 13 c = pcr σ c) := by
  have hC := hw.2.1
  have hC1 := hw.1
  have hz4 := hz.2.2.2.1
  have key : ∀ (m fu : Nat) (c : Int) (μ1 : zMem), m < fu → 0 ≤ c → c + m = sC σ → (∀ k, k ≠ 13 → μ1 k = μ k) → (∀ d, 0 ≤ d → d < c → tR σ d = true → μ1 13 d = pcr σ d) → Ok (f_X1_placeCorners_L4 u fu (pcr σ c) c μ1) (fun μ' => (∀ k, k ≠ 13 → μ' k = μ k) ∧ ∀ c, 0 ≤ c → c < sC σ → tR σ c = true → μ' 13 c = pcr σ c) := by
    intro m
    induction m with
    | zero =>
      intro fu c μ1 hfu c0 hcm g1 g2
      cases fu with
      | zero => omega
      | succ fu =>
        unfold f_X1_placeCorners_L4
        rw [g1 u (by omega), hc.1, if_neg (by omega)]
        exact ok_some.mpr ⟨g1, fun d a b => g2 d a (by omega)⟩
    | succ m ih =>
      intro fu c μ1 hfu c0 hcm g1 g2
      cases fu with
      | zero => omega
      | succ fu =>
        have hps : pcr σ (c + 1) = pcr σ c + b2i (tR σ c) := cnt_succ (tR σ) c0
        have hpb := cnt_le (tR σ) c.toNat
        have hpb2 : 0 ≤ pcr σ c ∧ pcr σ c ≤ 8 := by unfold pcr; omega
        unfold f_X1_placeCorners_L4
        simp only [zlet]
        rw [g1 u (by omega), hc.1, if_pos (by omega), chk_pos (by omega), g1 (u + 4) (by omega), hcp.2.2.1 c c0 (by omega), zw_eq (x := c + 1) (by omega) (by omega)]
        by_cases hi : tR σ c = true
        · rw [hi, if_neg (by decide), chk_pos (by omega), zw_eq (x := pcr σ c + 1) (by omega) (by omega)]
          rw [hi] at hps
          have hps' : pcr σ c + 1 = pcr σ (c + 1) := by rw [hps]; rfl
          rw [hps']
          refine ih fu (c + 1) _ (by omega) (by omega) (by omega) (fun k hk => by rw [zup_n _ _ _ hk]; exact g1 k hk) (fun d a b e => ?_)
          rw [zup_s]
          by_cases hd : d = c
          · rw [hd, up1_s]
          · rw [up1_n _ _ hd]; exact g2 d a (by omega) e
        · rw [Bool.eq_false_iff.mpr hi, if_pos (by decide)]
          rw [Bool.eq_false_iff.mpr hi] at hps
          have hps' : pcr σ c = pcr σ (c + 1) := by rw [hps]; show _ = pcr σ c + 0; omega
          rw [hps']
          refine ih fu (c + 1) μ1 (by omega) (by omega) (by omega) g1 (fun d a b e => ?_)
          by_cases hd : d = c
          · rw [hd] at e; exact absurd e hi
          · exact g2 d a (by omega) e
  unfold f_X1_placeCorners
  exact key (sC σ).toNat zfu 0 μ (by unfold zfu; omega) (by omega) (by omega) (fun _ _ => rfl) (fun d a b => by omega)
theorem c_layEdges {μ : zMem} {u n : Int} {σ : Sp} {t : Int → Int} (hT : ShT μ) (hn : 2 ≤ n ∧ n ≤ 4) (hu : 32 < u ∧ u < 58) (hc : CS μ u σ) (hz : SZ u 8 12 8) (hw : WfE σ 8 12) (hl : LC μ n σ t) (ht : TbR n (sN σ) t) (h13 : ∀ c, 0 ≤ c → c < sC σ → tR σ c = true → μ 13 c = pcr σ c) (h4 : CS μ 4 (lyE σ n t 0)) : Ok (f_X1_addEdges u μ) (fun μ' => (∀ k, k ≠ 4 → k ≠ 5 → k ≠ 6 → k ≠ 14 → μ' k = μ k) ∧ CS μ' 4 (lyE σ n t (sE σ).toNat) ∧ ∀ e, 0 ≤ e → e < sE σ → inE σ e = true → μ' 14 e = per σ e) := by
  have hE := hw.2.2.2.1
  have hE0 := hw.2.2.1
  have h0 := (hT n hn.1 hn.2).2.1
  have hq := sQ_rg hw
  have hC := hw.2.1
  have hz' := hz
  obtain ⟨z1, z2, z3, z4, z5, z6, z7, z8, z9⟩ := hz'
  have l1 := hl.1
  unfold f_X1_addEdges
  simp only [zlet]
  rw [l1, chk_pos (by omega), h0]
  have key : ∀ (m fu e : Nat) (μ1 : zMem), m < fu → (e : Int) + m = sE σ → (∀ k, k ≠ 4 → k ≠ 5 → k ≠ 6 → k ≠ 14 → μ1 k = μ k) → CS μ1 4 (lyE σ n t e) → (∀ d : Int, 0 ≤ d → d < e → inE σ d = true → μ1 14 d = per σ d) → Ok (f_X1_addEdges_L13 u n fu (per σ e) (e : Int) μ1) (fun μ' => (∀ k, k ≠ 4 → k ≠ 5 → k ≠ 6 → k ≠ 14 → μ' k = μ k) ∧ CS μ' 4 (lyE σ n t (sE σ).toNat) ∧ ∀ e, 0 ≤ e → e < sE σ → inE σ e = true → μ' 14 e = per σ e) := by
    intro m
    induction m with
    | zero =>
      intro fu e μ1 hfu hem g1 g2 g3
      cases fu with
      | zero => omega
      | succ fu =>
        unfold f_X1_addEdges_L13
        rw [g1 u (by omega) (by omega) (by omega) (by omega), hc.2.1, if_neg (by omega)]
        rw [show e = (sE σ).toNat by omega] at g2
        exact ok_some.mpr ⟨g1, g2, fun d a b => g3 d a (by omega)⟩
    | succ m ih =>
      intro fu e μ1 hfu hem g1 g2 g3
      cases fu with
      | zero => omega
      | succ fu =>
        have he : 0 ≤ (e : Int) ∧ (e : Int) < sE σ := ⟨by omega, by omega⟩
        have hps := per_s σ e
        have hpr := per_rg σ e
        have hb := hw.2.2.2.2 e he.1 he.2
        have hsw : sW σ e = -2 ↔ inE σ e = false := by
          unfold sW inE
          by_cases htt : tT σ e = true
          · rw [if_pos htt, tT_in htt]
            exact ⟨fun q => absurd q (by decide), fun q => absurd q (by decide)⟩
          · rw [if_neg htt]
            by_cases hr : tR σ (sF σ e) = true
            · have := (cnt_le (isTn σ) ((e : Int)).toNat).1
              rw [if_pos hr, hr]
              exact ⟨fun q => by omega, fun q => absurd q (by decide)⟩
            · rw [if_neg hr]
              exact ⟨fun _ => Bool.eq_false_iff.mpr hr, fun _ => rfl⟩
        unfold f_X1_addEdges_L13
        simp only [zlet]
        rw [g1 u (by omega) (by omega) (by omega) (by omega), hc.2.1, if_pos (by omega), chk_pos (by omega), g1 12 (by omega) (by omega) (by omega) (by omega), hl.2.2 e he.1 he.2]
        by_cases hi : inE σ e = true
        · have hTt : tR σ (sT σ e) = true := by rw [← tR_ft hw (by omega) he]; exact hi
          have p1 := pcr_rg ⟨hb.1, hb.2.1⟩ hi
          have p2 := pcr_rg ⟨hb.2.2.1, hb.2.2.2⟩ hTt
          have hlE := lyE_n (σ := σ) (t := t) hn e
          rw [if_neg (fun q => by rw [hsw.mp q] at hi; exact absurd hi (by decide))]
          -- the storeys of one edge
          have inner : ∀ (q fv k : Nat) (μ2 : zMem), q < fv → (k : Int) + q = n → (∀ x, x ≠ 4 → x ≠ 5 → x ≠ 6 → μ2 x = μ1 x) → CS μ2 4 (lyEk (lyE σ n t e) σ n t e k) → Ok (f_X1_addEdges_L37 u n e (f_X1_addEdges_K98 (per σ e) e (f_X1_addEdges_L13 u n fu)) fv (k : Int) μ2) (fun μ' => (∀ k, k ≠ 4 → k ≠ 5 → k ≠ 6 → k ≠ 14 → μ' k = μ k) ∧ CS μ' 4 (lyE σ n t (sE σ).toNat) ∧ ∀ e, 0 ≤ e → e < sE σ → inE σ e = true → μ' 14 e = per σ e) := by
            intro q
            induction q with
            | zero =>
              intro fv k μ2 hfv hk k1 k2
              cases fv with
              | zero => omega
              | succ fv =>
                unfold f_X1_addEdges_L37
                rw [if_neg (by omega)]
                unfold f_X1_addEdges_K98
                simp only [zlet]
                rw [chk_pos (by omega), zw_eq (x := per σ e + 1) (by omega) (by omega), zw_eq (x := (e : Int) + 1) (by omega) (by omega)]
                rw [hi] at hps
                have hps' : per σ e + 1 = per σ ((e + 1 : Nat) : Int) := by rw [show ((e + 1 : Nat) : Int) = (e : Int) + 1 by omega, hps]; rfl
                rw [hps', show (e : Int) + 1 = ((e + 1 : Nat) : Int) by omega]
                refine ih fu (e + 1) _ (by omega) (by omega) (fun x a b c d => by rw [zup_n _ _ _ d, k1 x a b c, g1 x a b c d]) ?_ (fun d a b c => ?_)
                · unfold lyE
                  rw [if_pos hi, show n.toNat = k by omega]
                  exact k2.congr fun x a b => by rw [zup_n _ _ _ (by omega)]
                · rw [zup_s]
                  by_cases hd : d = e
                  · rw [hd, up1_s]
                  · rw [up1_n _ _ hd, k1 14 (by omega) (by omega) (by omega)]
                    exact g3 d a (by omega) c
            | succ q ihq =>
              intro fv k μ2 hfv hk k1 k2
              cases fv with
              | zero => omega
              | succ fv =>
                have e1 : ∀ x, x ≠ 4 → x ≠ 5 → x ≠ 6 → x ≠ 14 → μ2 x = μ x := fun x a b c d => (k1 x a b c).trans (g1 x a b c d)
                have hkn : 0 ≤ (k : Int) ∧ (k : Int) < n := ⟨by omega, by omega⟩
                have hT2 : ShT μ2 := hT.congr fun x hx => e1 x (by omega) (by omega) (by omega) (by omega)
                have hl2 : LC μ2 n σ t := hl.cg (e1 3 (by omega) (by omega) (by omega) (by omega)) (e1 11 (by omega) (by omega) (by omega) (by omega)) (e1 12 (by omega) (by omega) (by omega) (by omega))
                have hmv := c_moveBy hT2 hn hl2 ht hE (c := 2 * (e : Int)) (k := k) ⟨by omega, by omega⟩ hkn
                have hmr := mvc_rg hn ht (c := 2 * (e : Int)) ⟨by omega, by omega⟩ hkn
                have hft := hc.2.2.2.1 e he.1 he.2
                have hlk := lyEk_n (lyE σ n t e) σ n t e k
                unfold f_X1_addEdges_L37
                simp only [zlet]
                rw [if_pos (by omega), chk_pos (by omega), e1 (u + 1) (by omega) (by omega) (by omega) (by omega), hft.1, chk_pos (by omega), chk_pos (by omega), e1 (u + 2) (by omega) (by omega) (by omega) (by omega), hft.2, chk_pos (by omega), zw_eq (x := 2 * (e : Int)) (by omega) (by omega), bnd_pos hmv, e1 13 (by omega) (by omega) (by omega) (by omega), h13 _ hb.1 hb.2.1 hi, h13 _ hb.2.2.1 hb.2.2.2 hTt, zw_eq (x := (k : Int) + 1) (by omega) (by omega)]
                have b1 : 0 ≤ n * pcr σ (sF σ e) ∧ n * pcr σ (sF σ e) ≤ 32 := by rcases n234 hn with h | h | h <;> subst h <;> omega
                have b2 : 0 ≤ n * pcr σ (sT σ e) ∧ n * pcr σ (sT σ e) ≤ 32 := by rcases n234 hn with h | h | h <;> subst h <;> omega
                have b3 : 0 ≤ n * per σ e ∧ n * per σ e ≤ 44 := by rcases n234 hn with h | h | h <;> subst h <;> omega
                rw [zw_eq (x := n * pcr σ (sF σ e)) (by omega) (by omega), zw_eq (x := n * pcr σ (sF σ e) + k) (by omega) (by omega), zw_eq (x := n * pcr σ (sT σ e)) (by omega) (by omega), zw_eq (x := n * pcr σ (sT σ e) + mvc σ n t (2 * e) k) (by omega) (by omega)]
                refine ok_bnd.mpr ((c_addEdge k2 SZ4 (by rw [hlk.2.1, hlE.2.1]; omega) (by rw [hlk.2.1, hlE.2.1]; omega)).imp fun μ3 r => ?_)
                obtain ⟨r1, r2, r3⟩ := r
                rw [show (k : Int) + 1 = ((k + 1 : Nat) : Int) by omega]
                exact ihq fv (k + 1) μ3 (by omega) (by omega) (fun x a b c => (r2 x a b c).trans (k1 x a b c)) r1
          exact inner n.toNat zfu 0 μ1 (by unfold zfu; omega) (by omega) (fun _ _ _ _ => rfl) g2
        · rw [if_pos (hsw.mpr (Bool.eq_false_iff.mpr hi)), zw_eq (x := (e : Int) + 1) (by omega) (by omega)]
          rw [Bool.eq_false_iff.mpr hi] at hps
          have hps' : per σ e = per σ ((e + 1 : Nat) : Int) := by rw [show ((e + 1 : Nat) : Int) = (e : Int) + 1 by omega, hps]; show _ = per σ e + 0; omega
          rw [hps', show (e : Int) + 1 = ((e + 1 : Nat) : Int) by omega]
          refine ih fu (e + 1) μ1 (by omega) (by omega) g1 ?_ (fun d a b c => ?_)
          · unfold lyE
            rw [if_neg hi]
            exact g2
          · by_cases hd : d = e
            · rw [hd] at c; exact absurd c hi
            · exact g3 d a (by omega) c
  exact key (sE σ).toNat zfu 0 μ (by unfold zfu; omega) (by omega) (fun _ _ _ _ _ => rfl) h4 (fun d a b => by omega)
