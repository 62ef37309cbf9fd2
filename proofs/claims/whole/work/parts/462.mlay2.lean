/-! the reference lays the layer's edges and corners -/
theorem m_layEdges {μ : zMem} {s n : Int} {σ : Sp} {t : Int → Int} (hs : 0 ≤ s ∧ s < 2) (hn : 2 ≤ n ∧ n ≤ 4) (hc : MS μ s σ) (hw : WfE σ 8 12) (hp : WfP σ 8) (hm : MT μ σ) (h28 : μ 101 28 = n) (hb : MTb μ n (sN σ) t) (ht : TbR n (sN σ) t) (hh : hld σ n t 0) (h146 : ∀ c, 0 ≤ c → c < sC σ → μ 146 c = pcr σ c) (h2 : MS μ 2 (lyE σ n t 0)) : Ok (f_X10_layLayer_L69 s (f_X10_layLayer_K196 s) zfu 0 μ) (fun μ' => Gl μ μ' ∧ MS μ' 2 (Lay σ n t)) := by
  have hE0 := hw.2.2.1
  have hE := hw.2.2.2.1
  have hC := hw.2.1
  have hq := sQ_rg hw
  have hw32 : WfE σ 32 48 := hw.mono (by omega) (by omega)
  have hp32 : WfP σ 32 := hp.mono (by omega)
  have hNb := cnt_le (isTn σ) (sE σ).toNat
  have hN : 0 ≤ sN σ ∧ sN σ ≤ 12 := by unfold sN; omega
  have key : ∀ (m fu e : Nat) (μ1 : zMem), m < fu → (e : Int) + m = sE σ → Gl μ μ1 → μ1 146 = μ 146 → MS μ1 2 (lyE σ n t e) → (∀ d : Int, 0 ≤ d → d < e → μ1 147 d = per σ d) → Ok (f_X10_layLayer_L69 s (f_X10_layLayer_K196 s) fu (e : Int) μ1) (fun μ' => Gl μ μ' ∧ MS μ' 2 (Lay σ n t)) := by
    intro m
    induction m with
    | zero =>
      intro fu e μ1 hfu hem g1 g6 g2 g3
      cases fu with
      | zero => omega
      | succ fu =>
        have hc1 : MS μ1 s σ := g1.2.ms (by omega) hw32 hp32 hc
        unfold f_X10_layLayer_L69
        rw [chk_pos (by omega), hc1.2.1, if_neg (by omega)]
        unfold f_X10_layLayer_K196
        rw [show e = (sE σ).toNat by omega] at g2
        exact (m_layFaces hs hn hc1 hw hp (g1.mt hm) (by rw [g1.1.2 28 (by decide)]; exact h28) (g1.mtb hb) ht hh (fun d a b => g3 d a (by omega)) g2).imp fun v r => ⟨g1.trans r.1, r.2⟩
    | succ m ih =>
      intro fu e μ1 hfu hem g1 g6 g2 g3
      cases fu with
      | zero => omega
      | succ fu =>
        have he : 0 ≤ (e : Int) ∧ (e : Int) < sE σ := ⟨by omega, by omega⟩
        have hc1 : MS μ1 s σ := g1.2.ms (by omega) hw32 hp32 hc
        have hln := lyE_n (σ := σ) (t := t) hn e
        have hpr := per_rg σ e
        have hbe := hw.2.2.2.2 e he.1 he.2
        have hft := hc1.2.2.2.1 e he.1 he.2
        have hnb : 0 ≤ n * per σ e ∧ n * per σ e ≤ 44 := by rcases n234 hn with h | h | h <;> subst h <;> omega
        have hdiv : Int.tdiv (μ1 103 2) (μ1 101 28) = per σ e := by
          rw [g1.1.2 28 (by decide), h28, g2.2.1, hln.2.1, Int.mul_tdiv_cancel_left _ (by omega)]
        have K : ∀ μ2 : zMem, Gl μ μ2 → μ2 146 = μ 146 → (∀ d : Int, 0 ≤ d → d < (e : Int) + 1 → μ2 147 d = per σ d) → MS μ2 2 (lyE σ n t (e + 1)) → Ok (f_X10_layLayer_K190 e (f_X10_layLayer_L69 s (f_X10_layLayer_K196 s) fu) μ2) (fun μ' => Gl μ μ' ∧ MS μ' 2 (Lay σ n t)) := by
          intro μ2 a b c d
          unfold f_X10_layLayer_K190
          simp only [zlet]
          rw [zw_eq (by omega) (by omega), show (e : Int) + 1 = ((e + 1 : Nat) : Int) by omega]
          exact ih fu (e + 1) μ2 (by omega) (by omega) a b d (fun d x y => c d x (by omega))
        unfold f_X10_layLayer_L69
        simp only [zlet]
        rw [chk_pos (by omega), hc1.2.1, if_pos (by omega), zw_eq (x := 48 * s) (by omega) (by omega), zw_eq (x := 48 * s + (e : Int)) (by omega) (by omega), chk_pos (by omega), chk_pos (by omega), chk_pos (by rw [g1.1.2 28 (by decide), h28]; omega), chk_pos (by omega), hdiv, zw_eq (x := per σ e) (by omega) (by omega), hft.1, hft.2]
        have g1' := g1.up (k := 147) (by omega) (e : Int) (per σ e)
        have g7 : ∀ d : Int, 0 ≤ d → d < (e : Int) + 1 → zup μ1 147 (e : Int) (per σ e) 147 d = per σ d := by
          intro d a b
          rw [zup_s]
          by_cases hd : d = e
          · rw [hd, up1_s]
          · rw [up1_n _ _ hd]; exact g3 d a (by omega)
        have g6' : zup μ1 147 (e : Int) (per σ e) 146 = μ 146 := by rw [zup_n _ _ _ (by decide)]; exact g6
        have g2' : MS (zup μ1 147 (e : Int) (per σ e)) 2 (lyE σ n t e) := g2.congr fun x a b => zup_n _ _ _ (by omega)
        generalize zup μ1 147 (e : Int) (per σ e) = μ2 at *
        by_cases hi : inE σ e = true
        · have hTt : tR σ (sT σ e) = true := by rw [← tR_ft hw (by omega) he]; exact hi
          have p1 := pcr_rg ⟨hbe.1, hbe.2.1⟩ hi
          have p2 := pcr_rg ⟨hbe.2.2.1, hbe.2.2.2⟩ hTt
          have b1 : 0 ≤ n * pcr σ (sF σ e) ∧ n * pcr σ (sF σ e) ≤ 32 := by rcases n234 hn with h | h | h <;> subst h <;> omega
          have b2 : 0 ≤ n * pcr σ (sT σ e) ∧ n * pcr σ (sT σ e) ≤ 32 := by rcases n234 hn with h | h | h <;> subst h <;> omega
          have inner : ∀ (q fv k : Nat) (μ3 : zMem), q < fv → (k : Int) + q = n → Gl μ μ3 → μ3 146 = μ 146 → (∀ d : Int, 0 ≤ d → d < (e : Int) + 1 → μ3 147 d = per σ d) → MS μ3 2 (lyEk (lyE σ n t e) σ n t e k) → Ok (f_X10_layLayer_L124 e (sF σ e) (sT σ e) (f_X10_layLayer_K190 e (f_X10_layLayer_L69 s (f_X10_layLayer_K196 s) fu)) fv (k : Int) μ3) (fun μ' => Gl μ μ' ∧ MS μ' 2 (Lay σ n t)) := by
            intro q
            induction q with
            | zero =>
              intro fv k μ3 hfv hk k1 k6 k7 k2
              cases fv with
              | zero => omega
              | succ fv =>
                unfold f_X10_layLayer_L124
                rw [k1.1.2 28 (by decide), h28, if_neg (by omega)]
                refine K μ3 k1 k6 k7 ?_
                unfold lyE
                rw [if_pos hi, show n.toNat = k by omega]
                exact k2
            | succ q ihq =>
              intro fv k μ3 hfv hk k1 k6 k7 k2
              cases fv with
              | zero => omega
              | succ fv =>
                have hkn : 0 ≤ (k : Int) ∧ (k : Int) < n := ⟨by omega, by omega⟩
                have hlk := lyEk_n (lyE σ n t e) σ n t e k
                have hmv := m_stepMoves (k1.mt hm) (by omega) hn (by omega) (k1.mtb hb) (c := 2 * (e : Int)) ⟨by omega, by omega⟩ hkn
                have hmr := mvc_rg hn ht (c := 2 * (e : Int)) ⟨by omega, by omega⟩ hkn
                have es : stp (2 * (e : Int)) = (e : Int) + 1 := by unfold stp; rw [if_pos (by omega)]; omega
                rw [es] at hmv
                have h120 : μ3 120 (sF σ e) = 1 := by
                  rw [(k1.mt hm).1 _ hbe.1 (by omega)]
                  have hi2 : tR σ (sF σ e) = true := hi
                  rw [hi2]; rfl
                unfold f_X10_layLayer_L124
                simp only [zlet]
                rw [k1.1.2 28 (by decide), h28, if_pos (by omega), chk_pos (by omega), h120, if_neg (by decide), chk_pos (by omega), chk_pos (by omega), zw_eq (x := (e : Int) + 1) (by omega) (by omega), bnd_pos hmv, k6, h146 _ hbe.1 hbe.2.1, h146 _ hbe.2.2.1 hbe.2.2.2, zw_eq (x := (k : Int) + 1) (by omega) (by omega), zw_eq (x := n * pcr σ (sF σ e)) (by omega) (by omega), zw_eq (x := n * pcr σ (sF σ e) + k) (by omega) (by omega), zw_eq (x := n * pcr σ (sT σ e)) (by omega) (by omega)]
                show Ok (bnd2 (f_X10_addEdge 2 (n * pcr σ (sF σ e) + k) (zw (n * pcr σ (sT σ e) + mvc σ n t (2 * (e : Int)) k)) μ3) _) _
                rw [zw_eq (x := n * pcr σ (sT σ e) + mvc σ n t (2 * (e : Int)) k) (by omega) (by omega)]
                refine ok_bnd2.mpr ((m_addEdge k2 (by omega) (by rw [hlk.2.1, hln.2.1]; omega) (by rw [hlk.2.1, hln.2.1]; omega)).imp fun w r => ?_)
                obtain ⟨r1, r2, r3, r4⟩ := r
                rw [show (k : Int) + 1 = ((k + 1 : Nat) : Int) by omega]
                refine ihq fv (k + 1) w.2 (by omega) (by omega) (k1.trans ⟨⟨fun c x y => r3 c (fun q => x (by rw [q]; decide)) (fun q => x (by rw [q]; decide)) (fun q => x (by rw [q]; decide)), fun i _ => by rw [r3 101 (by decide) (by decide) (by decide)]⟩, r4⟩) (by rw [r3 146 (by decide) (by decide) (by decide)]; exact k6) (fun d a b => by rw [r3 147 (by decide) (by decide) (by decide)]; exact k7 d a b) r2
          exact inner n.toNat zfu 0 μ2 (by unfold zfu; omega) (by omega) g1' g6' g7 g2'
        · have z1 : zfu = (zfu - 1) + 1 := by unfold zfu; omega
          have h120 : μ2 120 (sF σ e) = 0 := by
            rw [(g1'.mt hm).1 _ hbe.1 (by omega)]
            have hi2 : tR σ (sF σ e) = false := Bool.eq_false_iff.mpr hi
            rw [hi2]; rfl
          rw [z1]
          unfold f_X10_layLayer_L124
          rw [g1'.1.2 28 (by decide), h28, if_pos (by omega), chk_pos (by omega), h120, if_pos rfl]
          refine K μ2 g1' g6' g7 ?_
          unfold lyE
          rw [if_neg hi]
          exact g2'
  exact key (sE σ).toNat zfu 0 μ (by unfold zfu; omega) (by omega) (Gl.refl _) rfl h2 (fun d a b => by omega)
theorem m_layLayer {μ : zMem} {s n : Int} {σ : Sp} {t : Int → Int} (hs : 0 ≤ s ∧ s < 2) (hn : 2 ≤ n ∧ n ≤ 4) (hc : MS μ s σ) (hw : WfE σ 8 12) (hp : WfP σ 8) (hm : MT μ σ) (h28 : μ 101 28 = n) (hb : MTb μ n (sN σ) t) (ht : TbR n (sN σ) t) (hh : hld σ n t 0) : Ok (f_X10_layLayer s μ) (fun μ' => Gl μ μ' ∧ MS μ' 2 (Lay σ n t)) := by
  have hC := hw.2.1
  have hC1 := hw.1
  have hq := sQ_rg hw
  have hw32 : WfE σ 32 48 := hw.mono (by omega) (by omega)
  have hp32 : WfP σ 32 := hp.mono (by omega)
  have up2 : ∀ (μ1 : zMem) (k v : Int), Gl μ μ1 → k = 102 ∨ k = 103 ∨ k = 104 → Gl μ (zup μ1 k 2 v) := by
    intro μ1 k v h hk
    refine ⟨h.1.up (by unfold Fl; simp; omega) (by omega) _ _, h.2.trans ⟨fun x hx => ?_, fun i _ => ?_, fun i _ => ?_, fun i _ => ?_⟩⟩
    · refine ⟨?_, ?_, ?_⟩
      · by_cases e : k = 102
        · rw [e, zup_s, up1_n _ _ hx]
        · rw [zup_n _ _ _ (Ne.symm e)]
      · by_cases e : k = 103
        · rw [e, zup_s, up1_n _ _ hx]
        · rw [zup_n _ _ _ (Ne.symm e)]
      · by_cases e : k = 104
        · rw [e, zup_s, up1_n _ _ hx]
        · rw [zup_n _ _ _ (Ne.symm e)]
    · rw [zup_n _ _ _ (by omega), zup_n _ _ _ (by omega)]; exact ⟨rfl, rfl⟩
    · rw [zup_n _ _ _ (by omega)]
    · rw [zup_n _ _ _ (by omega)]
  have key : ∀ (m fu c : Nat) (μ1 : zMem), m < fu → (c : Int) + m = sC σ → Gl μ μ1 → μ1 102 2 = n * pcr σ c → μ1 103 2 = 0 → μ1 104 2 = 0 → (∀ d : Int, 0 ≤ d → d < c → μ1 146 d = pcr σ d) → Ok (f_X10_layLayer_L8 s (f_X10_layLayer_K67 s) fu (c : Int) μ1) (fun μ' => Gl μ μ' ∧ MS μ' 2 (Lay σ n t)) := by
    intro m
    induction m with
    | zero =>
      intro fu c μ1 hfu hcm g1 g2 g3 g4 g5
      cases fu with
      | zero => omega
      | succ fu =>
        have hc1 : MS μ1 s σ := g1.2.ms (by omega) hw32 hp32 hc
        unfold f_X10_layLayer_L8
        rw [chk_pos (by omega), hc1.1, if_neg (by omega)]
        unfold f_X10_layLayer_K67
        have h2 : MS μ1 2 (lyE σ n t 0) := by
          refine ⟨?_, g3, g4, fun e a b => absurd (Int.lt_of_le_of_lt a b) (by show ¬ (0 : Int) < 0; decide), fun e a b => absurd (Int.lt_of_le_of_lt a b) (by show ¬ (0 : Int) < 0; decide)⟩
          rw [g2]
          show n * cnt (tR σ) ((c : Int)).toNat = n * cnt (tR σ) (sC σ).toNat
          rw [show ((c : Int)).toNat = (sC σ).toNat by omega]
        exact (m_layEdges hs hn hc1 hw hp (g1.mt hm) (by rw [g1.1.2 28 (by decide)]; exact h28) (g1.mtb hb) ht hh (fun d a b => g5 d a (by omega)) h2).imp fun v r => ⟨g1.trans r.1, r.2⟩
    | succ m ih =>
      intro fu c μ1 hfu hcm g1 g2 g3 g4 g5
      cases fu with
      | zero => omega
      | succ fu =>
        have hc1 : MS μ1 s σ := g1.2.ms (by omega) hw32 hp32 hc
        have hpl := cnt_le (tR σ) ((c : Int)).toNat
        have hpb : 0 ≤ pcr σ c ∧ pcr σ c ≤ 8 := by unfold pcr; omega
        have hps : pcr σ ((c : Int) + 1) = pcr σ c + b2i (tR σ c) := cnt_succ (tR σ) (by omega)
        have hnb : 0 ≤ n * pcr σ c ∧ n * pcr σ c ≤ 32 := by rcases n234 hn with h | h | h <;> subst h <;> omega
        have hdiv : Int.tdiv (μ1 102 2) (μ1 101 28) = pcr σ c := by
          rw [g1.1.2 28 (by decide), h28, g2, Int.mul_tdiv_cancel_left _ (by omega)]
        unfold f_X10_layLayer_L8
        simp only [zlet]
        rw [chk_pos (by omega), hc1.1, if_pos (by omega), chk_pos (by rw [g1.1.2 28 (by decide), h28]; omega), chk_pos (by omega), hdiv, zw_eq (x := pcr σ c) (by omega) (by omega), chk_pos (by omega)]
        have g1' := g1.up (k := 146) (by omega) (c : Int) (pcr σ c)
        have a2 : zup μ1 146 (c : Int) (pcr σ c) 102 2 = n * pcr σ c := by rw [zup_n _ _ _ (by decide)]; exact g2
        have a3 : zup μ1 146 (c : Int) (pcr σ c) 103 2 = 0 := by rw [zup_n _ _ _ (by decide)]; exact g3
        have a4 : zup μ1 146 (c : Int) (pcr σ c) 104 2 = 0 := by rw [zup_n _ _ _ (by decide)]; exact g4
        have a5 : ∀ d : Int, 0 ≤ d → d < (c : Int) + 1 → zup μ1 146 (c : Int) (pcr σ c) 146 d = pcr σ d := by
          intro d a b
          rw [zup_s]
          by_cases hd : d = c
          · rw [hd, up1_s]
          · rw [up1_n _ _ hd]; exact g5 d a (by omega)
        generalize zup μ1 146 (c : Int) (pcr σ c) = μ2 at *
        have h120 : μ2 120 c = b2i (tR σ c) := (g1'.mt hm).1 c (by omega) (by omega)
        have hx : (if μ2 120 (c : Int) = 0 then (0 : Int) else μ2 101 28) = n * b2i (tR σ c) := by
          rw [h120, g1'.1.2 28 (by decide), h28]
          by_cases hi : tR σ c = true
          · rw [hi]
            show (if (1 : Int) = 0 then (0 : Int) else n) = n * 1
            rw [if_neg (by decide), Int.mul_one]
          · rw [Bool.eq_false_iff.mpr hi]
            show (if (0 : Int) = 0 then (0 : Int) else n) = n * 0
            rw [if_pos rfl, Int.mul_zero]
        unfold f_X10_layLayer_J59
        simp only [zlet]
        have hb01 : b2i (tR σ c) = 0 ∨ b2i (tR σ c) = 1 := by unfold b2i; split <;> simp
        have hsum : n * pcr σ c + n * b2i (tR σ c) = n * pcr σ ((c : Int) + 1) := by rw [hps, Int.mul_add]
        have hnb2 : 0 ≤ n * b2i (tR σ c) ∧ n * b2i (tR σ c) ≤ 4 := by rcases n234 hn with h | h | h <;> subst h <;> omega
        rw [a2, hx, zw_eq (x := n * pcr σ c + n * b2i (tR σ c)) (by omega) (by omega), hsum, zw_eq (by omega) (by omega), show (c : Int) + 1 = ((c + 1 : Nat) : Int) by omega]
        refine ih fu (c + 1) _ (by omega) (by omega) (up2 _ _ _ g1' (by omega)) (by rw [zup_s, up1_s]) (by rw [zup_n _ _ _ (by decide)]; exact a3) (by rw [zup_n _ _ _ (by decide)]; exact a4) (fun d a b => by rw [zup_n _ _ _ (by decide)]; exact a5 d a (by omega))
  unfold f_X10_layLayer f_X10_clear
  simp only [zlet]
  rw [chk_pos (by omega)]
  refine ok_bnd.mpr (ok_some.mpr ?_)
  refine key (sC σ).toNat zfu 0 _ (by unfold zfu; omega) (by omega) (up2 _ _ _ (up2 _ _ _ (up2 _ _ _ (Gl.refl _) (by omega)) (by omega)) (by omega)) ?_ ?_ ?_ (fun d a b => by omega)
  · have e : pcr σ ((0 : Nat) : Int) = 0 := rfl
    rw [e, Int.mul_zero]
    simp (disch := omega) only [zup_s, zup_n, up1_s, up1_n]
  · simp (disch := omega) only [zup_s, zup_n, up1_s, up1_n]
  · simp (disch := omega) only [zup_s, zup_n, up1_s, up1_n]
