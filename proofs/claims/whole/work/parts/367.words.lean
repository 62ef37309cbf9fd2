/-! word, walk, type -/
theorem Rel.keepw {ν μ1 μ2 : zMem} (h : Rel ν) {q s k : Int} {w : Int → Int} {σ : Sp} (hq : 0 ≤ q ∧ q < 4) (hs : 0 ≤ s ∧ s ≤ 1) (hE : ν 103 s = sE σ) (hk : 0 ≤ k ∧ k ≤ 16) (hwd : Wd σ k w)
    (c0 : ∀ c, (rlv c ∧ c ≠ 58 + 2 * q ∧ c ≠ 58 + 2 * q + 1) ∨ 100 ≤ c → μ1 c = ν c) (c10 : μ1 1 10 = ν 1 10) (c19 : μ1 19 1 = ν 19 1) (c1 : μ1 (58 + 2 * q) 1 = s) (c3 : μ1 (58 + 2 * q) 3 = if k = 0 then 0 else sA σ (w 0)) (c4 : μ1 (58 + 2 * q) 4 = if k = 0 then 0 else sB σ (w (k - 1))) (c5 : CRw μ1 (58 + 2 * q) (58 + 2 * q + 1) 2 (rdu w k.toNat))
    (m0 : ∀ c, c < 100 ∨ (rlv c ∧ ¬ (148 ≤ c ∧ c ≤ 152)) → μ2 c = μ1 c) (mo : ∀ i, i = 7 ∨ i = 9 ∨ i = 37 ∨ i = 38 ∨ i = 39 → μ2 101 i = μ1 101 i) (m8 : μ2 148 = up1 (μ1 148) q s) (m9 : μ2 149 = up1 (μ1 149) q (rdu w k.toNat).1) (m10 : μ2 150 = up1 (μ1 150) q (if k = 0 then 0 else sA σ (w 0))) (m11 : μ2 151 = up1 (μ1 151) q (if k = 0 then 0 else sB σ (w (k - 1)))) (m12 : ∀ i, μ2 152 i = if 16 * q ≤ i ∧ i < 16 * q + (rdu w k.toNat).1 then stp ((rdu w k.toNat).2 (i - 16 * q)) else μ1 152 i) : Rel μ2 := by
  have hrb := rdu_rb (E := sE σ) (w := w) k.toNat (fun i a b => hwd.1 i a (by omega))
  obtain ⟨⟨hr0, hr1⟩, hr16⟩ := hrb
  generalize rdu w k.toNat = r at *
  refine h.slo ⟨fun c a b => ?_, ?_, ?_, fun i a => ?_⟩ (fun x x0 x1 => ?_)
  · unfold slX at b
    by_cases hc : c < 100
    · rw [m0 c (Or.inl hc), c0 c (Or.inl ⟨a, by omega, by omega⟩)]
    · rw [m0 c (Or.inr ⟨a, by omega⟩), c0 c (Or.inr (by omega))]
  · rw [m0 1 (Or.inl (by decide)), c10]
  · rw [m0 19 (Or.inl (by decide)), c19]
  · rw [mo i a, c0 101 (Or.inr (by decide))]
  · have e3 : μ2 103 = ν 103 := by rw [m0 103 (Or.inr (by unfold rlv; omega)), c0 103 (Or.inr (by decide))]
    have hold := h.2.2.2.1 x x0 x1
    unfold SlR at hold ⊢
    rw [m0 (58 + 2 * x) (Or.inl (by omega)), m0 (58 + 2 * x + 1) (Or.inl (by omega)), m8, m9, m10, m11, e3, c0 148 (Or.inr (by decide)), c0 149 (Or.inr (by decide)), c0 150 (Or.inr (by decide)), c0 151 (Or.inr (by decide))]
    simp only [m12]
    rw [c0 152 (Or.inr (by decide))]
    by_cases hx : x = q
    · subst hx
      rw [up1_s, up1_s, up1_s, up1_s, c1, c3, c4, c5.1]
      refine Or.inr ⟨hs.1, hs.2, rfl, rfl, rfl, rfl, hr0, by omega, fun i i0 i1 => ?_⟩
      have := hr1 i i0 i1
      rw [c5.2 i i0 i1, if_pos (by omega), show 16 * x + i - 16 * x = i by omega, hE]
      exact ⟨rfl, this.1, this.2⟩
    · rw [up1_n _ _ hx, up1_n _ _ hx, up1_n _ _ hx, up1_n _ _ hx, c0 (58 + 2 * x) (Or.inl ⟨by unfold rlv; omega, by omega, by omega⟩), c0 (58 + 2 * x + 1) (Or.inl ⟨by unfold rlv; omega, by omega, by omega⟩)]
      rcases hold with hold | ⟨o1, o2, o3, o4, o5, o6, o7, o8, o9⟩
      · exact Or.inl hold
      · refine Or.inr ⟨o1, o2, o3, o4, o5, o6, o7, o8, fun i i0 i1 => ?_⟩
        rw [if_neg (by omega)]
        exact o9 i i0 i1
theorem m_word {μ : zMem} {a b : Int} {σ : Sp} {T : Int → Int} {N : Int} {r : Int × (Int → Int) × Int} (h1 : 0 ≤ a ∧ a ≤ 3) (h2 : 0 ≤ b ∧ b ≤ 1) (hT : TP T N) (hMT : MTp μ T N) (s3 : MS μ b σ) (s4 : WfE σ 8 12) (hr : rds σ T N 16 0 (fun _ => 0) 0 = r) : (r.2.2 ≠ N → Ok (f_X10_word a b μ) (fun w => Fm [116] [9, 10, 11, 13] μ w.2 ∧ w.2 101 9 = 0 ∧ w.1 = -20 - r.2.2)) ∧ (r.2.2 = N → Ok (f_X10_word a b μ) (fun v => v.1 = (rdu r.2.1 r.1.toNat).1 ∧ Fm [116, 148, 149, 150, 151, 152, 154] [9, 10, 11, 13, 51] μ v.2 ∧ v.2 101 9 = 0 ∧ v.2 148 = up1 (μ 148) a b ∧ v.2 149 = up1 (μ 149) a (rdu r.2.1 r.1.toNat).1 ∧ v.2 150 = up1 (μ 150) a (if r.1 = 0 then 0 else sA σ (r.2.1 0)) ∧ v.2 151 = up1 (μ 151) a (if r.1 = 0 then 0 else sB σ (r.2.1 (r.1 - 1))) ∧ ∀ i, v.2 152 i = if 16 * a ≤ i ∧ i < 16 * a + (rdu r.2.1 r.1.toNat).1 then stp ((rdu r.2.1 r.1.toNat).2 (i - 16 * a)) else μ 152 i)) := by
  have hsp := rds_spec (σ := σ) hT 16 0 (fun _ => 0) 0 (by omega) (by omega) hT.1 ⟨fun i a b => by omega, fun i a b => by omega⟩
  rw [hr] at hsp
  have hN := hT.2.1
  have e0 : Fm [116] [9, 10, 11, 13] μ (zup μ 101 10 0) := (Fm.refl _ _ μ).upo (by decide) _
  have mt : MTp (zup μ 101 10 0) T N := by
    unfold MTp at *
    rw [zup_s, up1_n _ _ (by decide), zup_n _ _ _ (by decide)]
    exact hMT
  have msd : MS (zup μ 101 10 0) b σ := s3.congr fun k a b => by rw [zup_n _ _ _ (by omega)]
  obtain ⟨v, ev, q⟩ := m_readWord hT mt msd (by omega) (s4.mono (by decide) (by decide)) (p := 0) (most := 16) ⟨by omega, hT.1⟩ (by rw [zup_s, up1_s]) (by omega)
  rw [show (16 : Int).toNat = 16 from rfl, hr] at q
  obtain ⟨q1, q2, q3, q4, q5⟩ := q
  have e1 := e0.trans (q1.sub (cs' := [116]) (ss' := [9, 10, 11, 13]) (by decide) (by decide))
  have p9 : v.2 101 9 = N := by rw [q1.2 9 (by decide)]; exact mt.1
  have bad : ∀ μe : zMem, Fm [116] [9, 10, 11, 13] μ μe → μe 101 11 = -20 - r.2.2 → Ok (f_X10_word_J57 (f_X10_word_J58 a b) μe) (fun w => Fm [116] [9, 10, 11, 13] μ w.2 ∧ w.2 101 9 = 0 ∧ w.1 = -20 - r.2.2) := by
    intro μe f1 f3
    unfold f_X10_word_J57 f_X10_word_J58
    simp only [zlet, if_true]
    exact ok_some.mpr ⟨f1.upo (by decide) _, by simp only; rw [zup_s, up1_s], by simp only; rw [zup_s, up1_n _ _ (by decide)]; exact f3⟩
  have hb : f_X10_word a b μ = if v.1 = 0 then f_X10_word_J57 (f_X10_word_J58 a b) v.2 else if v.2 101 10 = v.2 101 9 then f_X10_word_J53 (f_X10_word_J58 a b) v.2 else bnd2 (f_X10_fails (v.2 101 10) v.2) fun x_11 μ_12 => if x_11 = 0 then f_X10_word_J57 (f_X10_word_J58 a b) μ_12 else f_X10_word_J53 (f_X10_word_J58 a b) μ_12 := by
    unfold f_X10_word
    rw [if_neg (fun e => isSlotM0.mp e h1), if_neg (fun e => isSpace0.mp e h2)]
    simp only [zlet]
    rw [ev, bnd2_pos rfl]
  rw [hb]
  refine ⟨fun hne => ?_, fun hen => ?_⟩
  · by_cases hl : sgc T N r.2.2 = -1
    · rw [q4 hl, if_neg (by decide), q3, p9, if_neg hne]
      unfold f_X10_fails
      simp only [zlet]
      rw [bnd2_pos rfl, if_pos rfl, zw_eq (by omega) (by omega)]
      exact bad _ (e1.upo (by decide) _) (by rw [zup_s, up1_s])
    · rw [(q5 hl).1, if_pos rfl]
      exact bad _ e1 (q5 hl).2
  · have hl : sgc T N r.2.2 = -1 := by rw [hen]; exact sgc_end
    rw [q4 hl, if_neg (by decide), q3, p9, if_pos hen]
    unfold f_X10_word_J53 f_X10_word_J58
    simp only [zlet]
    rw [if_neg (by decide)]
    have e2 : Fm [116] [9, 10, 11, 13] μ (zup v.2 101 9 0) := e1.upo (by decide) _
    have ms2 : MS (zup v.2 101 9 0) b σ := e2.ms (by unfold noSp; decide) s3
    have hmr : MRd (zup v.2 101 9 0) r.1 r.2.1 := by
      unfold MRd at *
      rw [zup_s, up1_n _ _ (by decide), zup_n _ _ _ (by decide)]
      exact q2
    refine ok_bnd2.mpr ((m_keepWord ms2 (by omega) (s4.mono (by decide) (by decide)) (by omega) ⟨by omega, by omega⟩ hmr hsp.2.2.1).imp fun w g => ok_some.mpr ?_)
    obtain ⟨g1, g2, g3, g4, g5, g6, g7⟩ := g
    have gf : Fm [116, 148, 149, 150, 151, 152, 154] [9, 10, 11, 13, 51] μ w.2 := (e2.sub (by decide) (by decide)).trans (g2.sub (by decide) (by decide))
    rw [e2.1 148 (by decide) (by decide)] at g3
    rw [e2.1 149 (by decide) (by decide)] at g4
    rw [e2.1 150 (by decide) (by decide)] at g5
    rw [e2.1 151 (by decide) (by decide)] at g6
    rw [e2.1 152 (by decide) (by decide)] at g7
    exact ⟨g1, gf, by simp only; rw [g2.2 9 (by decide), zup_s, up1_s], g3, g4, g5, g6, g7⟩
theorem sim_word {μ : zMem} {a b : Int} (h : Rel μ) : Ok (f_X9_word a b μ) (fun v => Ok (f_X10_word a b v.2) (fun w => w.1 = v.1 ∧ Rel w.2)) := by
  by_cases h1 : 0 ≤ a ∧ a ≤ 3
  · by_cases h2 : 0 ≤ b ∧ b ≤ 1
    · have hk := h.own h2
      have hb := hk.b
      have hz := hk.sz
      obtain ⟨σ, s1, s2, s3, s4, s5⟩ := h.2.1 b h2.1 h2.2
      obtain ⟨hT, hCT, hMT⟩ := h.tape
      generalize hTT : μ 20 = T at *
      generalize hNN : μ 19 1 = N at *
      have hsp := rds_spec (σ := σ) hT 16 0 (fun _ => 0) 0 (by omega) (by omega) hT.1 ⟨fun i a b => by omega, fun i a b => by omega⟩
      have hN := hT.2.1
      have hE12 := s4.2.2.2.1
      unfold f_X9_word
      rw [if_neg (fun e => isSlot0.mp e h1), if_neg (fun e => isOwn0.mp e h2)]
      unfold f_X7_rewind
      simp only [zlet]
      rw [bnd_pos rfl, zup_n _ _ _ (by decide), chk_pos (by omega), chk_pos (by omega)]
      have g0 : FPn μ (zup μ 19 2 0) := (FPn.refl μ).pl 0
      obtain ⟨μa, ea, qa⟩ := c_readSteps (p := 0) (most := 16) hT (g0.tp hCT) (g0.cs s1 hb.1) hz s4 hb.1 ⟨by omega, hT.1⟩ (by rw [zup_s, up1_s]) (by omega)
      rw [show (16 : Int).toNat = 16 from rfl] at qa
      rw [ea, bnd_pos rfl]
      generalize hr : rds σ T N 16 0 (fun _ => 0) 0 = r at *
      obtain ⟨a1, a2, a3, a4, a5⟩ := qa
      have ga := g0.trans a1
      rw [c_isRead hT (ga.tp hCT) ⟨a3, a4⟩ rfl, a5, bnd2_pos rfl]
      have gb := ga.pl r.2.2
      rw [c_faultHere hT (gb.tp hCT) (p := r.2.2) ⟨by omega, by omega⟩ (by rw [zup_s, up1_s]), hsp.2.2.2.2.2, zup_zup, bnd2_pos rfl]
      unfold f_X7_wipe
      simp only [zlet]
      rw [bnd_pos rfl]
      generalize hμc : zup (zup μa 19 2 r.2.2) 19 1 0 = μc
      have cf : ∀ c, c ≠ 19 → c ≠ 21 → c ≠ 22 → μc c = μ c := fun c c1 c2 c3 => by rw [← hμc, zup_n _ _ _ c1]; exact gb.1 c c1 c2 c3
      have c91 : μc 19 1 = 0 := by rw [← hμc, zup_s, up1_s]
      have hMw : ∀ μd : zMem, (∀ c, 101 ≤ c → μd c = μ c) → _ := fun μd hd => m_word h1 h2 hT (μ := μd) (by unfold MTp at *; rw [hd 101 (by decide), hd 110 (by decide)]; exact hMT) (s3.congr fun k x y => hd k (by omega)) s4 hr
      by_cases hen : r.2.2 = N
      · rw [if_pos hen, if_neg (by decide)]
        have e212 : μc 21 2 = r.1 := by rw [← hμc, zup_n _ _ _ (by decide), zup_n _ _ _ (by decide)]; exact a2.1
        have e22 : ∀ i, 0 ≤ i → i < r.1 → μc 22 i = r.2.1 i ∧ 0 ≤ r.2.1 i ∧ r.2.1 i < 2 * sE σ := fun i x y => ⟨by rw [← hμc, zup_n _ _ _ (by decide), zup_n _ _ _ (by decide)]; exact a2.2.1 i x y, hsp.2.2.1.1 i x y⟩
        have e213 : μc 21 3 = if r.1 = 0 then 0 else sA σ (r.2.1 0) := by rw [← hμc, zup_n _ _ _ (by decide), zup_n _ _ _ (by decide)]; exact a2.2.2.1
        have e214 : μc 21 4 = if r.1 = 0 then 0 else sB σ (r.2.1 (r.1 - 1)) := by rw [← hμc, zup_n _ _ _ (by decide), zup_n _ _ _ (by decide)]; exact a2.2.2.2
        refine ok_bnd2.mpr ((c_keepReduced (h.1.2.2.congr fun k x => cf k (by omega) (by omega) (by omega)) (by omega) ⟨by omega, by omega⟩ (by omega) e212 e22).imp fun v g => ok_some.mpr ?_)
        obtain ⟨g1, g2, g3, g4, g5, g6⟩ := g
        show Ok (f_X10_word a b v.2) _
        refine ((hMw v.2 (fun c hc => by rw [g2 c (by omega) (by omega), cf c (by omega) (by omega) (by omega)])).2 hen).imp fun w k => ?_
        obtain ⟨k1, k2, k3, k4, k5, k6, k7, k8⟩ := k
        refine ⟨by simp only; rw [k1, g1], ?_⟩
        have hν : Rel (zup (zup μ 19 1 0) 101 9 0) := by
          refine h.wipe (fun k x y z => ?_) ?_ (fun i hi => ?_) ?_ ?_
          · unfold rlv at x
            rw [zup_n _ _ _ (by omega), zup_n _ _ _ (by omega)]
          · rw [zup_n _ _ _ (by decide), zup_n _ _ _ (by decide)]
          · rw [zup_s, up1_n _ _ (by omega), zup_n _ _ _ (by decide)]
          · rw [zup_n _ _ _ (by decide), zup_s, up1_s]
          · rw [zup_s, up1_s]
        -- both sides' last memories over the wiped one
        refine Rel.keepw (ν := zup (zup μ 19 1 0) 101 9 0) (μ1 := zup v.2 101 9 0) (σ := σ) (k := r.1) (w := r.2.1) (q := a) (s := b) hν (by omega) h2 ?_ ⟨by omega, by omega⟩ hsp.2.2.1 (fun c hc => ?_) ?_ ?_ ?_ ?_ ?_ ⟨?_, fun i x y => ?_⟩ (fun c hc => ?_) (fun i hi => ?_) ?_ ?_ ?_ ?_ ?_
        · rw [zup_n _ _ _ (by decide), zup_n _ _ _ (by decide)]; exact s3.2.1
        · by_cases h101 : c = 101
          · subst h101
            rw [zup_s, zup_s, g2 101 (by omega) (by omega), cf 101 (by decide) (by decide) (by decide), zup_n _ _ _ (by decide)]
          · have hc2 : c ≠ 58 + 2 * a ∧ c ≠ 58 + 2 * a + 1 ∧ c ≠ 19 ∧ c ≠ 21 ∧ c ≠ 22 := by unfold rlv at hc; omega
            rw [zup_n _ _ _ h101, zup_n _ _ _ h101, zup_n _ _ _ hc2.2.2.1, g2 c hc2.1 hc2.2.1, cf c hc2.2.2.1 hc2.2.2.2.1 hc2.2.2.2.2]
        · rw [zup_n _ _ _ (by decide), zup_n _ _ _ (by decide), zup_n _ _ _ (by decide), g2 1 (by omega) (by omega), cf 1 (by decide) (by decide) (by decide)]
        · rw [zup_n _ _ _ (by decide), zup_n _ _ _ (by decide), zup_s, up1_s, g2 19 (by omega) (by omega), c91]
        · rw [zup_n _ _ _ (by omega)]; exact g3
        · rw [zup_n _ _ _ (by omega), g4]; exact e213
        · rw [zup_n _ _ _ (by omega), g5]; exact e214
        · rw [zup_n _ _ _ (by omega)]; exact g6.1
        · rw [zup_n _ _ _ (by omega)]; exact g6.2 i x y
        · have hc2 : c ≠ 101 := by unfold rlv at hc; omega
          rw [zup_n _ _ _ hc2]
          refine k2.1 c ?_ hc2
          simp
          unfold rlv at hc
          omega
        · by_cases h9 : i = 9
          · subst h9
            rw [k3, zup_s, up1_s]
          · rw [zup_s, up1_n _ _ h9]
            exact k2.2 i (by simp; omega)
        · rw [zup_n _ _ _ (by decide)]; exact k4
        · rw [zup_n _ _ _ (by decide)]; exact k5
        · rw [zup_n _ _ _ (by decide)]; exact k6
        · rw [zup_n _ _ _ (by decide)]; exact k7
        · rw [zup_n _ _ _ (by decide)]; exact k8
      · rw [if_neg hen, if_pos rfl]
        refine ok_some.mpr ((((hMw μc (fun c hc => cf c (by omega) (by omega) (by omega))).1 hen)).imp fun w g => ?_)
        obtain ⟨g1, g2, g3⟩ := g
        refine ⟨g3, h.wipe (fun k x y z => ?_) ?_ (fun i hi => ?_) ?_ g2⟩
        · unfold rlv at x
          rw [g1.1 k (by simp; omega) (by omega), cf k (by omega) (by omega) (by omega)]
        · rw [g1.1 1 (by decide) (by decide), cf 1 (by decide) (by decide) (by decide)]
        · rw [g1.2 i (by simp; omega), cf 101 (by decide) (by decide) (by decide)]
        · rw [g1.1 19 (by decide) (by decide)]; exact c91
    · refine sim_same h (r := -1) ?_ ?_
      · unfold f_X9_word; rw [if_neg (fun e => isSlot0.mp e h1), if_pos (isOwn0.mpr h2)]
      · unfold f_X10_word; rw [if_neg (fun e => isSlotM0.mp e h1), if_pos (isSpace0.mpr h2)]
  · refine sim_same h (r := -1) ?_ ?_
    · unfold f_X9_word; rw [if_pos (isSlot0.mpr h1)]
    · unfold f_X10_word; rw [if_pos (isSlotM0.mpr h1)]
