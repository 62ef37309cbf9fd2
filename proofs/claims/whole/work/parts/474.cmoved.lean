/-! MOVED: the class -/
theorem c_wordTurns {μ : zMem} {u x3 L : Int} {σ : Sp} {w : Int → Int} {g : Int → zMem → Option (Int × zMem)} {Q : Int × zMem → Prop} (hu : 32 < u) (hx : 32 < x3) (hcp : CP μ u σ) (hz : SZ u 8 12 8) (hw : WfE σ 8 12) (hL : 0 ≤ L ∧ L ≤ 16) (hz3 : zlen (x3 + 1) = 16) (h2 : μ x3 2 = L) (h1 : ∀ i, 0 ≤ i → i < L → μ (x3 + 1) i = w i) (hww : ∀ i, 0 ≤ i → i < L → 0 ≤ w i ∧ w i < 2 * sE σ) (hg : ∀ μ', (∀ k, k ≠ 32 → μ' k = μ k) → (∀ j (h : j < (wrw σ w L.toNat 0).length), μ' 32 (j : Int) = (wrw σ w L.toNat 0)[j]) → Ok (g ((wrw σ w L.toNat 0).length : Int) μ') Q) : Ok (f_X6_isMovedBySome_L6 u x3 g zfu 0 0 μ) Q := by
  have hE := hw.2.2.2.1
  have hz' := hz
  obtain ⟨z1, z2, z3, z4, z5, z6, z7, z8, z9⟩ := hz'
  have hNb := sN_b (σ := σ) hw.2.2.1
  have key : ∀ (m fu : Nat) (i : Int) (ws : List Int) (μ1 : zMem), m < fu → 0 ≤ i → i + m = L → ws.length ≤ i → ws ++ wrw σ w m i = wrw σ w L.toNat 0 → (∀ k, k ≠ 32 → μ1 k = μ k) → (∀ j (h : j < ws.length), μ1 32 (j : Int) = ws[j]) → Ok (f_X6_isMovedBySome_L6 u x3 g fu (ws.length : Int) i μ1) Q := by
    intro m
    induction m with
    | zero =>
      intro fu i ws μ1 hfu i0 hi hl he g1 g2
      cases fu with
      | zero => omega
      | succ fu =>
        unfold f_X6_isMovedBySome_L6
        rw [g1 x3 (by omega), h2, if_neg (by omega)]
        have e : ws = wrw σ w L.toNat 0 := by rw [← he]; simp [wrw]
        subst e
        exact hg μ1 g1 g2
    | succ m ih =>
      intro fu i ws μ1 hfu i0 hi hl he g1 g2
      cases fu with
      | zero => omega
      | succ fu =>
        have hr := hww i i0 (by omega)
        have hsw := sW_tn σ (w i / 2)
        unfold f_X6_isMovedBySome_L6
        simp only [zlet]
        rw [g1 x3 (by omega), h2, if_pos (by omega), chk_pos (by omega), g1 (x3 + 1) (by omega), h1 i i0 (by omega), zshr1 ⟨by omega, by omega⟩, chk_pos (by omega), g1 (u + 3) (by omega), hcp.2.2.2 _ (by omega) (by omega), zw_eq (x := i + 1) (by omega) (by omega)]
        have hwr : wrw σ w (m + 1) i = if isTn σ (w i / 2) then tcd σ (w i) :: wrw σ w m (i + 1) else wrw σ w m (i + 1) := rfl
        rw [hwr] at he
        by_cases hi2 : isTn σ (w i / 2) = true
        · have hcn := cnt_in (σ := σ) (e := w i / 2) (by omega) hi2
          rw [if_pos hi2] at he
          rw [hsw.1 hi2, if_neg (by omega), chk_pos (by omega), chk_pos (by omega), zand1 ⟨by omega, by omega⟩, zw_eq (x := 2 * cnt (isTn σ) (w i / 2).toNat) (by omega) (by omega), zw_eq (x := 2 * cnt (isTn σ) (w i / 2).toNat + w i % 2) (by omega) (by omega), zw_eq (x := (ws.length : Int) + 1) (by omega) (by omega)]
          have := ih fu (i + 1) (ws ++ [tcd σ (w i)]) (zup μ1 32 (ws.length : Int) (tcd σ (w i))) (by omega) (by omega) (by omega) (by simp; omega) (by rw [List.append_assoc]; exact he) (fun k hk => by rw [zup_n _ _ _ hk]; exact g1 k hk) ?_
          · rw [List.length_append] at this
            exact this
          · intro j hj
            rw [List.length_append] at hj
            simp at hj
            by_cases hjw : j = ws.length
            · subst hjw
              rw [zup_s, up1_s]
              simp
            · rw [zup_s, up1_n _ _ (by omega), List.getElem_append_left (by omega)]
              exact g2 j (by omega)
        · rw [if_neg hi2] at he
          rw [if_pos (hsw.2 (Bool.eq_false_iff.mpr hi2))]
          exact ih fu (i + 1) ws μ1 (by omega) (by omega) (by omega) (by omega) he g1 g2
  exact key L.toNat zfu 0 [] μ (by unfold zfu; omega) (by omega) (by omega) (by simp) (by simp) (fun _ _ => rfl) (fun j h => absurd h (by simp))
theorem c_movedL {n mP : Int} {σ : Sp} {N : Nat} {ws : List Int} (hn : 2 ≤ n ∧ n ≤ 4) (hNs : (N : Int) = sN σ) (hN : 1 ≤ N ∧ N ≤ 12) (hp : WfP σ mP) (hP8 : sP σ ≤ 8) (hwd : WdR (sN σ) ws) (hw16 : ws.length ≤ 16) : ∀ (k fu : Nat) (c : Int) (L y : Nat) (t : Int → Int) (μ1 : zMem), (lft (pH σ n) (fct n).toNat N t L y).length = k → k < fu → 0 ≤ c → c + k < 1000000 → wgl (fct n).toNat N t L y ≤ 100000 → ShT μ1 → StT μ1 n N (rms σ) L t y → (∀ j : Nat, j < L → drh n t j (rms σ) = true) → (∀ j (h : j < ws.length), μ1 32 (j : Int) = ws[j]) → Ok (f_X6_isMovedBySome_L75 (ws.length : Int) fu c μ1) (fun w => Ft [28] [6] μ1 w.2 ∧ w.1 = b2i ((lft (pH σ n) (fct n).toNat N t L y).any (mvq n ws))) := by
  have hl8 : (rms σ).length ≤ 8 := by
    have := rmsF_len σ (sP σ).toNat 0
    unfold rms
    omega
  intro k
  induction k with
  | zero =>
    intro fu c L y t μ1 hk hfu c0 c1 hwt hT hS hG h32
    cases fu with
    | zero => omega
    | succ fu =>
      have hnx := c_findNextL (x1 := 0) (p := pH σ n) (fl := fun _ _ => true) hn hN hl8 (by rw [hNs]; exact rms_wd hp) (fun h => absurd rfl h) (fun L t a b c => prn1 hp _ (by simpa using c)) (fun t a b => by rw [hNs]; exact prn2 hp (by omega) (fun L h => by simpa using b L (by omega))) (fun L t t' a b => by
        rw [drh_cg (N := sN σ) (fun ws q => (rms_wd hp ws q).1) b]) 100001 zfu 0 L y t μ1 (by omega) (by unfold zfu; omega) (by omega) (by omega) hT hS (fun k a => by simpa using hG k a)
      have h8 : ¬ μ1 27 8 = 0 := by rw [hS.2.1]; omega
      unfold f_X6_isMovedBySome_L75 f_X6_findNext
      rw [if_pos (by omega), if_neg h8]
      refine ok_bnd2.mpr (hnx.imp fun w q => ?_)
      rcases q.2 with h | ⟨h, t', y', a1, a2, a3, a4, a5, a6⟩
      · rw [if_pos h.1, h.2]
        exact ok_some.mpr ⟨q.1, rfl⟩
      · rw [a5] at hk
        simp at hk
  | succ k ih =>
    intro fu c L y t μ1 hk hfu c0 c1 hwt hT hS hG h32
    cases fu with
    | zero => omega
    | succ fu =>
      have hnx := c_findNextL (x1 := 0) (p := pH σ n) (fl := fun _ _ => true) hn hN hl8 (by rw [hNs]; exact rms_wd hp) (fun h => absurd rfl h) (fun L t a b c => prn1 hp _ (by simpa using c)) (fun t a b => by rw [hNs]; exact prn2 hp (by omega) (fun L h => by simpa using b L (by omega))) (fun L t t' a b => by
        rw [drh_cg (N := sN σ) (fun ws q => (rms_wd hp ws q).1) b]) 100001 zfu 0 L y t μ1 (by omega) (by unfold zfu; omega) (by omega) (by omega) hT hS (fun k a => by simpa using hG k a)
      have h8 : ¬ μ1 27 8 = 0 := by rw [hS.2.1]; omega
      unfold f_X6_isMovedBySome_L75 f_X6_findNext
      simp only [zlet]
      rw [if_pos (by omega), if_neg h8]
      refine ok_bnd2.mpr (hnx.imp fun w q => ?_)
      rcases q.2 with h | ⟨h, t', y', a1, a2, a3, a4, a5, a6⟩
      · rw [h.2] at hk
        simp at hk
      · rw [a5, List.length_cons] at hk
        have hT2 : ShT w.2 := (q.1.sub (cs' := [28, 29, 30, 31]) (ss' := [6]) (by decide) (by decide)).sht hT
        have h32' : ∀ j (h : j < ws.length), w.2 32 (j : Int) = ws[j] := fun j hj => by rw [q.1.1 32 (by decide) (by decide)]; exact h32 j hj
        have hcel : ∀ j : Int, 0 ≤ j → j < (N : Int) → w.2 28 j = t' j := by
          intro j b c
          by_cases hj : j = ((N - 1 : Nat) : Int)
          · rw [hj, a2]; exact a1.2.2.2.2.2.1
          · exact a1.2.2.2.2.1 j b (by omega)
        have hz32 : zlen 32 = 16 := by decide
        have hma : f_X6_moveAlong 32 0 (ws.length : Int) w.2 = some (alg n t' ws 0) := by
          unfold f_X6_moveAlong
          refine c_moveAlong (N := N) hT2 hn a1.1 (by omega) a3 hcel (by omega) _ _ ⟨by omega, by omega, by omega⟩ ws zfu 0 _ (by unfold zfu; omega) (by rw [hNs]; exact hwd) (by omega) rfl (fun i h => ?_) ⟨by omega, by have := fct_pos hn; omega⟩
          rw [Int.zero_add]
          exact h32' i h
        have hcl : alg n (clp t' N) ws 0 = alg n t' ws 0 := alg_cg (N := N) ws (by rw [hNs]; exact hwd) (fun j b c => by unfold clp; rw [if_pos ⟨b, c⟩]) 0
        rw [h, if_neg (by decide), bnd_pos hma, a5, List.any_cons]
        by_cases hz0 : alg n t' ws 0 = 0
        · have em : mvq n ws (clp t' N) = false := by unfold mvq; rw [hcl, hz0]; rfl
          rw [if_pos hz0, zw_eq (by omega) (by omega), em, Bool.false_or]
          refine (ih fu (c + 1) (N - 1) y' t' w.2 (by omega) (by omega) (by omega) (by omega) (by omega) hT2 a1 (fun j hj => by simpa using a4 j (by omega)) h32').imp fun v r => ?_
          exact ⟨q.1.trans r.1, r.2⟩
        · have em : mvq n ws (clp t' N) = true := by unfold mvq; rw [hcl]; simp [hz0]
          rw [if_neg hz0, em, Bool.true_or]
          exact ok_some.mpr ⟨q.1, rfl⟩
theorem c_isMovedBySome {μ : zMem} {u x3 n L : Int} {σ : Sp} {w : Int → Int} (hT : ShT μ) (hn : 2 ≤ n ∧ n ≤ 4) (hu : PK u) (hx : 58 ≤ x3) (hc : CS μ u σ) (hcp : CP μ u σ) (hw : WfE σ 8 12) (hp : WfP σ 8) (hmn : mnL (fct n) (sN σ).toNat 1 = 0) (hL : 0 ≤ L ∧ L ≤ 16) (hz3 : zlen (x3 + 1) = 16) (h2 : μ x3 2 = L) (h1 : ∀ i, 0 ≤ i → i < L → μ (x3 + 1) i = w i) (hww : ∀ i, 0 ≤ i → i < L → 0 ≤ w i ∧ w i < 2 * sE σ) : Ok (f_X6_isMovedBySome u (66 + 4 * n) x3 μ) (fun v => Ft [28, 29, 30, 31, 32] [5, 6, 7, 8, 9] μ v.2 ∧ v.1 = b2i ((tbs (pH σ n) n (sN σ)).any (mvq n (wrw σ w L.toNat 0)))) := by
  have hz := hu.sz
  have hu32 : 32 < u := by unfold PK at hu; omega
  have hE := hw.2.2.2.1
  have hNb := sN_b (σ := σ) hw.2.2.1
  have hfc := fct_pos hn
  obtain ⟨m1, m2⟩ := mn_nat hn hmn
  have hwd := wrw_rg hww L.toNat 0 (by omega) (by omega)
  have hwl := wrw_len σ w L.toNat 0
  unfold f_X6_isMovedBySome
  refine c_wordTurns hu32 (by omega) hcp hz hw hL hz3 h2 h1 hww fun μ1 g1 g2 => ?_
  generalize hws : wrw σ w L.toNat 0 = ws at *
  unfold f_X6_isMovedBySome_K66
  have fr1 : Ft [28, 29, 30, 31, 32] [5, 6, 7, 8, 9] μ μ1 := ⟨fun k a b => g1 k (fun q => a (by rw [q]; decide)), fun i _ => by rw [g1 27 (by decide)]⟩
  refine ok_bnd.mpr ((c_begin (n := n) hu32 (hc.congr fun k a b => g1 k (by omega)) (hcp.congr fun k a b => g1 k (by omega)) hz hw hp).imp fun μ2 q => ?_)
  obtain ⟨q1, b1, b2, b3, b4, b5, b6⟩ := q
  have hT2 : ShT μ2 := q1.sht (hT.congr fun k hk => g1 k (by omega))
  have fr2 := fr1.trans (q1.sub (cs' := [28, 29, 30, 31, 32]) (by decide) (fun _ h => h))
  have h32 : ∀ j (h : j < ws.length), μ2 32 (j : Int) = ws[j] := fun j hj => by rw [q1.1 32 (by decide) (by decide)]; exact g2 j hj
  by_cases hN : sN σ = 0
  · have e0 : clp (fun _ => 0) (sN σ) = fun _ => 0 := by
      funext i
      unfold clp
      rw [if_neg (by omega)]
    have hpt := prn2 (n := n) (t := fun _ => 0) hp hNb.1 (fun L h => by omega)
    rw [e0] at hpt
    have hlen : tbs (pH σ n) n (sN σ) = [fun _ => 0] := by
      unfold tbs
      rw [hN]
      show (if pH σ n (fun _ => 0) then [fun _ => 0] else []) = _
      rw [hpt]
      rfl
    have hwn : ws = [] := by
      cases hws2 : ws with
      | nil => rfl
      | cons c l =>
        have := hwd c (by rw [hws2]; exact List.mem_cons_self ..)
        omega
    rw [hlen, hwn]
    have z2 : zfu = (zfu - 2) + 1 + 1 := by unfold zfu; omega
    rw [z2]
    unfold f_X6_isMovedBySome_L75 f_X6_findNext f_X6_findNext_J19
    simp only [zlet]
    rw [if_pos (by omega), if_pos (by omega), b4, if_pos rfl, chk_pos (by omega)]
    refine ok_bnd2.mpr (ok_some.mpr ?_)
    have e8 : zup μ2 27 7 1 27 8 = 0 := by rw [zup_s, up1_n _ _ (by decide)]; omega
    have e7 : zup μ2 27 7 1 27 7 = 1 := by rw [zup_s, up1_s]
    have e9 : zup μ2 27 7 1 27 9 = 66 + 4 * n := by rw [zup_s, up1_n _ _ (by decide)]; exact b1
    have hT3 : ShT (zup μ2 27 7 1) := hT2.congr fun k hk => zup_n _ _ _ (by omega)
    have hz32 : zlen 32 = 16 := by decide
    have hma : f_X6_moveAlong 32 0 (([] : List Int).length : Int) (zup μ2 27 7 1) = some (alg n (fun _ => 0) [] 0) := by
      unfold f_X6_moveAlong
      exact c_moveAlong (N := 0) hT3 hn e9 (by omega) (fun j a b => by omega) (fun j a b => by omega) (by omega) _ _ ⟨by omega, by simp, by rw [hz32]; simp⟩ [] zfu 0 _ (by unfold zfu; simp) (fun c h => by simp at h) (by omega) rfl (fun i h => absurd h (by simp)) ⟨by omega, by omega⟩
    show Ok (if (1 : Int) = 0 then _ else _) _
    rw [if_neg (by decide)]
    show Ok (bnd (f_X6_moveAlong 32 0 (([] : List Int).length : Int) (zup μ2 27 7 1)) _) _
    rw [bnd_pos hma]
    show Ok (if (0 : Int) = 0 then _ else _) _
    rw [if_pos rfl, zw_eq (by omega) (by omega)]
    unfold f_X6_isMovedBySome_L75 f_X6_findNext f_X6_findNext_J19
    simp only [zlet]
    rw [if_pos (by omega), if_pos e8, if_neg (c := zup μ2 27 7 1 27 7 = 0) (by omega), chk_pos (by omega)]
    refine ok_bnd2.mpr (ok_some.mpr ?_)
    show Ok (if (0 : Int) = 0 then _ else _) _
    rw [if_pos rfl]
    exact ok_some.mpr ⟨(fr2.upo (by decide) _).upo (by decide) _, rfl⟩
  · have hNN : ((sN σ).toNat : Int) = sN σ := by omega
    have hlf := lft_first (pH σ n) (fct n).toNat (sN σ).toNat (by omega) (fun _ => 0)
    have hwf := wgl_first (fct n).toNat (sN σ).toNat (by omega) (fun _ => 0)
    have hwl := wgt_le (o := (fct n).toNat) (by omega) (sN σ).toNat
    have hsl := sols_len (pH σ n) (fct n).toNat (sN σ).toNat 0 (fun _ => 0)
    have hst : StT μ2 n (sN σ).toNat (rms σ) 0 (fun _ => 0) 0 := ⟨b1, by rw [b2]; omega, b3, b6, fun j a b => by omega, b5, fun j a b => by omega, by omega, by omega⟩
    refine (c_movedL (N := (sN σ).toNat) hn hNN ⟨by omega, by omega⟩ hp hp.2.1 hwd (by omega) _ zfu 0 0 0 (fun _ => 0) μ2 rfl (by rw [hlf]; unfold zfu; omega) (by omega) (by rw [hlf]; omega) (by rw [hwf]; omega) hT2 hst (fun j h => by omega) h32).imp fun v q => ?_
    refine ⟨fr2.trans (q.1.sub (by decide) (by decide)), ?_⟩
    rw [q.2, hlf]
    rfl
