/-! the constructor of the layer -/
set_option maxHeartbeats 4000000 in
set_option maxRecDepth 100000 in
theorem I_X1_3 {l : Launch} {Ω : zO} (μ : zMem) (sz : Nat) (hk : (3 : Int) ∈ Ω.2.2.1.1) (hkf : (3 : Int) ∉ Ω.2.2.1.2) (hn : ∀ j ∈ ([4, 5, 6, 7, 8, 9, 10, 11, 12, 13, 14, 15] : List Int), j ∉ Ω.2.2.1.1 ∧ j ∉ Ω.2.2.1.2 ∧ ∀ i, μ j i = 0) {μ_1 : zMem} (h1 : f_X5_clear 4 1 (zup (zup (zup (zup (zup (zup μ 4 0 5) 4 1 6) 4 2 7) 4 3 8) 4 4 9) 4 5 10) = some μ_1) {μ_2 : zMem} (h2 : f_X5_findPart 4 μ_1 = some μ_2) (hF : ∀ k, 10 < k → μ_2 k = μ k) : XCon l yX1_init cX1_init 1 3 Ω [zR Ω 3] μ [4, 5, 6, 7, 8, 9, 10, 11, 12, 13, 14, 15] [4, 5, 6, 7, 8, 9, 10, 3, 11, 12, 13, 14, 15] (zup (zup (zup (zup (zup (zup (zup μ_2 3 0 4) 3 1 11) 3 2 12) 3 3 13) 3 4 14) 3 5 15) 3 6 (-1)) sz 12 527 := by
  refine XCon.of (by decide) rfl (Nat.le_of_ble_eq_true rfl) ?_
  intro p e s m args below meth c ls A Q C hin hA X hl rt
  have C : zC p s m args c cX1_init RX1 1 Ω := C
  have hl : lv_has ls 1 [(0, zR Ω 3)] := hl
  have G := Grw.rf Ω
  refine lv_aload_n C.1 C.2.1 dX1_init_0 rfl (lv_at hl 0 rfl) ?_
  refine z_objI C kw_30 hl.1 dX1_init_1 ⟨Nat.le_of_ble_eq_true rfl, Nat.le_of_ble_eq_true rfl⟩ (Nat.le_of_ble_eq_true rfl) ?_
  refine lv_aload_n C.1 C.2.1 dX1_init_4 rfl (lv_at hl 0 rfl) ?_
  refine y_newO C X hA zk5 kw_31 kw_32 kw_3 (by decide) 4 (G.nm (hn 4 (by decide)).1 (by decide)) (G.nf (hn 4 (by decide)).2.1 (by decide)) rfl (hn 4 (by decide)).2.2 (Nat.le_of_ble_eq_true rfl) (Nat.le_of_ble_eq_true rfl) dX1_init_5 (fun w1 H g C X => ?_)
  refine W.st (st' := [zR w1 4, zR w1 3]) (cons2 rfl (cons2 (g.ref (k := 3) (G.old hk)) rfl)) ?_
  have hl : lv_has ls 1 [(0, zR w1 3)] := Eq.mp (congrArg (fun v => lv_has ls 1 [(0, v)]) (g.ref (k := 3) (G.old hk))) hl
  have G : Grw Ω w1 [4] [] := G.tr g rfl rfl
  refine lv_dup C.1 C.2.1 dX1_init_8 rfl ?_
  refine z_bipush C dX1_init_9 rfl ?_
  refine z_bipush C dX1_init_11 rfl ?_
  refine z_bipush C dX1_init_13 rfl ?_
  have sub : ∀ j ∈ ([5, 6, 7, 8, 9, 10] : List Int), j ∈ ([4, 5, 6, 7, 8, 9, 10, 11, 12, 13, 14, 15] : List Int) ∧ j ∉ ([4] : List Int) ∧ j ∉ ([] : List Int) := by decide
  refine y_callI C X hA (k := 4) (As := [zI 32, zI 48, zI 32]) (I_X5_4 μ _ (G.mem (by decide)) (G.nf (hn 4 (by decide)).2.1 (by decide)) (fun j hj => ⟨G.nm (hn j (sub j hj).1).1 (sub j hj).2.1, G.nf (hn j (sub j hj).1).2.1 (sub j hj).2.2, (hn j (sub j hj).1).2.2⟩) h1 h2) kw_35 kw_3 kw_34 kw_33 rfl (by decide +kernel) ⟨Nat.le_of_ble_eq_true rfl, Nat.le_of_ble_eq_true rfl⟩ rfl hl.1 rfl (Nat.le_of_ble_eq_true rfl) dX1_init_15 ⟨Nat.le_of_ble_eq_true rfl, Nat.le_of_ble_eq_true rfl⟩ (fun w2 H locs g C X => ?_)
  refine W.st (st' := [zR w2 4, zR w2 3]) (cons2 (g.ref (k := 4) (G.mem (by decide))) (cons2 (g.ref (k := 3) (G.old hk)) rfl)) ?_
  have hl : lv_has ls 1 [(0, zR w2 3)] := Eq.mp (congrArg (fun v => lv_has ls 1 [(0, v)]) (g.ref (k := 3) (G.old hk))) hl
  have G : Grw Ω w2 [4, 5, 6, 7, 8, 9, 10] [4, 5, 6, 7, 8, 9, 10] := G.tr g rfl rfl
  refine z_putFR C X (v := 4) (k := 3) zk1 (G.old hk) rfl 0 (by decide) kw_125 rfl hin rfl rfl (fun _ => rfl) (fun _ => rfl) rfl (by decide) (G.mem (by decide)) (G.nf hkf (by decide)) (i := 0) (μ1 := zup μ_2 3 0 4) rfl dX1_init_18 (fun H locs X => ?_)
  refine lv_aload_n C.1 C.2.1 dX1_init_21 rfl (lv_at hl 0 rfl) ?_
  refine z_bipush C dX1_init_22 rfl ?_
  refine y_newI C X hA (atype := .int) 1 (Or.inl rfl) rfl rfl kw_123 rfl 11 (G.nm (hn 11 (by decide)).1 (by decide)) (G.nf (hn 11 (by decide)).2.1 (by decide)) rfl (zz_up (by decide) (fun i => by rw [hF 11 (by decide)]; exact (hn 11 (by decide)).2.2 i)) (by decide) (by decide) (Nat.le_of_ble_eq_true rfl) (Nat.le_of_ble_eq_true rfl) dX1_init_24 (fun w3 H g C X => ?_)
  refine W.st (st' := [zR w3 11, zR w3 3]) (cons2 rfl (cons2 (g.ref (k := 3) (G.old hk)) rfl)) ?_
  have hl : lv_has ls 1 [(0, zR w3 3)] := Eq.mp (congrArg (fun v => lv_has ls 1 [(0, v)]) (g.ref (k := 3) (G.old hk))) hl
  have G : Grw Ω w3 [4, 5, 6, 7, 8, 9, 10, 11] [4, 5, 6, 7, 8, 9, 10] := G.tr g rfl rfl
  refine z_putFR C X (v := 11) (k := 3) zk1 (G.old hk) rfl 1 (by decide) kw_127 rfl hin rfl rfl (fun _ => rfl) (fun _ => rfl) rfl (by decide) (G.mem (by decide)) (G.nf hkf (by decide)) (i := 1) (μ1 := zup (zup μ_2 3 0 4) 3 1 11) rfl dX1_init_26 (fun H locs X => ?_)
  refine lv_aload_n C.1 C.2.1 dX1_init_29 rfl (lv_at hl 0 rfl) ?_
  refine z_bipush C dX1_init_30 rfl ?_
  refine y_newI C X hA (atype := .int) 1 (Or.inl rfl) rfl rfl kw_123 rfl 12 (G.nm (hn 12 (by decide)).1 (by decide)) (G.nf (hn 12 (by decide)).2.1 (by decide)) rfl (zz_up (by decide) (zz_up (by decide) (fun i => by rw [hF 12 (by decide)]; exact (hn 12 (by decide)).2.2 i))) (by decide) (by decide) (Nat.le_of_ble_eq_true rfl) (Nat.le_of_ble_eq_true rfl) dX1_init_32 (fun w4 H g C X => ?_)
  refine W.st (st' := [zR w4 12, zR w4 3]) (cons2 rfl (cons2 (g.ref (k := 3) (G.old hk)) rfl)) ?_
  have hl : lv_has ls 1 [(0, zR w4 3)] := Eq.mp (congrArg (fun v => lv_has ls 1 [(0, v)]) (g.ref (k := 3) (G.old hk))) hl
  have G : Grw Ω w4 [4, 5, 6, 7, 8, 9, 10, 11, 12] [4, 5, 6, 7, 8, 9, 10] := G.tr g rfl rfl
  refine z_putFR C X (v := 12) (k := 3) zk1 (G.old hk) rfl 2 (by decide) kw_129 rfl hin rfl rfl (fun _ => rfl) (fun _ => rfl) rfl (by decide) (G.mem (by decide)) (G.nf hkf (by decide)) (i := 2) (μ1 := zup (zup (zup μ_2 3 0 4) 3 1 11) 3 2 12) rfl dX1_init_34 (fun H locs X => ?_)
  refine lv_aload_n C.1 C.2.1 dX1_init_37 rfl (lv_at hl 0 rfl) ?_
  refine z_bipush C dX1_init_38 rfl ?_
  refine y_newI C X hA (atype := .int) 1 (Or.inl rfl) rfl rfl kw_123 rfl 13 (G.nm (hn 13 (by decide)).1 (by decide)) (G.nf (hn 13 (by decide)).2.1 (by decide)) rfl (zz_up (by decide) (zz_up (by decide) (zz_up (by decide) (fun i => by rw [hF 13 (by decide)]; exact (hn 13 (by decide)).2.2 i)))) (by decide) (by decide) (Nat.le_of_ble_eq_true rfl) (Nat.le_of_ble_eq_true rfl) dX1_init_40 (fun w5 H g C X => ?_)
  refine W.st (st' := [zR w5 13, zR w5 3]) (cons2 rfl (cons2 (g.ref (k := 3) (G.old hk)) rfl)) ?_
  have hl : lv_has ls 1 [(0, zR w5 3)] := Eq.mp (congrArg (fun v => lv_has ls 1 [(0, v)]) (g.ref (k := 3) (G.old hk))) hl
  have G : Grw Ω w5 [4, 5, 6, 7, 8, 9, 10, 11, 12, 13] [4, 5, 6, 7, 8, 9, 10] := G.tr g rfl rfl
  refine z_putFR C X (v := 13) (k := 3) zk1 (G.old hk) rfl 3 (by decide) kw_130 rfl hin rfl rfl (fun _ => rfl) (fun _ => rfl) rfl (by decide) (G.mem (by decide)) (G.nf hkf (by decide)) (i := 3) (μ1 := zup (zup (zup (zup μ_2 3 0 4) 3 1 11) 3 2 12) 3 3 13) rfl dX1_init_42 (fun H locs X => ?_)
  refine lv_aload_n C.1 C.2.1 dX1_init_45 rfl (lv_at hl 0 rfl) ?_
  refine z_bipush C dX1_init_46 rfl ?_
  refine y_newI C X hA (atype := .int) 1 (Or.inl rfl) rfl rfl kw_123 rfl 14 (G.nm (hn 14 (by decide)).1 (by decide)) (G.nf (hn 14 (by decide)).2.1 (by decide)) rfl (zz_up (by decide) (zz_up (by decide) (zz_up (by decide) (zz_up (by decide) (fun i => by rw [hF 14 (by decide)]; exact (hn 14 (by decide)).2.2 i))))) (by decide) (by decide) (Nat.le_of_ble_eq_true rfl) (Nat.le_of_ble_eq_true rfl) dX1_init_48 (fun w6 H g C X => ?_)
  refine W.st (st' := [zR w6 14, zR w6 3]) (cons2 rfl (cons2 (g.ref (k := 3) (G.old hk)) rfl)) ?_
  have hl : lv_has ls 1 [(0, zR w6 3)] := Eq.mp (congrArg (fun v => lv_has ls 1 [(0, v)]) (g.ref (k := 3) (G.old hk))) hl
  have G : Grw Ω w6 [4, 5, 6, 7, 8, 9, 10, 11, 12, 13, 14] [4, 5, 6, 7, 8, 9, 10] := G.tr g rfl rfl
  refine z_putFR C X (v := 14) (k := 3) zk1 (G.old hk) rfl 4 (by decide) kw_131 rfl hin rfl rfl (fun _ => rfl) (fun _ => rfl) rfl (by decide) (G.mem (by decide)) (G.nf hkf (by decide)) (i := 4) (μ1 := zup (zup (zup (zup (zup μ_2 3 0 4) 3 1 11) 3 2 12) 3 3 13) 3 4 14) rfl dX1_init_50 (fun H locs X => ?_)
  refine lv_aload_n C.1 C.2.1 dX1_init_53 rfl (lv_at hl 0 rfl) ?_
  refine z_bipush C dX1_init_54 rfl ?_
  refine y_newI C X hA (atype := .int) 1 (Or.inl rfl) rfl rfl kw_123 rfl 15 (G.nm (hn 15 (by decide)).1 (by decide)) (G.nf (hn 15 (by decide)).2.1 (by decide)) rfl (zz_up (by decide) (zz_up (by decide) (zz_up (by decide) (zz_up (by decide) (zz_up (by decide) (fun i => by rw [hF 15 (by decide)]; exact (hn 15 (by decide)).2.2 i)))))) (by decide) (by decide) (Nat.le_of_ble_eq_true rfl) (Nat.le_of_ble_eq_true rfl) dX1_init_56 (fun w7 H g C X => ?_)
  refine W.st (st' := [zR w7 15, zR w7 3]) (cons2 rfl (cons2 (g.ref (k := 3) (G.old hk)) rfl)) ?_
  have hl : lv_has ls 1 [(0, zR w7 3)] := Eq.mp (congrArg (fun v => lv_has ls 1 [(0, v)]) (g.ref (k := 3) (G.old hk))) hl
  have G : Grw Ω w7 [4, 5, 6, 7, 8, 9, 10, 11, 12, 13, 14, 15] [4, 5, 6, 7, 8, 9, 10] := G.tr g rfl rfl
  refine z_putFR C X (v := 15) (k := 3) zk1 (G.old hk) rfl 5 (by decide) kw_132 rfl hin rfl rfl (fun _ => rfl) (fun _ => rfl) rfl (by decide) (G.mem (by decide)) (G.nf hkf (by decide)) (i := 5) (μ1 := zup (zup (zup (zup (zup (zup μ_2 3 0 4) 3 1 11) 3 2 12) 3 3 13) 3 4 14) 3 5 15) rfl dX1_init_58 (fun H locs X => ?_)
  refine lv_aload_n C.1 C.2.1 dX1_init_61 rfl (lv_at hl 0 rfl) ?_
  refine z_iconst C dX1_init_62 ?_
  refine z_putI C X (v := (-1)) (k := 3) zk1 (G.old hk) rfl 6 (by decide) kw_133 rfl rfl rfl (i := 6) (μ1 := zup (zup (zup (zup (zup (zup (zup μ_2 3 0 4) 3 1 11) 3 2 12) 3 3 13) 3 4 14) 3 5 15) 3 6 (-1)) rfl ⟨by decide, by decide⟩ rfl dX1_init_63 (fun H locs X => ?_)
  obtain ⟨wf, g, C, X⟩ := y_fin (cm := [3, 11, 12, 13, 14, 15]) C X (fun k hkm i i0 h9 hq => by
    simp only [List.mem_cons, List.not_mem_nil, or_false] at hkm
    rcases hkm with rfl | rfl | rfl | rfl | rfl | rfl
    · obtain ⟨n, rfl⟩ := Int.eq_ofNat_of_zero_le i0
      match n, hq with
      | 0, _ => rfl
      | 1, _ => rfl
      | 2, _ => rfl
      | 3, _ => rfl
      | 4, _ => rfl
      | 5, _ => rfl
      | 6, hq => exact absurd hq (by decide)
      | 7, hq => exact absurd hq (by decide)
      | 8, hq => exact absurd hq (by decide)
      | n + 9, hq => exact absurd (show (0 : Nat) = 3 from hq) (by decide)
    · exact absurd h9 (by decide)
    · exact absurd h9 (by decide)
    · exact absurd h9 (by decide)
    · exact absurd h9 (by decide)
    · exact absurd h9 (by decide))
  have G : Grw Ω wf [4, 5, 6, 7, 8, 9, 10, 11, 12, 13, 14, 15] [4, 5, 6, 7, 8, 9, 10, 3, 11, 12, 13, 14, 15] := G.tr g rfl rfl
  exact rt (ad := wf.2.2.2) G.2.2.2 (zX_eq G.eq X) (Nat.le_of_ble_eq_true rfl) (Nat.le_of_ble_eq_true rfl) dX1_init_66
