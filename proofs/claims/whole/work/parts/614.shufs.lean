/-! the constructor of Shuffles, at each place -/
set_option maxHeartbeats 4000000 in
set_option maxRecDepth 100000 in
theorem I_X4_74 {l : Launch} {Ω : zO} (μ : zMem) (sz : Nat) (hk : (74 : Int) ∈ Ω.2.2.1.1) (hkf : (74 : Int) ∉ Ω.2.2.1.2) (hn : ∀ j ∈ ([75, 76, 77] : List Int), j ∉ Ω.2.2.1.1 ∧ j ∉ Ω.2.2.1.2 ∧ ∀ i, μ j i = 0) {μ' : zMem} (h1 : f_X4_init 74 2 (zup (zup (zup (zup (zup μ 74 0 2) 74 1 2) 74 2 75) 74 3 76) 74 4 77) = some μ') : XCon l yX4_init cX4_init 5 3 Ω [zR Ω 74, zI 2] μ [75, 76, 77] [74, 75, 76, 77] μ' sz 3 10 := by
  refine XCon.of (by decide) rfl (Nat.le_of_ble_eq_true rfl) ?_
  intro p e s m args below meth c ls A Q C hin hA X hl rt
  have C : zC p s m args c cX4_init RX4 5 Ω := C
  have hl : lv_has ls 5 [(0, zR Ω 74), (1, zI 2)] := hl
  have G := Grw.rf Ω
  refine lv_aload_n C.1 C.2.1 dX4_init_0 rfl (lv_at hl 0 rfl) ?_
  refine z_objI C kw_347 hl.1 dX4_init_1 ⟨Nat.le_of_ble_eq_true rfl, Nat.le_of_ble_eq_true rfl⟩ (Nat.le_of_ble_eq_true rfl) ?_
  refine lv_aload_n C.1 C.2.1 dX4_init_4 rfl (lv_at hl 0 rfl) ?_
  refine lv_iload_n C.1 C.2.1 dX4_init_5 rfl (lv_at hl 1 rfl) ?_
  refine z_putFI C X (v := 2) (k := 74) zk4 (G.old hk) rfl 0 (by decide) kw_369 rfl hin rfl rfl rfl (i := 0) (μ1 := zup μ 74 0 2) rfl ⟨by decide, by decide⟩ rfl dX4_init_6 (fun H locs X => ?_)
  refine lv_aload_n C.1 C.2.1 dX4_init_9 rfl (lv_at hl 0 rfl) ?_
  refine lv_iload_n C.1 C.2.1 dX4_init_10 rfl (lv_at hl 1 rfl) ?_
  refine z_callS1G C X (As := [zI 2]) (M_X4_factorial (zup μ 74 0 2) 2 ⟨by decide, by decide⟩ (show f_X4_factorial 2 = some 2 by decide +kernel)) zc_X4_factorial kw_348 ⟨Nat.le_of_ble_eq_true rfl, Nat.le_of_ble_eq_true rfl⟩ rfl hl.1 rfl (Nat.le_of_ble_eq_true rfl) dX4_init_11 ⟨Nat.le_of_ble_eq_true rfl, Nat.le_of_ble_eq_true rfl⟩ (fun H locs _ X => ?_)
  refine z_putFI C X (v := 2) (k := 74) zk4 (G.old hk) rfl 1 (by decide) kw_373 rfl hin rfl rfl rfl (i := 1) (μ1 := zup (zup μ 74 0 2) 74 1 2) rfl ⟨by decide, by decide⟩ rfl dX4_init_14 (fun H locs X => ?_)
  refine lv_aload_n C.1 C.2.1 dX4_init_17 rfl (lv_at hl 0 rfl) ?_
  refine lv_aload_n C.1 C.2.1 dX4_init_18 rfl (lv_at hl 0 rfl) ?_
  refine z_get C X (k := 74) zk4 (G.old hk) rfl 1 (by decide) kw_373 (zI 2) rfl dX4_init_19 ?_
  refine lv_iload_n C.1 C.2.1 dX4_init_22 rfl (lv_at hl 1 rfl) ?_
  refine z_imul C dX4_init_23 ?_
  refine W.st (st' := [zI 4, zR Ω 74]) (cons2 (congrArg (fun x => zI x) (by decide)) rfl) ?_
  refine y_newI C X hA (atype := .int) 1 (Or.inl rfl) rfl rfl kw_123 rfl 75 (G.nm (hn 75 (by decide)).1 (by decide)) (G.nf (hn 75 (by decide)).2.1 (by decide)) rfl (zz_up (by decide) (zz_up (by decide) (hn 75 (by decide)).2.2)) (by decide) (by decide) (Nat.le_of_ble_eq_true rfl) (Nat.le_of_ble_eq_true rfl) dX4_init_24 (fun w1 H g C X => ?_)
  refine W.st (st' := [zR w1 75, zR w1 74]) (cons2 rfl (cons2 (g.ref (k := 74) (G.old hk)) rfl)) ?_
  have hl : lv_has ls 5 [(0, zR w1 74), (1, zI 2)] := Eq.mp (congrArg (fun v => lv_has ls 5 [(0, v), (1, zI 2)]) (g.ref (k := 74) (G.old hk))) hl
  have G : Grw Ω w1 [75] [] := G.tr g rfl rfl
  refine z_putFR C X (v := 75) (k := 74) zk4 (G.old hk) rfl 2 (by decide) kw_375 rfl hin rfl rfl (fun _ => rfl) (fun _ => rfl) rfl (by decide) (G.mem (by decide)) (G.nf hkf (by decide)) (i := 2) (μ1 := zup (zup (zup μ 74 0 2) 74 1 2) 74 2 75) rfl dX4_init_26 (fun H locs X => ?_)
  refine lv_aload_n C.1 C.2.1 dX4_init_29 rfl (lv_at hl 0 rfl) ?_
  refine lv_aload_n C.1 C.2.1 dX4_init_30 rfl (lv_at hl 0 rfl) ?_
  refine z_get C X (k := 74) zk4 (G.old hk) rfl 1 (by decide) kw_373 (zI 2) rfl dX4_init_31 ?_
  refine lv_aload_n C.1 C.2.1 dX4_init_34 rfl (lv_at hl 0 rfl) ?_
  refine z_get C X (k := 74) zk4 (G.old hk) rfl 1 (by decide) kw_373 (zI 2) rfl dX4_init_35 ?_
  refine z_imul C dX4_init_38 ?_
  refine W.st (st' := [zI 4, zR w1 74]) (cons2 (congrArg (fun x => zI x) (by decide)) rfl) ?_
  refine y_newI C X hA (atype := .int) 1 (Or.inl rfl) rfl rfl kw_123 rfl 76 (G.nm (hn 76 (by decide)).1 (by decide)) (G.nf (hn 76 (by decide)).2.1 (by decide)) rfl (zz_up (by decide) (zz_up (by decide) (zz_up (by decide) (hn 76 (by decide)).2.2))) (by decide) (by decide) (Nat.le_of_ble_eq_true rfl) (Nat.le_of_ble_eq_true rfl) dX4_init_39 (fun w2 H g C X => ?_)
  refine W.st (st' := [zR w2 76, zR w2 74]) (cons2 rfl (cons2 (g.ref (k := 74) (G.old hk)) rfl)) ?_
  have hl : lv_has ls 5 [(0, zR w2 74), (1, zI 2)] := Eq.mp (congrArg (fun v => lv_has ls 5 [(0, v), (1, zI 2)]) (g.ref (k := 74) (G.old hk))) hl
  have G : Grw Ω w2 [75, 76] [] := G.tr g rfl rfl
  refine z_putFR C X (v := 76) (k := 74) zk4 (G.old hk) rfl 3 (by decide) kw_376 rfl hin rfl rfl (fun _ => rfl) (fun _ => rfl) rfl (by decide) (G.mem (by decide)) (G.nf hkf (by decide)) (i := 3) (μ1 := zup (zup (zup (zup μ 74 0 2) 74 1 2) 74 2 75) 74 3 76) rfl dX4_init_41 (fun H locs X => ?_)
  refine lv_aload_n C.1 C.2.1 dX4_init_44 rfl (lv_at hl 0 rfl) ?_
  refine lv_aload_n C.1 C.2.1 dX4_init_45 rfl (lv_at hl 0 rfl) ?_
  refine z_get C X (k := 74) zk4 (G.old hk) rfl 1 (by decide) kw_373 (zI 2) rfl dX4_init_46 ?_
  refine y_newI C X hA (atype := .int) 1 (Or.inl rfl) rfl rfl kw_123 rfl 77 (G.nm (hn 77 (by decide)).1 (by decide)) (G.nf (hn 77 (by decide)).2.1 (by decide)) rfl (zz_up (by decide) (zz_up (by decide) (zz_up (by decide) (zz_up (by decide) (hn 77 (by decide)).2.2)))) (by decide) (by decide) (Nat.le_of_ble_eq_true rfl) (Nat.le_of_ble_eq_true rfl) dX4_init_49 (fun w3 H g C X => ?_)
  refine W.st (st' := [zR w3 77, zR w3 74]) (cons2 rfl (cons2 (g.ref (k := 74) (G.old hk)) rfl)) ?_
  have hl : lv_has ls 5 [(0, zR w3 74), (1, zI 2)] := Eq.mp (congrArg (fun v => lv_has ls 5 [(0, v), (1, zI 2)]) (g.ref (k := 74) (G.old hk))) hl
  have G : Grw Ω w3 [75, 76, 77] [] := G.tr g rfl rfl
  refine z_putFR C X (v := 77) (k := 74) zk4 (G.old hk) rfl 4 (by decide) kw_377 rfl hin rfl rfl (fun _ => rfl) (fun _ => rfl) rfl (by decide) (G.mem (by decide)) (G.nf hkf (by decide)) (i := 4) (μ1 := zup (zup (zup (zup (zup μ 74 0 2) 74 1 2) 74 2 75) 74 3 76) 74 4 77) rfl dX4_init_51 (fun H locs X => ?_)
  obtain ⟨wf, g, C, X⟩ := y_fin (cm := [74, 75, 76, 77]) C X (fun k hkm i i0 h9 hq => by
    simp only [List.mem_cons, List.not_mem_nil, or_false] at hkm
    rcases hkm with rfl | rfl | rfl | rfl
    · obtain ⟨n, rfl⟩ := Int.eq_ofNat_of_zero_le i0
      match n, hq with
      | 0, hq => exact absurd hq (by decide)
      | 1, hq => exact absurd hq (by decide)
      | 2, _ => rfl
      | 3, _ => rfl
      | 4, _ => rfl
      | n + 5, hq => exact absurd (show (0 : Nat) = 3 from hq) (by decide)
    · exact absurd h9 (by decide)
    · exact absurd h9 (by decide)
    · exact absurd h9 (by decide))
  have hl : lv_has ls 5 [(0, zR wf 74), (1, zI 2)] := Eq.mp (congrArg (fun v => lv_has ls 5 [(0, v), (1, zI 2)]) (g.ref (k := 74) (G.old hk))) hl
  have G : Grw Ω wf [75, 76, 77] [74, 75, 76, 77] := G.tr g rfl rfl
  have zo : zob wf.2.2.1 4 74 := ⟨rfl, fun j j0 j1 => by
    have j1 : j < 4 := j1
    have hj : j = 0 ∨ j = 1 ∨ j = 2 ∨ j = 3 := by omega
    rcases hj with rfl | rfl | rfl | rfl
    · exact G.old hk
    · exact G.mem (by decide)
    · exact G.mem (by decide)
    · exact G.mem (by decide), G.fin (by decide)⟩
  exact F_X4_init (zup (zup (zup (zup (zup μ 74 0 2) 74 1 2) 74 2 75) 74 3 76) 74 4 77) 74 2 zo ⟨by decide, by decide⟩ h1 C ⟨Nat.le_of_ble_eq_true rfl, Nat.le_of_ble_eq_true rfl⟩ (fun X hd => rt (ad := wf.2.2.2) G.2.2.2 (zX_eq G.eq X) (Nat.le_of_ble_eq_true rfl) (Nat.le_of_ble_eq_true rfl) hd) X hl
set_option maxHeartbeats 4000000 in
set_option maxRecDepth 100000 in
theorem I_X4_78 {l : Launch} {Ω : zO} (μ : zMem) (sz : Nat) (hk : (78 : Int) ∈ Ω.2.2.1.1) (hkf : (78 : Int) ∉ Ω.2.2.1.2) (hn : ∀ j ∈ ([79, 80, 81] : List Int), j ∉ Ω.2.2.1.1 ∧ j ∉ Ω.2.2.1.2 ∧ ∀ i, μ j i = 0) {μ' : zMem} (h1 : f_X4_init 78 3 (zup (zup (zup (zup (zup μ 78 0 3) 78 1 6) 78 2 79) 78 3 80) 78 4 81) = some μ') : XCon l yX4_init cX4_init 5 3 Ω [zR Ω 78, zI 3] μ [79, 80, 81] [78, 79, 80, 81] μ' sz 3 60 := by
  refine XCon.of (by decide) rfl (Nat.le_of_ble_eq_true rfl) ?_
  intro p e s m args below meth c ls A Q C hin hA X hl rt
  have C : zC p s m args c cX4_init RX4 5 Ω := C
  have hl : lv_has ls 5 [(0, zR Ω 78), (1, zI 3)] := hl
  have G := Grw.rf Ω
  refine lv_aload_n C.1 C.2.1 dX4_init_0 rfl (lv_at hl 0 rfl) ?_
  refine z_objI C kw_347 hl.1 dX4_init_1 ⟨Nat.le_of_ble_eq_true rfl, Nat.le_of_ble_eq_true rfl⟩ (Nat.le_of_ble_eq_true rfl) ?_
  refine lv_aload_n C.1 C.2.1 dX4_init_4 rfl (lv_at hl 0 rfl) ?_
  refine lv_iload_n C.1 C.2.1 dX4_init_5 rfl (lv_at hl 1 rfl) ?_
  refine z_putFI C X (v := 3) (k := 78) zk4 (G.old hk) rfl 0 (by decide) kw_369 rfl hin rfl rfl rfl (i := 0) (μ1 := zup μ 78 0 3) rfl ⟨by decide, by decide⟩ rfl dX4_init_6 (fun H locs X => ?_)
  refine lv_aload_n C.1 C.2.1 dX4_init_9 rfl (lv_at hl 0 rfl) ?_
  refine lv_iload_n C.1 C.2.1 dX4_init_10 rfl (lv_at hl 1 rfl) ?_
  refine z_callS1G C X (As := [zI 3]) (M_X4_factorial (zup μ 78 0 3) 3 ⟨by decide, by decide⟩ (show f_X4_factorial 3 = some 6 by decide +kernel)) zc_X4_factorial kw_348 ⟨Nat.le_of_ble_eq_true rfl, Nat.le_of_ble_eq_true rfl⟩ rfl hl.1 rfl (Nat.le_of_ble_eq_true rfl) dX4_init_11 ⟨Nat.le_of_ble_eq_true rfl, Nat.le_of_ble_eq_true rfl⟩ (fun H locs _ X => ?_)
  refine z_putFI C X (v := 6) (k := 78) zk4 (G.old hk) rfl 1 (by decide) kw_373 rfl hin rfl rfl rfl (i := 1) (μ1 := zup (zup μ 78 0 3) 78 1 6) rfl ⟨by decide, by decide⟩ rfl dX4_init_14 (fun H locs X => ?_)
  refine lv_aload_n C.1 C.2.1 dX4_init_17 rfl (lv_at hl 0 rfl) ?_
  refine lv_aload_n C.1 C.2.1 dX4_init_18 rfl (lv_at hl 0 rfl) ?_
  refine z_get C X (k := 78) zk4 (G.old hk) rfl 1 (by decide) kw_373 (zI 6) rfl dX4_init_19 ?_
  refine lv_iload_n C.1 C.2.1 dX4_init_22 rfl (lv_at hl 1 rfl) ?_
  refine z_imul C dX4_init_23 ?_
  refine W.st (st' := [zI 18, zR Ω 78]) (cons2 (congrArg (fun x => zI x) (by decide)) rfl) ?_
  refine y_newI C X hA (atype := .int) 1 (Or.inl rfl) rfl rfl kw_123 rfl 79 (G.nm (hn 79 (by decide)).1 (by decide)) (G.nf (hn 79 (by decide)).2.1 (by decide)) rfl (zz_up (by decide) (zz_up (by decide) (hn 79 (by decide)).2.2)) (by decide) (by decide) (Nat.le_of_ble_eq_true rfl) (Nat.le_of_ble_eq_true rfl) dX4_init_24 (fun w1 H g C X => ?_)
  refine W.st (st' := [zR w1 79, zR w1 78]) (cons2 rfl (cons2 (g.ref (k := 78) (G.old hk)) rfl)) ?_
  have hl : lv_has ls 5 [(0, zR w1 78), (1, zI 3)] := Eq.mp (congrArg (fun v => lv_has ls 5 [(0, v), (1, zI 3)]) (g.ref (k := 78) (G.old hk))) hl
  have G : Grw Ω w1 [79] [] := G.tr g rfl rfl
  refine z_putFR C X (v := 79) (k := 78) zk4 (G.old hk) rfl 2 (by decide) kw_375 rfl hin rfl rfl (fun _ => rfl) (fun _ => rfl) rfl (by decide) (G.mem (by decide)) (G.nf hkf (by decide)) (i := 2) (μ1 := zup (zup (zup μ 78 0 3) 78 1 6) 78 2 79) rfl dX4_init_26 (fun H locs X => ?_)
  refine lv_aload_n C.1 C.2.1 dX4_init_29 rfl (lv_at hl 0 rfl) ?_
  refine lv_aload_n C.1 C.2.1 dX4_init_30 rfl (lv_at hl 0 rfl) ?_
  refine z_get C X (k := 78) zk4 (G.old hk) rfl 1 (by decide) kw_373 (zI 6) rfl dX4_init_31 ?_
  refine lv_aload_n C.1 C.2.1 dX4_init_34 rfl (lv_at hl 0 rfl) ?_
  refine z_get C X (k := 78) zk4 (G.old hk) rfl 1 (by decide) kw_373 (zI 6) rfl dX4_init_35 ?_
  refine z_imul C dX4_init_38 ?_
  refine W.st (st' := [zI 36, zR w1 78]) (cons2 (congrArg (fun x => zI x) (by decide)) rfl) ?_
  refine y_newI C X hA (atype := .int) 1 (Or.inl rfl) rfl rfl kw_123 rfl 80 (G.nm (hn 80 (by decide)).1 (by decide)) (G.nf (hn 80 (by decide)).2.1 (by decide)) rfl (zz_up (by decide) (zz_up (by decide) (zz_up (by decide) (hn 80 (by decide)).2.2))) (by decide) (by decide) (Nat.le_of_ble_eq_true rfl) (Nat.le_of_ble_eq_true rfl) dX4_init_39 (fun w2 H g C X => ?_)
  refine W.st (st' := [zR w2 80, zR w2 78]) (cons2 rfl (cons2 (g.ref (k := 78) (G.old hk)) rfl)) ?_
  have hl : lv_has ls 5 [(0, zR w2 78), (1, zI 3)] := Eq.mp (congrArg (fun v => lv_has ls 5 [(0, v), (1, zI 3)]) (g.ref (k := 78) (G.old hk))) hl
  have G : Grw Ω w2 [79, 80] [] := G.tr g rfl rfl
  refine z_putFR C X (v := 80) (k := 78) zk4 (G.old hk) rfl 3 (by decide) kw_376 rfl hin rfl rfl (fun _ => rfl) (fun _ => rfl) rfl (by decide) (G.mem (by decide)) (G.nf hkf (by decide)) (i := 3) (μ1 := zup (zup (zup (zup μ 78 0 3) 78 1 6) 78 2 79) 78 3 80) rfl dX4_init_41 (fun H locs X => ?_)
  refine lv_aload_n C.1 C.2.1 dX4_init_44 rfl (lv_at hl 0 rfl) ?_
  refine lv_aload_n C.1 C.2.1 dX4_init_45 rfl (lv_at hl 0 rfl) ?_
  refine z_get C X (k := 78) zk4 (G.old hk) rfl 1 (by decide) kw_373 (zI 6) rfl dX4_init_46 ?_
  refine y_newI C X hA (atype := .int) 1 (Or.inl rfl) rfl rfl kw_123 rfl 81 (G.nm (hn 81 (by decide)).1 (by decide)) (G.nf (hn 81 (by decide)).2.1 (by decide)) rfl (zz_up (by decide) (zz_up (by decide) (zz_up (by decide) (zz_up (by decide) (hn 81 (by decide)).2.2)))) (by decide) (by decide) (Nat.le_of_ble_eq_true rfl) (Nat.le_of_ble_eq_true rfl) dX4_init_49 (fun w3 H g C X => ?_)
  refine W.st (st' := [zR w3 81, zR w3 78]) (cons2 rfl (cons2 (g.ref (k := 78) (G.old hk)) rfl)) ?_
  have hl : lv_has ls 5 [(0, zR w3 78), (1, zI 3)] := Eq.mp (congrArg (fun v => lv_has ls 5 [(0, v), (1, zI 3)]) (g.ref (k := 78) (G.old hk))) hl
  have G : Grw Ω w3 [79, 80, 81] [] := G.tr g rfl rfl
  refine z_putFR C X (v := 81) (k := 78) zk4 (G.old hk) rfl 4 (by decide) kw_377 rfl hin rfl rfl (fun _ => rfl) (fun _ => rfl) rfl (by decide) (G.mem (by decide)) (G.nf hkf (by decide)) (i := 4) (μ1 := zup (zup (zup (zup (zup μ 78 0 3) 78 1 6) 78 2 79) 78 3 80) 78 4 81) rfl dX4_init_51 (fun H locs X => ?_)
  obtain ⟨wf, g, C, X⟩ := y_fin (cm := [78, 79, 80, 81]) C X (fun k hkm i i0 h9 hq => by
    simp only [List.mem_cons, List.not_mem_nil, or_false] at hkm
    rcases hkm with rfl | rfl | rfl | rfl
    · obtain ⟨n, rfl⟩ := Int.eq_ofNat_of_zero_le i0
      match n, hq with
      | 0, hq => exact absurd hq (by decide)
      | 1, hq => exact absurd hq (by decide)
      | 2, _ => rfl
      | 3, _ => rfl
      | 4, _ => rfl
      | n + 5, hq => exact absurd (show (0 : Nat) = 3 from hq) (by decide)
    · exact absurd h9 (by decide)
    · exact absurd h9 (by decide)
    · exact absurd h9 (by decide))
  have hl : lv_has ls 5 [(0, zR wf 78), (1, zI 3)] := Eq.mp (congrArg (fun v => lv_has ls 5 [(0, v), (1, zI 3)]) (g.ref (k := 78) (G.old hk))) hl
  have G : Grw Ω wf [79, 80, 81] [78, 79, 80, 81] := G.tr g rfl rfl
  have zo : zob wf.2.2.1 4 78 := ⟨rfl, fun j j0 j1 => by
    have j1 : j < 4 := j1
    have hj : j = 0 ∨ j = 1 ∨ j = 2 ∨ j = 3 := by omega
    rcases hj with rfl | rfl | rfl | rfl
    · exact G.old hk
    · exact G.mem (by decide)
    · exact G.mem (by decide)
    · exact G.mem (by decide), G.fin (by decide)⟩
  exact F_X4_init (zup (zup (zup (zup (zup μ 78 0 3) 78 1 6) 78 2 79) 78 3 80) 78 4 81) 78 3 zo ⟨by decide, by decide⟩ h1 C ⟨Nat.le_of_ble_eq_true rfl, Nat.le_of_ble_eq_true rfl⟩ (fun X hd => rt (ad := wf.2.2.2) G.2.2.2 (zX_eq G.eq X) (Nat.le_of_ble_eq_true rfl) (Nat.le_of_ble_eq_true rfl) hd) X hl
set_option maxHeartbeats 4000000 in
set_option maxRecDepth 100000 in
theorem I_X4_82 {l : Launch} {Ω : zO} (μ : zMem) (sz : Nat) (hk : (82 : Int) ∈ Ω.2.2.1.1) (hkf : (82 : Int) ∉ Ω.2.2.1.2) (hn : ∀ j ∈ ([83, 84, 85] : List Int), j ∉ Ω.2.2.1.1 ∧ j ∉ Ω.2.2.1.2 ∧ ∀ i, μ j i = 0) {μ' : zMem} (h1 : f_X4_init 82 4 (zup (zup (zup (zup (zup μ 82 0 4) 82 1 24) 82 2 83) 82 3 84) 82 4 85) = some μ') : XCon l yX4_init cX4_init 5 3 Ω [zR Ω 82, zI 4] μ [83, 84, 85] [82, 83, 84, 85] μ' sz 3 696 := by
  refine XCon.of (by decide) rfl (Nat.le_of_ble_eq_true rfl) ?_
  intro p e s m args below meth c ls A Q C hin hA X hl rt
  have C : zC p s m args c cX4_init RX4 5 Ω := C
  have hl : lv_has ls 5 [(0, zR Ω 82), (1, zI 4)] := hl
  have G := Grw.rf Ω
  refine lv_aload_n C.1 C.2.1 dX4_init_0 rfl (lv_at hl 0 rfl) ?_
  refine z_objI C kw_347 hl.1 dX4_init_1 ⟨Nat.le_of_ble_eq_true rfl, Nat.le_of_ble_eq_true rfl⟩ (Nat.le_of_ble_eq_true rfl) ?_
  refine lv_aload_n C.1 C.2.1 dX4_init_4 rfl (lv_at hl 0 rfl) ?_
  refine lv_iload_n C.1 C.2.1 dX4_init_5 rfl (lv_at hl 1 rfl) ?_
  refine z_putFI C X (v := 4) (k := 82) zk4 (G.old hk) rfl 0 (by decide) kw_369 rfl hin rfl rfl rfl (i := 0) (μ1 := zup μ 82 0 4) rfl ⟨by decide, by decide⟩ rfl dX4_init_6 (fun H locs X => ?_)
  refine lv_aload_n C.1 C.2.1 dX4_init_9 rfl (lv_at hl 0 rfl) ?_
  refine lv_iload_n C.1 C.2.1 dX4_init_10 rfl (lv_at hl 1 rfl) ?_
  refine z_callS1G C X (As := [zI 4]) (M_X4_factorial (zup μ 82 0 4) 4 ⟨by decide, by decide⟩ (show f_X4_factorial 4 = some 24 by decide +kernel)) zc_X4_factorial kw_348 ⟨Nat.le_of_ble_eq_true rfl, Nat.le_of_ble_eq_true rfl⟩ rfl hl.1 rfl (Nat.le_of_ble_eq_true rfl) dX4_init_11 ⟨Nat.le_of_ble_eq_true rfl, Nat.le_of_ble_eq_true rfl⟩ (fun H locs _ X => ?_)
  refine z_putFI C X (v := 24) (k := 82) zk4 (G.old hk) rfl 1 (by decide) kw_373 rfl hin rfl rfl rfl (i := 1) (μ1 := zup (zup μ 82 0 4) 82 1 24) rfl ⟨by decide, by decide⟩ rfl dX4_init_14 (fun H locs X => ?_)
  refine lv_aload_n C.1 C.2.1 dX4_init_17 rfl (lv_at hl 0 rfl) ?_
  refine lv_aload_n C.1 C.2.1 dX4_init_18 rfl (lv_at hl 0 rfl) ?_
  refine z_get C X (k := 82) zk4 (G.old hk) rfl 1 (by decide) kw_373 (zI 24) rfl dX4_init_19 ?_
  refine lv_iload_n C.1 C.2.1 dX4_init_22 rfl (lv_at hl 1 rfl) ?_
  refine z_imul C dX4_init_23 ?_
  refine W.st (st' := [zI 96, zR Ω 82]) (cons2 (congrArg (fun x => zI x) (by decide)) rfl) ?_
  refine y_newI C X hA (atype := .int) 1 (Or.inl rfl) rfl rfl kw_123 rfl 83 (G.nm (hn 83 (by decide)).1 (by decide)) (G.nf (hn 83 (by decide)).2.1 (by decide)) rfl (zz_up (by decide) (zz_up (by decide) (hn 83 (by decide)).2.2)) (by decide) (by decide) (Nat.le_of_ble_eq_true rfl) (Nat.le_of_ble_eq_true rfl) dX4_init_24 (fun w1 H g C X => ?_)
  refine W.st (st' := [zR w1 83, zR w1 82]) (cons2 rfl (cons2 (g.ref (k := 82) (G.old hk)) rfl)) ?_
  have hl : lv_has ls 5 [(0, zR w1 82), (1, zI 4)] := Eq.mp (congrArg (fun v => lv_has ls 5 [(0, v), (1, zI 4)]) (g.ref (k := 82) (G.old hk))) hl
  have G : Grw Ω w1 [83] [] := G.tr g rfl rfl
  refine z_putFR C X (v := 83) (k := 82) zk4 (G.old hk) rfl 2 (by decide) kw_375 rfl hin rfl rfl (fun _ => rfl) (fun _ => rfl) rfl (by decide) (G.mem (by decide)) (G.nf hkf (by decide)) (i := 2) (μ1 := zup (zup (zup μ 82 0 4) 82 1 24) 82 2 83) rfl dX4_init_26 (fun H locs X => ?_)
  refine lv_aload_n C.1 C.2.1 dX4_init_29 rfl (lv_at hl 0 rfl) ?_
  refine lv_aload_n C.1 C.2.1 dX4_init_30 rfl (lv_at hl 0 rfl) ?_
  refine z_get C X (k := 82) zk4 (G.old hk) rfl 1 (by decide) kw_373 (zI 24) rfl dX4_init_31 ?_
  refine lv_aload_n C.1 C.2.1 dX4_init_34 rfl (lv_at hl 0 rfl) ?_
  refine z_get C X (k := 82) zk4 (G.old hk) rfl 1 (by decide) kw_373 (zI 24) rfl dX4_init_35 ?_
  refine z_imul C dX4_init_38 ?_
  refine W.st (st' := [zI 576, zR w1 82]) (cons2 (congrArg (fun x => zI x) (by decide)) rfl) ?_
  refine y_newI C X hA (atype := .int) 1 (Or.inl rfl) rfl rfl kw_123 rfl 84 (G.nm (hn 84 (by decide)).1 (by decide)) (G.nf (hn 84 (by decide)).2.1 (by decide)) rfl (zz_up (by decide) (zz_up (by decide) (zz_up (by decide) (hn 84 (by decide)).2.2))) (by decide) (by decide) (Nat.le_of_ble_eq_true rfl) (Nat.le_of_ble_eq_true rfl) dX4_init_39 (fun w2 H g C X => ?_)
  refine W.st (st' := [zR w2 84, zR w2 82]) (cons2 rfl (cons2 (g.ref (k := 82) (G.old hk)) rfl)) ?_
  have hl : lv_has ls 5 [(0, zR w2 82), (1, zI 4)] := Eq.mp (congrArg (fun v => lv_has ls 5 [(0, v), (1, zI 4)]) (g.ref (k := 82) (G.old hk))) hl
  have G : Grw Ω w2 [83, 84] [] := G.tr g rfl rfl
  refine z_putFR C X (v := 84) (k := 82) zk4 (G.old hk) rfl 3 (by decide) kw_376 rfl hin rfl rfl (fun _ => rfl) (fun _ => rfl) rfl (by decide) (G.mem (by decide)) (G.nf hkf (by decide)) (i := 3) (μ1 := zup (zup (zup (zup μ 82 0 4) 82 1 24) 82 2 83) 82 3 84) rfl dX4_init_41 (fun H locs X => ?_)
  refine lv_aload_n C.1 C.2.1 dX4_init_44 rfl (lv_at hl 0 rfl) ?_
  refine lv_aload_n C.1 C.2.1 dX4_init_45 rfl (lv_at hl 0 rfl) ?_
  refine z_get C X (k := 82) zk4 (G.old hk) rfl 1 (by decide) kw_373 (zI 24) rfl dX4_init_46 ?_
  refine y_newI C X hA (atype := .int) 1 (Or.inl rfl) rfl rfl kw_123 rfl 85 (G.nm (hn 85 (by decide)).1 (by decide)) (G.nf (hn 85 (by decide)).2.1 (by decide)) rfl (zz_up (by decide) (zz_up (by decide) (zz_up (by decide) (zz_up (by decide) (hn 85 (by decide)).2.2)))) (by decide) (by decide) (Nat.le_of_ble_eq_true rfl) (Nat.le_of_ble_eq_true rfl) dX4_init_49 (fun w3 H g C X => ?_)
  refine W.st (st' := [zR w3 85, zR w3 82]) (cons2 rfl (cons2 (g.ref (k := 82) (G.old hk)) rfl)) ?_
  have hl : lv_has ls 5 [(0, zR w3 82), (1, zI 4)] := Eq.mp (congrArg (fun v => lv_has ls 5 [(0, v), (1, zI 4)]) (g.ref (k := 82) (G.old hk))) hl
  have G : Grw Ω w3 [83, 84, 85] [] := G.tr g rfl rfl
  refine z_putFR C X (v := 85) (k := 82) zk4 (G.old hk) rfl 4 (by decide) kw_377 rfl hin rfl rfl (fun _ => rfl) (fun _ => rfl) rfl (by decide) (G.mem (by decide)) (G.nf hkf (by decide)) (i := 4) (μ1 := zup (zup (zup (zup (zup μ 82 0 4) 82 1 24) 82 2 83) 82 3 84) 82 4 85) rfl dX4_init_51 (fun H locs X => ?_)
  obtain ⟨wf, g, C, X⟩ := y_fin (cm := [82, 83, 84, 85]) C X (fun k hkm i i0 h9 hq => by
    simp only [List.mem_cons, List.not_mem_nil, or_false] at hkm
    rcases hkm with rfl | rfl | rfl | rfl
    · obtain ⟨n, rfl⟩ := Int.eq_ofNat_of_zero_le i0
      match n, hq with
      | 0, hq => exact absurd hq (by decide)
      | 1, hq => exact absurd hq (by decide)
      | 2, _ => rfl
      | 3, _ => rfl
      | 4, _ => rfl
      | n + 5, hq => exact absurd (show (0 : Nat) = 3 from hq) (by decide)
    · exact absurd h9 (by decide)
    · exact absurd h9 (by decide)
    · exact absurd h9 (by decide))
  have hl : lv_has ls 5 [(0, zR wf 82), (1, zI 4)] := Eq.mp (congrArg (fun v => lv_has ls 5 [(0, v), (1, zI 4)]) (g.ref (k := 82) (G.old hk))) hl
  have G : Grw Ω wf [83, 84, 85] [82, 83, 84, 85] := G.tr g rfl rfl
  have zo : zob wf.2.2.1 4 82 := ⟨rfl, fun j j0 j1 => by
    have j1 : j < 4 := j1
    have hj : j = 0 ∨ j = 1 ∨ j = 2 ∨ j = 3 := by omega
    rcases hj with rfl | rfl | rfl | rfl
    · exact G.old hk
    · exact G.mem (by decide)
    · exact G.mem (by decide)
    · exact G.mem (by decide), G.fin (by decide)⟩
  exact F_X4_init (zup (zup (zup (zup (zup μ 82 0 4) 82 1 24) 82 2 83) 82 3 84) 82 4 85) 82 4 zo ⟨by decide, by decide⟩ h1 C ⟨Nat.le_of_ble_eq_true rfl, Nat.le_of_ble_eq_true rfl⟩ (fun X hd => rt (ad := wf.2.2.2) G.2.2.2 (zX_eq G.eq X) (Nat.le_of_ble_eq_true rfl) (Nat.le_of_ble_eq_true rfl) hd) X hl
