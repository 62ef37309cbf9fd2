/-! the reference's constructor -/
set_option maxHeartbeats 4000000 in
set_option maxRecDepth 100000 in
theorem I_X10_101 {l : Launch} {Ω : zO} (μ : zMem) (sz : Nat) (hk : (101 : Int) ∈ Ω.2.2.1.1) (hkf : (101 : Int) ∉ Ω.2.2.1.2) (hn : ∀ j ∈ ([102, 103, 104, 105, 106, 107, 108, 110, 116, 117, 118, 119, 120, 121, 123, 124, 125, 126, 127, 128, 129, 133, 134, 142, 143, 144, 145, 146, 147, 148, 149, 150, 151, 152, 154, 156, 157, 158, 159, 160] : List Int), j ∉ Ω.2.2.1.1 ∧ j ∉ Ω.2.2.1.2 ∧ ∀ i, μ j i = 0) : XCon l yX10_init cX10_init 2 0 Ω [zR Ω 101] μ [102, 103, 104, 105, 106, 107, 108, 110, 116, 117, 118, 119, 120, 121, 123, 124, 125, 126, 127, 128, 129, 133, 134, 142, 143, 144, 145, 146, 147, 148, 149, 150, 151, 152, 154, 156, 157, 158, 159, 160] [101, 102, 103, 104, 105, 106, 107, 108, 110, 116, 117, 118, 119, 120, 121, 123, 124, 125, 126, 127, 128, 129, 133, 134, 142, 143, 144, 145, 146, 147, 148, 149, 150, 151, 152, 154, 156, 157, 158, 159, 160] (zup (zup (zup (zup (zup (zup (zup (zup (zup (zup (zup (zup (zup (zup (zup (zup (zup (zup (zup (zup (zup (zup (zup (zup (zup (zup (zup (zup (zup (zup (zup (zup (zup (zup (zup (zup (zup (zup (zup (zup (zup (zup (zup (zup (zup (zup (zup (zup (zup (zup μ 101 0 102) 101 1 103) 101 2 104) 101 3 105) 101 4 106) 101 5 107) 101 6 108) 101 8 110) 101 14 116) 101 15 117) 101 16 118) 101 17 119) 101 18 120) 101 19 121) 101 21 123) 101 22 124) 101 23 125) 101 24 126) 101 25 127) 101 26 128) 101 27 129) 101 31 133) 101 32 134) 101 40 142) 101 41 143) 101 42 144) 101 43 145) 101 44 146) 101 45 147) 101 46 148) 101 47 149) 101 48 150) 101 49 151) 101 50 152) 101 52 154) 101 54 156) 101 55 157) 101 56 158) 101 57 159) 101 58 160) 102 0 1) 102 1 1) 148 0 (-4)) 158 0 (-4)) 148 1 (-4)) 158 1 (-4)) 148 2 (-4)) 158 2 (-4)) 148 3 (-4)) 158 3 (-4)) sz 40 55335 := by
  refine XCon.of (by decide) rfl (Nat.le_of_ble_eq_true rfl) ?_
  intro p e s m args below meth c ls A Q C hin hA X hl rt
  have C : zC p s m args c cX10_init RX10 2 Ω := C
  have hl : lv_has ls 2 [(0, zR Ω 101)] := hl
  have G := Grw.rf Ω
  refine lv_aload_n C.1 C.2.1 dX10_init_0 rfl (lv_at hl 0 rfl) ?_
  refine z_objI C kw_1030 hl.1 dX10_init_1 ⟨Nat.le_of_ble_eq_true rfl, Nat.le_of_ble_eq_true rfl⟩ (Nat.le_of_ble_eq_true rfl) ?_
  refine lv_aload_n C.1 C.2.1 dX10_init_4 rfl (lv_at hl 0 rfl) ?_
  refine z_iconst C dX10_init_5 ?_
  refine y_newI C X hA (atype := .int) 1 (Or.inl rfl) rfl rfl kw_123 rfl 102 (G.nm (hn 102 (by decide)).1 (by decide)) (G.nf (hn 102 (by decide)).2.1 (by decide)) rfl (hn 102 (by decide)).2.2 (by decide) (by decide) (Nat.le_of_ble_eq_true rfl) (Nat.le_of_ble_eq_true rfl) dX10_init_6 (fun w1 H g C X => ?_)
  refine W.st (st' := [zR w1 102, zR w1 101]) (cons2 rfl (cons2 (g.ref (k := 101) (G.old hk)) rfl)) ?_
  have hl : lv_has ls 2 [(0, zR w1 101)] := Eq.mp (congrArg (fun v => lv_has ls 2 [(0, v)]) (g.ref (k := 101) (G.old hk))) hl
  have G : Grw Ω w1 [102] [] := G.tr g rfl rfl
  refine z_putFR C X (v := 102) (k := 101) zk10 (G.old hk) rfl 0 (by decide) kw_1032 rfl hin rfl rfl (fun _ => rfl) (fun _ => rfl) rfl (by decide) (G.mem (by decide)) (G.nf hkf (by decide)) (i := 0) (μ1 := zup μ 101 0 102) rfl dX10_init_8 (fun H locs X => ?_)
  refine lv_aload_n C.1 C.2.1 dX10_init_11 rfl (lv_at hl 0 rfl) ?_
  refine z_iconst C dX10_init_12 ?_
  refine y_newI C X hA (atype := .int) 1 (Or.inl rfl) rfl rfl kw_123 rfl 103 (G.nm (hn 103 (by decide)).1 (by decide)) (G.nf (hn 103 (by decide)).2.1 (by decide)) rfl (zz_up (by decide) (hn 103 (by decide)).2.2) (by decide) (by decide) (Nat.le_of_ble_eq_true rfl) (Nat.le_of_ble_eq_true rfl) dX10_init_13 (fun w2 H g C X => ?_)
  refine W.st (st' := [zR w2 103, zR w2 101]) (cons2 rfl (cons2 (g.ref (k := 101) (G.old hk)) rfl)) ?_
  have hl : lv_has ls 2 [(0, zR w2 101)] := Eq.mp (congrArg (fun v => lv_has ls 2 [(0, v)]) (g.ref (k := 101) (G.old hk))) hl
  have G : Grw Ω w2 [102, 103] [] := G.tr g rfl rfl
  refine z_putFR C X (v := 103) (k := 101) zk10 (G.old hk) rfl 1 (by decide) kw_1033 rfl hin rfl rfl (fun _ => rfl) (fun _ => rfl) rfl (by decide) (G.mem (by decide)) (G.nf hkf (by decide)) (i := 1) (μ1 := zup (zup μ 101 0 102) 101 1 103) rfl dX10_init_15 (fun H locs X => ?_)
  refine lv_aload_n C.1 C.2.1 dX10_init_18 rfl (lv_at hl 0 rfl) ?_
  refine z_iconst C dX10_init_19 ?_
  refine y_newI C X hA (atype := .int) 1 (Or.inl rfl) rfl rfl kw_123 rfl 104 (G.nm (hn 104 (by decide)).1 (by decide)) (G.nf (hn 104 (by decide)).2.1 (by decide)) rfl (zz_up (by decide) (zz_up (by decide) (hn 104 (by decide)).2.2)) (by decide) (by decide) (Nat.le_of_ble_eq_true rfl) (Nat.le_of_ble_eq_true rfl) dX10_init_20 (fun w3 H g C X => ?_)
  refine W.st (st' := [zR w3 104, zR w3 101]) (cons2 rfl (cons2 (g.ref (k := 101) (G.old hk)) rfl)) ?_
  have hl : lv_has ls 2 [(0, zR w3 101)] := Eq.mp (congrArg (fun v => lv_has ls 2 [(0, v)]) (g.ref (k := 101) (G.old hk))) hl
  have G : Grw Ω w3 [102, 103, 104] [] := G.tr g rfl rfl
  refine z_putFR C X (v := 104) (k := 101) zk10 (G.old hk) rfl 2 (by decide) kw_1034 rfl hin rfl rfl (fun _ => rfl) (fun _ => rfl) rfl (by decide) (G.mem (by decide)) (G.nf hkf (by decide)) (i := 2) (μ1 := zup (zup (zup μ 101 0 102) 101 1 103) 101 2 104) rfl dX10_init_22 (fun H locs X => ?_)
  refine lv_aload_n C.1 C.2.1 dX10_init_25 rfl (lv_at hl 0 rfl) ?_
  refine z_sipush C dX10_init_26 rfl ?_
  refine y_newI C X hA (atype := .int) 1 (Or.inl rfl) rfl rfl kw_123 rfl 105 (G.nm (hn 105 (by decide)).1 (by decide)) (G.nf (hn 105 (by decide)).2.1 (by decide)) rfl (zz_up (by decide) (zz_up (by decide) (zz_up (by decide) (hn 105 (by decide)).2.2))) (by decide) (by decide) (Nat.le_of_ble_eq_true rfl) (Nat.le_of_ble_eq_true rfl) dX10_init_29 (fun w4 H g C X => ?_)
  refine W.st (st' := [zR w4 105, zR w4 101]) (cons2 rfl (cons2 (g.ref (k := 101) (G.old hk)) rfl)) ?_
  have hl : lv_has ls 2 [(0, zR w4 101)] := Eq.mp (congrArg (fun v => lv_has ls 2 [(0, v)]) (g.ref (k := 101) (G.old hk))) hl
  have G : Grw Ω w4 [102, 103, 104, 105] [] := G.tr g rfl rfl
  refine z_putFR C X (v := 105) (k := 101) zk10 (G.old hk) rfl 3 (by decide) kw_1035 rfl hin rfl rfl (fun _ => rfl) (fun _ => rfl) rfl (by decide) (G.mem (by decide)) (G.nf hkf (by decide)) (i := 3) (μ1 := zup (zup (zup (zup μ 101 0 102) 101 1 103) 101 2 104) 101 3 105) rfl dX10_init_31 (fun H locs X => ?_)
  refine lv_aload_n C.1 C.2.1 dX10_init_34 rfl (lv_at hl 0 rfl) ?_
  refine z_sipush C dX10_init_35 rfl ?_
  refine y_newI C X hA (atype := .int) 1 (Or.inl rfl) rfl rfl kw_123 rfl 106 (G.nm (hn 106 (by decide)).1 (by decide)) (G.nf (hn 106 (by decide)).2.1 (by decide)) rfl (zz_up (by decide) (zz_up (by decide) (zz_up (by decide) (zz_up (by decide) (hn 106 (by decide)).2.2)))) (by decide) (by decide) (Nat.le_of_ble_eq_true rfl) (Nat.le_of_ble_eq_true rfl) dX10_init_38 (fun w5 H g C X => ?_)
  refine W.st (st' := [zR w5 106, zR w5 101]) (cons2 rfl (cons2 (g.ref (k := 101) (G.old hk)) rfl)) ?_
  have hl : lv_has ls 2 [(0, zR w5 101)] := Eq.mp (congrArg (fun v => lv_has ls 2 [(0, v)]) (g.ref (k := 101) (G.old hk))) hl
  have G : Grw Ω w5 [102, 103, 104, 105, 106] [] := G.tr g rfl rfl
  refine z_putFR C X (v := 106) (k := 101) zk10 (G.old hk) rfl 4 (by decide) kw_1036 rfl hin rfl rfl (fun _ => rfl) (fun _ => rfl) rfl (by decide) (G.mem (by decide)) (G.nf hkf (by decide)) (i := 4) (μ1 := zup (zup (zup (zup (zup μ 101 0 102) 101 1 103) 101 2 104) 101 3 105) 101 4 106) rfl dX10_init_40 (fun H locs X => ?_)
  refine lv_aload_n C.1 C.2.1 dX10_init_43 rfl (lv_at hl 0 rfl) ?_
  refine z_bipush C dX10_init_44 rfl ?_
  refine y_newI C X hA (atype := .int) 1 (Or.inl rfl) rfl rfl kw_123 rfl 107 (G.nm (hn 107 (by decide)).1 (by decide)) (G.nf (hn 107 (by decide)).2.1 (by decide)) rfl (zz_up (by decide) (zz_up (by decide) (zz_up (by decide) (zz_up (by decide) (zz_up (by decide) (hn 107 (by decide)).2.2))))) (by decide) (by decide) (Nat.le_of_ble_eq_true rfl) (Nat.le_of_ble_eq_true rfl) dX10_init_46 (fun w6 H g C X => ?_)
  refine W.st (st' := [zR w6 107, zR w6 101]) (cons2 rfl (cons2 (g.ref (k := 101) (G.old hk)) rfl)) ?_
  have hl : lv_has ls 2 [(0, zR w6 101)] := Eq.mp (congrArg (fun v => lv_has ls 2 [(0, v)]) (g.ref (k := 101) (G.old hk))) hl
  have G : Grw Ω w6 [102, 103, 104, 105, 106, 107] [] := G.tr g rfl rfl
  refine z_putFR C X (v := 107) (k := 101) zk10 (G.old hk) rfl 5 (by decide) kw_1037 rfl hin rfl rfl (fun _ => rfl) (fun _ => rfl) rfl (by decide) (G.mem (by decide)) (G.nf hkf (by decide)) (i := 5) (μ1 := zup (zup (zup (zup (zup (zup μ 101 0 102) 101 1 103) 101 2 104) 101 3 105) 101 4 106) 101 5 107) rfl dX10_init_48 (fun H locs X => ?_)
  refine lv_aload_n C.1 C.2.1 dX10_init_51 rfl (lv_at hl 0 rfl) ?_
  refine z_sipush C dX10_init_52 rfl ?_
  refine y_newI C X hA (atype := .int) 1 (Or.inl rfl) rfl rfl kw_123 rfl 108 (G.nm (hn 108 (by decide)).1 (by decide)) (G.nf (hn 108 (by decide)).2.1 (by decide)) rfl (zz_up (by decide) (zz_up (by decide) (zz_up (by decide) (zz_up (by decide) (zz_up (by decide) (zz_up (by decide) (hn 108 (by decide)).2.2)))))) (by decide) (by decide) (Nat.le_of_ble_eq_true rfl) (Nat.le_of_ble_eq_true rfl) dX10_init_55 (fun w7 H g C X => ?_)
  refine W.st (st' := [zR w7 108, zR w7 101]) (cons2 rfl (cons2 (g.ref (k := 101) (G.old hk)) rfl)) ?_
  have hl : lv_has ls 2 [(0, zR w7 101)] := Eq.mp (congrArg (fun v => lv_has ls 2 [(0, v)]) (g.ref (k := 101) (G.old hk))) hl
  have G : Grw Ω w7 [102, 103, 104, 105, 106, 107, 108] [] := G.tr g rfl rfl
  refine z_putFR C X (v := 108) (k := 101) zk10 (G.old hk) rfl 6 (by decide) kw_1038 rfl hin rfl rfl (fun _ => rfl) (fun _ => rfl) rfl (by decide) (G.mem (by decide)) (G.nf hkf (by decide)) (i := 6) (μ1 := zup (zup (zup (zup (zup (zup (zup μ 101 0 102) 101 1 103) 101 2 104) 101 3 105) 101 4 106) 101 5 107) 101 6 108) rfl dX10_init_57 (fun H locs X => ?_)
  refine lv_aload_n C.1 C.2.1 dX10_init_60 rfl (lv_at hl 0 rfl) ?_
  refine z_bipush C dX10_init_61 rfl ?_
  refine y_newI C X hA (atype := .int) 1 (Or.inl rfl) rfl rfl kw_123 rfl 110 (G.nm (hn 110 (by decide)).1 (by decide)) (G.nf (hn 110 (by decide)).2.1 (by decide)) rfl (zz_up (by decide) (zz_up (by decide) (zz_up (by decide) (zz_up (by decide) (zz_up (by decide) (zz_up (by decide) (zz_up (by decide) (hn 110 (by decide)).2.2))))))) (by decide) (by decide) (Nat.le_of_ble_eq_true rfl) (Nat.le_of_ble_eq_true rfl) dX10_init_63 (fun w8 H g C X => ?_)
  refine W.st (st' := [zR w8 110, zR w8 101]) (cons2 rfl (cons2 (g.ref (k := 101) (G.old hk)) rfl)) ?_
  have hl : lv_has ls 2 [(0, zR w8 101)] := Eq.mp (congrArg (fun v => lv_has ls 2 [(0, v)]) (g.ref (k := 101) (G.old hk))) hl
  have G : Grw Ω w8 [102, 103, 104, 105, 106, 107, 108, 110] [] := G.tr g rfl rfl
  refine z_putFR C X (v := 110) (k := 101) zk10 (G.old hk) rfl 8 (by decide) kw_1040 rfl hin rfl rfl (fun _ => rfl) (fun _ => rfl) rfl (by decide) (G.mem (by decide)) (G.nf hkf (by decide)) (i := 8) (μ1 := zup (zup (zup (zup (zup (zup (zup (zup μ 101 0 102) 101 1 103) 101 2 104) 101 3 105) 101 4 106) 101 5 107) 101 6 108) 101 8 110) rfl dX10_init_65 (fun H locs X => ?_)
  refine lv_aload_n C.1 C.2.1 dX10_init_68 rfl (lv_at hl 0 rfl) ?_
  refine z_bipush C dX10_init_69 rfl ?_
  refine y_newI C X hA (atype := .int) 1 (Or.inl rfl) rfl rfl kw_123 rfl 116 (G.nm (hn 116 (by decide)).1 (by decide)) (G.nf (hn 116 (by decide)).2.1 (by decide)) rfl (zz_up (by decide) (zz_up (by decide) (zz_up (by decide) (zz_up (by decide) (zz_up (by decide) (zz_up (by decide) (zz_up (by decide) (zz_up (by decide) (hn 116 (by decide)).2.2)))))))) (by decide) (by decide) (Nat.le_of_ble_eq_true rfl) (Nat.le_of_ble_eq_true rfl) dX10_init_71 (fun w9 H g C X => ?_)
  refine W.st (st' := [zR w9 116, zR w9 101]) (cons2 rfl (cons2 (g.ref (k := 101) (G.old hk)) rfl)) ?_
  have hl : lv_has ls 2 [(0, zR w9 101)] := Eq.mp (congrArg (fun v => lv_has ls 2 [(0, v)]) (g.ref (k := 101) (G.old hk))) hl
  have G : Grw Ω w9 [102, 103, 104, 105, 106, 107, 108, 110, 116] [] := G.tr g rfl rfl
  refine z_putFR C X (v := 116) (k := 101) zk10 (G.old hk) rfl 14 (by decide) kw_1046 rfl hin rfl rfl (fun _ => rfl) (fun _ => rfl) rfl (by decide) (G.mem (by decide)) (G.nf hkf (by decide)) (i := 14) (μ1 := zup (zup (zup (zup (zup (zup (zup (zup (zup μ 101 0 102) 101 1 103) 101 2 104) 101 3 105) 101 4 106) 101 5 107) 101 6 108) 101 8 110) 101 14 116) rfl dX10_init_73 (fun H locs X => ?_)
  refine lv_aload_n C.1 C.2.1 dX10_init_76 rfl (lv_at hl 0 rfl) ?_
  refine z_bipush C dX10_init_77 rfl ?_
  refine y_newI C X hA (atype := .int) 1 (Or.inl rfl) rfl rfl kw_123 rfl 117 (G.nm (hn 117 (by decide)).1 (by decide)) (G.nf (hn 117 (by decide)).2.1 (by decide)) rfl (zz_up (by decide) (zz_up (by decide) (zz_up (by decide) (zz_up (by decide) (zz_up (by decide) (zz_up (by decide) (zz_up (by decide) (zz_up (by decide) (zz_up (by decide) (hn 117 (by decide)).2.2))))))))) (by decide) (by decide) (Nat.le_of_ble_eq_true rfl) (Nat.le_of_ble_eq_true rfl) dX10_init_79 (fun w10 H g C X => ?_)
  refine W.st (st' := [zR w10 117, zR w10 101]) (cons2 rfl (cons2 (g.ref (k := 101) (G.old hk)) rfl)) ?_
  have hl : lv_has ls 2 [(0, zR w10 101)] := Eq.mp (congrArg (fun v => lv_has ls 2 [(0, v)]) (g.ref (k := 101) (G.old hk))) hl
  have G : Grw Ω w10 [102, 103, 104, 105, 106, 107, 108, 110, 116, 117] [] := G.tr g rfl rfl
  refine z_putFR C X (v := 117) (k := 101) zk10 (G.old hk) rfl 15 (by decide) kw_1047 rfl hin rfl rfl (fun _ => rfl) (fun _ => rfl) rfl (by decide) (G.mem (by decide)) (G.nf hkf (by decide)) (i := 15) (μ1 := zup (zup (zup (zup (zup (zup (zup (zup (zup (zup μ 101 0 102) 101 1 103) 101 2 104) 101 3 105) 101 4 106) 101 5 107) 101 6 108) 101 8 110) 101 14 116) 101 15 117) rfl dX10_init_81 (fun H locs X => ?_)
  refine lv_aload_n C.1 C.2.1 dX10_init_84 rfl (lv_at hl 0 rfl) ?_
  refine z_sipush C dX10_init_85 rfl ?_
  refine y_newI C X hA (atype := .int) 1 (Or.inl rfl) rfl rfl kw_123 rfl 118 (G.nm (hn 118 (by decide)).1 (by decide)) (G.nf (hn 118 (by decide)).2.1 (by decide)) rfl (zz_up (by decide) (zz_up (by decide) (zz_up (by decide) (zz_up (by decide) (zz_up (by decide) (zz_up (by decide) (zz_up (by decide) (zz_up (by decide) (zz_up (by decide) (zz_up (by decide) (hn 118 (by decide)).2.2)))))))))) (by decide) (by decide) (Nat.le_of_ble_eq_true rfl) (Nat.le_of_ble_eq_true rfl) dX10_init_88 (fun w11 H g C X => ?_)
  refine W.st (st' := [zR w11 118, zR w11 101]) (cons2 rfl (cons2 (g.ref (k := 101) (G.old hk)) rfl)) ?_
  have hl : lv_has ls 2 [(0, zR w11 101)] := Eq.mp (congrArg (fun v => lv_has ls 2 [(0, v)]) (g.ref (k := 101) (G.old hk))) hl
  have G : Grw Ω w11 [102, 103, 104, 105, 106, 107, 108, 110, 116, 117, 118] [] := G.tr g rfl rfl
  refine z_putFR C X (v := 118) (k := 101) zk10 (G.old hk) rfl 16 (by decide) kw_1048 rfl hin rfl rfl (fun _ => rfl) (fun _ => rfl) rfl (by decide) (G.mem (by decide)) (G.nf hkf (by decide)) (i := 16) (μ1 := zup (zup (zup (zup (zup (zup (zup (zup (zup (zup (zup μ 101 0 102) 101 1 103) 101 2 104) 101 3 105) 101 4 106) 101 5 107) 101 6 108) 101 8 110) 101 14 116) 101 15 117) 101 16 118) rfl dX10_init_90 (fun H locs X => ?_)
  refine lv_aload_n C.1 C.2.1 dX10_init_93 rfl (lv_at hl 0 rfl) ?_
  refine z_bipush C dX10_init_94 rfl ?_
  refine y_newI C X hA (atype := .int) 1 (Or.inl rfl) rfl rfl kw_123 rfl 119 (G.nm (hn 119 (by decide)).1 (by decide)) (G.nf (hn 119 (by decide)).2.1 (by decide)) rfl (zz_up (by decide) (zz_up (by decide) (zz_up (by decide) (zz_up (by decide) (zz_up (by decide) (zz_up (by decide) (zz_up (by decide) (zz_up (by decide) (zz_up (by decide) (zz_up (by decide) (zz_up (by decide) (hn 119 (by decide)).2.2))))))))))) (by decide) (by decide) (Nat.le_of_ble_eq_true rfl) (Nat.le_of_ble_eq_true rfl) dX10_init_96 (fun w12 H g C X => ?_)
  refine W.st (st' := [zR w12 119, zR w12 101]) (cons2 rfl (cons2 (g.ref (k := 101) (G.old hk)) rfl)) ?_
  have hl : lv_has ls 2 [(0, zR w12 101)] := Eq.mp (congrArg (fun v => lv_has ls 2 [(0, v)]) (g.ref (k := 101) (G.old hk))) hl
  have G : Grw Ω w12 [102, 103, 104, 105, 106, 107, 108, 110, 116, 117, 118, 119] [] := G.tr g rfl rfl
  refine z_putFR C X (v := 119) (k := 101) zk10 (G.old hk) rfl 17 (by decide) kw_1049 rfl hin rfl rfl (fun _ => rfl) (fun _ => rfl) rfl (by decide) (G.mem (by decide)) (G.nf hkf (by decide)) (i := 17) (μ1 := zup (zup (zup (zup (zup (zup (zup (zup (zup (zup (zup (zup μ 101 0 102) 101 1 103) 101 2 104) 101 3 105) 101 4 106) 101 5 107) 101 6 108) 101 8 110) 101 14 116) 101 15 117) 101 16 118) 101 17 119) rfl dX10_init_98 (fun H locs X => ?_)
  refine lv_aload_n C.1 C.2.1 dX10_init_101 rfl (lv_at hl 0 rfl) ?_
  refine z_bipush C dX10_init_102 rfl ?_
  refine y_newI C X hA (atype := .boolean) 3 (Or.inr (Or.inl rfl)) rfl rfl kw_124 rfl 120 (G.nm (hn 120 (by decide)).1 (by decide)) (G.nf (hn 120 (by decide)).2.1 (by decide)) rfl (zz_up (by decide) (zz_up (by decide) (zz_up (by decide) (zz_up (by decide) (zz_up (by decide) (zz_up (by decide) (zz_up (by decide) (zz_up (by decide) (zz_up (by decide) (zz_up (by decide) (zz_up (by decide) (zz_up (by decide) (hn 120 (by decide)).2.2)))))))))))) (by decide) (by decide) (Nat.le_of_ble_eq_true rfl) (Nat.le_of_ble_eq_true rfl) dX10_init_104 (fun w13 H g C X => ?_)
  refine W.st (st' := [zR w13 120, zR w13 101]) (cons2 rfl (cons2 (g.ref (k := 101) (G.old hk)) rfl)) ?_
  have hl : lv_has ls 2 [(0, zR w13 101)] := Eq.mp (congrArg (fun v => lv_has ls 2 [(0, v)]) (g.ref (k := 101) (G.old hk))) hl
  have G : Grw Ω w13 [102, 103, 104, 105, 106, 107, 108, 110, 116, 117, 118, 119, 120] [] := G.tr g rfl rfl
  refine z_putFR C X (v := 120) (k := 101) zk10 (G.old hk) rfl 18 (by decide) kw_1050 rfl hin rfl rfl (fun _ => rfl) (fun _ => rfl) rfl (by decide) (G.mem (by decide)) (G.nf hkf (by decide)) (i := 18) (μ1 := zup (zup (zup (zup (zup (zup (zup (zup (zup (zup (zup (zup (zup μ 101 0 102) 101 1 103) 101 2 104) 101 3 105) 101 4 106) 101 5 107) 101 6 108) 101 8 110) 101 14 116) 101 15 117) 101 16 118) 101 17 119) 101 18 120) rfl dX10_init_106 (fun H locs X => ?_)
  refine lv_aload_n C.1 C.2.1 dX10_init_109 rfl (lv_at hl 0 rfl) ?_
  refine z_bipush C dX10_init_110 rfl ?_
  refine y_newI C X hA (atype := .boolean) 3 (Or.inr (Or.inl rfl)) rfl rfl kw_124 rfl 121 (G.nm (hn 121 (by decide)).1 (by decide)) (G.nf (hn 121 (by decide)).2.1 (by decide)) rfl (zz_up (by decide) (zz_up (by decide) (zz_up (by decide) (zz_up (by decide) (zz_up (by decide) (zz_up (by decide) (zz_up (by decide) (zz_up (by decide) (zz_up (by decide) (zz_up (by decide) (zz_up (by decide) (zz_up (by decide) (zz_up (by decide) (hn 121 (by decide)).2.2))))))))))))) (by decide) (by decide) (Nat.le_of_ble_eq_true rfl) (Nat.le_of_ble_eq_true rfl) dX10_init_112 (fun w14 H g C X => ?_)
  refine W.st (st' := [zR w14 121, zR w14 101]) (cons2 rfl (cons2 (g.ref (k := 101) (G.old hk)) rfl)) ?_
  have hl : lv_has ls 2 [(0, zR w14 101)] := Eq.mp (congrArg (fun v => lv_has ls 2 [(0, v)]) (g.ref (k := 101) (G.old hk))) hl
  have G : Grw Ω w14 [102, 103, 104, 105, 106, 107, 108, 110, 116, 117, 118, 119, 120, 121] [] := G.tr g rfl rfl
  refine z_putFR C X (v := 121) (k := 101) zk10 (G.old hk) rfl 19 (by decide) kw_1051 rfl hin rfl rfl (fun _ => rfl) (fun _ => rfl) rfl (by decide) (G.mem (by decide)) (G.nf hkf (by decide)) (i := 19) (μ1 := zup (zup (zup (zup (zup (zup (zup (zup (zup (zup (zup (zup (zup (zup μ 101 0 102) 101 1 103) 101 2 104) 101 3 105) 101 4 106) 101 5 107) 101 6 108) 101 8 110) 101 14 116) 101 15 117) 101 16 118) 101 17 119) 101 18 120) 101 19 121) rfl dX10_init_114 (fun H locs X => ?_)
  refine lv_aload_n C.1 C.2.1 dX10_init_117 rfl (lv_at hl 0 rfl) ?_
  refine z_bipush C dX10_init_118 rfl ?_
  refine y_newI C X hA (atype := .int) 1 (Or.inl rfl) rfl rfl kw_123 rfl 123 (G.nm (hn 123 (by decide)).1 (by decide)) (G.nf (hn 123 (by decide)).2.1 (by decide)) rfl (zz_up (by decide) (zz_up (by decide) (zz_up (by decide) (zz_up (by decide) (zz_up (by decide) (zz_up (by decide) (zz_up (by decide) (zz_up (by decide) (zz_up (by decide) (zz_up (by decide) (zz_up (by decide) (zz_up (by decide) (zz_up (by decide) (zz_up (by decide) (hn 123 (by decide)).2.2)))))))))))))) (by decide) (by decide) (Nat.le_of_ble_eq_true rfl) (Nat.le_of_ble_eq_true rfl) dX10_init_120 (fun w15 H g C X => ?_)
  refine W.st (st' := [zR w15 123, zR w15 101]) (cons2 rfl (cons2 (g.ref (k := 101) (G.old hk)) rfl)) ?_
  have hl : lv_has ls 2 [(0, zR w15 101)] := Eq.mp (congrArg (fun v => lv_has ls 2 [(0, v)]) (g.ref (k := 101) (G.old hk))) hl
  have G : Grw Ω w15 [102, 103, 104, 105, 106, 107, 108, 110, 116, 117, 118, 119, 120, 121, 123] [] := G.tr g rfl rfl
  refine z_putFR C X (v := 123) (k := 101) zk10 (G.old hk) rfl 21 (by decide) kw_1053 rfl hin rfl rfl (fun _ => rfl) (fun _ => rfl) rfl (by decide) (G.mem (by decide)) (G.nf hkf (by decide)) (i := 21) (μ1 := zup (zup (zup (zup (zup (zup (zup (zup (zup (zup (zup (zup (zup (zup (zup μ 101 0 102) 101 1 103) 101 2 104) 101 3 105) 101 4 106) 101 5 107) 101 6 108) 101 8 110) 101 14 116) 101 15 117) 101 16 118) 101 17 119) 101 18 120) 101 19 121) 101 21 123) rfl dX10_init_122 (fun H locs X => ?_)
  refine lv_aload_n C.1 C.2.1 dX10_init_125 rfl (lv_at hl 0 rfl) ?_
  refine z_sipush C dX10_init_126 rfl ?_
  refine y_newI C X hA (atype := .int) 1 (Or.inl rfl) rfl rfl kw_123 rfl 124 (G.nm (hn 124 (by decide)).1 (by decide)) (G.nf (hn 124 (by decide)).2.1 (by decide)) rfl (zz_up (by decide) (zz_up (by decide) (zz_up (by decide) (zz_up (by decide) (zz_up (by decide) (zz_up (by decide) (zz_up (by decide) (zz_up (by decide) (zz_up (by decide) (zz_up (by decide) (zz_up (by decide) (zz_up (by decide) (zz_up (by decide) (zz_up (by decide) (zz_up (by decide) (hn 124 (by decide)).2.2))))))))))))))) (by decide) (by decide) (Nat.le_of_ble_eq_true rfl) (Nat.le_of_ble_eq_true rfl) dX10_init_129 (fun w16 H g C X => ?_)
  refine W.st (st' := [zR w16 124, zR w16 101]) (cons2 rfl (cons2 (g.ref (k := 101) (G.old hk)) rfl)) ?_
  have hl : lv_has ls 2 [(0, zR w16 101)] := Eq.mp (congrArg (fun v => lv_has ls 2 [(0, v)]) (g.ref (k := 101) (G.old hk))) hl
  have G : Grw Ω w16 [102, 103, 104, 105, 106, 107, 108, 110, 116, 117, 118, 119, 120, 121, 123, 124] [] := G.tr g rfl rfl
  refine z_putFR C X (v := 124) (k := 101) zk10 (G.old hk) rfl 22 (by decide) kw_1054 rfl hin rfl rfl (fun _ => rfl) (fun _ => rfl) rfl (by decide) (G.mem (by decide)) (G.nf hkf (by decide)) (i := 22) (μ1 := zup (zup (zup (zup (zup (zup (zup (zup (zup (zup (zup (zup (zup (zup (zup (zup μ 101 0 102) 101 1 103) 101 2 104) 101 3 105) 101 4 106) 101 5 107) 101 6 108) 101 8 110) 101 14 116) 101 15 117) 101 16 118) 101 17 119) 101 18 120) 101 19 121) 101 21 123) 101 22 124) rfl dX10_init_131 (fun H locs X => ?_)
  refine lv_aload_n C.1 C.2.1 dX10_init_134 rfl (lv_at hl 0 rfl) ?_
  refine z_bipush C dX10_init_135 rfl ?_
  refine y_newL C X hA (atype := .long) 2 (rfl) rfl rfl kw_246 rfl 125 (G.nm (hn 125 (by decide)).1 (by decide)) (G.nf (hn 125 (by decide)).2.1 (by decide)) rfl (zz_up (by decide) (zz_up (by decide) (zz_up (by decide) (zz_up (by decide) (zz_up (by decide) (zz_up (by decide) (zz_up (by decide) (zz_up (by decide) (zz_up (by decide) (zz_up (by decide) (zz_up (by decide) (zz_up (by decide) (zz_up (by decide) (zz_up (by decide) (zz_up (by decide) (zz_up (by decide) (hn 125 (by decide)).2.2)))))))))))))))) (by decide) (by decide) (Nat.le_of_ble_eq_true rfl) (Nat.le_of_ble_eq_true rfl) dX10_init_137 (fun w17 H g C X => ?_)
  refine W.st (st' := [zR w17 125, zR w17 101]) (cons2 rfl (cons2 (g.ref (k := 101) (G.old hk)) rfl)) ?_
  have hl : lv_has ls 2 [(0, zR w17 101)] := Eq.mp (congrArg (fun v => lv_has ls 2 [(0, v)]) (g.ref (k := 101) (G.old hk))) hl
  have G : Grw Ω w17 [102, 103, 104, 105, 106, 107, 108, 110, 116, 117, 118, 119, 120, 121, 123, 124, 125] [] := G.tr g rfl rfl
  refine z_putFR C X (v := 125) (k := 101) zk10 (G.old hk) rfl 23 (by decide) kw_1055 rfl hin rfl rfl (fun _ => rfl) (fun _ => rfl) rfl (by decide) (G.mem (by decide)) (G.nf hkf (by decide)) (i := 23) (μ1 := zup (zup (zup (zup (zup (zup (zup (zup (zup (zup (zup (zup (zup (zup (zup (zup (zup μ 101 0 102) 101 1 103) 101 2 104) 101 3 105) 101 4 106) 101 5 107) 101 6 108) 101 8 110) 101 14 116) 101 15 117) 101 16 118) 101 17 119) 101 18 120) 101 19 121) 101 21 123) 101 22 124) 101 23 125) rfl dX10_init_139 (fun H locs X => ?_)
  refine lv_aload_n C.1 C.2.1 dX10_init_142 rfl (lv_at hl 0 rfl) ?_
  refine z_ldc C 36864 kw_1031 (by decide) dX10_init_143 ?_
  refine y_newL C X hA (atype := .long) 2 (rfl) rfl rfl kw_246 rfl 126 (G.nm (hn 126 (by decide)).1 (by decide)) (G.nf (hn 126 (by decide)).2.1 (by decide)) rfl (zz_up (by decide) (zz_up (by decide) (zz_up (by decide) (zz_up (by decide) (zz_up (by decide) (zz_up (by decide) (zz_up (by decide) (zz_up (by decide) (zz_up (by decide) (zz_up (by decide) (zz_up (by decide) (zz_up (by decide) (zz_up (by decide) (zz_up (by decide) (zz_up (by decide) (zz_up (by decide) (zz_up (by decide) (hn 126 (by decide)).2.2))))))))))))))))) (by decide) (by decide) (Nat.le_of_ble_eq_true rfl) (Nat.le_of_ble_eq_true rfl) dX10_init_145 (fun w18 H g C X => ?_)
  refine W.st (st' := [zR w18 126, zR w18 101]) (cons2 rfl (cons2 (g.ref (k := 101) (G.old hk)) rfl)) ?_
  have hl : lv_has ls 2 [(0, zR w18 101)] := Eq.mp (congrArg (fun v => lv_has ls 2 [(0, v)]) (g.ref (k := 101) (G.old hk))) hl
  have G : Grw Ω w18 [102, 103, 104, 105, 106, 107, 108, 110, 116, 117, 118, 119, 120, 121, 123, 124, 125, 126] [] := G.tr g rfl rfl
  refine z_putFR C X (v := 126) (k := 101) zk10 (G.old hk) rfl 24 (by decide) kw_1056 rfl hin rfl rfl (fun _ => rfl) (fun _ => rfl) rfl (by decide) (G.mem (by decide)) (G.nf hkf (by decide)) (i := 24) (μ1 := zup (zup (zup (zup (zup (zup (zup (zup (zup (zup (zup (zup (zup (zup (zup (zup (zup (zup μ 101 0 102) 101 1 103) 101 2 104) 101 3 105) 101 4 106) 101 5 107) 101 6 108) 101 8 110) 101 14 116) 101 15 117) 101 16 118) 101 17 119) 101 18 120) 101 19 121) 101 21 123) 101 22 124) 101 23 125) 101 24 126) rfl dX10_init_147 (fun H locs X => ?_)
  refine lv_aload_n C.1 C.2.1 dX10_init_150 rfl (lv_at hl 0 rfl) ?_
  refine z_sipush C dX10_init_151 rfl ?_
  refine y_newI C X hA (atype := .int) 1 (Or.inl rfl) rfl rfl kw_123 rfl 127 (G.nm (hn 127 (by decide)).1 (by decide)) (G.nf (hn 127 (by decide)).2.1 (by decide)) rfl (zz_up (by decide) (zz_up (by decide) (zz_up (by decide) (zz_up (by decide) (zz_up (by decide) (zz_up (by decide) (zz_up (by decide) (zz_up (by decide) (zz_up (by decide) (zz_up (by decide) (zz_up (by decide) (zz_up (by decide) (zz_up (by decide) (zz_up (by decide) (zz_up (by decide) (zz_up (by decide) (zz_up (by decide) (zz_up (by decide) (hn 127 (by decide)).2.2)))))))))))))))))) (by decide) (by decide) (Nat.le_of_ble_eq_true rfl) (Nat.le_of_ble_eq_true rfl) dX10_init_154 (fun w19 H g C X => ?_)
  refine W.st (st' := [zR w19 127, zR w19 101]) (cons2 rfl (cons2 (g.ref (k := 101) (G.old hk)) rfl)) ?_
  have hl : lv_has ls 2 [(0, zR w19 101)] := Eq.mp (congrArg (fun v => lv_has ls 2 [(0, v)]) (g.ref (k := 101) (G.old hk))) hl
  have G : Grw Ω w19 [102, 103, 104, 105, 106, 107, 108, 110, 116, 117, 118, 119, 120, 121, 123, 124, 125, 126, 127] [] := G.tr g rfl rfl
  refine z_putFR C X (v := 127) (k := 101) zk10 (G.old hk) rfl 25 (by decide) kw_1057 rfl hin rfl rfl (fun _ => rfl) (fun _ => rfl) rfl (by decide) (G.mem (by decide)) (G.nf hkf (by decide)) (i := 25) (μ1 := zup (zup (zup (zup (zup (zup (zup (zup (zup (zup (zup (zup (zup (zup (zup (zup (zup (zup (zup μ 101 0 102) 101 1 103) 101 2 104) 101 3 105) 101 4 106) 101 5 107) 101 6 108) 101 8 110) 101 14 116) 101 15 117) 101 16 118) 101 17 119) 101 18 120) 101 19 121) 101 21 123) 101 22 124) 101 23 125) 101 24 126) 101 25 127) rfl dX10_init_156 (fun H locs X => ?_)
  refine lv_aload_n C.1 C.2.1 dX10_init_159 rfl (lv_at hl 0 rfl) ?_
  refine z_bipush C dX10_init_160 rfl ?_
  refine y_newI C X hA (atype := .int) 1 (Or.inl rfl) rfl rfl kw_123 rfl 128 (G.nm (hn 128 (by decide)).1 (by decide)) (G.nf (hn 128 (by decide)).2.1 (by decide)) rfl (zz_up (by decide) (zz_up (by decide) (zz_up (by decide) (zz_up (by decide) (zz_up (by decide) (zz_up (by decide) (zz_up (by decide) (zz_up (by decide) (zz_up (by decide) (zz_up (by decide) (zz_up (by decide) (zz_up (by decide) (zz_up (by decide) (zz_up (by decide) (zz_up (by decide) (zz_up (by decide) (zz_up (by decide) (zz_up (by decide) (zz_up (by decide) (hn 128 (by decide)).2.2))))))))))))))))))) (by decide) (by decide) (Nat.le_of_ble_eq_true rfl) (Nat.le_of_ble_eq_true rfl) dX10_init_162 (fun w20 H g C X => ?_)
  refine W.st (st' := [zR w20 128, zR w20 101]) (cons2 rfl (cons2 (g.ref (k := 101) (G.old hk)) rfl)) ?_
  have hl : lv_has ls 2 [(0, zR w20 101)] := Eq.mp (congrArg (fun v => lv_has ls 2 [(0, v)]) (g.ref (k := 101) (G.old hk))) hl
  have G : Grw Ω w20 [102, 103, 104, 105, 106, 107, 108, 110, 116, 117, 118, 119, 120, 121, 123, 124, 125, 126, 127, 128] [] := G.tr g rfl rfl
  refine z_putFR C X (v := 128) (k := 101) zk10 (G.old hk) rfl 26 (by decide) kw_1058 rfl hin rfl rfl (fun _ => rfl) (fun _ => rfl) rfl (by decide) (G.mem (by decide)) (G.nf hkf (by decide)) (i := 26) (μ1 := zup (zup (zup (zup (zup (zup (zup (zup (zup (zup (zup (zup (zup (zup (zup (zup (zup (zup (zup (zup μ 101 0 102) 101 1 103) 101 2 104) 101 3 105) 101 4 106) 101 5 107) 101 6 108) 101 8 110) 101 14 116) 101 15 117) 101 16 118) 101 17 119) 101 18 120) 101 19 121) 101 21 123) 101 22 124) 101 23 125) 101 24 126) 101 25 127) 101 26 128) rfl dX10_init_164 (fun H locs X => ?_)
  refine lv_aload_n C.1 C.2.1 dX10_init_167 rfl (lv_at hl 0 rfl) ?_
  refine z_bipush C dX10_init_168 rfl ?_
  refine y_newI C X hA (atype := .int) 1 (Or.inl rfl) rfl rfl kw_123 rfl 129 (G.nm (hn 129 (by decide)).1 (by decide)) (G.nf (hn 129 (by decide)).2.1 (by decide)) rfl (zz_up (by decide) (zz_up (by decide) (zz_up (by decide) (zz_up (by decide) (zz_up (by decide) (zz_up (by decide) (zz_up (by decide) (zz_up (by decide) (zz_up (by decide) (zz_up (by decide) (zz_up (by decide) (zz_up (by decide) (zz_up (by decide) (zz_up (by decide) (zz_up (by decide) (zz_up (by decide) (zz_up (by decide) (zz_up (by decide) (zz_up (by decide) (zz_up (by decide) (hn 129 (by decide)).2.2)))))))))))))))))))) (by decide) (by decide) (Nat.le_of_ble_eq_true rfl) (Nat.le_of_ble_eq_true rfl) dX10_init_170 (fun w21 H g C X => ?_)
  refine W.st (st' := [zR w21 129, zR w21 101]) (cons2 rfl (cons2 (g.ref (k := 101) (G.old hk)) rfl)) ?_
  have hl : lv_has ls 2 [(0, zR w21 101)] := Eq.mp (congrArg (fun v => lv_has ls 2 [(0, v)]) (g.ref (k := 101) (G.old hk))) hl
  have G : Grw Ω w21 [102, 103, 104, 105, 106, 107, 108, 110, 116, 117, 118, 119, 120, 121, 123, 124, 125, 126, 127, 128, 129] [] := G.tr g rfl rfl
  refine z_putFR C X (v := 129) (k := 101) zk10 (G.old hk) rfl 27 (by decide) kw_1059 rfl hin rfl rfl (fun _ => rfl) (fun _ => rfl) rfl (by decide) (G.mem (by decide)) (G.nf hkf (by decide)) (i := 27) (μ1 := zup (zup (zup (zup (zup (zup (zup (zup (zup (zup (zup (zup (zup (zup (zup (zup (zup (zup (zup (zup (zup μ 101 0 102) 101 1 103) 101 2 104) 101 3 105) 101 4 106) 101 5 107) 101 6 108) 101 8 110) 101 14 116) 101 15 117) 101 16 118) 101 17 119) 101 18 120) 101 19 121) 101 21 123) 101 22 124) 101 23 125) 101 24 126) 101 25 127) 101 26 128) 101 27 129) rfl dX10_init_172 (fun H locs X => ?_)
  refine lv_aload_n C.1 C.2.1 dX10_init_175 rfl (lv_at hl 0 rfl) ?_
  refine z_bipush C dX10_init_176 rfl ?_
  refine y_newI C X hA (atype := .int) 1 (Or.inl rfl) rfl rfl kw_123 rfl 133 (G.nm (hn 133 (by decide)).1 (by decide)) (G.nf (hn 133 (by decide)).2.1 (by decide)) rfl (zz_up (by decide) (zz_up (by decide) (zz_up (by decide) (zz_up (by decide) (zz_up (by decide) (zz_up (by decide) (zz_up (by decide) (zz_up (by decide) (zz_up (by decide) (zz_up (by decide) (zz_up (by decide) (zz_up (by decide) (zz_up (by decide) (zz_up (by decide) (zz_up (by decide) (zz_up (by decide) (zz_up (by decide) (zz_up (by decide) (zz_up (by decide) (zz_up (by decide) (zz_up (by decide) (hn 133 (by decide)).2.2))))))))))))))))))))) (by decide) (by decide) (Nat.le_of_ble_eq_true rfl) (Nat.le_of_ble_eq_true rfl) dX10_init_178 (fun w22 H g C X => ?_)
  refine W.st (st' := [zR w22 133, zR w22 101]) (cons2 rfl (cons2 (g.ref (k := 101) (G.old hk)) rfl)) ?_
  have hl : lv_has ls 2 [(0, zR w22 101)] := Eq.mp (congrArg (fun v => lv_has ls 2 [(0, v)]) (g.ref (k := 101) (G.old hk))) hl
  have G : Grw Ω w22 [102, 103, 104, 105, 106, 107, 108, 110, 116, 117, 118, 119, 120, 121, 123, 124, 125, 126, 127, 128, 129, 133] [] := G.tr g rfl rfl
  refine z_putFR C X (v := 133) (k := 101) zk10 (G.old hk) rfl 31 (by decide) kw_1063 rfl hin rfl rfl (fun _ => rfl) (fun _ => rfl) rfl (by decide) (G.mem (by decide)) (G.nf hkf (by decide)) (i := 31) (μ1 := zup (zup (zup (zup (zup (zup (zup (zup (zup (zup (zup (zup (zup (zup (zup (zup (zup (zup (zup (zup (zup (zup μ 101 0 102) 101 1 103) 101 2 104) 101 3 105) 101 4 106) 101 5 107) 101 6 108) 101 8 110) 101 14 116) 101 15 117) 101 16 118) 101 17 119) 101 18 120) 101 19 121) 101 21 123) 101 22 124) 101 23 125) 101 24 126) 101 25 127) 101 26 128) 101 27 129) 101 31 133) rfl dX10_init_180 (fun H locs X => ?_)
  refine lv_aload_n C.1 C.2.1 dX10_init_183 rfl (lv_at hl 0 rfl) ?_
  refine z_iconst C dX10_init_184 ?_
  refine y_newI C X hA (atype := .int) 1 (Or.inl rfl) rfl rfl kw_123 rfl 134 (G.nm (hn 134 (by decide)).1 (by decide)) (G.nf (hn 134 (by decide)).2.1 (by decide)) rfl (zz_up (by decide) (zz_up (by decide) (zz_up (by decide) (zz_up (by decide) (zz_up (by decide) (zz_up (by decide) (zz_up (by decide) (zz_up (by decide) (zz_up (by decide) (zz_up (by decide) (zz_up (by decide) (zz_up (by decide) (zz_up (by decide) (zz_up (by decide) (zz_up (by decide) (zz_up (by decide) (zz_up (by decide) (zz_up (by decide) (zz_up (by decide) (zz_up (by decide) (zz_up (by decide) (zz_up (by decide) (hn 134 (by decide)).2.2)))))))))))))))))))))) (by decide) (by decide) (Nat.le_of_ble_eq_true rfl) (Nat.le_of_ble_eq_true rfl) dX10_init_185 (fun w23 H g C X => ?_)
  refine W.st (st' := [zR w23 134, zR w23 101]) (cons2 rfl (cons2 (g.ref (k := 101) (G.old hk)) rfl)) ?_
  have hl : lv_has ls 2 [(0, zR w23 101)] := Eq.mp (congrArg (fun v => lv_has ls 2 [(0, v)]) (g.ref (k := 101) (G.old hk))) hl
  have G : Grw Ω w23 [102, 103, 104, 105, 106, 107, 108, 110, 116, 117, 118, 119, 120, 121, 123, 124, 125, 126, 127, 128, 129, 133, 134] [] := G.tr g rfl rfl
  refine z_putFR C X (v := 134) (k := 101) zk10 (G.old hk) rfl 32 (by decide) kw_1064 rfl hin rfl rfl (fun _ => rfl) (fun _ => rfl) rfl (by decide) (G.mem (by decide)) (G.nf hkf (by decide)) (i := 32) (μ1 := zup (zup (zup (zup (zup (zup (zup (zup (zup (zup (zup (zup (zup (zup (zup (zup (zup (zup (zup (zup (zup (zup (zup μ 101 0 102) 101 1 103) 101 2 104) 101 3 105) 101 4 106) 101 5 107) 101 6 108) 101 8 110) 101 14 116) 101 15 117) 101 16 118) 101 17 119) 101 18 120) 101 19 121) 101 21 123) 101 22 124) 101 23 125) 101 24 126) 101 25 127) 101 26 128) 101 27 129) 101 31 133) 101 32 134) rfl dX10_init_187 (fun H locs X => ?_)
  refine lv_aload_n C.1 C.2.1 dX10_init_190 rfl (lv_at hl 0 rfl) ?_
  refine z_bipush C dX10_init_191 rfl ?_
  refine y_newI C X hA (atype := .int) 1 (Or.inl rfl) rfl rfl kw_123 rfl 142 (G.nm (hn 142 (by decide)).1 (by decide)) (G.nf (hn 142 (by decide)).2.1 (by decide)) rfl (zz_up (by decide) (zz_up (by decide) (zz_up (by decide) (zz_up (by decide) (zz_up (by decide) (zz_up (by decide) (zz_up (by decide) (zz_up (by decide) (zz_up (by decide) (zz_up (by decide) (zz_up (by decide) (zz_up (by decide) (zz_up (by decide) (zz_up (by decide) (zz_up (by decide) (zz_up (by decide) (zz_up (by decide) (zz_up (by decide) (zz_up (by decide) (zz_up (by decide) (zz_up (by decide) (zz_up (by decide) (zz_up (by decide) (hn 142 (by decide)).2.2))))))))))))))))))))))) (by decide) (by decide) (Nat.le_of_ble_eq_true rfl) (Nat.le_of_ble_eq_true rfl) dX10_init_193 (fun w24 H g C X => ?_)
  refine W.st (st' := [zR w24 142, zR w24 101]) (cons2 rfl (cons2 (g.ref (k := 101) (G.old hk)) rfl)) ?_
  have hl : lv_has ls 2 [(0, zR w24 101)] := Eq.mp (congrArg (fun v => lv_has ls 2 [(0, v)]) (g.ref (k := 101) (G.old hk))) hl
  have G : Grw Ω w24 [102, 103, 104, 105, 106, 107, 108, 110, 116, 117, 118, 119, 120, 121, 123, 124, 125, 126, 127, 128, 129, 133, 134, 142] [] := G.tr g rfl rfl
  refine z_putFR C X (v := 142) (k := 101) zk10 (G.old hk) rfl 40 (by decide) kw_1072 rfl hin rfl rfl (fun _ => rfl) (fun _ => rfl) rfl (by decide) (G.mem (by decide)) (G.nf hkf (by decide)) (i := 40) (μ1 := zup (zup (zup (zup (zup (zup (zup (zup (zup (zup (zup (zup (zup (zup (zup (zup (zup (zup (zup (zup (zup (zup (zup (zup μ 101 0 102) 101 1 103) 101 2 104) 101 3 105) 101 4 106) 101 5 107) 101 6 108) 101 8 110) 101 14 116) 101 15 117) 101 16 118) 101 17 119) 101 18 120) 101 19 121) 101 21 123) 101 22 124) 101 23 125) 101 24 126) 101 25 127) 101 26 128) 101 27 129) 101 31 133) 101 32 134) 101 40 142) rfl dX10_init_195 (fun H locs X => ?_)
  refine lv_aload_n C.1 C.2.1 dX10_init_198 rfl (lv_at hl 0 rfl) ?_
  refine z_bipush C dX10_init_199 rfl ?_
  refine y_newI C X hA (atype := .int) 1 (Or.inl rfl) rfl rfl kw_123 rfl 143 (G.nm (hn 143 (by decide)).1 (by decide)) (G.nf (hn 143 (by decide)).2.1 (by decide)) rfl (zz_up (by decide) (zz_up (by decide) (zz_up (by decide) (zz_up (by decide) (zz_up (by decide) (zz_up (by decide) (zz_up (by decide) (zz_up (by decide) (zz_up (by decide) (zz_up (by decide) (zz_up (by decide) (zz_up (by decide) (zz_up (by decide) (zz_up (by decide) (zz_up (by decide) (zz_up (by decide) (zz_up (by decide) (zz_up (by decide) (zz_up (by decide) (zz_up (by decide) (zz_up (by decide) (zz_up (by decide) (zz_up (by decide) (zz_up (by decide) (hn 143 (by decide)).2.2)))))))))))))))))))))))) (by decide) (by decide) (Nat.le_of_ble_eq_true rfl) (Nat.le_of_ble_eq_true rfl) dX10_init_201 (fun w25 H g C X => ?_)
  refine W.st (st' := [zR w25 143, zR w25 101]) (cons2 rfl (cons2 (g.ref (k := 101) (G.old hk)) rfl)) ?_
  have hl : lv_has ls 2 [(0, zR w25 101)] := Eq.mp (congrArg (fun v => lv_has ls 2 [(0, v)]) (g.ref (k := 101) (G.old hk))) hl
  have G : Grw Ω w25 [102, 103, 104, 105, 106, 107, 108, 110, 116, 117, 118, 119, 120, 121, 123, 124, 125, 126, 127, 128, 129, 133, 134, 142, 143] [] := G.tr g rfl rfl
  refine z_putFR C X (v := 143) (k := 101) zk10 (G.old hk) rfl 41 (by decide) kw_1073 rfl hin rfl rfl (fun _ => rfl) (fun _ => rfl) rfl (by decide) (G.mem (by decide)) (G.nf hkf (by decide)) (i := 41) (μ1 := zup (zup (zup (zup (zup (zup (zup (zup (zup (zup (zup (zup (zup (zup (zup (zup (zup (zup (zup (zup (zup (zup (zup (zup (zup μ 101 0 102) 101 1 103) 101 2 104) 101 3 105) 101 4 106) 101 5 107) 101 6 108) 101 8 110) 101 14 116) 101 15 117) 101 16 118) 101 17 119) 101 18 120) 101 19 121) 101 21 123) 101 22 124) 101 23 125) 101 24 126) 101 25 127) 101 26 128) 101 27 129) 101 31 133) 101 32 134) 101 40 142) 101 41 143) rfl dX10_init_203 (fun H locs X => ?_)
  refine lv_aload_n C.1 C.2.1 dX10_init_206 rfl (lv_at hl 0 rfl) ?_
  refine z_bipush C dX10_init_207 rfl ?_
  refine y_newI C X hA (atype := .int) 1 (Or.inl rfl) rfl rfl kw_123 rfl 144 (G.nm (hn 144 (by decide)).1 (by decide)) (G.nf (hn 144 (by decide)).2.1 (by decide)) rfl (zz_up (by decide) (zz_up (by decide) (zz_up (by decide) (zz_up (by decide) (zz_up (by decide) (zz_up (by decide) (zz_up (by decide) (zz_up (by decide) (zz_up (by decide) (zz_up (by decide) (zz_up (by decide) (zz_up (by decide) (zz_up (by decide) (zz_up (by decide) (zz_up (by decide) (zz_up (by decide) (zz_up (by decide) (zz_up (by decide) (zz_up (by decide) (zz_up (by decide) (zz_up (by decide) (zz_up (by decide) (zz_up (by decide) (zz_up (by decide) (zz_up (by decide) (hn 144 (by decide)).2.2))))))))))))))))))))))))) (by decide) (by decide) (Nat.le_of_ble_eq_true rfl) (Nat.le_of_ble_eq_true rfl) dX10_init_209 (fun w26 H g C X => ?_)
  refine W.st (st' := [zR w26 144, zR w26 101]) (cons2 rfl (cons2 (g.ref (k := 101) (G.old hk)) rfl)) ?_
  have hl : lv_has ls 2 [(0, zR w26 101)] := Eq.mp (congrArg (fun v => lv_has ls 2 [(0, v)]) (g.ref (k := 101) (G.old hk))) hl
  have G : Grw Ω w26 [102, 103, 104, 105, 106, 107, 108, 110, 116, 117, 118, 119, 120, 121, 123, 124, 125, 126, 127, 128, 129, 133, 134, 142, 143, 144] [] := G.tr g rfl rfl
  refine z_putFR C X (v := 144) (k := 101) zk10 (G.old hk) rfl 42 (by decide) kw_1074 rfl hin rfl rfl (fun _ => rfl) (fun _ => rfl) rfl (by decide) (G.mem (by decide)) (G.nf hkf (by decide)) (i := 42) (μ1 := zup (zup (zup (zup (zup (zup (zup (zup (zup (zup (zup (zup (zup (zup (zup (zup (zup (zup (zup (zup (zup (zup (zup (zup (zup (zup μ 101 0 102) 101 1 103) 101 2 104) 101 3 105) 101 4 106) 101 5 107) 101 6 108) 101 8 110) 101 14 116) 101 15 117) 101 16 118) 101 17 119) 101 18 120) 101 19 121) 101 21 123) 101 22 124) 101 23 125) 101 24 126) 101 25 127) 101 26 128) 101 27 129) 101 31 133) 101 32 134) 101 40 142) 101 41 143) 101 42 144) rfl dX10_init_211 (fun H locs X => ?_)
  refine lv_aload_n C.1 C.2.1 dX10_init_214 rfl (lv_at hl 0 rfl) ?_
  refine z_bipush C dX10_init_215 rfl ?_
  refine y_newI C X hA (atype := .boolean) 3 (Or.inr (Or.inl rfl)) rfl rfl kw_124 rfl 145 (G.nm (hn 145 (by decide)).1 (by decide)) (G.nf (hn 145 (by decide)).2.1 (by decide)) rfl (zz_up (by decide) (zz_up (by decide) (zz_up (by decide) (zz_up (by decide) (zz_up (by decide) (zz_up (by decide) (zz_up (by decide) (zz_up (by decide) (zz_up (by decide) (zz_up (by decide) (zz_up (by decide) (zz_up (by decide) (zz_up (by decide) (zz_up (by decide) (zz_up (by decide) (zz_up (by decide) (zz_up (by decide) (zz_up (by decide) (zz_up (by decide) (zz_up (by decide) (zz_up (by decide) (zz_up (by decide) (zz_up (by decide) (zz_up (by decide) (zz_up (by decide) (zz_up (by decide) (hn 145 (by decide)).2.2)))))))))))))))))))))))))) (by decide) (by decide) (Nat.le_of_ble_eq_true rfl) (Nat.le_of_ble_eq_true rfl) dX10_init_217 (fun w27 H g C X => ?_)
  refine W.st (st' := [zR w27 145, zR w27 101]) (cons2 rfl (cons2 (g.ref (k := 101) (G.old hk)) rfl)) ?_
  have hl : lv_has ls 2 [(0, zR w27 101)] := Eq.mp (congrArg (fun v => lv_has ls 2 [(0, v)]) (g.ref (k := 101) (G.old hk))) hl
  have G : Grw Ω w27 [102, 103, 104, 105, 106, 107, 108, 110, 116, 117, 118, 119, 120, 121, 123, 124, 125, 126, 127, 128, 129, 133, 134, 142, 143, 144, 145] [] := G.tr g rfl rfl
  refine z_putFR C X (v := 145) (k := 101) zk10 (G.old hk) rfl 43 (by decide) kw_1075 rfl hin rfl rfl (fun _ => rfl) (fun _ => rfl) rfl (by decide) (G.mem (by decide)) (G.nf hkf (by decide)) (i := 43) (μ1 := zup (zup (zup (zup (zup (zup (zup (zup (zup (zup (zup (zup (zup (zup (zup (zup (zup (zup (zup (zup (zup (zup (zup (zup (zup (zup (zup μ 101 0 102) 101 1 103) 101 2 104) 101 3 105) 101 4 106) 101 5 107) 101 6 108) 101 8 110) 101 14 116) 101 15 117) 101 16 118) 101 17 119) 101 18 120) 101 19 121) 101 21 123) 101 22 124) 101 23 125) 101 24 126) 101 25 127) 101 26 128) 101 27 129) 101 31 133) 101 32 134) 101 40 142) 101 41 143) 101 42 144) 101 43 145) rfl dX10_init_219 (fun H locs X => ?_)
  refine lv_aload_n C.1 C.2.1 dX10_init_222 rfl (lv_at hl 0 rfl) ?_
  refine z_bipush C dX10_init_223 rfl ?_
  refine y_newI C X hA (atype := .int) 1 (Or.inl rfl) rfl rfl kw_123 rfl 146 (G.nm (hn 146 (by decide)).1 (by decide)) (G.nf (hn 146 (by decide)).2.1 (by decide)) rfl (zz_up (by decide) (zz_up (by decide) (zz_up (by decide) (zz_up (by decide) (zz_up (by decide) (zz_up (by decide) (zz_up (by decide) (zz_up (by decide) (zz_up (by decide) (zz_up (by decide) (zz_up (by decide) (zz_up (by decide) (zz_up (by decide) (zz_up (by decide) (zz_up (by decide) (zz_up (by decide) (zz_up (by decide) (zz_up (by decide) (zz_up (by decide) (zz_up (by decide) (zz_up (by decide) (zz_up (by decide) (zz_up (by decide) (zz_up (by decide) (zz_up (by decide) (zz_up (by decide) (zz_up (by decide) (hn 146 (by decide)).2.2))))))))))))))))))))))))))) (by decide) (by decide) (Nat.le_of_ble_eq_true rfl) (Nat.le_of_ble_eq_true rfl) dX10_init_225 (fun w28 H g C X => ?_)
  refine W.st (st' := [zR w28 146, zR w28 101]) (cons2 rfl (cons2 (g.ref (k := 101) (G.old hk)) rfl)) ?_
  have hl : lv_has ls 2 [(0, zR w28 101)] := Eq.mp (congrArg (fun v => lv_has ls 2 [(0, v)]) (g.ref (k := 101) (G.old hk))) hl
  have G : Grw Ω w28 [102, 103, 104, 105, 106, 107, 108, 110, 116, 117, 118, 119, 120, 121, 123, 124, 125, 126, 127, 128, 129, 133, 134, 142, 143, 144, 145, 146] [] := G.tr g rfl rfl
  refine z_putFR C X (v := 146) (k := 101) zk10 (G.old hk) rfl 44 (by decide) kw_1076 rfl hin rfl rfl (fun _ => rfl) (fun _ => rfl) rfl (by decide) (G.mem (by decide)) (G.nf hkf (by decide)) (i := 44) (μ1 := zup (zup (zup (zup (zup (zup (zup (zup (zup (zup (zup (zup (zup (zup (zup (zup (zup (zup (zup (zup (zup (zup (zup (zup (zup (zup (zup (zup μ 101 0 102) 101 1 103) 101 2 104) 101 3 105) 101 4 106) 101 5 107) 101 6 108) 101 8 110) 101 14 116) 101 15 117) 101 16 118) 101 17 119) 101 18 120) 101 19 121) 101 21 123) 101 22 124) 101 23 125) 101 24 126) 101 25 127) 101 26 128) 101 27 129) 101 31 133) 101 32 134) 101 40 142) 101 41 143) 101 42 144) 101 43 145) 101 44 146) rfl dX10_init_227 (fun H locs X => ?_)
  refine lv_aload_n C.1 C.2.1 dX10_init_230 rfl (lv_at hl 0 rfl) ?_
  refine z_bipush C dX10_init_231 rfl ?_
  refine y_newI C X hA (atype := .int) 1 (Or.inl rfl) rfl rfl kw_123 rfl 147 (G.nm (hn 147 (by decide)).1 (by decide)) (G.nf (hn 147 (by decide)).2.1 (by decide)) rfl (zz_up (by decide) (zz_up (by decide) (zz_up (by decide) (zz_up (by decide) (zz_up (by decide) (zz_up (by decide) (zz_up (by decide) (zz_up (by decide) (zz_up (by decide) (zz_up (by decide) (zz_up (by decide) (zz_up (by decide) (zz_up (by decide) (zz_up (by decide) (zz_up (by decide) (zz_up (by decide) (zz_up (by decide) (zz_up (by decide) (zz_up (by decide) (zz_up (by decide) (zz_up (by decide) (zz_up (by decide) (zz_up (by decide) (zz_up (by decide) (zz_up (by decide) (zz_up (by decide) (zz_up (by decide) (zz_up (by decide) (hn 147 (by decide)).2.2)))))))))))))))))))))))))))) (by decide) (by decide) (Nat.le_of_ble_eq_true rfl) (Nat.le_of_ble_eq_true rfl) dX10_init_233 (fun w29 H g C X => ?_)
  refine W.st (st' := [zR w29 147, zR w29 101]) (cons2 rfl (cons2 (g.ref (k := 101) (G.old hk)) rfl)) ?_
  have hl : lv_has ls 2 [(0, zR w29 101)] := Eq.mp (congrArg (fun v => lv_has ls 2 [(0, v)]) (g.ref (k := 101) (G.old hk))) hl
  have G : Grw Ω w29 [102, 103, 104, 105, 106, 107, 108, 110, 116, 117, 118, 119, 120, 121, 123, 124, 125, 126, 127, 128, 129, 133, 134, 142, 143, 144, 145, 146, 147] [] := G.tr g rfl rfl
  refine z_putFR C X (v := 147) (k := 101) zk10 (G.old hk) rfl 45 (by decide) kw_1077 rfl hin rfl rfl (fun _ => rfl) (fun _ => rfl) rfl (by decide) (G.mem (by decide)) (G.nf hkf (by decide)) (i := 45) (μ1 := zup (zup (zup (zup (zup (zup (zup (zup (zup (zup (zup (zup (zup (zup (zup (zup (zup (zup (zup (zup (zup (zup (zup (zup (zup (zup (zup (zup (zup μ 101 0 102) 101 1 103) 101 2 104) 101 3 105) 101 4 106) 101 5 107) 101 6 108) 101 8 110) 101 14 116) 101 15 117) 101 16 118) 101 17 119) 101 18 120) 101 19 121) 101 21 123) 101 22 124) 101 23 125) 101 24 126) 101 25 127) 101 26 128) 101 27 129) 101 31 133) 101 32 134) 101 40 142) 101 41 143) 101 42 144) 101 43 145) 101 44 146) 101 45 147) rfl dX10_init_235 (fun H locs X => ?_)
  refine lv_aload_n C.1 C.2.1 dX10_init_238 rfl (lv_at hl 0 rfl) ?_
  refine z_iconst C dX10_init_239 ?_
  refine y_newI C X hA (atype := .int) 1 (Or.inl rfl) rfl rfl kw_123 rfl 148 (G.nm (hn 148 (by decide)).1 (by decide)) (G.nf (hn 148 (by decide)).2.1 (by decide)) rfl (zz_up (by decide) (zz_up (by decide) (zz_up (by decide) (zz_up (by decide) (zz_up (by decide) (zz_up (by decide) (zz_up (by decide) (zz_up (by decide) (zz_up (by decide) (zz_up (by decide) (zz_up (by decide) (zz_up (by decide) (zz_up (by decide) (zz_up (by decide) (zz_up (by decide) (zz_up (by decide) (zz_up (by decide) (zz_up (by decide) (zz_up (by decide) (zz_up (by decide) (zz_up (by decide) (zz_up (by decide) (zz_up (by decide) (zz_up (by decide) (zz_up (by decide) (zz_up (by decide) (zz_up (by decide) (zz_up (by decide) (zz_up (by decide) (hn 148 (by decide)).2.2))))))))))))))))))))))))))))) (by decide) (by decide) (Nat.le_of_ble_eq_true rfl) (Nat.le_of_ble_eq_true rfl) dX10_init_240 (fun w30 H g C X => ?_)
  refine W.st (st' := [zR w30 148, zR w30 101]) (cons2 rfl (cons2 (g.ref (k := 101) (G.old hk)) rfl)) ?_
  have hl : lv_has ls 2 [(0, zR w30 101)] := Eq.mp (congrArg (fun v => lv_has ls 2 [(0, v)]) (g.ref (k := 101) (G.old hk))) hl
  have G : Grw Ω w30 [102, 103, 104, 105, 106, 107, 108, 110, 116, 117, 118, 119, 120, 121, 123, 124, 125, 126, 127, 128, 129, 133, 134, 142, 143, 144, 145, 146, 147, 148] [] := G.tr g rfl rfl
  refine z_putFR C X (v := 148) (k := 101) zk10 (G.old hk) rfl 46 (by decide) kw_1078 rfl hin rfl rfl (fun _ => rfl) (fun _ => rfl) rfl (by decide) (G.mem (by decide)) (G.nf hkf (by decide)) (i := 46) (μ1 := zup (zup (zup (zup (zup (zup (zup (zup (zup (zup (zup (zup (zup (zup (zup (zup (zup (zup (zup (zup (zup (zup (zup (zup (zup (zup (zup (zup (zup (zup μ 101 0 102) 101 1 103) 101 2 104) 101 3 105) 101 4 106) 101 5 107) 101 6 108) 101 8 110) 101 14 116) 101 15 117) 101 16 118) 101 17 119) 101 18 120) 101 19 121) 101 21 123) 101 22 124) 101 23 125) 101 24 126) 101 25 127) 101 26 128) 101 27 129) 101 31 133) 101 32 134) 101 40 142) 101 41 143) 101 42 144) 101 43 145) 101 44 146) 101 45 147) 101 46 148) rfl dX10_init_242 (fun H locs X => ?_)
  refine lv_aload_n C.1 C.2.1 dX10_init_245 rfl (lv_at hl 0 rfl) ?_
  refine z_iconst C dX10_init_246 ?_
  refine y_newI C X hA (atype := .int) 1 (Or.inl rfl) rfl rfl kw_123 rfl 149 (G.nm (hn 149 (by decide)).1 (by decide)) (G.nf (hn 149 (by decide)).2.1 (by decide)) rfl (zz_up (by decide) (zz_up (by decide) (zz_up (by decide) (zz_up (by decide) (zz_up (by decide) (zz_up (by decide) (zz_up (by decide) (zz_up (by decide) (zz_up (by decide) (zz_up (by decide) (zz_up (by decide) (zz_up (by decide) (zz_up (by decide) (zz_up (by decide) (zz_up (by decide) (zz_up (by decide) (zz_up (by decide) (zz_up (by decide) (zz_up (by decide) (zz_up (by decide) (zz_up (by decide) (zz_up (by decide) (zz_up (by decide) (zz_up (by decide) (zz_up (by decide) (zz_up (by decide) (zz_up (by decide) (zz_up (by decide) (zz_up (by decide) (zz_up (by decide) (hn 149 (by decide)).2.2)))))))))))))))))))))))))))))) (by decide) (by decide) (Nat.le_of_ble_eq_true rfl) (Nat.le_of_ble_eq_true rfl) dX10_init_247 (fun w31 H g C X => ?_)
  refine W.st (st' := [zR w31 149, zR w31 101]) (cons2 rfl (cons2 (g.ref (k := 101) (G.old hk)) rfl)) ?_
  have hl : lv_has ls 2 [(0, zR w31 101)] := Eq.mp (congrArg (fun v => lv_has ls 2 [(0, v)]) (g.ref (k := 101) (G.old hk))) hl
  have G : Grw Ω w31 [102, 103, 104, 105, 106, 107, 108, 110, 116, 117, 118, 119, 120, 121, 123, 124, 125, 126, 127, 128, 129, 133, 134, 142, 143, 144, 145, 146, 147, 148, 149] [] := G.tr g rfl rfl
  refine z_putFR C X (v := 149) (k := 101) zk10 (G.old hk) rfl 47 (by decide) kw_1079 rfl hin rfl rfl (fun _ => rfl) (fun _ => rfl) rfl (by decide) (G.mem (by decide)) (G.nf hkf (by decide)) (i := 47) (μ1 := zup (zup (zup (zup (zup (zup (zup (zup (zup (zup (zup (zup (zup (zup (zup (zup (zup (zup (zup (zup (zup (zup (zup (zup (zup (zup (zup (zup (zup (zup (zup μ 101 0 102) 101 1 103) 101 2 104) 101 3 105) 101 4 106) 101 5 107) 101 6 108) 101 8 110) 101 14 116) 101 15 117) 101 16 118) 101 17 119) 101 18 120) 101 19 121) 101 21 123) 101 22 124) 101 23 125) 101 24 126) 101 25 127) 101 26 128) 101 27 129) 101 31 133) 101 32 134) 101 40 142) 101 41 143) 101 42 144) 101 43 145) 101 44 146) 101 45 147) 101 46 148) 101 47 149) rfl dX10_init_249 (fun H locs X => ?_)
  refine lv_aload_n C.1 C.2.1 dX10_init_252 rfl (lv_at hl 0 rfl) ?_
  refine z_iconst C dX10_init_253 ?_
  refine y_newI C X hA (atype := .int) 1 (Or.inl rfl) rfl rfl kw_123 rfl 150 (G.nm (hn 150 (by decide)).1 (by decide)) (G.nf (hn 150 (by decide)).2.1 (by decide)) rfl (zz_up (by decide) (zz_up (by decide) (zz_up (by decide) (zz_up (by decide) (zz_up (by decide) (zz_up (by decide) (zz_up (by decide) (zz_up (by decide) (zz_up (by decide) (zz_up (by decide) (zz_up (by decide) (zz_up (by decide) (zz_up (by decide) (zz_up (by decide) (zz_up (by decide) (zz_up (by decide) (zz_up (by decide) (zz_up (by decide) (zz_up (by decide) (zz_up (by decide) (zz_up (by decide) (zz_up (by decide) (zz_up (by decide) (zz_up (by decide) (zz_up (by decide) (zz_up (by decide) (zz_up (by decide) (zz_up (by decide) (zz_up (by decide) (zz_up (by decide) (zz_up (by decide) (hn 150 (by decide)).2.2))))))))))))))))))))))))))))))) (by decide) (by decide) (Nat.le_of_ble_eq_true rfl) (Nat.le_of_ble_eq_true rfl) dX10_init_254 (fun w32 H g C X => ?_)
  refine W.st (st' := [zR w32 150, zR w32 101]) (cons2 rfl (cons2 (g.ref (k := 101) (G.old hk)) rfl)) ?_
  have hl : lv_has ls 2 [(0, zR w32 101)] := Eq.mp (congrArg (fun v => lv_has ls 2 [(0, v)]) (g.ref (k := 101) (G.old hk))) hl
  have G : Grw Ω w32 [102, 103, 104, 105, 106, 107, 108, 110, 116, 117, 118, 119, 120, 121, 123, 124, 125, 126, 127, 128, 129, 133, 134, 142, 143, 144, 145, 146, 147, 148, 149, 150] [] := G.tr g rfl rfl
  refine z_putFR C X (v := 150) (k := 101) zk10 (G.old hk) rfl 48 (by decide) kw_1080 rfl hin rfl rfl (fun _ => rfl) (fun _ => rfl) rfl (by decide) (G.mem (by decide)) (G.nf hkf (by decide)) (i := 48) (μ1 := zup (zup (zup (zup (zup (zup (zup (zup (zup (zup (zup (zup (zup (zup (zup (zup (zup (zup (zup (zup (zup (zup (zup (zup (zup (zup (zup (zup (zup (zup (zup (zup μ 101 0 102) 101 1 103) 101 2 104) 101 3 105) 101 4 106) 101 5 107) 101 6 108) 101 8 110) 101 14 116) 101 15 117) 101 16 118) 101 17 119) 101 18 120) 101 19 121) 101 21 123) 101 22 124) 101 23 125) 101 24 126) 101 25 127) 101 26 128) 101 27 129) 101 31 133) 101 32 134) 101 40 142) 101 41 143) 101 42 144) 101 43 145) 101 44 146) 101 45 147) 101 46 148) 101 47 149) 101 48 150) rfl dX10_init_256 (fun H locs X => ?_)
  refine lv_aload_n C.1 C.2.1 dX10_init_259 rfl (lv_at hl 0 rfl) ?_
  refine z_iconst C dX10_init_260 ?_
  refine y_newI C X hA (atype := .int) 1 (Or.inl rfl) rfl rfl kw_123 rfl 151 (G.nm (hn 151 (by decide)).1 (by decide)) (G.nf (hn 151 (by decide)).2.1 (by decide)) rfl (zz_up (by decide) (zz_up (by decide) (zz_up (by decide) (zz_up (by decide) (zz_up (by decide) (zz_up (by decide) (zz_up (by decide) (zz_up (by decide) (zz_up (by decide) (zz_up (by decide) (zz_up (by decide) (zz_up (by decide) (zz_up (by decide) (zz_up (by decide) (zz_up (by decide) (zz_up (by decide) (zz_up (by decide) (zz_up (by decide) (zz_up (by decide) (zz_up (by decide) (zz_up (by decide) (zz_up (by decide) (zz_up (by decide) (zz_up (by decide) (zz_up (by decide) (zz_up (by decide) (zz_up (by decide) (zz_up (by decide) (zz_up (by decide) (zz_up (by decide) (zz_up (by decide) (zz_up (by decide) (hn 151 (by decide)).2.2)))))))))))))))))))))))))))))))) (by decide) (by decide) (Nat.le_of_ble_eq_true rfl) (Nat.le_of_ble_eq_true rfl) dX10_init_261 (fun w33 H g C X => ?_)
  refine W.st (st' := [zR w33 151, zR w33 101]) (cons2 rfl (cons2 (g.ref (k := 101) (G.old hk)) rfl)) ?_
  have hl : lv_has ls 2 [(0, zR w33 101)] := Eq.mp (congrArg (fun v => lv_has ls 2 [(0, v)]) (g.ref (k := 101) (G.old hk))) hl
  have G : Grw Ω w33 [102, 103, 104, 105, 106, 107, 108, 110, 116, 117, 118, 119, 120, 121, 123, 124, 125, 126, 127, 128, 129, 133, 134, 142, 143, 144, 145, 146, 147, 148, 149, 150, 151] [] := G.tr g rfl rfl
  refine z_putFR C X (v := 151) (k := 101) zk10 (G.old hk) rfl 49 (by decide) kw_1081 rfl hin rfl rfl (fun _ => rfl) (fun _ => rfl) rfl (by decide) (G.mem (by decide)) (G.nf hkf (by decide)) (i := 49) (μ1 := zup (zup (zup (zup (zup (zup (zup (zup (zup (zup (zup (zup (zup (zup (zup (zup (zup (zup (zup (zup (zup (zup (zup (zup (zup (zup (zup (zup (zup (zup (zup (zup (zup μ 101 0 102) 101 1 103) 101 2 104) 101 3 105) 101 4 106) 101 5 107) 101 6 108) 101 8 110) 101 14 116) 101 15 117) 101 16 118) 101 17 119) 101 18 120) 101 19 121) 101 21 123) 101 22 124) 101 23 125) 101 24 126) 101 25 127) 101 26 128) 101 27 129) 101 31 133) 101 32 134) 101 40 142) 101 41 143) 101 42 144) 101 43 145) 101 44 146) 101 45 147) 101 46 148) 101 47 149) 101 48 150) 101 49 151) rfl dX10_init_263 (fun H locs X => ?_)
  refine lv_aload_n C.1 C.2.1 dX10_init_266 rfl (lv_at hl 0 rfl) ?_
  refine z_bipush C dX10_init_267 rfl ?_
  refine y_newI C X hA (atype := .int) 1 (Or.inl rfl) rfl rfl kw_123 rfl 152 (G.nm (hn 152 (by decide)).1 (by decide)) (G.nf (hn 152 (by decide)).2.1 (by decide)) rfl (zz_up (by decide) (zz_up (by decide) (zz_up (by decide) (zz_up (by decide) (zz_up (by decide) (zz_up (by decide) (zz_up (by decide) (zz_up (by decide) (zz_up (by decide) (zz_up (by decide) (zz_up (by decide) (zz_up (by decide) (zz_up (by decide) (zz_up (by decide) (zz_up (by decide) (zz_up (by decide) (zz_up (by decide) (zz_up (by decide) (zz_up (by decide) (zz_up (by decide) (zz_up (by decide) (zz_up (by decide) (zz_up (by decide) (zz_up (by decide) (zz_up (by decide) (zz_up (by decide) (zz_up (by decide) (zz_up (by decide) (zz_up (by decide) (zz_up (by decide) (zz_up (by decide) (zz_up (by decide) (zz_up (by decide) (hn 152 (by decide)).2.2))))))))))))))))))))))))))))))))) (by decide) (by decide) (Nat.le_of_ble_eq_true rfl) (Nat.le_of_ble_eq_true rfl) dX10_init_269 (fun w34 H g C X => ?_)
  refine W.st (st' := [zR w34 152, zR w34 101]) (cons2 rfl (cons2 (g.ref (k := 101) (G.old hk)) rfl)) ?_
  have hl : lv_has ls 2 [(0, zR w34 101)] := Eq.mp (congrArg (fun v => lv_has ls 2 [(0, v)]) (g.ref (k := 101) (G.old hk))) hl
  have G : Grw Ω w34 [102, 103, 104, 105, 106, 107, 108, 110, 116, 117, 118, 119, 120, 121, 123, 124, 125, 126, 127, 128, 129, 133, 134, 142, 143, 144, 145, 146, 147, 148, 149, 150, 151, 152] [] := G.tr g rfl rfl
  refine z_putFR C X (v := 152) (k := 101) zk10 (G.old hk) rfl 50 (by decide) kw_1082 rfl hin rfl rfl (fun _ => rfl) (fun _ => rfl) rfl (by decide) (G.mem (by decide)) (G.nf hkf (by decide)) (i := 50) (μ1 := zup (zup (zup (zup (zup (zup (zup (zup (zup (zup (zup (zup (zup (zup (zup (zup (zup (zup (zup (zup (zup (zup (zup (zup (zup (zup (zup (zup (zup (zup (zup (zup (zup (zup μ 101 0 102) 101 1 103) 101 2 104) 101 3 105) 101 4 106) 101 5 107) 101 6 108) 101 8 110) 101 14 116) 101 15 117) 101 16 118) 101 17 119) 101 18 120) 101 19 121) 101 21 123) 101 22 124) 101 23 125) 101 24 126) 101 25 127) 101 26 128) 101 27 129) 101 31 133) 101 32 134) 101 40 142) 101 41 143) 101 42 144) 101 43 145) 101 44 146) 101 45 147) 101 46 148) 101 47 149) 101 48 150) 101 49 151) 101 50 152) rfl dX10_init_271 (fun H locs X => ?_)
  refine lv_aload_n C.1 C.2.1 dX10_init_274 rfl (lv_at hl 0 rfl) ?_
  refine z_bipush C dX10_init_275 rfl ?_
  refine y_newI C X hA (atype := .int) 1 (Or.inl rfl) rfl rfl kw_123 rfl 154 (G.nm (hn 154 (by decide)).1 (by decide)) (G.nf (hn 154 (by decide)).2.1 (by decide)) rfl (zz_up (by decide) (zz_up (by decide) (zz_up (by decide) (zz_up (by decide) (zz_up (by decide) (zz_up (by decide) (zz_up (by decide) (zz_up (by decide) (zz_up (by decide) (zz_up (by decide) (zz_up (by decide) (zz_up (by decide) (zz_up (by decide) (zz_up (by decide) (zz_up (by decide) (zz_up (by decide) (zz_up (by decide) (zz_up (by decide) (zz_up (by decide) (zz_up (by decide) (zz_up (by decide) (zz_up (by decide) (zz_up (by decide) (zz_up (by decide) (zz_up (by decide) (zz_up (by decide) (zz_up (by decide) (zz_up (by decide) (zz_up (by decide) (zz_up (by decide) (zz_up (by decide) (zz_up (by decide) (zz_up (by decide) (zz_up (by decide) (hn 154 (by decide)).2.2)))))))))))))))))))))))))))))))))) (by decide) (by decide) (Nat.le_of_ble_eq_true rfl) (Nat.le_of_ble_eq_true rfl) dX10_init_277 (fun w35 H g C X => ?_)
  refine W.st (st' := [zR w35 154, zR w35 101]) (cons2 rfl (cons2 (g.ref (k := 101) (G.old hk)) rfl)) ?_
  have hl : lv_has ls 2 [(0, zR w35 101)] := Eq.mp (congrArg (fun v => lv_has ls 2 [(0, v)]) (g.ref (k := 101) (G.old hk))) hl
  have G : Grw Ω w35 [102, 103, 104, 105, 106, 107, 108, 110, 116, 117, 118, 119, 120, 121, 123, 124, 125, 126, 127, 128, 129, 133, 134, 142, 143, 144, 145, 146, 147, 148, 149, 150, 151, 152, 154] [] := G.tr g rfl rfl
  refine z_putFR C X (v := 154) (k := 101) zk10 (G.old hk) rfl 52 (by decide) kw_1084 rfl hin rfl rfl (fun _ => rfl) (fun _ => rfl) rfl (by decide) (G.mem (by decide)) (G.nf hkf (by decide)) (i := 52) (μ1 := zup (zup (zup (zup (zup (zup (zup (zup (zup (zup (zup (zup (zup (zup (zup (zup (zup (zup (zup (zup (zup (zup (zup (zup (zup (zup (zup (zup (zup (zup (zup (zup (zup (zup (zup μ 101 0 102) 101 1 103) 101 2 104) 101 3 105) 101 4 106) 101 5 107) 101 6 108) 101 8 110) 101 14 116) 101 15 117) 101 16 118) 101 17 119) 101 18 120) 101 19 121) 101 21 123) 101 22 124) 101 23 125) 101 24 126) 101 25 127) 101 26 128) 101 27 129) 101 31 133) 101 32 134) 101 40 142) 101 41 143) 101 42 144) 101 43 145) 101 44 146) 101 45 147) 101 46 148) 101 47 149) 101 48 150) 101 49 151) 101 50 152) 101 52 154) rfl dX10_init_279 (fun H locs X => ?_)
  refine lv_aload_n C.1 C.2.1 dX10_init_282 rfl (lv_at hl 0 rfl) ?_
  refine z_sipush C dX10_init_283 rfl ?_
  refine y_newL C X hA (atype := .long) 2 (rfl) rfl rfl kw_246 rfl 156 (G.nm (hn 156 (by decide)).1 (by decide)) (G.nf (hn 156 (by decide)).2.1 (by decide)) rfl (zz_up (by decide) (zz_up (by decide) (zz_up (by decide) (zz_up (by decide) (zz_up (by decide) (zz_up (by decide) (zz_up (by decide) (zz_up (by decide) (zz_up (by decide) (zz_up (by decide) (zz_up (by decide) (zz_up (by decide) (zz_up (by decide) (zz_up (by decide) (zz_up (by decide) (zz_up (by decide) (zz_up (by decide) (zz_up (by decide) (zz_up (by decide) (zz_up (by decide) (zz_up (by decide) (zz_up (by decide) (zz_up (by decide) (zz_up (by decide) (zz_up (by decide) (zz_up (by decide) (zz_up (by decide) (zz_up (by decide) (zz_up (by decide) (zz_up (by decide) (zz_up (by decide) (zz_up (by decide) (zz_up (by decide) (zz_up (by decide) (zz_up (by decide) (hn 156 (by decide)).2.2))))))))))))))))))))))))))))))))))) (by decide) (by decide) (Nat.le_of_ble_eq_true rfl) (Nat.le_of_ble_eq_true rfl) dX10_init_286 (fun w36 H g C X => ?_)
  refine W.st (st' := [zR w36 156, zR w36 101]) (cons2 rfl (cons2 (g.ref (k := 101) (G.old hk)) rfl)) ?_
  have hl : lv_has ls 2 [(0, zR w36 101)] := Eq.mp (congrArg (fun v => lv_has ls 2 [(0, v)]) (g.ref (k := 101) (G.old hk))) hl
  have G : Grw Ω w36 [102, 103, 104, 105, 106, 107, 108, 110, 116, 117, 118, 119, 120, 121, 123, 124, 125, 126, 127, 128, 129, 133, 134, 142, 143, 144, 145, 146, 147, 148, 149, 150, 151, 152, 154, 156] [] := G.tr g rfl rfl
  refine z_putFR C X (v := 156) (k := 101) zk10 (G.old hk) rfl 54 (by decide) kw_1086 rfl hin rfl rfl (fun _ => rfl) (fun _ => rfl) rfl (by decide) (G.mem (by decide)) (G.nf hkf (by decide)) (i := 54) (μ1 := zup (zup (zup (zup (zup (zup (zup (zup (zup (zup (zup (zup (zup (zup (zup (zup (zup (zup (zup (zup (zup (zup (zup (zup (zup (zup (zup (zup (zup (zup (zup (zup (zup (zup (zup (zup μ 101 0 102) 101 1 103) 101 2 104) 101 3 105) 101 4 106) 101 5 107) 101 6 108) 101 8 110) 101 14 116) 101 15 117) 101 16 118) 101 17 119) 101 18 120) 101 19 121) 101 21 123) 101 22 124) 101 23 125) 101 24 126) 101 25 127) 101 26 128) 101 27 129) 101 31 133) 101 32 134) 101 40 142) 101 41 143) 101 42 144) 101 43 145) 101 44 146) 101 45 147) 101 46 148) 101 47 149) 101 48 150) 101 49 151) 101 50 152) 101 52 154) 101 54 156) rfl dX10_init_288 (fun H locs X => ?_)
  refine lv_aload_n C.1 C.2.1 dX10_init_291 rfl (lv_at hl 0 rfl) ?_
  refine z_sipush C dX10_init_292 rfl ?_
  refine y_newL C X hA (atype := .long) 2 (rfl) rfl rfl kw_246 rfl 157 (G.nm (hn 157 (by decide)).1 (by decide)) (G.nf (hn 157 (by decide)).2.1 (by decide)) rfl (zz_up (by decide) (zz_up (by decide) (zz_up (by decide) (zz_up (by decide) (zz_up (by decide) (zz_up (by decide) (zz_up (by decide) (zz_up (by decide) (zz_up (by decide) (zz_up (by decide) (zz_up (by decide) (zz_up (by decide) (zz_up (by decide) (zz_up (by decide) (zz_up (by decide) (zz_up (by decide) (zz_up (by decide) (zz_up (by decide) (zz_up (by decide) (zz_up (by decide) (zz_up (by decide) (zz_up (by decide) (zz_up (by decide) (zz_up (by decide) (zz_up (by decide) (zz_up (by decide) (zz_up (by decide) (zz_up (by decide) (zz_up (by decide) (zz_up (by decide) (zz_up (by decide) (zz_up (by decide) (zz_up (by decide) (zz_up (by decide) (zz_up (by decide) (zz_up (by decide) (hn 157 (by decide)).2.2)))))))))))))))))))))))))))))))))))) (by decide) (by decide) (Nat.le_of_ble_eq_true rfl) (Nat.le_of_ble_eq_true rfl) dX10_init_295 (fun w37 H g C X => ?_)
  refine W.st (st' := [zR w37 157, zR w37 101]) (cons2 rfl (cons2 (g.ref (k := 101) (G.old hk)) rfl)) ?_
  have hl : lv_has ls 2 [(0, zR w37 101)] := Eq.mp (congrArg (fun v => lv_has ls 2 [(0, v)]) (g.ref (k := 101) (G.old hk))) hl
  have G : Grw Ω w37 [102, 103, 104, 105, 106, 107, 108, 110, 116, 117, 118, 119, 120, 121, 123, 124, 125, 126, 127, 128, 129, 133, 134, 142, 143, 144, 145, 146, 147, 148, 149, 150, 151, 152, 154, 156, 157] [] := G.tr g rfl rfl
  refine z_putFR C X (v := 157) (k := 101) zk10 (G.old hk) rfl 55 (by decide) kw_1087 rfl hin rfl rfl (fun _ => rfl) (fun _ => rfl) rfl (by decide) (G.mem (by decide)) (G.nf hkf (by decide)) (i := 55) (μ1 := zup (zup (zup (zup (zup (zup (zup (zup (zup (zup (zup (zup (zup (zup (zup (zup (zup (zup (zup (zup (zup (zup (zup (zup (zup (zup (zup (zup (zup (zup (zup (zup (zup (zup (zup (zup (zup μ 101 0 102) 101 1 103) 101 2 104) 101 3 105) 101 4 106) 101 5 107) 101 6 108) 101 8 110) 101 14 116) 101 15 117) 101 16 118) 101 17 119) 101 18 120) 101 19 121) 101 21 123) 101 22 124) 101 23 125) 101 24 126) 101 25 127) 101 26 128) 101 27 129) 101 31 133) 101 32 134) 101 40 142) 101 41 143) 101 42 144) 101 43 145) 101 44 146) 101 45 147) 101 46 148) 101 47 149) 101 48 150) 101 49 151) 101 50 152) 101 52 154) 101 54 156) 101 55 157) rfl dX10_init_297 (fun H locs X => ?_)
  refine lv_aload_n C.1 C.2.1 dX10_init_300 rfl (lv_at hl 0 rfl) ?_
  refine z_iconst C dX10_init_301 ?_
  refine y_newI C X hA (atype := .int) 1 (Or.inl rfl) rfl rfl kw_123 rfl 158 (G.nm (hn 158 (by decide)).1 (by decide)) (G.nf (hn 158 (by decide)).2.1 (by decide)) rfl (zz_up (by decide) (zz_up (by decide) (zz_up (by decide) (zz_up (by decide) (zz_up (by decide) (zz_up (by decide) (zz_up (by decide) (zz_up (by decide) (zz_up (by decide) (zz_up (by decide) (zz_up (by decide) (zz_up (by decide) (zz_up (by decide) (zz_up (by decide) (zz_up (by decide) (zz_up (by decide) (zz_up (by decide) (zz_up (by decide) (zz_up (by decide) (zz_up (by decide) (zz_up (by decide) (zz_up (by decide) (zz_up (by decide) (zz_up (by decide) (zz_up (by decide) (zz_up (by decide) (zz_up (by decide) (zz_up (by decide) (zz_up (by decide) (zz_up (by decide) (zz_up (by decide) (zz_up (by decide) (zz_up (by decide) (zz_up (by decide) (zz_up (by decide) (zz_up (by decide) (zz_up (by decide) (hn 158 (by decide)).2.2))))))))))))))))))))))))))))))))))))) (by decide) (by decide) (Nat.le_of_ble_eq_true rfl) (Nat.le_of_ble_eq_true rfl) dX10_init_302 (fun w38 H g C X => ?_)
  refine W.st (st' := [zR w38 158, zR w38 101]) (cons2 rfl (cons2 (g.ref (k := 101) (G.old hk)) rfl)) ?_
  have hl : lv_has ls 2 [(0, zR w38 101)] := Eq.mp (congrArg (fun v => lv_has ls 2 [(0, v)]) (g.ref (k := 101) (G.old hk))) hl
  have G : Grw Ω w38 [102, 103, 104, 105, 106, 107, 108, 110, 116, 117, 118, 119, 120, 121, 123, 124, 125, 126, 127, 128, 129, 133, 134, 142, 143, 144, 145, 146, 147, 148, 149, 150, 151, 152, 154, 156, 157, 158] [] := G.tr g rfl rfl
  refine z_putFR C X (v := 158) (k := 101) zk10 (G.old hk) rfl 56 (by decide) kw_1088 rfl hin rfl rfl (fun _ => rfl) (fun _ => rfl) rfl (by decide) (G.mem (by decide)) (G.nf hkf (by decide)) (i := 56) (μ1 := zup (zup (zup (zup (zup (zup (zup (zup (zup (zup (zup (zup (zup (zup (zup (zup (zup (zup (zup (zup (zup (zup (zup (zup (zup (zup (zup (zup (zup (zup (zup (zup (zup (zup (zup (zup (zup (zup μ 101 0 102) 101 1 103) 101 2 104) 101 3 105) 101 4 106) 101 5 107) 101 6 108) 101 8 110) 101 14 116) 101 15 117) 101 16 118) 101 17 119) 101 18 120) 101 19 121) 101 21 123) 101 22 124) 101 23 125) 101 24 126) 101 25 127) 101 26 128) 101 27 129) 101 31 133) 101 32 134) 101 40 142) 101 41 143) 101 42 144) 101 43 145) 101 44 146) 101 45 147) 101 46 148) 101 47 149) 101 48 150) 101 49 151) 101 50 152) 101 52 154) 101 54 156) 101 55 157) 101 56 158) rfl dX10_init_304 (fun H locs X => ?_)
  refine lv_aload_n C.1 C.2.1 dX10_init_307 rfl (lv_at hl 0 rfl) ?_
  refine z_iconst C dX10_init_308 ?_
  refine y_newI C X hA (atype := .int) 1 (Or.inl rfl) rfl rfl kw_123 rfl 159 (G.nm (hn 159 (by decide)).1 (by decide)) (G.nf (hn 159 (by decide)).2.1 (by decide)) rfl (zz_up (by decide) (zz_up (by decide) (zz_up (by decide) (zz_up (by decide) (zz_up (by decide) (zz_up (by decide) (zz_up (by decide) (zz_up (by decide) (zz_up (by decide) (zz_up (by decide) (zz_up (by decide) (zz_up (by decide) (zz_up (by decide) (zz_up (by decide) (zz_up (by decide) (zz_up (by decide) (zz_up (by decide) (zz_up (by decide) (zz_up (by decide) (zz_up (by decide) (zz_up (by decide) (zz_up (by decide) (zz_up (by decide) (zz_up (by decide) (zz_up (by decide) (zz_up (by decide) (zz_up (by decide) (zz_up (by decide) (zz_up (by decide) (zz_up (by decide) (zz_up (by decide) (zz_up (by decide) (zz_up (by decide) (zz_up (by decide) (zz_up (by decide) (zz_up (by decide) (zz_up (by decide) (zz_up (by decide) (hn 159 (by decide)).2.2)))))))))))))))))))))))))))))))))))))) (by decide) (by decide) (Nat.le_of_ble_eq_true rfl) (Nat.le_of_ble_eq_true rfl) dX10_init_309 (fun w39 H g C X => ?_)
  refine W.st (st' := [zR w39 159, zR w39 101]) (cons2 rfl (cons2 (g.ref (k := 101) (G.old hk)) rfl)) ?_
  have hl : lv_has ls 2 [(0, zR w39 101)] := Eq.mp (congrArg (fun v => lv_has ls 2 [(0, v)]) (g.ref (k := 101) (G.old hk))) hl
  have G : Grw Ω w39 [102, 103, 104, 105, 106, 107, 108, 110, 116, 117, 118, 119, 120, 121, 123, 124, 125, 126, 127, 128, 129, 133, 134, 142, 143, 144, 145, 146, 147, 148, 149, 150, 151, 152, 154, 156, 157, 158, 159] [] := G.tr g rfl rfl
  refine z_putFR C X (v := 159) (k := 101) zk10 (G.old hk) rfl 57 (by decide) kw_1089 rfl hin rfl rfl (fun _ => rfl) (fun _ => rfl) rfl (by decide) (G.mem (by decide)) (G.nf hkf (by decide)) (i := 57) (μ1 := zup (zup (zup (zup (zup (zup (zup (zup (zup (zup (zup (zup (zup (zup (zup (zup (zup (zup (zup (zup (zup (zup (zup (zup (zup (zup (zup (zup (zup (zup (zup (zup (zup (zup (zup (zup (zup (zup (zup μ 101 0 102) 101 1 103) 101 2 104) 101 3 105) 101 4 106) 101 5 107) 101 6 108) 101 8 110) 101 14 116) 101 15 117) 101 16 118) 101 17 119) 101 18 120) 101 19 121) 101 21 123) 101 22 124) 101 23 125) 101 24 126) 101 25 127) 101 26 128) 101 27 129) 101 31 133) 101 32 134) 101 40 142) 101 41 143) 101 42 144) 101 43 145) 101 44 146) 101 45 147) 101 46 148) 101 47 149) 101 48 150) 101 49 151) 101 50 152) 101 52 154) 101 54 156) 101 55 157) 101 56 158) 101 57 159) rfl dX10_init_311 (fun H locs X => ?_)
  refine lv_aload_n C.1 C.2.1 dX10_init_314 rfl (lv_at hl 0 rfl) ?_
  refine z_bipush C dX10_init_315 rfl ?_
  refine y_newI C X hA (atype := .int) 1 (Or.inl rfl) rfl rfl kw_123 rfl 160 (G.nm (hn 160 (by decide)).1 (by decide)) (G.nf (hn 160 (by decide)).2.1 (by decide)) rfl (zz_up (by decide) (zz_up (by decide) (zz_up (by decide) (zz_up (by decide) (zz_up (by decide) (zz_up (by decide) (zz_up (by decide) (zz_up (by decide) (zz_up (by decide) (zz_up (by decide) (zz_up (by decide) (zz_up (by decide) (zz_up (by decide) (zz_up (by decide) (zz_up (by decide) (zz_up (by decide) (zz_up (by decide) (zz_up (by decide) (zz_up (by decide) (zz_up (by decide) (zz_up (by decide) (zz_up (by decide) (zz_up (by decide) (zz_up (by decide) (zz_up (by decide) (zz_up (by decide) (zz_up (by decide) (zz_up (by decide) (zz_up (by decide) (zz_up (by decide) (zz_up (by decide) (zz_up (by decide) (zz_up (by decide) (zz_up (by decide) (zz_up (by decide) (zz_up (by decide) (zz_up (by decide) (zz_up (by decide) (zz_up (by decide) (hn 160 (by decide)).2.2))))))))))))))))))))))))))))))))))))))) (by decide) (by decide) (Nat.le_of_ble_eq_true rfl) (Nat.le_of_ble_eq_true rfl) dX10_init_317 (fun w40 H g C X => ?_)
  refine W.st (st' := [zR w40 160, zR w40 101]) (cons2 rfl (cons2 (g.ref (k := 101) (G.old hk)) rfl)) ?_
  have hl : lv_has ls 2 [(0, zR w40 101)] := Eq.mp (congrArg (fun v => lv_has ls 2 [(0, v)]) (g.ref (k := 101) (G.old hk))) hl
  have G : Grw Ω w40 [102, 103, 104, 105, 106, 107, 108, 110, 116, 117, 118, 119, 120, 121, 123, 124, 125, 126, 127, 128, 129, 133, 134, 142, 143, 144, 145, 146, 147, 148, 149, 150, 151, 152, 154, 156, 157, 158, 159, 160] [] := G.tr g rfl rfl
  refine z_putFR C X (v := 160) (k := 101) zk10 (G.old hk) rfl 58 (by decide) kw_1090 rfl hin rfl rfl (fun _ => rfl) (fun _ => rfl) rfl (by decide) (G.mem (by decide)) (G.nf hkf (by decide)) (i := 58) (μ1 := zup (zup (zup (zup (zup (zup (zup (zup (zup (zup (zup (zup (zup (zup (zup (zup (zup (zup (zup (zup (zup (zup (zup (zup (zup (zup (zup (zup (zup (zup (zup (zup (zup (zup (zup (zup (zup (zup (zup (zup μ 101 0 102) 101 1 103) 101 2 104) 101 3 105) 101 4 106) 101 5 107) 101 6 108) 101 8 110) 101 14 116) 101 15 117) 101 16 118) 101 17 119) 101 18 120) 101 19 121) 101 21 123) 101 22 124) 101 23 125) 101 24 126) 101 25 127) 101 26 128) 101 27 129) 101 31 133) 101 32 134) 101 40 142) 101 41 143) 101 42 144) 101 43 145) 101 44 146) 101 45 147) 101 46 148) 101 47 149) 101 48 150) 101 49 151) 101 50 152) 101 52 154) 101 54 156) 101 55 157) 101 56 158) 101 57 159) 101 58 160) rfl dX10_init_319 (fun H locs X => ?_)
  refine lv_aload_n C.1 C.2.1 dX10_init_322 rfl (lv_at hl 0 rfl) ?_
  refine z_get C X (k := 101) zk10 (G.old hk) rfl 0 (by decide) kw_1032 (zR w40 102) rfl dX10_init_323 ?_
  refine z_iconst C dX10_init_326 ?_
  refine z_iconst C dX10_init_327 ?_
  refine z_iast C X (k := 102) (i := 0) (v := 1) (G.mem (by decide)) rfl ⟨by decide, by decide⟩ (zok1 rfl ⟨by decide, by decide⟩) (μ1 := zup (zup (zup (zup (zup (zup (zup (zup (zup (zup (zup (zup (zup (zup (zup (zup (zup (zup (zup (zup (zup (zup (zup (zup (zup (zup (zup (zup (zup (zup (zup (zup (zup (zup (zup (zup (zup (zup (zup (zup (zup μ 101 0 102) 101 1 103) 101 2 104) 101 3 105) 101 4 106) 101 5 107) 101 6 108) 101 8 110) 101 14 116) 101 15 117) 101 16 118) 101 17 119) 101 18 120) 101 19 121) 101 21 123) 101 22 124) 101 23 125) 101 24 126) 101 25 127) 101 26 128) 101 27 129) 101 31 133) 101 32 134) 101 40 142) 101 41 143) 101 42 144) 101 43 145) 101 44 146) 101 45 147) 101 46 148) 101 47 149) 101 48 150) 101 49 151) 101 50 152) 101 52 154) 101 54 156) 101 55 157) 101 56 158) 101 57 159) 101 58 160) 102 0 1) rfl dX10_init_328 (fun H locs X => ?_)
  refine lv_aload_n C.1 C.2.1 dX10_init_329 rfl (lv_at hl 0 rfl) ?_
  refine z_get C X (k := 101) zk10 (G.old hk) rfl 0 (by decide) kw_1032 (zR w40 102) rfl dX10_init_330 ?_
  refine z_iconst C dX10_init_333 ?_
  refine z_iconst C dX10_init_334 ?_
  refine z_iast C X (k := 102) (i := 1) (v := 1) (G.mem (by decide)) rfl ⟨by decide, by decide⟩ (zok1 rfl ⟨by decide, by decide⟩) (μ1 := zup (zup (zup (zup (zup (zup (zup (zup (zup (zup (zup (zup (zup (zup (zup (zup (zup (zup (zup (zup (zup (zup (zup (zup (zup (zup (zup (zup (zup (zup (zup (zup (zup (zup (zup (zup (zup (zup (zup (zup (zup (zup μ 101 0 102) 101 1 103) 101 2 104) 101 3 105) 101 4 106) 101 5 107) 101 6 108) 101 8 110) 101 14 116) 101 15 117) 101 16 118) 101 17 119) 101 18 120) 101 19 121) 101 21 123) 101 22 124) 101 23 125) 101 24 126) 101 25 127) 101 26 128) 101 27 129) 101 31 133) 101 32 134) 101 40 142) 101 41 143) 101 42 144) 101 43 145) 101 44 146) 101 45 147) 101 46 148) 101 47 149) 101 48 150) 101 49 151) 101 50 152) 101 52 154) 101 54 156) 101 55 157) 101 56 158) 101 57 159) 101 58 160) 102 0 1) 102 1 1) rfl dX10_init_335 (fun H locs X => ?_)
  refine z_iconst C dX10_init_336 ?_
  refine lv_istore_n C.1 C.2.1 (lv' := [(1, zI 0), (0, zR w40 101)]) dX10_init_337 rfl hl (by decide) rfl (fun ls hl => ?_)
  have hl : lv_has ls 2 [(0, zR w40 101), (1, zI 0)] := lv_sub hl [1, 0] rfl
  refine lv_iload_n C.1 C.2.1 dX10_init_338 rfl (lv_at hl 1 rfl) ?_
  refine z_iconst C dX10_init_339 ?_
  refine z_icmpge C (x := 0) (y := 4) ⟨by decide, by decide⟩ ⟨by decide, by decide⟩ (tgt := 365) dX10_init_340 (by decide) (fun hc => absurd hc (by decide)) (fun hc => ?_)
  refine lv_aload_n C.1 C.2.1 dX10_init_343 rfl (lv_at hl 0 rfl) ?_
  refine z_get C X (k := 101) zk10 (G.old hk) rfl 46 (by decide) kw_1078 (zR w40 148) rfl dX10_init_344 ?_
  refine lv_iload_n C.1 C.2.1 dX10_init_347 rfl (lv_at hl 1 rfl) ?_
  refine z_bipush C dX10_init_348 rfl ?_
  refine z_iast C X (k := 148) (i := 0) (v := (-4)) (G.mem (by decide)) rfl ⟨by decide, by decide⟩ (zok1 rfl ⟨by decide, by decide⟩) (μ1 := zup (zup (zup (zup (zup (zup (zup (zup (zup (zup (zup (zup (zup (zup (zup (zup (zup (zup (zup (zup (zup (zup (zup (zup (zup (zup (zup (zup (zup (zup (zup (zup (zup (zup (zup (zup (zup (zup (zup (zup (zup (zup (zup μ 101 0 102) 101 1 103) 101 2 104) 101 3 105) 101 4 106) 101 5 107) 101 6 108) 101 8 110) 101 14 116) 101 15 117) 101 16 118) 101 17 119) 101 18 120) 101 19 121) 101 21 123) 101 22 124) 101 23 125) 101 24 126) 101 25 127) 101 26 128) 101 27 129) 101 31 133) 101 32 134) 101 40 142) 101 41 143) 101 42 144) 101 43 145) 101 44 146) 101 45 147) 101 46 148) 101 47 149) 101 48 150) 101 49 151) 101 50 152) 101 52 154) 101 54 156) 101 55 157) 101 56 158) 101 57 159) 101 58 160) 102 0 1) 102 1 1) 148 0 (-4)) rfl dX10_init_350 (fun H locs X => ?_)
  refine lv_aload_n C.1 C.2.1 dX10_init_351 rfl (lv_at hl 0 rfl) ?_
  refine z_get C X (k := 101) zk10 (G.old hk) rfl 56 (by decide) kw_1088 (zR w40 158) rfl dX10_init_352 ?_
  refine lv_iload_n C.1 C.2.1 dX10_init_355 rfl (lv_at hl 1 rfl) ?_
  refine z_bipush C dX10_init_356 rfl ?_
  refine z_iast C X (k := 158) (i := 0) (v := (-4)) (G.mem (by decide)) rfl ⟨by decide, by decide⟩ (zok1 rfl ⟨by decide, by decide⟩) (μ1 := zup (zup (zup (zup (zup (zup (zup (zup (zup (zup (zup (zup (zup (zup (zup (zup (zup (zup (zup (zup (zup (zup (zup (zup (zup (zup (zup (zup (zup (zup (zup (zup (zup (zup (zup (zup (zup (zup (zup (zup (zup (zup (zup (zup μ 101 0 102) 101 1 103) 101 2 104) 101 3 105) 101 4 106) 101 5 107) 101 6 108) 101 8 110) 101 14 116) 101 15 117) 101 16 118) 101 17 119) 101 18 120) 101 19 121) 101 21 123) 101 22 124) 101 23 125) 101 24 126) 101 25 127) 101 26 128) 101 27 129) 101 31 133) 101 32 134) 101 40 142) 101 41 143) 101 42 144) 101 43 145) 101 44 146) 101 45 147) 101 46 148) 101 47 149) 101 48 150) 101 49 151) 101 50 152) 101 52 154) 101 54 156) 101 55 157) 101 56 158) 101 57 159) 101 58 160) 102 0 1) 102 1 1) 148 0 (-4)) 158 0 (-4)) rfl dX10_init_358 (fun H locs X => ?_)
  refine z_iinc C (x := 0) (y := 1) (by decide) dX10_init_359 hl (k := 1) rfl (by decide) (lv' := [(1, zI 1), (0, zR w40 101)]) rfl (fun ls hl => ?_)
  have hl : lv_has ls 2 [(0, zR w40 101), (1, zI 1)] := lv_sub hl [1, 0] rfl
  refine lv_goto (tgt := 338) C.1 C.2.1 dX10_init_362 (by decide) ?_
  refine lv_iload_n C.1 C.2.1 dX10_init_338 rfl (lv_at hl 1 rfl) ?_
  refine z_iconst C dX10_init_339 ?_
  refine z_icmpge C (x := 1) (y := 4) ⟨by decide, by decide⟩ ⟨by decide, by decide⟩ (tgt := 365) dX10_init_340 (by decide) (fun hc => absurd hc (by decide)) (fun hc => ?_)
  refine lv_aload_n C.1 C.2.1 dX10_init_343 rfl (lv_at hl 0 rfl) ?_
  refine z_get C X (k := 101) zk10 (G.old hk) rfl 46 (by decide) kw_1078 (zR w40 148) rfl dX10_init_344 ?_
  refine lv_iload_n C.1 C.2.1 dX10_init_347 rfl (lv_at hl 1 rfl) ?_
  refine z_bipush C dX10_init_348 rfl ?_
  refine z_iast C X (k := 148) (i := 1) (v := (-4)) (G.mem (by decide)) rfl ⟨by decide, by decide⟩ (zok1 rfl ⟨by decide, by decide⟩) (μ1 := zup (zup (zup (zup (zup (zup (zup (zup (zup (zup (zup (zup (zup (zup (zup (zup (zup (zup (zup (zup (zup (zup (zup (zup (zup (zup (zup (zup (zup (zup (zup (zup (zup (zup (zup (zup (zup (zup (zup (zup (zup (zup (zup (zup (zup μ 101 0 102) 101 1 103) 101 2 104) 101 3 105) 101 4 106) 101 5 107) 101 6 108) 101 8 110) 101 14 116) 101 15 117) 101 16 118) 101 17 119) 101 18 120) 101 19 121) 101 21 123) 101 22 124) 101 23 125) 101 24 126) 101 25 127) 101 26 128) 101 27 129) 101 31 133) 101 32 134) 101 40 142) 101 41 143) 101 42 144) 101 43 145) 101 44 146) 101 45 147) 101 46 148) 101 47 149) 101 48 150) 101 49 151) 101 50 152) 101 52 154) 101 54 156) 101 55 157) 101 56 158) 101 57 159) 101 58 160) 102 0 1) 102 1 1) 148 0 (-4)) 158 0 (-4)) 148 1 (-4)) rfl dX10_init_350 (fun H locs X => ?_)
  refine lv_aload_n C.1 C.2.1 dX10_init_351 rfl (lv_at hl 0 rfl) ?_
  refine z_get C X (k := 101) zk10 (G.old hk) rfl 56 (by decide) kw_1088 (zR w40 158) rfl dX10_init_352 ?_
  refine lv_iload_n C.1 C.2.1 dX10_init_355 rfl (lv_at hl 1 rfl) ?_
  refine z_bipush C dX10_init_356 rfl ?_
  refine z_iast C X (k := 158) (i := 1) (v := (-4)) (G.mem (by decide)) rfl ⟨by decide, by decide⟩ (zok1 rfl ⟨by decide, by decide⟩) (μ1 := zup (zup (zup (zup (zup (zup (zup (zup (zup (zup (zup (zup (zup (zup (zup (zup (zup (zup (zup (zup (zup (zup (zup (zup (zup (zup (zup (zup (zup (zup (zup (zup (zup (zup (zup (zup (zup (zup (zup (zup (zup (zup (zup (zup (zup (zup μ 101 0 102) 101 1 103) 101 2 104) 101 3 105) 101 4 106) 101 5 107) 101 6 108) 101 8 110) 101 14 116) 101 15 117) 101 16 118) 101 17 119) 101 18 120) 101 19 121) 101 21 123) 101 22 124) 101 23 125) 101 24 126) 101 25 127) 101 26 128) 101 27 129) 101 31 133) 101 32 134) 101 40 142) 101 41 143) 101 42 144) 101 43 145) 101 44 146) 101 45 147) 101 46 148) 101 47 149) 101 48 150) 101 49 151) 101 50 152) 101 52 154) 101 54 156) 101 55 157) 101 56 158) 101 57 159) 101 58 160) 102 0 1) 102 1 1) 148 0 (-4)) 158 0 (-4)) 148 1 (-4)) 158 1 (-4)) rfl dX10_init_358 (fun H locs X => ?_)
  refine z_iinc C (x := 1) (y := 2) (by decide) dX10_init_359 hl (k := 1) rfl (by decide) (lv' := [(1, zI 2), (0, zR w40 101)]) rfl (fun ls hl => ?_)
  have hl : lv_has ls 2 [(0, zR w40 101), (1, zI 2)] := lv_sub hl [1, 0] rfl
  refine lv_goto (tgt := 338) C.1 C.2.1 dX10_init_362 (by decide) ?_
  refine lv_iload_n C.1 C.2.1 dX10_init_338 rfl (lv_at hl 1 rfl) ?_
  refine z_iconst C dX10_init_339 ?_
  refine z_icmpge C (x := 2) (y := 4) ⟨by decide, by decide⟩ ⟨by decide, by decide⟩ (tgt := 365) dX10_init_340 (by decide) (fun hc => absurd hc (by decide)) (fun hc => ?_)
  refine lv_aload_n C.1 C.2.1 dX10_init_343 rfl (lv_at hl 0 rfl) ?_
  refine z_get C X (k := 101) zk10 (G.old hk) rfl 46 (by decide) kw_1078 (zR w40 148) rfl dX10_init_344 ?_
  refine lv_iload_n C.1 C.2.1 dX10_init_347 rfl (lv_at hl 1 rfl) ?_
  refine z_bipush C dX10_init_348 rfl ?_
  refine z_iast C X (k := 148) (i := 2) (v := (-4)) (G.mem (by decide)) rfl ⟨by decide, by decide⟩ (zok1 rfl ⟨by decide, by decide⟩) (μ1 := zup (zup (zup (zup (zup (zup (zup (zup (zup (zup (zup (zup (zup (zup (zup (zup (zup (zup (zup (zup (zup (zup (zup (zup (zup (zup (zup (zup (zup (zup (zup (zup (zup (zup (zup (zup (zup (zup (zup (zup (zup (zup (zup (zup (zup (zup (zup μ 101 0 102) 101 1 103) 101 2 104) 101 3 105) 101 4 106) 101 5 107) 101 6 108) 101 8 110) 101 14 116) 101 15 117) 101 16 118) 101 17 119) 101 18 120) 101 19 121) 101 21 123) 101 22 124) 101 23 125) 101 24 126) 101 25 127) 101 26 128) 101 27 129) 101 31 133) 101 32 134) 101 40 142) 101 41 143) 101 42 144) 101 43 145) 101 44 146) 101 45 147) 101 46 148) 101 47 149) 101 48 150) 101 49 151) 101 50 152) 101 52 154) 101 54 156) 101 55 157) 101 56 158) 101 57 159) 101 58 160) 102 0 1) 102 1 1) 148 0 (-4)) 158 0 (-4)) 148 1 (-4)) 158 1 (-4)) 148 2 (-4)) rfl dX10_init_350 (fun H locs X => ?_)
  refine lv_aload_n C.1 C.2.1 dX10_init_351 rfl (lv_at hl 0 rfl) ?_
  refine z_get C X (k := 101) zk10 (G.old hk) rfl 56 (by decide) kw_1088 (zR w40 158) rfl dX10_init_352 ?_
  refine lv_iload_n C.1 C.2.1 dX10_init_355 rfl (lv_at hl 1 rfl) ?_
  refine z_bipush C dX10_init_356 rfl ?_
  refine z_iast C X (k := 158) (i := 2) (v := (-4)) (G.mem (by decide)) rfl ⟨by decide, by decide⟩ (zok1 rfl ⟨by decide, by decide⟩) (μ1 := zup (zup (zup (zup (zup (zup (zup (zup (zup (zup (zup (zup (zup (zup (zup (zup (zup (zup (zup (zup (zup (zup (zup (zup (zup (zup (zup (zup (zup (zup (zup (zup (zup (zup (zup (zup (zup (zup (zup (zup (zup (zup (zup (zup (zup (zup (zup (zup μ 101 0 102) 101 1 103) 101 2 104) 101 3 105) 101 4 106) 101 5 107) 101 6 108) 101 8 110) 101 14 116) 101 15 117) 101 16 118) 101 17 119) 101 18 120) 101 19 121) 101 21 123) 101 22 124) 101 23 125) 101 24 126) 101 25 127) 101 26 128) 101 27 129) 101 31 133) 101 32 134) 101 40 142) 101 41 143) 101 42 144) 101 43 145) 101 44 146) 101 45 147) 101 46 148) 101 47 149) 101 48 150) 101 49 151) 101 50 152) 101 52 154) 101 54 156) 101 55 157) 101 56 158) 101 57 159) 101 58 160) 102 0 1) 102 1 1) 148 0 (-4)) 158 0 (-4)) 148 1 (-4)) 158 1 (-4)) 148 2 (-4)) 158 2 (-4)) rfl dX10_init_358 (fun H locs X => ?_)
  refine z_iinc C (x := 2) (y := 3) (by decide) dX10_init_359 hl (k := 1) rfl (by decide) (lv' := [(1, zI 3), (0, zR w40 101)]) rfl (fun ls hl => ?_)
  have hl : lv_has ls 2 [(0, zR w40 101), (1, zI 3)] := lv_sub hl [1, 0] rfl
  refine lv_goto (tgt := 338) C.1 C.2.1 dX10_init_362 (by decide) ?_
  refine lv_iload_n C.1 C.2.1 dX10_init_338 rfl (lv_at hl 1 rfl) ?_
  refine z_iconst C dX10_init_339 ?_
  refine z_icmpge C (x := 3) (y := 4) ⟨by decide, by decide⟩ ⟨by decide, by decide⟩ (tgt := 365) dX10_init_340 (by decide) (fun hc => absurd hc (by decide)) (fun hc => ?_)
  refine lv_aload_n C.1 C.2.1 dX10_init_343 rfl (lv_at hl 0 rfl) ?_
  refine z_get C X (k := 101) zk10 (G.old hk) rfl 46 (by decide) kw_1078 (zR w40 148) rfl dX10_init_344 ?_
  refine lv_iload_n C.1 C.2.1 dX10_init_347 rfl (lv_at hl 1 rfl) ?_
  refine z_bipush C dX10_init_348 rfl ?_
  refine z_iast C X (k := 148) (i := 3) (v := (-4)) (G.mem (by decide)) rfl ⟨by decide, by decide⟩ (zok1 rfl ⟨by decide, by decide⟩) (μ1 := zup (zup (zup (zup (zup (zup (zup (zup (zup (zup (zup (zup (zup (zup (zup (zup (zup (zup (zup (zup (zup (zup (zup (zup (zup (zup (zup (zup (zup (zup (zup (zup (zup (zup (zup (zup (zup (zup (zup (zup (zup (zup (zup (zup (zup (zup (zup (zup (zup μ 101 0 102) 101 1 103) 101 2 104) 101 3 105) 101 4 106) 101 5 107) 101 6 108) 101 8 110) 101 14 116) 101 15 117) 101 16 118) 101 17 119) 101 18 120) 101 19 121) 101 21 123) 101 22 124) 101 23 125) 101 24 126) 101 25 127) 101 26 128) 101 27 129) 101 31 133) 101 32 134) 101 40 142) 101 41 143) 101 42 144) 101 43 145) 101 44 146) 101 45 147) 101 46 148) 101 47 149) 101 48 150) 101 49 151) 101 50 152) 101 52 154) 101 54 156) 101 55 157) 101 56 158) 101 57 159) 101 58 160) 102 0 1) 102 1 1) 148 0 (-4)) 158 0 (-4)) 148 1 (-4)) 158 1 (-4)) 148 2 (-4)) 158 2 (-4)) 148 3 (-4)) rfl dX10_init_350 (fun H locs X => ?_)
  refine lv_aload_n C.1 C.2.1 dX10_init_351 rfl (lv_at hl 0 rfl) ?_
  refine z_get C X (k := 101) zk10 (G.old hk) rfl 56 (by decide) kw_1088 (zR w40 158) rfl dX10_init_352 ?_
  refine lv_iload_n C.1 C.2.1 dX10_init_355 rfl (lv_at hl 1 rfl) ?_
  refine z_bipush C dX10_init_356 rfl ?_
  refine z_iast C X (k := 158) (i := 3) (v := (-4)) (G.mem (by decide)) rfl ⟨by decide, by decide⟩ (zok1 rfl ⟨by decide, by decide⟩) (μ1 := zup (zup (zup (zup (zup (zup (zup (zup (zup (zup (zup (zup (zup (zup (zup (zup (zup (zup (zup (zup (zup (zup (zup (zup (zup (zup (zup (zup (zup (zup (zup (zup (zup (zup (zup (zup (zup (zup (zup (zup (zup (zup (zup (zup (zup (zup (zup (zup (zup (zup μ 101 0 102) 101 1 103) 101 2 104) 101 3 105) 101 4 106) 101 5 107) 101 6 108) 101 8 110) 101 14 116) 101 15 117) 101 16 118) 101 17 119) 101 18 120) 101 19 121) 101 21 123) 101 22 124) 101 23 125) 101 24 126) 101 25 127) 101 26 128) 101 27 129) 101 31 133) 101 32 134) 101 40 142) 101 41 143) 101 42 144) 101 43 145) 101 44 146) 101 45 147) 101 46 148) 101 47 149) 101 48 150) 101 49 151) 101 50 152) 101 52 154) 101 54 156) 101 55 157) 101 56 158) 101 57 159) 101 58 160) 102 0 1) 102 1 1) 148 0 (-4)) 158 0 (-4)) 148 1 (-4)) 158 1 (-4)) 148 2 (-4)) 158 2 (-4)) 148 3 (-4)) 158 3 (-4)) rfl dX10_init_358 (fun H locs X => ?_)
  refine z_iinc C (x := 3) (y := 4) (by decide) dX10_init_359 hl (k := 1) rfl (by decide) (lv' := [(1, zI 4), (0, zR w40 101)]) rfl (fun ls hl => ?_)
  have hl : lv_has ls 2 [(0, zR w40 101), (1, zI 4)] := lv_sub hl [1, 0] rfl
  refine lv_goto (tgt := 338) C.1 C.2.1 dX10_init_362 (by decide) ?_
  refine lv_iload_n C.1 C.2.1 dX10_init_338 rfl (lv_at hl 1 rfl) ?_
  refine z_iconst C dX10_init_339 ?_
  refine z_icmpge C (x := 4) (y := 4) ⟨by decide, by decide⟩ ⟨by decide, by decide⟩ (tgt := 365) dX10_init_340 (by decide) (fun hc => ?_) (fun hc => absurd hc (by decide))
  obtain ⟨wf, g, C, X⟩ := y_fin (cm := [101, 102, 103, 104, 105, 106, 107, 108, 110, 116, 117, 118, 119, 120, 121, 123, 124, 125, 126, 127, 128, 129, 133, 134, 142, 143, 144, 145, 146, 147, 148, 149, 150, 151, 152, 154, 156, 157, 158, 159, 160]) C X (fun k hkm i i0 h9 hq => by
    simp only [List.mem_cons, List.not_mem_nil, or_false] at hkm
    rcases hkm with rfl | rfl | rfl | rfl | rfl | rfl | rfl | rfl | rfl | rfl | rfl | rfl | rfl | rfl | rfl | rfl | rfl | rfl | rfl | rfl | rfl | rfl | rfl | rfl | rfl | rfl | rfl | rfl | rfl | rfl | rfl | rfl | rfl | rfl | rfl | rfl | rfl | rfl | rfl | rfl | rfl
    · obtain ⟨n, rfl⟩ := Int.eq_ofNat_of_zero_le i0
      match n, hq with
      | 0, _ => rfl
      | 1, _ => rfl
      | 2, _ => rfl
      | 3, _ => rfl
      | 4, _ => rfl
      | 5, _ => rfl
      | 6, _ => rfl
      | 7, hq => exact absurd hq (by decide)
      | 8, _ => rfl
      | 9, hq => exact absurd hq (by decide)
      | 10, hq => exact absurd hq (by decide)
      | 11, hq => exact absurd hq (by decide)
      | 12, hq => exact absurd hq (by decide)
      | 13, hq => exact absurd hq (by decide)
      | 14, _ => rfl
      | 15, _ => rfl
      | 16, _ => rfl
      | 17, _ => rfl
      | 18, _ => rfl
      | 19, _ => rfl
      | 20, hq => exact absurd hq (by decide)
      | 21, _ => rfl
      | 22, _ => rfl
      | 23, _ => rfl
      | 24, _ => rfl
      | 25, _ => rfl
      | 26, _ => rfl
      | 27, _ => rfl
      | 28, hq => exact absurd hq (by decide)
      | 29, hq => exact absurd hq (by decide)
      | 30, hq => exact absurd hq (by decide)
      | 31, _ => rfl
      | 32, _ => rfl
      | 33, hq => exact absurd hq (by decide)
      | 34, hq => exact absurd hq (by decide)
      | 35, hq => exact absurd hq (by decide)
      | 36, hq => exact absurd hq (by decide)
      | 37, hq => exact absurd hq (by decide)
      | 38, hq => exact absurd hq (by decide)
      | 39, hq => exact absurd hq (by decide)
      | 40, _ => rfl
      | 41, _ => rfl
      | 42, _ => rfl
      | 43, _ => rfl
      | 44, _ => rfl
      | 45, _ => rfl
      | 46, _ => rfl
      | 47, _ => rfl
      | 48, _ => rfl
      | 49, _ => rfl
      | 50, _ => rfl
      | 51, hq => exact absurd hq (by decide)
      | 52, _ => rfl
      | 53, hq => exact absurd hq (by decide)
      | 54, _ => rfl
      | 55, _ => rfl
      | 56, _ => rfl
      | 57, _ => rfl
      | 58, _ => rfl
      | n + 59, hq => exact absurd (show (0 : Nat) = 3 from hq) (by decide)
    · exact absurd h9 (by decide)
    · exact absurd h9 (by decide)
    · exact absurd h9 (by decide)
    · exact absurd h9 (by decide)
    · exact absurd h9 (by decide)
    · exact absurd h9 (by decide)
    · exact absurd h9 (by decide)
    · exact absurd h9 (by decide)
    · exact absurd h9 (by decide)
    · exact absurd h9 (by decide)
    · exact absurd h9 (by decide)
    · exact absurd h9 (by decide)
    · exact absurd h9 (by decide)
    · exact absurd h9 (by decide)
    · exact absurd h9 (by decide)
    · exact absurd h9 (by decide)
    · exact absurd h9 (by decide)
    · exact absurd h9 (by decide)
    · exact absurd h9 (by decide)
    · exact absurd h9 (by decide)
    · exact absurd h9 (by decide)
    · exact absurd h9 (by decide)
    · exact absurd h9 (by decide)
    · exact absurd h9 (by decide)
    · exact absurd h9 (by decide)
    · exact absurd h9 (by decide)
    · exact absurd h9 (by decide)
    · exact absurd h9 (by decide)
    · exact absurd h9 (by decide)
    · exact absurd h9 (by decide)
    · exact absurd h9 (by decide)
    · exact absurd h9 (by decide)
    · exact absurd h9 (by decide)
    · exact absurd h9 (by decide)
    · exact absurd h9 (by decide)
    · exact absurd h9 (by decide)
    · exact absurd h9 (by decide)
    · exact absurd h9 (by decide)
    · exact absurd h9 (by decide)
    · exact absurd h9 (by decide))
  have G : Grw Ω wf [102, 103, 104, 105, 106, 107, 108, 110, 116, 117, 118, 119, 120, 121, 123, 124, 125, 126, 127, 128, 129, 133, 134, 142, 143, 144, 145, 146, 147, 148, 149, 150, 151, 152, 154, 156, 157, 158, 159, 160] [101, 102, 103, 104, 105, 106, 107, 108, 110, 116, 117, 118, 119, 120, 121, 123, 124, 125, 126, 127, 128, 129, 133, 134, 142, 143, 144, 145, 146, 147, 148, 149, 150, 151, 152, 154, 156, 157, 158, 159, 160] := G.tr g rfl rfl
  exact rt (ad := wf.2.2.2) G.2.2.2 (zX_eq G.eq X) (Nat.le_of_ble_eq_true rfl) (Nat.le_of_ble_eq_true rfl) dX10_init_365
