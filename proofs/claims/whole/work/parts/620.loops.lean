/-! LoopSpaces' constructor -/
set_option maxHeartbeats 8000000 in
set_option maxRecDepth 100000 in
theorem I_X9_1 {l : Launch} {Ω : zO} (μ : zMem) (sz : Nat) (hk : (1 : Int) ∈ Ω.2.2.1.1) (hkf : (1 : Int) ∉ Ω.2.2.1.2) (ha : ∀ j ∈ ([2, 3, 4, 5, 6, 7, 8, 9, 10, 11, 12, 13, 14, 15, 16, 17, 18, 19, 20, 21, 22, 23, 24, 25, 26, 27, 28, 29, 30, 31, 32, 33, 34, 35, 36, 37, 38, 39, 40, 41, 42, 43, 44, 45, 46, 47, 48, 49, 50, 51, 52, 53, 54, 55, 56, 57, 58, 59, 60, 61, 62, 63, 64, 65, 66, 67, 68, 69, 70, 71, 72, 73, 74, 75, 76, 77, 78, 79, 80, 81, 82, 83, 84, 85] : List Int), j ∉ Ω.2.2.1.1 ∧ j ∉ Ω.2.2.1.2) (M : Mk μ [2, 3, 4, 5, 6, 7, 8, 9, 10, 11, 12, 13, 14, 15, 16, 17, 18, 19, 20, 21, 22, 23, 24, 25, 26, 27, 28, 29, 30, 31, 32, 33, 34, 35, 36, 37, 38, 39, 40, 41, 42, 43, 44, 45, 46, 47, 48, 49, 50, 51, 52, 53, 54, 55, 56, 57, 58, 59, 60, 61, 62, 63, 64, 65, 66, 67, 68, 69, 70, 71, 72, 73, 74, 75, 76, 77, 78, 79, 80, 81, 82, 83, 84, 85] []) {ν1 : zMem} (e1 : ν1 = zup μ 1 0 2) {ρ2 τ2 ν2 : zMem} (h2 : f_X5_clear 4 1 (zup (zup (zup (zup (zup (zup ν1 4 0 5) 4 1 6) 4 2 7) 4 3 8) 4 4 9) 4 5 10) = some ρ2) (k2 : f_X5_findPart 4 ρ2 = some τ2) (g2 : ∀ k, 10 < k → τ2 k = ν1 k) (e2 : ν2 = (zup (zup (zup (zup (zup (zup (zup τ2 3 0 4) 3 1 11) 3 2 12) 3 3 13) 3 4 14) 3 5 15) 3 6 (-1))) (F2 : ∀ k, k ∉ ([3, 4, 5, 6, 7, 8, 9, 10, 11, 12, 13, 14, 15] : List Int) → ν2 k = ν1 k) {ν3 : zMem} (e3 : ν3 = zup ν2 1 1 3) {ν4 : zMem} (e4 : ν4 = zup ν3 1 2 16) {ν5 : zMem} (e5 : ν5 = zup ν4 1 3 17) {ν6 : zMem} (e6 : ν6 = zup ν5 1 4 18) {ν7 : zMem} (e7 : ν7 = (zup ν6 19 0 20)) (F7 : ∀ k, k ∉ ([19, 20] : List Int) → ν7 k = ν6 k) {ν8 : zMem} (e8 : ν8 = zup ν7 1 5 19) {ν9 : zMem} (e9 : ν9 = (zup (zup ν8 21 0 22) 21 1 (-1))) (F9 : ∀ k, k ∉ ([21, 22] : List Int) → ν9 k = ν8 k) {ν10 : zMem} (e10 : ν10 = zup ν9 1 6 21) {ν11 : zMem} (e11 : ν11 = (zup (zup (zup ν10 23 0 24) 23 1 25) 23 2 26)) (F11 : ∀ k, k ∉ ([23, 24, 25, 26] : List Int) → ν11 k = ν10 k) {ν12 : zMem} (e12 : ν12 = zup ν11 1 7 23) {ν13 : zMem} (e13 : ν13 = (zup (zup (zup (zup (zup ν12 27 0 28) 27 1 29) 27 2 30) 27 3 31) 27 4 32)) (F13 : ∀ k, k ∉ ([27, 28, 29, 30, 31, 32] : List Int) → ν13 k = ν12 k) {ν14 : zMem} (e14 : ν14 = zup ν13 1 8 27) {ν15 : zMem} (e15 : ν15 = (zup (zup (zup ν14 33 0 34) 33 1 35) 33 2 36)) (F15 : ∀ k, k ∉ ([33, 34, 35, 36] : List Int) → ν15 k = ν14 k) {ν16 : zMem} (e16 : ν16 = zup ν15 1 9 33) {ρ17 ν17 : zMem} (h17 : f_X5_clear 51 1 (zup (zup (zup (zup (zup (zup ν16 51 0 52) 51 1 53) 51 2 54) 51 3 55) 51 4 56) 51 5 57) = some ρ17) (k17 : f_X5_findPart 51 ρ17 = some ν17) (F17 : ∀ k, k ∉ ([51, 52, 53, 54, 55, 56, 57] : List Int) → ν17 k = ν16 k) {ν18 : zMem} (e18 : ν18 = zup ν17 1 10 51) {ρ19 ν19 : zMem} (h19 : f_X5_clear 37 1 (zup (zup (zup (zup (zup (zup ν18 37 0 38) 37 1 39) 37 2 40) 37 3 41) 37 4 42) 37 5 43) = some ρ19) (k19 : f_X5_findPart 37 ρ19 = some ν19) (F19 : ∀ k, k ∉ ([37, 38, 39, 40, 41, 42, 43] : List Int) → ν19 k = ν18 k) {ν20 : zMem} (e20 : ν20 = zup ν19 2 0 37) {ρ21 ν21 : zMem} (h21 : f_X5_clear 44 1 (zup (zup (zup (zup (zup (zup ν20 44 0 45) 44 1 46) 44 2 47) 44 3 48) 44 4 49) 44 5 50) = some ρ21) (k21 : f_X5_findPart 44 ρ21 = some ν21) (F21 : ∀ k, k ∉ ([44, 45, 46, 47, 48, 49, 50] : List Int) → ν21 k = ν20 k) {ν22 : zMem} (e22 : ν22 = zup ν21 2 1 44) {ν23 : zMem} (e23 : ν23 = (zup (zup ν22 58 0 59) 58 1 (-1))) (F23 : ∀ k, k ∉ ([58, 59] : List Int) → ν23 k = ν22 k) {ν24 : zMem} (e24 : ν24 = zup ν23 16 0 58) {ν25 : zMem} (e25 : ν25 = (zup (zup ν24 60 0 61) 60 1 (-1))) (F25 : ∀ k, k ∉ ([60, 61] : List Int) → ν25 k = ν24 k) {ν26 : zMem} (e26 : ν26 = zup ν25 16 1 60) {ν27 : zMem} (e27 : ν27 = (zup (zup ν26 62 0 63) 62 1 (-1))) (F27 : ∀ k, k ∉ ([62, 63] : List Int) → ν27 k = ν26 k) {ν28 : zMem} (e28 : ν28 = zup ν27 16 2 62) {ν29 : zMem} (e29 : ν29 = (zup (zup ν28 64 0 65) 64 1 (-1))) (F29 : ∀ k, k ∉ ([64, 65] : List Int) → ν29 k = ν28 k) {ν30 : zMem} (e30 : ν30 = zup ν29 16 3 64) {ν31 : zMem} (e31 : ν31 = (zup (zup ν30 66 0 67) 66 1 (-1))) (F31 : ∀ k, k ∉ ([66, 67] : List Int) → ν31 k = ν30 k) {ν32 : zMem} (e32 : ν32 = zup ν31 17 0 66) {ν33 : zMem} (e33 : ν33 = (zup (zup ν32 68 0 69) 68 1 (-1))) (F33 : ∀ k, k ∉ ([68, 69] : List Int) → ν33 k = ν32 k) {ν34 : zMem} (e34 : ν34 = zup ν33 17 1 68) {ν35 : zMem} (e35 : ν35 = (zup (zup ν34 70 0 71) 70 1 (-1))) (F35 : ∀ k, k ∉ ([70, 71] : List Int) → ν35 k = ν34 k) {ν36 : zMem} (e36 : ν36 = zup ν35 17 2 70) {ν37 : zMem} (e37 : ν37 = (zup (zup ν36 72 0 73) 72 1 (-1))) (F37 : ∀ k, k ∉ ([72, 73] : List Int) → ν37 k = ν36 k) {ν38 : zMem} (e38 : ν38 = zup ν37 17 3 72) {ν39 : zMem} (h39 : f_X4_init 74 2 (zup (zup (zup (zup (zup ν38 74 0 2) 74 1 2) 74 2 75) 74 3 76) 74 4 77) = some ν39) (F39 : ∀ k, k ∉ ([74, 75, 76, 77] : List Int) → ν39 k = ν38 k) {ν40 : zMem} (e40 : ν40 = zup ν39 18 2 74) {ν41 : zMem} (h41 : f_X4_init 78 3 (zup (zup (zup (zup (zup ν40 78 0 3) 78 1 6) 78 2 79) 78 3 80) 78 4 81) = some ν41) (F41 : ∀ k, k ∉ ([78, 79, 80, 81] : List Int) → ν41 k = ν40 k) {ν42 : zMem} (e42 : ν42 = zup ν41 18 3 78) {ν43 : zMem} (h43 : f_X4_init 82 4 (zup (zup (zup (zup (zup ν42 82 0 4) 82 1 24) 82 2 83) 82 3 84) 82 4 85) = some ν43) (F43 : ∀ k, k ∉ ([82, 83, 84, 85] : List Int) → ν43 k = ν42 k) {ν44 : zMem} (e44 : ν44 = zup ν43 18 4 82) : XConB zSd l yX9_init cX9_init 2 4 Ω [zR Ω 1] μ [2, 3, 4, 5, 6, 7, 8, 9, 10, 11, 12, 13, 14, 15, 16, 17, 18, 19, 20, 21, 22, 23, 24, 25, 26, 27, 28, 29, 30, 31, 32, 33, 34, 35, 36, 51, 52, 53, 54, 55, 56, 57, 37, 38, 39, 40, 41, 42, 43, 44, 45, 46, 47, 48, 49, 50, 58, 59, 60, 61, 62, 63, 64, 65, 66, 67, 68, 69, 70, 71, 72, 73, 74, 75, 76, 77, 78, 79, 80, 81, 82, 83, 84, 85] [4, 5, 6, 7, 8, 9, 10, 3, 11, 12, 13, 14, 15, 19, 20, 21, 22, 23, 24, 25, 26, 27, 28, 29, 30, 31, 32, 33, 34, 35, 36, 51, 52, 53, 54, 55, 56, 57, 37, 38, 39, 40, 41, 42, 43, 44, 45, 46, 47, 48, 49, 50, 58, 59, 60, 61, 62, 63, 64, 65, 66, 67, 68, 69, 70, 71, 72, 73, 74, 75, 76, 77, 78, 79, 80, 81, 82, 83, 84, 85, 1, 2, 16, 17, 18] ν44 sz 84 11936 := by
  refine XConB.of (by decide) rfl (Nat.le_of_ble_eq_true rfl) ?_
  intro p e s m args below meth c ls A Q C hsd hin hA X hl rt
  have C : zC p s m args c cX9_init RX9 2 Ω := C
  have hl : lv_has ls 2 [(0, zR Ω 1)] := hl
  have G := Grw.rf Ω
  refine lv_aload_n C.1 C.2.1 dX9_init_0 rfl (lv_at hl 0 rfl) ?_
  refine z_objI C kw_20 hl.1 dX9_init_1 ⟨Nat.le_of_ble_eq_true rfl, Nat.le_of_ble_eq_true rfl⟩ (Nat.le_of_ble_eq_true rfl) ?_
  refine lv_aload_n C.1 C.2.1 dX9_init_4 rfl (lv_at hl 0 rfl) ?_
  refine z_iconst C dX9_init_5 ?_
  refine y_newQ C X hA 5 (Or.inl rfl) kw_23 hsd.2.1 rfl 2 (G.nm (ha 2 (by decide)).1 (by decide)) (G.nf (ha 2 (by decide)).2 (by decide)) rfl (M.1 2 (by decide)) (by decide) (by decide) (Nat.le_of_ble_eq_true rfl) (Nat.le_of_ble_eq_true rfl) dX9_init_6 (fun w1 H g C X => ?_)
  refine W.st (st' := [zR w1 2, zR w1 1]) (cons2 rfl (cons2 (g.ref (k := 1) (G.old hk)) rfl)) ?_
  have hl : lv_has ls 2 [(0, zR w1 1)] := Eq.mp (congrArg (fun v => lv_has ls 2 [(0, v)]) (g.ref (k := 1) (G.old hk))) hl
  have G : Grw Ω w1 [2] [] := G.tr g rfl rfl
  have M : Mk μ [3, 4, 5, 6, 7, 8, 9, 10, 11, 12, 13, 14, 15, 16, 17, 18, 19, 20, 21, 22, 23, 24, 25, 26, 27, 28, 29, 30, 31, 32, 33, 34, 35, 36, 37, 38, 39, 40, 41, 42, 43, 44, 45, 46, 47, 48, 49, 50, 51, 52, 53, 54, 55, 56, 57, 58, 59, 60, 61, 62, 63, 64, 65, 66, 67, 68, 69, 70, 71, 72, 73, 74, 75, 76, 77, 78, 79, 80, 81, 82, 83, 84, 85] [] := M.sub (by decide)
  refine z_putFR C X (v := 2) (k := 1) zk9 (G.old hk) rfl 0 (by decide) kw_389 rfl hin rfl rfl (fun _ => rfl) (fun _ => rfl) rfl (by decide) (G.mem (by decide)) (G.nf hkf (by decide)) (i := 0) e1 dX9_init_9 (fun H locs X => ?_)
  have M : Mk ν1 [3, 4, 5, 6, 7, 8, 9, 10, 11, 12, 13, 14, 15, 16, 17, 18, 19, 20, 21, 22, 23, 24, 25, 26, 27, 28, 29, 30, 31, 32, 33, 34, 35, 36, 37, 38, 39, 40, 41, 42, 43, 44, 45, 46, 47, 48, 49, 50, 51, 52, 53, 54, 55, 56, 57, 58, 59, 60, 61, 62, 63, 64, 65, 66, 67, 68, 69, 70, 71, 72, 73, 74, 75, 76, 77, 78, 79, 80, 81, 82, 83, 84, 85] [(0, 2)] := M.put e1 (by decide) (by decide)
  refine lv_aload_n C.1 C.2.1 dX9_init_12 rfl (lv_at hl 0 rfl) ?_
  refine y_newO C X hA zk1 kw_25 kw_26 kw_2 (by decide) 3 (G.nm (ha 3 (by decide)).1 (by decide)) (G.nf (ha 3 (by decide)).2 (by decide)) rfl (M.1 3 (by decide)) (Nat.le_of_ble_eq_true rfl) (Nat.le_of_ble_eq_true rfl) dX9_init_13 (fun w2 H g C X => ?_)
  refine W.st (st' := [zR w2 3, zR w2 1]) (cons2 rfl (cons2 (g.ref (k := 1) (G.old hk)) rfl)) ?_
  have hl : lv_has ls 2 [(0, zR w2 1)] := Eq.mp (congrArg (fun v => lv_has ls 2 [(0, v)]) (g.ref (k := 1) (G.old hk))) hl
  have G : Grw Ω w2 [2, 3] [] := G.tr g rfl rfl
  refine lv_dup C.1 C.2.1 dX9_init_16 rfl ?_
  refine y_callIN C X hA (k := 3) (As := []) (y := yX1_init) (bytes := cX1_init) (maxL := 1) (d := 3) (nw := [4, 5, 6, 7, 8, 9, 10, 11, 12, 13, 14, 15]) (cm := [4, 5, 6, 7, 8, 9, 10, 3, 11, 12, 13, 14, 15]) (mc := 12) (ms := 527) (μ' := ν2) (by rw [e2]; exact I_X1_3 ν1 _ (G.mem (by decide)) (G.nf (ha 3 (by decide)).2 (by decide)) (G.hn M ha (by decide)) h2 k2 g2) kw_29 kw_2 kw_28 hsd.1.1 rfl (by decide +kernel) ⟨Nat.le_of_ble_eq_true rfl, Nat.le_of_ble_eq_true rfl⟩ rfl hl.1 rfl (Nat.le_of_ble_eq_true rfl) dX9_init_17 ⟨Nat.le_of_ble_eq_true rfl, Nat.le_of_ble_eq_true rfl⟩ (fun w3 H locs g C X => ?_)
  refine W.st (st' := [zR w3 3, zR w3 1]) (cons2 (g.ref (k := 3) (G.mem (by decide))) (cons2 (g.ref (k := 1) (G.old hk)) rfl)) ?_
  have hl : lv_has ls 2 [(0, zR w3 1)] := Eq.mp (congrArg (fun v => lv_has ls 2 [(0, v)]) (g.ref (k := 1) (G.old hk))) hl
  have G : Grw Ω w3 [2, 3, 4, 5, 6, 7, 8, 9, 10, 11, 12, 13, 14, 15] [4, 5, 6, 7, 8, 9, 10, 3, 11, 12, 13, 14, 15] := G.tr g rfl rfl
  have M : Mk ν2 [16, 17, 18, 19, 20, 21, 22, 23, 24, 25, 26, 27, 28, 29, 30, 31, 32, 33, 34, 35, 36, 37, 38, 39, 40, 41, 42, 43, 44, 45, 46, 47, 48, 49, 50, 51, 52, 53, 54, 55, 56, 57, 58, 59, 60, 61, 62, 63, 64, 65, 66, 67, 68, 69, 70, 71, 72, 73, 74, 75, 76, 77, 78, 79, 80, 81, 82, 83, 84, 85] [(0, 2)] := M.con F2 (by decide) (by decide)
  refine z_putFR C X (v := 3) (k := 1) zk9 (G.old hk) rfl 1 (by decide) kw_390 rfl hin rfl rfl (fun _ => rfl) (fun _ => rfl) rfl (by decide) (G.mem (by decide)) (G.nf hkf (by decide)) (i := 1) e3 dX9_init_20 (fun H locs X => ?_)
  have M : Mk ν3 [16, 17, 18, 19, 20, 21, 22, 23, 24, 25, 26, 27, 28, 29, 30, 31, 32, 33, 34, 35, 36, 37, 38, 39, 40, 41, 42, 43, 44, 45, 46, 47, 48, 49, 50, 51, 52, 53, 54, 55, 56, 57, 58, 59, 60, 61, 62, 63, 64, 65, 66, 67, 68, 69, 70, 71, 72, 73, 74, 75, 76, 77, 78, 79, 80, 81, 82, 83, 84, 85] [(0, 2), (1, 3)] := M.put e3 (by decide) (by decide)
  refine lv_aload_n C.1 C.2.1 dX9_init_23 rfl (lv_at hl 0 rfl) ?_
  refine z_iconst C dX9_init_24 ?_
  refine y_newQ C X hA 6 (Or.inr (Or.inl rfl)) kw_158 hsd.2.2.1 rfl 16 (G.nm (ha 16 (by decide)).1 (by decide)) (G.nf (ha 16 (by decide)).2 (by decide)) rfl (M.1 16 (by decide)) (by decide) (by decide) (Nat.le_of_ble_eq_true rfl) (Nat.le_of_ble_eq_true rfl) dX9_init_25 (fun w4 H g C X => ?_)
  refine W.st (st' := [zR w4 16, zR w4 1]) (cons2 rfl (cons2 (g.ref (k := 1) (G.old hk)) rfl)) ?_
  have hl : lv_has ls 2 [(0, zR w4 1)] := Eq.mp (congrArg (fun v => lv_has ls 2 [(0, v)]) (g.ref (k := 1) (G.old hk))) hl
  have G : Grw Ω w4 [2, 3, 4, 5, 6, 7, 8, 9, 10, 11, 12, 13, 14, 15, 16] [4, 5, 6, 7, 8, 9, 10, 3, 11, 12, 13, 14, 15] := G.tr g rfl rfl
  have M : Mk ν3 [17, 18, 19, 20, 21, 22, 23, 24, 25, 26, 27, 28, 29, 30, 31, 32, 33, 34, 35, 36, 37, 38, 39, 40, 41, 42, 43, 44, 45, 46, 47, 48, 49, 50, 51, 52, 53, 54, 55, 56, 57, 58, 59, 60, 61, 62, 63, 64, 65, 66, 67, 68, 69, 70, 71, 72, 73, 74, 75, 76, 77, 78, 79, 80, 81, 82, 83, 84, 85] [(0, 2), (1, 3)] := M.sub (by decide)
  refine z_putFR C X (v := 16) (k := 1) zk9 (G.old hk) rfl 2 (by decide) kw_391 rfl hin rfl rfl (fun _ => rfl) (fun _ => rfl) rfl (by decide) (G.mem (by decide)) (G.nf hkf (by decide)) (i := 2) e4 dX9_init_28 (fun H locs X => ?_)
  have M : Mk ν4 [17, 18, 19, 20, 21, 22, 23, 24, 25, 26, 27, 28, 29, 30, 31, 32, 33, 34, 35, 36, 37, 38, 39, 40, 41, 42, 43, 44, 45, 46, 47, 48, 49, 50, 51, 52, 53, 54, 55, 56, 57, 58, 59, 60, 61, 62, 63, 64, 65, 66, 67, 68, 69, 70, 71, 72, 73, 74, 75, 76, 77, 78, 79, 80, 81, 82, 83, 84, 85] [(0, 2), (1, 3), (2, 16)] := M.put e4 (by decide) (by decide)
  refine lv_aload_n C.1 C.2.1 dX9_init_31 rfl (lv_at hl 0 rfl) ?_
  refine z_iconst C dX9_init_32 ?_
  refine y_newQ C X hA 7 (Or.inr (Or.inr (Or.inl rfl))) kw_160 hsd.2.2.2.1 rfl 17 (G.nm (ha 17 (by decide)).1 (by decide)) (G.nf (ha 17 (by decide)).2 (by decide)) rfl (M.1 17 (by decide)) (by decide) (by decide) (Nat.le_of_ble_eq_true rfl) (Nat.le_of_ble_eq_true rfl) dX9_init_33 (fun w5 H g C X => ?_)
  refine W.st (st' := [zR w5 17, zR w5 1]) (cons2 rfl (cons2 (g.ref (k := 1) (G.old hk)) rfl)) ?_
  have hl : lv_has ls 2 [(0, zR w5 1)] := Eq.mp (congrArg (fun v => lv_has ls 2 [(0, v)]) (g.ref (k := 1) (G.old hk))) hl
  have G : Grw Ω w5 [2, 3, 4, 5, 6, 7, 8, 9, 10, 11, 12, 13, 14, 15, 16, 17] [4, 5, 6, 7, 8, 9, 10, 3, 11, 12, 13, 14, 15] := G.tr g rfl rfl
  have M : Mk ν4 [18, 19, 20, 21, 22, 23, 24, 25, 26, 27, 28, 29, 30, 31, 32, 33, 34, 35, 36, 37, 38, 39, 40, 41, 42, 43, 44, 45, 46, 47, 48, 49, 50, 51, 52, 53, 54, 55, 56, 57, 58, 59, 60, 61, 62, 63, 64, 65, 66, 67, 68, 69, 70, 71, 72, 73, 74, 75, 76, 77, 78, 79, 80, 81, 82, 83, 84, 85] [(0, 2), (1, 3), (2, 16)] := M.sub (by decide)
  refine z_putFR C X (v := 17) (k := 1) zk9 (G.old hk) rfl 3 (by decide) kw_392 rfl hin rfl rfl (fun _ => rfl) (fun _ => rfl) rfl (by decide) (G.mem (by decide)) (G.nf hkf (by decide)) (i := 3) e5 dX9_init_36 (fun H locs X => ?_)
  have M : Mk ν5 [18, 19, 20, 21, 22, 23, 24, 25, 26, 27, 28, 29, 30, 31, 32, 33, 34, 35, 36, 37, 38, 39, 40, 41, 42, 43, 44, 45, 46, 47, 48, 49, 50, 51, 52, 53, 54, 55, 56, 57, 58, 59, 60, 61, 62, 63, 64, 65, 66, 67, 68, 69, 70, 71, 72, 73, 74, 75, 76, 77, 78, 79, 80, 81, 82, 83, 84, 85] [(0, 2), (1, 3), (2, 16), (3, 17)] := M.put e5 (by decide) (by decide)
  refine lv_aload_n C.1 C.2.1 dX9_init_39 rfl (lv_at hl 0 rfl) ?_
  refine z_iconst C dX9_init_40 ?_
  refine y_newQ C X hA 8 (Or.inr (Or.inr (Or.inr rfl))) kw_162 hsd.2.2.2.2 rfl 18 (G.nm (ha 18 (by decide)).1 (by decide)) (G.nf (ha 18 (by decide)).2 (by decide)) rfl (M.1 18 (by decide)) (by decide) (by decide) (Nat.le_of_ble_eq_true rfl) (Nat.le_of_ble_eq_true rfl) dX9_init_41 (fun w6 H g C X => ?_)
  refine W.st (st' := [zR w6 18, zR w6 1]) (cons2 rfl (cons2 (g.ref (k := 1) (G.old hk)) rfl)) ?_
  have hl : lv_has ls 2 [(0, zR w6 1)] := Eq.mp (congrArg (fun v => lv_has ls 2 [(0, v)]) (g.ref (k := 1) (G.old hk))) hl
  have G : Grw Ω w6 [2, 3, 4, 5, 6, 7, 8, 9, 10, 11, 12, 13, 14, 15, 16, 17, 18] [4, 5, 6, 7, 8, 9, 10, 3, 11, 12, 13, 14, 15] := G.tr g rfl rfl
  have M : Mk ν5 [19, 20, 21, 22, 23, 24, 25, 26, 27, 28, 29, 30, 31, 32, 33, 34, 35, 36, 37, 38, 39, 40, 41, 42, 43, 44, 45, 46, 47, 48, 49, 50, 51, 52, 53, 54, 55, 56, 57, 58, 59, 60, 61, 62, 63, 64, 65, 66, 67, 68, 69, 70, 71, 72, 73, 74, 75, 76, 77, 78, 79, 80, 81, 82, 83, 84, 85] [(0, 2), (1, 3), (2, 16), (3, 17)] := M.sub (by decide)
  refine z_putFR C X (v := 18) (k := 1) zk9 (G.old hk) rfl 4 (by decide) kw_393 rfl hin rfl rfl (fun _ => rfl) (fun _ => rfl) rfl (by decide) (G.mem (by decide)) (G.nf hkf (by decide)) (i := 4) e6 dX9_init_44 (fun H locs X => ?_)
  have M : Mk ν6 [19, 20, 21, 22, 23, 24, 25, 26, 27, 28, 29, 30, 31, 32, 33, 34, 35, 36, 37, 38, 39, 40, 41, 42, 43, 44, 45, 46, 47, 48, 49, 50, 51, 52, 53, 54, 55, 56, 57, 58, 59, 60, 61, 62, 63, 64, 65, 66, 67, 68, 69, 70, 71, 72, 73, 74, 75, 76, 77, 78, 79, 80, 81, 82, 83, 84, 85] [(0, 2), (1, 3), (2, 16), (3, 17), (4, 18)] := M.put e6 (by decide) (by decide)
  refine lv_aload_n C.1 C.2.1 dX9_init_47 rfl (lv_at hl 0 rfl) ?_
  refine y_newO C X hA zk7 kw_164 kw_165 kw_5 (by decide) 19 (G.nm (ha 19 (by decide)).1 (by decide)) (G.nf (ha 19 (by decide)).2 (by decide)) rfl (M.1 19 (by decide)) (Nat.le_of_ble_eq_true rfl) (Nat.le_of_ble_eq_true rfl) dX9_init_48 (fun w7 H g C X => ?_)
  refine W.st (st' := [zR w7 19, zR w7 1]) (cons2 rfl (cons2 (g.ref (k := 1) (G.old hk)) rfl)) ?_
  have hl : lv_has ls 2 [(0, zR w7 1)] := Eq.mp (congrArg (fun v => lv_has ls 2 [(0, v)]) (g.ref (k := 1) (G.old hk))) hl
  have G : Grw Ω w7 [2, 3, 4, 5, 6, 7, 8, 9, 10, 11, 12, 13, 14, 15, 16, 17, 18, 19] [4, 5, 6, 7, 8, 9, 10, 3, 11, 12, 13, 14, 15] := G.tr g rfl rfl
  refine lv_dup C.1 C.2.1 dX9_init_51 rfl ?_
  refine y_callIN C X hA (k := 19) (As := []) (y := yX7_init) (bytes := cX7_init) (maxL := 1) (d := 0) (nw := [20]) (cm := [19, 20]) (mc := 1) (ms := 120) (μ' := ν7) (by rw [e7]; exact I_X7_19 ν6 _ (G.mem (by decide)) (G.nf (ha 19 (by decide)).2 (by decide)) (G.hn M ha (by decide))) kw_168 kw_5 kw_167 hsd.1.2.1 rfl (by decide +kernel) ⟨Nat.le_of_ble_eq_true rfl, Nat.le_of_ble_eq_true rfl⟩ rfl hl.1 rfl (Nat.le_of_ble_eq_true rfl) dX9_init_52 ⟨Nat.le_of_ble_eq_true rfl, Nat.le_of_ble_eq_true rfl⟩ (fun w8 H locs g C X => ?_)
  refine W.st (st' := [zR w8 19, zR w8 1]) (cons2 (g.ref (k := 19) (G.mem (by decide))) (cons2 (g.ref (k := 1) (G.old hk)) rfl)) ?_
  have hl : lv_has ls 2 [(0, zR w8 1)] := Eq.mp (congrArg (fun v => lv_has ls 2 [(0, v)]) (g.ref (k := 1) (G.old hk))) hl
  have G : Grw Ω w8 [2, 3, 4, 5, 6, 7, 8, 9, 10, 11, 12, 13, 14, 15, 16, 17, 18, 19, 20] [4, 5, 6, 7, 8, 9, 10, 3, 11, 12, 13, 14, 15, 19, 20] := G.tr g rfl rfl
  have M : Mk ν7 [21, 22, 23, 24, 25, 26, 27, 28, 29, 30, 31, 32, 33, 34, 35, 36, 37, 38, 39, 40, 41, 42, 43, 44, 45, 46, 47, 48, 49, 50, 51, 52, 53, 54, 55, 56, 57, 58, 59, 60, 61, 62, 63, 64, 65, 66, 67, 68, 69, 70, 71, 72, 73, 74, 75, 76, 77, 78, 79, 80, 81, 82, 83, 84, 85] [(0, 2), (1, 3), (2, 16), (3, 17), (4, 18)] := M.con F7 (by decide) (by decide)
  refine z_putFR C X (v := 19) (k := 1) zk9 (G.old hk) rfl 5 (by decide) kw_394 rfl hin rfl rfl (fun _ => rfl) (fun _ => rfl) rfl (by decide) (G.mem (by decide)) (G.nf hkf (by decide)) (i := 5) e8 dX9_init_55 (fun H locs X => ?_)
  have M : Mk ν8 [21, 22, 23, 24, 25, 26, 27, 28, 29, 30, 31, 32, 33, 34, 35, 36, 37, 38, 39, 40, 41, 42, 43, 44, 45, 46, 47, 48, 49, 50, 51, 52, 53, 54, 55, 56, 57, 58, 59, 60, 61, 62, 63, 64, 65, 66, 67, 68, 69, 70, 71, 72, 73, 74, 75, 76, 77, 78, 79, 80, 81, 82, 83, 84, 85] [(0, 2), (1, 3), (2, 16), (3, 17), (4, 18), (5, 19)] := M.put e8 (by decide) (by decide)
  refine lv_aload_n C.1 C.2.1 dX9_init_58 rfl (lv_at hl 0 rfl) ?_
  refine y_newO C X hA zk8 kw_158 kw_182 kw_6 (by decide) 21 (G.nm (ha 21 (by decide)).1 (by decide)) (G.nf (ha 21 (by decide)).2 (by decide)) rfl (M.1 21 (by decide)) (Nat.le_of_ble_eq_true rfl) (Nat.le_of_ble_eq_true rfl) dX9_init_59 (fun w9 H g C X => ?_)
  refine W.st (st' := [zR w9 21, zR w9 1]) (cons2 rfl (cons2 (g.ref (k := 1) (G.old hk)) rfl)) ?_
  have hl : lv_has ls 2 [(0, zR w9 1)] := Eq.mp (congrArg (fun v => lv_has ls 2 [(0, v)]) (g.ref (k := 1) (G.old hk))) hl
  have G : Grw Ω w9 [2, 3, 4, 5, 6, 7, 8, 9, 10, 11, 12, 13, 14, 15, 16, 17, 18, 19, 20, 21] [4, 5, 6, 7, 8, 9, 10, 3, 11, 12, 13, 14, 15, 19, 20] := G.tr g rfl rfl
  refine lv_dup C.1 C.2.1 dX9_init_62 rfl ?_
  refine y_callIN C X hA (k := 21) (As := []) (y := yX8_init) (bytes := cX8_init) (maxL := 1) (d := 0) (nw := [22]) (cm := [21, 22]) (mc := 1) (ms := 16) (μ' := ν9) (by rw [e9]; exact I_X8_21 ν8 _ (G.mem (by decide)) (G.nf (ha 21 (by decide)).2 (by decide)) (G.hn M ha (by decide))) kw_185 kw_6 kw_184 hsd.1.2.2.1 rfl (by decide +kernel) ⟨Nat.le_of_ble_eq_true rfl, Nat.le_of_ble_eq_true rfl⟩ rfl hl.1 rfl (Nat.le_of_ble_eq_true rfl) dX9_init_63 ⟨Nat.le_of_ble_eq_true rfl, Nat.le_of_ble_eq_true rfl⟩ (fun w10 H locs g C X => ?_)
  refine W.st (st' := [zR w10 21, zR w10 1]) (cons2 (g.ref (k := 21) (G.mem (by decide))) (cons2 (g.ref (k := 1) (G.old hk)) rfl)) ?_
  have hl : lv_has ls 2 [(0, zR w10 1)] := Eq.mp (congrArg (fun v => lv_has ls 2 [(0, v)]) (g.ref (k := 1) (G.old hk))) hl
  have G : Grw Ω w10 [2, 3, 4, 5, 6, 7, 8, 9, 10, 11, 12, 13, 14, 15, 16, 17, 18, 19, 20, 21, 22] [4, 5, 6, 7, 8, 9, 10, 3, 11, 12, 13, 14, 15, 19, 20, 21, 22] := G.tr g rfl rfl
  have M : Mk ν9 [23, 24, 25, 26, 27, 28, 29, 30, 31, 32, 33, 34, 35, 36, 37, 38, 39, 40, 41, 42, 43, 44, 45, 46, 47, 48, 49, 50, 51, 52, 53, 54, 55, 56, 57, 58, 59, 60, 61, 62, 63, 64, 65, 66, 67, 68, 69, 70, 71, 72, 73, 74, 75, 76, 77, 78, 79, 80, 81, 82, 83, 84, 85] [(0, 2), (1, 3), (2, 16), (3, 17), (4, 18), (5, 19)] := M.con F9 (by decide) (by decide)
  refine z_putFR C X (v := 21) (k := 1) zk9 (G.old hk) rfl 6 (by decide) kw_395 rfl hin rfl rfl (fun _ => rfl) (fun _ => rfl) rfl (by decide) (G.mem (by decide)) (G.nf hkf (by decide)) (i := 6) e10 dX9_init_66 (fun H locs X => ?_)
  have M : Mk ν10 [23, 24, 25, 26, 27, 28, 29, 30, 31, 32, 33, 34, 35, 36, 37, 38, 39, 40, 41, 42, 43, 44, 45, 46, 47, 48, 49, 50, 51, 52, 53, 54, 55, 56, 57, 58, 59, 60, 61, 62, 63, 64, 65, 66, 67, 68, 69, 70, 71, 72, 73, 74, 75, 76, 77, 78, 79, 80, 81, 82, 83, 84, 85] [(0, 2), (1, 3), (2, 16), (3, 17), (4, 18), (5, 19), (6, 21)] := M.put e10 (by decide) (by decide)
  refine lv_aload_n C.1 C.2.1 dX9_init_69 rfl (lv_at hl 0 rfl) ?_
  refine y_newO C X hA zk2 kw_217 kw_218 kw_7 (by decide) 23 (G.nm (ha 23 (by decide)).1 (by decide)) (G.nf (ha 23 (by decide)).2 (by decide)) rfl (M.1 23 (by decide)) (Nat.le_of_ble_eq_true rfl) (Nat.le_of_ble_eq_true rfl) dX9_init_70 (fun w11 H g C X => ?_)
  refine W.st (st' := [zR w11 23, zR w11 1]) (cons2 rfl (cons2 (g.ref (k := 1) (G.old hk)) rfl)) ?_
  have hl : lv_has ls 2 [(0, zR w11 1)] := Eq.mp (congrArg (fun v => lv_has ls 2 [(0, v)]) (g.ref (k := 1) (G.old hk))) hl
  have G : Grw Ω w11 [2, 3, 4, 5, 6, 7, 8, 9, 10, 11, 12, 13, 14, 15, 16, 17, 18, 19, 20, 21, 22, 23] [4, 5, 6, 7, 8, 9, 10, 3, 11, 12, 13, 14, 15, 19, 20, 21, 22] := G.tr g rfl rfl
  refine lv_dup C.1 C.2.1 dX9_init_73 rfl ?_
  refine y_callIN C X hA (k := 23) (As := []) (y := yX2_init) (bytes := cX2_init) (maxL := 1) (d := 0) (nw := [24, 25, 26]) (cm := [23, 24, 25, 26]) (mc := 3) (ms := 1552) (μ' := ν11) (by rw [e11]; exact I_X2_23 ν10 _ (G.mem (by decide)) (G.nf (ha 23 (by decide)).2 (by decide)) (G.hn M ha (by decide))) kw_221 kw_7 kw_220 hsd.1.2.2.2.1 rfl (by decide +kernel) ⟨Nat.le_of_ble_eq_true rfl, Nat.le_of_ble_eq_true rfl⟩ rfl hl.1 rfl (Nat.le_of_ble_eq_true rfl) dX9_init_74 ⟨Nat.le_of_ble_eq_true rfl, Nat.le_of_ble_eq_true rfl⟩ (fun w12 H locs g C X => ?_)
  refine W.st (st' := [zR w12 23, zR w12 1]) (cons2 (g.ref (k := 23) (G.mem (by decide))) (cons2 (g.ref (k := 1) (G.old hk)) rfl)) ?_
  have hl : lv_has ls 2 [(0, zR w12 1)] := Eq.mp (congrArg (fun v => lv_has ls 2 [(0, v)]) (g.ref (k := 1) (G.old hk))) hl
  have G : Grw Ω w12 [2, 3, 4, 5, 6, 7, 8, 9, 10, 11, 12, 13, 14, 15, 16, 17, 18, 19, 20, 21, 22, 23, 24, 25, 26] [4, 5, 6, 7, 8, 9, 10, 3, 11, 12, 13, 14, 15, 19, 20, 21, 22, 23, 24, 25, 26] := G.tr g rfl rfl
  have M : Mk ν11 [27, 28, 29, 30, 31, 32, 33, 34, 35, 36, 37, 38, 39, 40, 41, 42, 43, 44, 45, 46, 47, 48, 49, 50, 51, 52, 53, 54, 55, 56, 57, 58, 59, 60, 61, 62, 63, 64, 65, 66, 67, 68, 69, 70, 71, 72, 73, 74, 75, 76, 77, 78, 79, 80, 81, 82, 83, 84, 85] [(0, 2), (1, 3), (2, 16), (3, 17), (4, 18), (5, 19), (6, 21)] := M.con F11 (by decide) (by decide)
  refine z_putFR C X (v := 23) (k := 1) zk9 (G.old hk) rfl 7 (by decide) kw_396 rfl hin rfl rfl (fun _ => rfl) (fun _ => rfl) rfl (by decide) (G.mem (by decide)) (G.nf hkf (by decide)) (i := 7) e12 dX9_init_77 (fun H locs X => ?_)
  have M : Mk ν12 [27, 28, 29, 30, 31, 32, 33, 34, 35, 36, 37, 38, 39, 40, 41, 42, 43, 44, 45, 46, 47, 48, 49, 50, 51, 52, 53, 54, 55, 56, 57, 58, 59, 60, 61, 62, 63, 64, 65, 66, 67, 68, 69, 70, 71, 72, 73, 74, 75, 76, 77, 78, 79, 80, 81, 82, 83, 84, 85] [(0, 2), (1, 3), (2, 16), (3, 17), (4, 18), (5, 19), (6, 21), (7, 23)] := M.put e12 (by decide) (by decide)
  refine lv_aload_n C.1 C.2.1 dX9_init_80 rfl (lv_at hl 0 rfl) ?_
  refine y_newO C X hA zk6 kw_247 kw_248 kw_8 (by decide) 27 (G.nm (ha 27 (by decide)).1 (by decide)) (G.nf (ha 27 (by decide)).2 (by decide)) rfl (M.1 27 (by decide)) (Nat.le_of_ble_eq_true rfl) (Nat.le_of_ble_eq_true rfl) dX9_init_81 (fun w13 H g C X => ?_)
  refine W.st (st' := [zR w13 27, zR w13 1]) (cons2 rfl (cons2 (g.ref (k := 1) (G.old hk)) rfl)) ?_
  have hl : lv_has ls 2 [(0, zR w13 1)] := Eq.mp (congrArg (fun v => lv_has ls 2 [(0, v)]) (g.ref (k := 1) (G.old hk))) hl
  have G : Grw Ω w13 [2, 3, 4, 5, 6, 7, 8, 9, 10, 11, 12, 13, 14, 15, 16, 17, 18, 19, 20, 21, 22, 23, 24, 25, 26, 27] [4, 5, 6, 7, 8, 9, 10, 3, 11, 12, 13, 14, 15, 19, 20, 21, 22, 23, 24, 25, 26] := G.tr g rfl rfl
  refine lv_dup C.1 C.2.1 dX9_init_84 rfl ?_
  refine y_callIN C X hA (k := 27) (As := []) (y := yX6_init) (bytes := cX6_init) (maxL := 1) (d := 0) (nw := [28, 29, 30, 31, 32]) (cm := [27, 28, 29, 30, 31, 32]) (mc := 5) (ms := 108) (μ' := ν13) (by rw [e13]; exact I_X6_27 ν12 _ (G.mem (by decide)) (G.nf (ha 27 (by decide)).2 (by decide)) (G.hn M ha (by decide))) kw_251 kw_8 kw_250 hsd.1.2.2.2.2.1 rfl (by decide +kernel) ⟨Nat.le_of_ble_eq_true rfl, Nat.le_of_ble_eq_true rfl⟩ rfl hl.1 rfl (Nat.le_of_ble_eq_true rfl) dX9_init_85 ⟨Nat.le_of_ble_eq_true rfl, Nat.le_of_ble_eq_true rfl⟩ (fun w14 H locs g C X => ?_)
  refine W.st (st' := [zR w14 27, zR w14 1]) (cons2 (g.ref (k := 27) (G.mem (by decide))) (cons2 (g.ref (k := 1) (G.old hk)) rfl)) ?_
  have hl : lv_has ls 2 [(0, zR w14 1)] := Eq.mp (congrArg (fun v => lv_has ls 2 [(0, v)]) (g.ref (k := 1) (G.old hk))) hl
  have G : Grw Ω w14 [2, 3, 4, 5, 6, 7, 8, 9, 10, 11, 12, 13, 14, 15, 16, 17, 18, 19, 20, 21, 22, 23, 24, 25, 26, 27, 28, 29, 30, 31, 32] [4, 5, 6, 7, 8, 9, 10, 3, 11, 12, 13, 14, 15, 19, 20, 21, 22, 23, 24, 25, 26, 27, 28, 29, 30, 31, 32] := G.tr g rfl rfl
  have M : Mk ν13 [33, 34, 35, 36, 37, 38, 39, 40, 41, 42, 43, 44, 45, 46, 47, 48, 49, 50, 51, 52, 53, 54, 55, 56, 57, 58, 59, 60, 61, 62, 63, 64, 65, 66, 67, 68, 69, 70, 71, 72, 73, 74, 75, 76, 77, 78, 79, 80, 81, 82, 83, 84, 85] [(0, 2), (1, 3), (2, 16), (3, 17), (4, 18), (5, 19), (6, 21), (7, 23)] := M.con F13 (by decide) (by decide)
  refine z_putFR C X (v := 27) (k := 1) zk9 (G.old hk) rfl 8 (by decide) kw_397 rfl hin rfl rfl (fun _ => rfl) (fun _ => rfl) rfl (by decide) (G.mem (by decide)) (G.nf hkf (by decide)) (i := 8) e14 dX9_init_88 (fun H locs X => ?_)
  have M : Mk ν14 [33, 34, 35, 36, 37, 38, 39, 40, 41, 42, 43, 44, 45, 46, 47, 48, 49, 50, 51, 52, 53, 54, 55, 56, 57, 58, 59, 60, 61, 62, 63, 64, 65, 66, 67, 68, 69, 70, 71, 72, 73, 74, 75, 76, 77, 78, 79, 80, 81, 82, 83, 84, 85] [(0, 2), (1, 3), (2, 16), (3, 17), (4, 18), (5, 19), (6, 21), (7, 23), (8, 27)] := M.put e14 (by decide) (by decide)
  refine lv_aload_n C.1 C.2.1 dX9_init_91 rfl (lv_at hl 0 rfl) ?_
  refine y_newO C X hA zk0 kw_287 kw_288 kw_9 (by decide) 33 (G.nm (ha 33 (by decide)).1 (by decide)) (G.nf (ha 33 (by decide)).2 (by decide)) rfl (M.1 33 (by decide)) (Nat.le_of_ble_eq_true rfl) (Nat.le_of_ble_eq_true rfl) dX9_init_92 (fun w15 H g C X => ?_)
  refine W.st (st' := [zR w15 33, zR w15 1]) (cons2 rfl (cons2 (g.ref (k := 1) (G.old hk)) rfl)) ?_
  have hl : lv_has ls 2 [(0, zR w15 1)] := Eq.mp (congrArg (fun v => lv_has ls 2 [(0, v)]) (g.ref (k := 1) (G.old hk))) hl
  have G : Grw Ω w15 [2, 3, 4, 5, 6, 7, 8, 9, 10, 11, 12, 13, 14, 15, 16, 17, 18, 19, 20, 21, 22, 23, 24, 25, 26, 27, 28, 29, 30, 31, 32, 33] [4, 5, 6, 7, 8, 9, 10, 3, 11, 12, 13, 14, 15, 19, 20, 21, 22, 23, 24, 25, 26, 27, 28, 29, 30, 31, 32] := G.tr g rfl rfl
  refine lv_dup C.1 C.2.1 dX9_init_95 rfl ?_
  refine y_callIN C X hA (k := 33) (As := []) (y := yX0_init) (bytes := cX0_init) (maxL := 1) (d := 0) (nw := [34, 35, 36]) (cm := [33, 34, 35, 36]) (mc := 3) (ms := 8216) (μ' := ν15) (by rw [e15]; exact I_X0_33 ν14 _ (G.mem (by decide)) (G.nf (ha 33 (by decide)).2 (by decide)) (G.hn M ha (by decide))) kw_291 kw_9 kw_290 hsd.1.2.2.2.2.2.1 rfl (by decide +kernel) ⟨Nat.le_of_ble_eq_true rfl, Nat.le_of_ble_eq_true rfl⟩ rfl hl.1 rfl (Nat.le_of_ble_eq_true rfl) dX9_init_96 ⟨Nat.le_of_ble_eq_true rfl, Nat.le_of_ble_eq_true rfl⟩ (fun w16 H locs g C X => ?_)
  refine W.st (st' := [zR w16 33, zR w16 1]) (cons2 (g.ref (k := 33) (G.mem (by decide))) (cons2 (g.ref (k := 1) (G.old hk)) rfl)) ?_
  have hl : lv_has ls 2 [(0, zR w16 1)] := Eq.mp (congrArg (fun v => lv_has ls 2 [(0, v)]) (g.ref (k := 1) (G.old hk))) hl
  have G : Grw Ω w16 [2, 3, 4, 5, 6, 7, 8, 9, 10, 11, 12, 13, 14, 15, 16, 17, 18, 19, 20, 21, 22, 23, 24, 25, 26, 27, 28, 29, 30, 31, 32, 33, 34, 35, 36] [4, 5, 6, 7, 8, 9, 10, 3, 11, 12, 13, 14, 15, 19, 20, 21, 22, 23, 24, 25, 26, 27, 28, 29, 30, 31, 32, 33, 34, 35, 36] := G.tr g rfl rfl
  have M : Mk ν15 [37, 38, 39, 40, 41, 42, 43, 44, 45, 46, 47, 48, 49, 50, 51, 52, 53, 54, 55, 56, 57, 58, 59, 60, 61, 62, 63, 64, 65, 66, 67, 68, 69, 70, 71, 72, 73, 74, 75, 76, 77, 78, 79, 80, 81, 82, 83, 84, 85] [(0, 2), (1, 3), (2, 16), (3, 17), (4, 18), (5, 19), (6, 21), (7, 23), (8, 27)] := M.con F15 (by decide) (by decide)
  refine z_putFR C X (v := 33) (k := 1) zk9 (G.old hk) rfl 9 (by decide) kw_398 rfl hin rfl rfl (fun _ => rfl) (fun _ => rfl) rfl (by decide) (G.mem (by decide)) (G.nf hkf (by decide)) (i := 9) e16 dX9_init_99 (fun H locs X => ?_)
  have M : Mk ν16 [37, 38, 39, 40, 41, 42, 43, 44, 45, 46, 47, 48, 49, 50, 51, 52, 53, 54, 55, 56, 57, 58, 59, 60, 61, 62, 63, 64, 65, 66, 67, 68, 69, 70, 71, 72, 73, 74, 75, 76, 77, 78, 79, 80, 81, 82, 83, 84, 85] [(0, 2), (1, 3), (2, 16), (3, 17), (4, 18), (5, 19), (6, 21), (7, 23), (8, 27), (9, 33)] := M.put e16 (by decide) (by decide)
  refine lv_aload_n C.1 C.2.1 dX9_init_102 rfl (lv_at hl 0 rfl) ?_
  refine y_newO C X hA zk5 kw_23 kw_32 kw_3 (by decide) 51 (G.nm (ha 51 (by decide)).1 (by decide)) (G.nf (ha 51 (by decide)).2 (by decide)) rfl (M.1 51 (by decide)) (Nat.le_of_ble_eq_true rfl) (Nat.le_of_ble_eq_true rfl) dX9_init_103 (fun w17 H g C X => ?_)
  refine W.st (st' := [zR w17 51, zR w17 1]) (cons2 rfl (cons2 (g.ref (k := 1) (G.old hk)) rfl)) ?_
  have hl : lv_has ls 2 [(0, zR w17 1)] := Eq.mp (congrArg (fun v => lv_has ls 2 [(0, v)]) (g.ref (k := 1) (G.old hk))) hl
  have G : Grw Ω w17 [2, 3, 4, 5, 6, 7, 8, 9, 10, 11, 12, 13, 14, 15, 16, 17, 18, 19, 20, 21, 22, 23, 24, 25, 26, 27, 28, 29, 30, 31, 32, 33, 34, 35, 36, 51] [4, 5, 6, 7, 8, 9, 10, 3, 11, 12, 13, 14, 15, 19, 20, 21, 22, 23, 24, 25, 26, 27, 28, 29, 30, 31, 32, 33, 34, 35, 36] := G.tr g rfl rfl
  refine lv_dup C.1 C.2.1 dX9_init_106 rfl ?_
  refine z_bipush C dX9_init_107 rfl ?_
  refine z_bipush C dX9_init_109 rfl ?_
  refine z_bipush C dX9_init_111 rfl ?_
  refine y_callI C X hA (k := 51) (As := [zI 8, zI 12, zI 8]) (y := yX5_init) (bytes := cX5_init) (maxL := 4) (d := 2) (nw := [52, 53, 54, 55, 56, 57]) (cm := [51, 52, 53, 54, 55, 56, 57]) (mc := 6) (ms := 116) (μ' := ν17) (by exact I_X5_51 ν16 _ (G.mem (by decide)) (G.nf (ha 51 (by decide)).2 (by decide)) (G.hn M ha (by decide)) h17 k17) kw_35 kw_3 kw_34 kw_324 rfl (by decide +kernel) ⟨Nat.le_of_ble_eq_true rfl, Nat.le_of_ble_eq_true rfl⟩ rfl hl.1 rfl (Nat.le_of_ble_eq_true rfl) dX9_init_113 ⟨Nat.le_of_ble_eq_true rfl, Nat.le_of_ble_eq_true rfl⟩ (fun w18 H locs g C X => ?_)
  refine W.st (st' := [zR w18 51, zR w18 1]) (cons2 (g.ref (k := 51) (G.mem (by decide))) (cons2 (g.ref (k := 1) (G.old hk)) rfl)) ?_
  have hl : lv_has ls 2 [(0, zR w18 1)] := Eq.mp (congrArg (fun v => lv_has ls 2 [(0, v)]) (g.ref (k := 1) (G.old hk))) hl
  have G : Grw Ω w18 [2, 3, 4, 5, 6, 7, 8, 9, 10, 11, 12, 13, 14, 15, 16, 17, 18, 19, 20, 21, 22, 23, 24, 25, 26, 27, 28, 29, 30, 31, 32, 33, 34, 35, 36, 51, 52, 53, 54, 55, 56, 57] [4, 5, 6, 7, 8, 9, 10, 3, 11, 12, 13, 14, 15, 19, 20, 21, 22, 23, 24, 25, 26, 27, 28, 29, 30, 31, 32, 33, 34, 35, 36, 51, 52, 53, 54, 55, 56, 57] := G.tr g rfl rfl
  have M : Mk ν17 [37, 38, 39, 40, 41, 42, 43, 44, 45, 46, 47, 48, 49, 50, 58, 59, 60, 61, 62, 63, 64, 65, 66, 67, 68, 69, 70, 71, 72, 73, 74, 75, 76, 77, 78, 79, 80, 81, 82, 83, 84, 85] [(0, 2), (1, 3), (2, 16), (3, 17), (4, 18), (5, 19), (6, 21), (7, 23), (8, 27), (9, 33)] := M.con F17 (by decide) (by decide)
  refine z_putQ C X (v := 51) (k := 1) zk9 (G.old hk) rfl 10 (by decide) kw_399 rfl rfl rfl (i := 10) rfl (G.ob rfl (fun j j0 j1 => by have j1 : j < 7 := j1; have hj : j = 0 ∨ j = 1 ∨ j = 2 ∨ j = 3 ∨ j = 4 ∨ j = 5 ∨ j = 6 := (by omega); rcases hj with rfl | rfl | rfl | rfl | rfl | rfl | rfl <;> decide) (by decide)) (by decide) e18 dX9_init_116 (fun H locs X => ?_)
  have M : Mk ν18 [37, 38, 39, 40, 41, 42, 43, 44, 45, 46, 47, 48, 49, 50, 58, 59, 60, 61, 62, 63, 64, 65, 66, 67, 68, 69, 70, 71, 72, 73, 74, 75, 76, 77, 78, 79, 80, 81, 82, 83, 84, 85] [(0, 2), (1, 3), (2, 16), (3, 17), (4, 18), (5, 19), (6, 21), (7, 23), (8, 27), (9, 33), (10, 51)] := M.put e18 (by decide) (by decide)
  refine z_iconst C dX9_init_119 ?_
  refine lv_istore_n C.1 C.2.1 (lv' := [(1, zI 0), (0, zR w18 1)]) dX9_init_120 rfl hl (by decide) rfl (fun ls hl => ?_)
  have hl : lv_has ls 2 [(0, zR w18 1), (1, zI 0)] := lv_sub hl [1, 0] rfl
  refine lv_iload_n C.1 C.2.1 dX9_init_121 rfl (lv_at hl 1 rfl) ?_
  refine lv_aload_n C.1 C.2.1 dX9_init_122 rfl (lv_at hl 0 rfl) ?_
  refine z_get C X (k := 1) zk9 (G.old hk) rfl 0 (by decide) kw_389 (zR w18 2) (by show zQ w18 (ν18 1 0) = _; rw [M.2 (0, 2) (by decide)]; exact zQ_pos _ (by decide)) dX9_init_123 ?_
  refine z_alen C X (G.mem (by decide)) (a := 5) rfl ⟨by decide, by decide⟩ 2 rfl dX9_init_126 ?_
  refine z_icmpge C (x := 0) (y := 2) ⟨by decide, by decide⟩ ⟨by decide, by decide⟩ (tgt := 155) dX9_init_127 (by decide) (fun hc => absurd hc (by decide)) (fun hc => ?_)
  refine lv_aload_n C.1 C.2.1 dX9_init_130 rfl (lv_at hl 0 rfl) ?_
  refine z_get C X (k := 1) zk9 (G.old hk) rfl 0 (by decide) kw_389 (zR w18 2) (by show zQ w18 (ν18 1 0) = _; rw [M.2 (0, 2) (by decide)]; exact zQ_pos _ (by decide)) dX9_init_131 ?_
  refine lv_iload_n C.1 C.2.1 dX9_init_134 rfl (lv_at hl 1 rfl) ?_
  refine y_newO C X hA zk5 kw_23 kw_32 kw_3 (by decide) 37 (G.nm (ha 37 (by decide)).1 (by decide)) (G.nf (ha 37 (by decide)).2 (by decide)) rfl (M.1 37 (by decide)) (Nat.le_of_ble_eq_true rfl) (Nat.le_of_ble_eq_true rfl) dX9_init_135 (fun w19 H g C X => ?_)
  refine W.st (st' := [zR w19 37, zI 0, zR w19 2]) (cons2 rfl (cons2 rfl (cons2 (g.ref (k := 2) (G.mem (by decide))) rfl))) ?_
  have hl : lv_has ls 2 [(0, zR w19 1), (1, zI 0)] := Eq.mp (congrArg (fun v => lv_has ls 2 [(0, v), (1, zI 0)]) (g.ref (k := 1) (G.old hk))) hl
  have G : Grw Ω w19 [2, 3, 4, 5, 6, 7, 8, 9, 10, 11, 12, 13, 14, 15, 16, 17, 18, 19, 20, 21, 22, 23, 24, 25, 26, 27, 28, 29, 30, 31, 32, 33, 34, 35, 36, 51, 52, 53, 54, 55, 56, 57, 37] [4, 5, 6, 7, 8, 9, 10, 3, 11, 12, 13, 14, 15, 19, 20, 21, 22, 23, 24, 25, 26, 27, 28, 29, 30, 31, 32, 33, 34, 35, 36, 51, 52, 53, 54, 55, 56, 57] := G.tr g rfl rfl
  refine lv_dup C.1 C.2.1 dX9_init_138 rfl ?_
  refine z_bipush C dX9_init_139 rfl ?_
  refine z_bipush C dX9_init_141 rfl ?_
  refine z_bipush C dX9_init_143 rfl ?_
  refine y_callI C X hA (k := 37) (As := [zI 8, zI 12, zI 8]) (y := yX5_init) (bytes := cX5_init) (maxL := 4) (d := 2) (nw := [38, 39, 40, 41, 42, 43]) (cm := [37, 38, 39, 40, 41, 42, 43]) (mc := 6) (ms := 116) (μ' := ν19) (by exact I_X5_37 ν18 _ (G.mem (by decide)) (G.nf (ha 37 (by decide)).2 (by decide)) (G.hn M ha (by decide)) h19 k19) kw_35 kw_3 kw_34 kw_324 rfl (by decide +kernel) ⟨Nat.le_of_ble_eq_true rfl, Nat.le_of_ble_eq_true rfl⟩ rfl hl.1 rfl (Nat.le_of_ble_eq_true rfl) dX9_init_145 ⟨Nat.le_of_ble_eq_true rfl, Nat.le_of_ble_eq_true rfl⟩ (fun w20 H locs g C X => ?_)
  refine W.st (st' := [zR w20 37, zI 0, zR w20 2]) (cons2 (g.ref (k := 37) (G.mem (by decide))) (cons2 rfl (cons2 (g.ref (k := 2) (G.mem (by decide))) rfl))) ?_
  have hl : lv_has ls 2 [(0, zR w20 1), (1, zI 0)] := Eq.mp (congrArg (fun v => lv_has ls 2 [(0, v), (1, zI 0)]) (g.ref (k := 1) (G.old hk))) hl
  have G : Grw Ω w20 [2, 3, 4, 5, 6, 7, 8, 9, 10, 11, 12, 13, 14, 15, 16, 17, 18, 19, 20, 21, 22, 23, 24, 25, 26, 27, 28, 29, 30, 31, 32, 33, 34, 35, 36, 51, 52, 53, 54, 55, 56, 57, 37, 38, 39, 40, 41, 42, 43] [4, 5, 6, 7, 8, 9, 10, 3, 11, 12, 13, 14, 15, 19, 20, 21, 22, 23, 24, 25, 26, 27, 28, 29, 30, 31, 32, 33, 34, 35, 36, 51, 52, 53, 54, 55, 56, 57, 37, 38, 39, 40, 41, 42, 43] := G.tr g rfl rfl
  have M : Mk ν19 [44, 45, 46, 47, 48, 49, 50, 58, 59, 60, 61, 62, 63, 64, 65, 66, 67, 68, 69, 70, 71, 72, 73, 74, 75, 76, 77, 78, 79, 80, 81, 82, 83, 84, 85] [(0, 2), (1, 3), (2, 16), (3, 17), (4, 18), (5, 19), (6, 21), (7, 23), (8, 27), (9, 33), (10, 51)] := M.con F19 (by decide) (by decide)
  have zo : zob w20.2.2.1 5 37 := (G.ob rfl (fun j j0 j1 => by have j1 : j < 7 := j1; have hj : j = 0 ∨ j = 1 ∨ j = 2 ∨ j = 3 ∨ j = 4 ∨ j = 5 ∨ j = 6 := (by omega); rcases hj with rfl | rfl | rfl | rfl | rfl | rfl | rfl <;> decide) (by decide))
  refine z_aast5 C X (k := 2) (i := 0) (v := 37) (G.mem (by decide)) rfl ⟨by decide, by decide⟩ zo (by decide) (N := 11) rfl (zok5 rfl zo) e20 dX9_init_148 (fun H locs X => ?_)
  have M : Mk ν20 [44, 45, 46, 47, 48, 49, 50, 58, 59, 60, 61, 62, 63, 64, 65, 66, 67, 68, 69, 70, 71, 72, 73, 74, 75, 76, 77, 78, 79, 80, 81, 82, 83, 84, 85] [(0, 2), (1, 3), (2, 16), (3, 17), (4, 18), (5, 19), (6, 21), (7, 23), (8, 27), (9, 33), (10, 51)] := M.oth e20 (by decide) (by decide)
  refine z_iinc C (x := 0) (y := 1) (by decide) dX9_init_149 hl (k := 1) rfl (by decide) (lv' := [(1, zI 1), (0, zR w20 1)]) rfl (fun ls hl => ?_)
  have hl : lv_has ls 2 [(0, zR w20 1), (1, zI 1)] := lv_sub hl [1, 0] rfl
  refine lv_goto (tgt := 121) C.1 C.2.1 dX9_init_152 (by decide) ?_
  refine lv_iload_n C.1 C.2.1 dX9_init_121 rfl (lv_at hl 1 rfl) ?_
  refine lv_aload_n C.1 C.2.1 dX9_init_122 rfl (lv_at hl 0 rfl) ?_
  refine z_get C X (k := 1) zk9 (G.old hk) rfl 0 (by decide) kw_389 (zR w20 2) (by show zQ w20 (ν20 1 0) = _; rw [M.2 (0, 2) (by decide)]; exact zQ_pos _ (by decide)) dX9_init_123 ?_
  refine z_alen C X (G.mem (by decide)) (a := 5) rfl ⟨by decide, by decide⟩ 2 rfl dX9_init_126 ?_
  refine z_icmpge C (x := 1) (y := 2) ⟨by decide, by decide⟩ ⟨by decide, by decide⟩ (tgt := 155) dX9_init_127 (by decide) (fun hc => absurd hc (by decide)) (fun hc => ?_)
  refine lv_aload_n C.1 C.2.1 dX9_init_130 rfl (lv_at hl 0 rfl) ?_
  refine z_get C X (k := 1) zk9 (G.old hk) rfl 0 (by decide) kw_389 (zR w20 2) (by show zQ w20 (ν20 1 0) = _; rw [M.2 (0, 2) (by decide)]; exact zQ_pos _ (by decide)) dX9_init_131 ?_
  refine lv_iload_n C.1 C.2.1 dX9_init_134 rfl (lv_at hl 1 rfl) ?_
  refine y_newO C X hA zk5 kw_23 kw_32 kw_3 (by decide) 44 (G.nm (ha 44 (by decide)).1 (by decide)) (G.nf (ha 44 (by decide)).2 (by decide)) rfl (M.1 44 (by decide)) (Nat.le_of_ble_eq_true rfl) (Nat.le_of_ble_eq_true rfl) dX9_init_135 (fun w21 H g C X => ?_)
  refine W.st (st' := [zR w21 44, zI 1, zR w21 2]) (cons2 rfl (cons2 rfl (cons2 (g.ref (k := 2) (G.mem (by decide))) rfl))) ?_
  have hl : lv_has ls 2 [(0, zR w21 1), (1, zI 1)] := Eq.mp (congrArg (fun v => lv_has ls 2 [(0, v), (1, zI 1)]) (g.ref (k := 1) (G.old hk))) hl
  have G : Grw Ω w21 [2, 3, 4, 5, 6, 7, 8, 9, 10, 11, 12, 13, 14, 15, 16, 17, 18, 19, 20, 21, 22, 23, 24, 25, 26, 27, 28, 29, 30, 31, 32, 33, 34, 35, 36, 51, 52, 53, 54, 55, 56, 57, 37, 38, 39, 40, 41, 42, 43, 44] [4, 5, 6, 7, 8, 9, 10, 3, 11, 12, 13, 14, 15, 19, 20, 21, 22, 23, 24, 25, 26, 27, 28, 29, 30, 31, 32, 33, 34, 35, 36, 51, 52, 53, 54, 55, 56, 57, 37, 38, 39, 40, 41, 42, 43] := G.tr g rfl rfl
  refine lv_dup C.1 C.2.1 dX9_init_138 rfl ?_
  refine z_bipush C dX9_init_139 rfl ?_
  refine z_bipush C dX9_init_141 rfl ?_
  refine z_bipush C dX9_init_143 rfl ?_
  refine y_callI C X hA (k := 44) (As := [zI 8, zI 12, zI 8]) (y := yX5_init) (bytes := cX5_init) (maxL := 4) (d := 2) (nw := [45, 46, 47, 48, 49, 50]) (cm := [44, 45, 46, 47, 48, 49, 50]) (mc := 6) (ms := 116) (μ' := ν21) (by exact I_X5_44 ν20 _ (G.mem (by decide)) (G.nf (ha 44 (by decide)).2 (by decide)) (G.hn M ha (by decide)) h21 k21) kw_35 kw_3 kw_34 kw_324 rfl (by decide +kernel) ⟨Nat.le_of_ble_eq_true rfl, Nat.le_of_ble_eq_true rfl⟩ rfl hl.1 rfl (Nat.le_of_ble_eq_true rfl) dX9_init_145 ⟨Nat.le_of_ble_eq_true rfl, Nat.le_of_ble_eq_true rfl⟩ (fun w22 H locs g C X => ?_)
  refine W.st (st' := [zR w22 44, zI 1, zR w22 2]) (cons2 (g.ref (k := 44) (G.mem (by decide))) (cons2 rfl (cons2 (g.ref (k := 2) (G.mem (by decide))) rfl))) ?_
  have hl : lv_has ls 2 [(0, zR w22 1), (1, zI 1)] := Eq.mp (congrArg (fun v => lv_has ls 2 [(0, v), (1, zI 1)]) (g.ref (k := 1) (G.old hk))) hl
  have G : Grw Ω w22 [2, 3, 4, 5, 6, 7, 8, 9, 10, 11, 12, 13, 14, 15, 16, 17, 18, 19, 20, 21, 22, 23, 24, 25, 26, 27, 28, 29, 30, 31, 32, 33, 34, 35, 36, 51, 52, 53, 54, 55, 56, 57, 37, 38, 39, 40, 41, 42, 43, 44, 45, 46, 47, 48, 49, 50] [4, 5, 6, 7, 8, 9, 10, 3, 11, 12, 13, 14, 15, 19, 20, 21, 22, 23, 24, 25, 26, 27, 28, 29, 30, 31, 32, 33, 34, 35, 36, 51, 52, 53, 54, 55, 56, 57, 37, 38, 39, 40, 41, 42, 43, 44, 45, 46, 47, 48, 49, 50] := G.tr g rfl rfl
  have M : Mk ν21 [58, 59, 60, 61, 62, 63, 64, 65, 66, 67, 68, 69, 70, 71, 72, 73, 74, 75, 76, 77, 78, 79, 80, 81, 82, 83, 84, 85] [(0, 2), (1, 3), (2, 16), (3, 17), (4, 18), (5, 19), (6, 21), (7, 23), (8, 27), (9, 33), (10, 51)] := M.con F21 (by decide) (by decide)
  have zo : zob w22.2.2.1 5 44 := (G.ob rfl (fun j j0 j1 => by have j1 : j < 7 := j1; have hj : j = 0 ∨ j = 1 ∨ j = 2 ∨ j = 3 ∨ j = 4 ∨ j = 5 ∨ j = 6 := (by omega); rcases hj with rfl | rfl | rfl | rfl | rfl | rfl | rfl <;> decide) (by decide))
  refine z_aast5 C X (k := 2) (i := 1) (v := 44) (G.mem (by decide)) rfl ⟨by decide, by decide⟩ zo (by decide) (N := 11) rfl (zok5 rfl zo) e22 dX9_init_148 (fun H locs X => ?_)
  have M : Mk ν22 [58, 59, 60, 61, 62, 63, 64, 65, 66, 67, 68, 69, 70, 71, 72, 73, 74, 75, 76, 77, 78, 79, 80, 81, 82, 83, 84, 85] [(0, 2), (1, 3), (2, 16), (3, 17), (4, 18), (5, 19), (6, 21), (7, 23), (8, 27), (9, 33), (10, 51)] := M.oth e22 (by decide) (by decide)
  refine z_iinc C (x := 1) (y := 2) (by decide) dX9_init_149 hl (k := 1) rfl (by decide) (lv' := [(1, zI 2), (0, zR w22 1)]) rfl (fun ls hl => ?_)
  have hl : lv_has ls 2 [(0, zR w22 1), (1, zI 2)] := lv_sub hl [1, 0] rfl
  refine lv_goto (tgt := 121) C.1 C.2.1 dX9_init_152 (by decide) ?_
  refine lv_iload_n C.1 C.2.1 dX9_init_121 rfl (lv_at hl 1 rfl) ?_
  refine lv_aload_n C.1 C.2.1 dX9_init_122 rfl (lv_at hl 0 rfl) ?_
  refine z_get C X (k := 1) zk9 (G.old hk) rfl 0 (by decide) kw_389 (zR w22 2) (by show zQ w22 (ν22 1 0) = _; rw [M.2 (0, 2) (by decide)]; exact zQ_pos _ (by decide)) dX9_init_123 ?_
  refine z_alen C X (G.mem (by decide)) (a := 5) rfl ⟨by decide, by decide⟩ 2 rfl dX9_init_126 ?_
  refine z_icmpge C (x := 2) (y := 2) ⟨by decide, by decide⟩ ⟨by decide, by decide⟩ (tgt := 155) dX9_init_127 (by decide) (fun hc => ?_) (fun hc => absurd hc (by decide))
  refine z_iconst C dX9_init_155 ?_
  refine lv_istore_n C.1 C.2.1 (lv' := [(1, zI 0), (0, zR w22 1)]) dX9_init_156 rfl hl (by decide) rfl (fun ls hl => ?_)
  have hl : lv_has ls 2 [(0, zR w22 1), (1, zI 0)] := lv_sub hl [1, 0] rfl
  refine lv_iload_n C.1 C.2.1 dX9_init_157 rfl (lv_at hl 1 rfl) ?_
  refine z_iconst C dX9_init_158 ?_
  refine z_icmpge C (x := 0) (y := 4) ⟨by decide, by decide⟩ ⟨by decide, by decide⟩ (tgt := 181) dX9_init_159 (by decide) (fun hc => absurd hc (by decide)) (fun hc => ?_)
  refine lv_aload_n C.1 C.2.1 dX9_init_162 rfl (lv_at hl 0 rfl) ?_
  refine z_get C X (k := 1) zk9 (G.old hk) rfl 2 (by decide) kw_391 (zR w22 16) (by show zQ w22 (ν22 1 2) = _; rw [M.2 (2, 16) (by decide)]; exact zQ_pos _ (by decide)) dX9_init_163 ?_
  refine lv_iload_n C.1 C.2.1 dX9_init_166 rfl (lv_at hl 1 rfl) ?_
  refine y_newO C X hA zk8 kw_158 kw_182 kw_6 (by decide) 58 (G.nm (ha 58 (by decide)).1 (by decide)) (G.nf (ha 58 (by decide)).2 (by decide)) rfl (M.1 58 (by decide)) (Nat.le_of_ble_eq_true rfl) (Nat.le_of_ble_eq_true rfl) dX9_init_167 (fun w23 H g C X => ?_)
  refine W.st (st' := [zR w23 58, zI 0, zR w23 16]) (cons2 rfl (cons2 rfl (cons2 (g.ref (k := 16) (G.mem (by decide))) rfl))) ?_
  have hl : lv_has ls 2 [(0, zR w23 1), (1, zI 0)] := Eq.mp (congrArg (fun v => lv_has ls 2 [(0, v), (1, zI 0)]) (g.ref (k := 1) (G.old hk))) hl
  have G : Grw Ω w23 [2, 3, 4, 5, 6, 7, 8, 9, 10, 11, 12, 13, 14, 15, 16, 17, 18, 19, 20, 21, 22, 23, 24, 25, 26, 27, 28, 29, 30, 31, 32, 33, 34, 35, 36, 51, 52, 53, 54, 55, 56, 57, 37, 38, 39, 40, 41, 42, 43, 44, 45, 46, 47, 48, 49, 50, 58] [4, 5, 6, 7, 8, 9, 10, 3, 11, 12, 13, 14, 15, 19, 20, 21, 22, 23, 24, 25, 26, 27, 28, 29, 30, 31, 32, 33, 34, 35, 36, 51, 52, 53, 54, 55, 56, 57, 37, 38, 39, 40, 41, 42, 43, 44, 45, 46, 47, 48, 49, 50] := G.tr g rfl rfl
  refine lv_dup C.1 C.2.1 dX9_init_170 rfl ?_
  refine y_callIN C X hA (k := 58) (As := []) (y := yX8_init) (bytes := cX8_init) (maxL := 1) (d := 0) (nw := [59]) (cm := [58, 59]) (mc := 1) (ms := 16) (μ' := ν23) (by rw [e23]; exact I_X8_58 ν22 _ (G.mem (by decide)) (G.nf (ha 58 (by decide)).2 (by decide)) (G.hn M ha (by decide))) kw_185 kw_6 kw_184 hsd.1.2.2.1 rfl (by decide +kernel) ⟨Nat.le_of_ble_eq_true rfl, Nat.le_of_ble_eq_true rfl⟩ rfl hl.1 rfl (Nat.le_of_ble_eq_true rfl) dX9_init_171 ⟨Nat.le_of_ble_eq_true rfl, Nat.le_of_ble_eq_true rfl⟩ (fun w24 H locs g C X => ?_)
  refine W.st (st' := [zR w24 58, zI 0, zR w24 16]) (cons2 (g.ref (k := 58) (G.mem (by decide))) (cons2 rfl (cons2 (g.ref (k := 16) (G.mem (by decide))) rfl))) ?_
  have hl : lv_has ls 2 [(0, zR w24 1), (1, zI 0)] := Eq.mp (congrArg (fun v => lv_has ls 2 [(0, v), (1, zI 0)]) (g.ref (k := 1) (G.old hk))) hl
  have G : Grw Ω w24 [2, 3, 4, 5, 6, 7, 8, 9, 10, 11, 12, 13, 14, 15, 16, 17, 18, 19, 20, 21, 22, 23, 24, 25, 26, 27, 28, 29, 30, 31, 32, 33, 34, 35, 36, 51, 52, 53, 54, 55, 56, 57, 37, 38, 39, 40, 41, 42, 43, 44, 45, 46, 47, 48, 49, 50, 58, 59] [4, 5, 6, 7, 8, 9, 10, 3, 11, 12, 13, 14, 15, 19, 20, 21, 22, 23, 24, 25, 26, 27, 28, 29, 30, 31, 32, 33, 34, 35, 36, 51, 52, 53, 54, 55, 56, 57, 37, 38, 39, 40, 41, 42, 43, 44, 45, 46, 47, 48, 49, 50, 58, 59] := G.tr g rfl rfl
  have M : Mk ν23 [60, 61, 62, 63, 64, 65, 66, 67, 68, 69, 70, 71, 72, 73, 74, 75, 76, 77, 78, 79, 80, 81, 82, 83, 84, 85] [(0, 2), (1, 3), (2, 16), (3, 17), (4, 18), (5, 19), (6, 21), (7, 23), (8, 27), (9, 33), (10, 51)] := M.con F23 (by decide) (by decide)
  have zo : zob w24.2.2.1 8 58 := (G.ob rfl (fun j j0 j1 => by have j1 : j < 2 := j1; have hj : j = 0 ∨ j = 1 := (by omega); rcases hj with rfl | rfl <;> decide) (by decide))
  refine z_aast6 C X (k := 16) (i := 0) (v := 58) (G.mem (by decide)) rfl ⟨by decide, by decide⟩ zo (by decide) (N := 5) rfl (zok6 rfl zo) e24 dX9_init_174 (fun H locs X => ?_)
  have M : Mk ν24 [60, 61, 62, 63, 64, 65, 66, 67, 68, 69, 70, 71, 72, 73, 74, 75, 76, 77, 78, 79, 80, 81, 82, 83, 84, 85] [(0, 2), (1, 3), (2, 16), (3, 17), (4, 18), (5, 19), (6, 21), (7, 23), (8, 27), (9, 33), (10, 51)] := M.oth e24 (by decide) (by decide)
  refine z_iinc C (x := 0) (y := 1) (by decide) dX9_init_175 hl (k := 1) rfl (by decide) (lv' := [(1, zI 1), (0, zR w24 1)]) rfl (fun ls hl => ?_)
  have hl : lv_has ls 2 [(0, zR w24 1), (1, zI 1)] := lv_sub hl [1, 0] rfl
  refine lv_goto (tgt := 157) C.1 C.2.1 dX9_init_178 (by decide) ?_
  refine lv_iload_n C.1 C.2.1 dX9_init_157 rfl (lv_at hl 1 rfl) ?_
  refine z_iconst C dX9_init_158 ?_
  refine z_icmpge C (x := 1) (y := 4) ⟨by decide, by decide⟩ ⟨by decide, by decide⟩ (tgt := 181) dX9_init_159 (by decide) (fun hc => absurd hc (by decide)) (fun hc => ?_)
  refine lv_aload_n C.1 C.2.1 dX9_init_162 rfl (lv_at hl 0 rfl) ?_
  refine z_get C X (k := 1) zk9 (G.old hk) rfl 2 (by decide) kw_391 (zR w24 16) (by show zQ w24 (ν24 1 2) = _; rw [M.2 (2, 16) (by decide)]; exact zQ_pos _ (by decide)) dX9_init_163 ?_
  refine lv_iload_n C.1 C.2.1 dX9_init_166 rfl (lv_at hl 1 rfl) ?_
  refine y_newO C X hA zk8 kw_158 kw_182 kw_6 (by decide) 60 (G.nm (ha 60 (by decide)).1 (by decide)) (G.nf (ha 60 (by decide)).2 (by decide)) rfl (M.1 60 (by decide)) (Nat.le_of_ble_eq_true rfl) (Nat.le_of_ble_eq_true rfl) dX9_init_167 (fun w25 H g C X => ?_)
  refine W.st (st' := [zR w25 60, zI 1, zR w25 16]) (cons2 rfl (cons2 rfl (cons2 (g.ref (k := 16) (G.mem (by decide))) rfl))) ?_
  have hl : lv_has ls 2 [(0, zR w25 1), (1, zI 1)] := Eq.mp (congrArg (fun v => lv_has ls 2 [(0, v), (1, zI 1)]) (g.ref (k := 1) (G.old hk))) hl
  have G : Grw Ω w25 [2, 3, 4, 5, 6, 7, 8, 9, 10, 11, 12, 13, 14, 15, 16, 17, 18, 19, 20, 21, 22, 23, 24, 25, 26, 27, 28, 29, 30, 31, 32, 33, 34, 35, 36, 51, 52, 53, 54, 55, 56, 57, 37, 38, 39, 40, 41, 42, 43, 44, 45, 46, 47, 48, 49, 50, 58, 59, 60] [4, 5, 6, 7, 8, 9, 10, 3, 11, 12, 13, 14, 15, 19, 20, 21, 22, 23, 24, 25, 26, 27, 28, 29, 30, 31, 32, 33, 34, 35, 36, 51, 52, 53, 54, 55, 56, 57, 37, 38, 39, 40, 41, 42, 43, 44, 45, 46, 47, 48, 49, 50, 58, 59] := G.tr g rfl rfl
  refine lv_dup C.1 C.2.1 dX9_init_170 rfl ?_
  refine y_callIN C X hA (k := 60) (As := []) (y := yX8_init) (bytes := cX8_init) (maxL := 1) (d := 0) (nw := [61]) (cm := [60, 61]) (mc := 1) (ms := 16) (μ' := ν25) (by rw [e25]; exact I_X8_60 ν24 _ (G.mem (by decide)) (G.nf (ha 60 (by decide)).2 (by decide)) (G.hn M ha (by decide))) kw_185 kw_6 kw_184 hsd.1.2.2.1 rfl (by decide +kernel) ⟨Nat.le_of_ble_eq_true rfl, Nat.le_of_ble_eq_true rfl⟩ rfl hl.1 rfl (Nat.le_of_ble_eq_true rfl) dX9_init_171 ⟨Nat.le_of_ble_eq_true rfl, Nat.le_of_ble_eq_true rfl⟩ (fun w26 H locs g C X => ?_)
  refine W.st (st' := [zR w26 60, zI 1, zR w26 16]) (cons2 (g.ref (k := 60) (G.mem (by decide))) (cons2 rfl (cons2 (g.ref (k := 16) (G.mem (by decide))) rfl))) ?_
  have hl : lv_has ls 2 [(0, zR w26 1), (1, zI 1)] := Eq.mp (congrArg (fun v => lv_has ls 2 [(0, v), (1, zI 1)]) (g.ref (k := 1) (G.old hk))) hl
  have G : Grw Ω w26 [2, 3, 4, 5, 6, 7, 8, 9, 10, 11, 12, 13, 14, 15, 16, 17, 18, 19, 20, 21, 22, 23, 24, 25, 26, 27, 28, 29, 30, 31, 32, 33, 34, 35, 36, 51, 52, 53, 54, 55, 56, 57, 37, 38, 39, 40, 41, 42, 43, 44, 45, 46, 47, 48, 49, 50, 58, 59, 60, 61] [4, 5, 6, 7, 8, 9, 10, 3, 11, 12, 13, 14, 15, 19, 20, 21, 22, 23, 24, 25, 26, 27, 28, 29, 30, 31, 32, 33, 34, 35, 36, 51, 52, 53, 54, 55, 56, 57, 37, 38, 39, 40, 41, 42, 43, 44, 45, 46, 47, 48, 49, 50, 58, 59, 60, 61] := G.tr g rfl rfl
  have M : Mk ν25 [62, 63, 64, 65, 66, 67, 68, 69, 70, 71, 72, 73, 74, 75, 76, 77, 78, 79, 80, 81, 82, 83, 84, 85] [(0, 2), (1, 3), (2, 16), (3, 17), (4, 18), (5, 19), (6, 21), (7, 23), (8, 27), (9, 33), (10, 51)] := M.con F25 (by decide) (by decide)
  have zo : zob w26.2.2.1 8 60 := (G.ob rfl (fun j j0 j1 => by have j1 : j < 2 := j1; have hj : j = 0 ∨ j = 1 := (by omega); rcases hj with rfl | rfl <;> decide) (by decide))
  refine z_aast6 C X (k := 16) (i := 1) (v := 60) (G.mem (by decide)) rfl ⟨by decide, by decide⟩ zo (by decide) (N := 5) rfl (zok6 rfl zo) e26 dX9_init_174 (fun H locs X => ?_)
  have M : Mk ν26 [62, 63, 64, 65, 66, 67, 68, 69, 70, 71, 72, 73, 74, 75, 76, 77, 78, 79, 80, 81, 82, 83, 84, 85] [(0, 2), (1, 3), (2, 16), (3, 17), (4, 18), (5, 19), (6, 21), (7, 23), (8, 27), (9, 33), (10, 51)] := M.oth e26 (by decide) (by decide)
  refine z_iinc C (x := 1) (y := 2) (by decide) dX9_init_175 hl (k := 1) rfl (by decide) (lv' := [(1, zI 2), (0, zR w26 1)]) rfl (fun ls hl => ?_)
  have hl : lv_has ls 2 [(0, zR w26 1), (1, zI 2)] := lv_sub hl [1, 0] rfl
  refine lv_goto (tgt := 157) C.1 C.2.1 dX9_init_178 (by decide) ?_
  refine lv_iload_n C.1 C.2.1 dX9_init_157 rfl (lv_at hl 1 rfl) ?_
  refine z_iconst C dX9_init_158 ?_
  refine z_icmpge C (x := 2) (y := 4) ⟨by decide, by decide⟩ ⟨by decide, by decide⟩ (tgt := 181) dX9_init_159 (by decide) (fun hc => absurd hc (by decide)) (fun hc => ?_)
  refine lv_aload_n C.1 C.2.1 dX9_init_162 rfl (lv_at hl 0 rfl) ?_
  refine z_get C X (k := 1) zk9 (G.old hk) rfl 2 (by decide) kw_391 (zR w26 16) (by show zQ w26 (ν26 1 2) = _; rw [M.2 (2, 16) (by decide)]; exact zQ_pos _ (by decide)) dX9_init_163 ?_
  refine lv_iload_n C.1 C.2.1 dX9_init_166 rfl (lv_at hl 1 rfl) ?_
  refine y_newO C X hA zk8 kw_158 kw_182 kw_6 (by decide) 62 (G.nm (ha 62 (by decide)).1 (by decide)) (G.nf (ha 62 (by decide)).2 (by decide)) rfl (M.1 62 (by decide)) (Nat.le_of_ble_eq_true rfl) (Nat.le_of_ble_eq_true rfl) dX9_init_167 (fun w27 H g C X => ?_)
  refine W.st (st' := [zR w27 62, zI 2, zR w27 16]) (cons2 rfl (cons2 rfl (cons2 (g.ref (k := 16) (G.mem (by decide))) rfl))) ?_
  have hl : lv_has ls 2 [(0, zR w27 1), (1, zI 2)] := Eq.mp (congrArg (fun v => lv_has ls 2 [(0, v), (1, zI 2)]) (g.ref (k := 1) (G.old hk))) hl
  have G : Grw Ω w27 [2, 3, 4, 5, 6, 7, 8, 9, 10, 11, 12, 13, 14, 15, 16, 17, 18, 19, 20, 21, 22, 23, 24, 25, 26, 27, 28, 29, 30, 31, 32, 33, 34, 35, 36, 51, 52, 53, 54, 55, 56, 57, 37, 38, 39, 40, 41, 42, 43, 44, 45, 46, 47, 48, 49, 50, 58, 59, 60, 61, 62] [4, 5, 6, 7, 8, 9, 10, 3, 11, 12, 13, 14, 15, 19, 20, 21, 22, 23, 24, 25, 26, 27, 28, 29, 30, 31, 32, 33, 34, 35, 36, 51, 52, 53, 54, 55, 56, 57, 37, 38, 39, 40, 41, 42, 43, 44, 45, 46, 47, 48, 49, 50, 58, 59, 60, 61] := G.tr g rfl rfl
  refine lv_dup C.1 C.2.1 dX9_init_170 rfl ?_
  refine y_callIN C X hA (k := 62) (As := []) (y := yX8_init) (bytes := cX8_init) (maxL := 1) (d := 0) (nw := [63]) (cm := [62, 63]) (mc := 1) (ms := 16) (μ' := ν27) (by rw [e27]; exact I_X8_62 ν26 _ (G.mem (by decide)) (G.nf (ha 62 (by decide)).2 (by decide)) (G.hn M ha (by decide))) kw_185 kw_6 kw_184 hsd.1.2.2.1 rfl (by decide +kernel) ⟨Nat.le_of_ble_eq_true rfl, Nat.le_of_ble_eq_true rfl⟩ rfl hl.1 rfl (Nat.le_of_ble_eq_true rfl) dX9_init_171 ⟨Nat.le_of_ble_eq_true rfl, Nat.le_of_ble_eq_true rfl⟩ (fun w28 H locs g C X => ?_)
  refine W.st (st' := [zR w28 62, zI 2, zR w28 16]) (cons2 (g.ref (k := 62) (G.mem (by decide))) (cons2 rfl (cons2 (g.ref (k := 16) (G.mem (by decide))) rfl))) ?_
  have hl : lv_has ls 2 [(0, zR w28 1), (1, zI 2)] := Eq.mp (congrArg (fun v => lv_has ls 2 [(0, v), (1, zI 2)]) (g.ref (k := 1) (G.old hk))) hl
  have G : Grw Ω w28 [2, 3, 4, 5, 6, 7, 8, 9, 10, 11, 12, 13, 14, 15, 16, 17, 18, 19, 20, 21, 22, 23, 24, 25, 26, 27, 28, 29, 30, 31, 32, 33, 34, 35, 36, 51, 52, 53, 54, 55, 56, 57, 37, 38, 39, 40, 41, 42, 43, 44, 45, 46, 47, 48, 49, 50, 58, 59, 60, 61, 62, 63] [4, 5, 6, 7, 8, 9, 10, 3, 11, 12, 13, 14, 15, 19, 20, 21, 22, 23, 24, 25, 26, 27, 28, 29, 30, 31, 32, 33, 34, 35, 36, 51, 52, 53, 54, 55, 56, 57, 37, 38, 39, 40, 41, 42, 43, 44, 45, 46, 47, 48, 49, 50, 58, 59, 60, 61, 62, 63] := G.tr g rfl rfl
  have M : Mk ν27 [64, 65, 66, 67, 68, 69, 70, 71, 72, 73, 74, 75, 76, 77, 78, 79, 80, 81, 82, 83, 84, 85] [(0, 2), (1, 3), (2, 16), (3, 17), (4, 18), (5, 19), (6, 21), (7, 23), (8, 27), (9, 33), (10, 51)] := M.con F27 (by decide) (by decide)
  have zo : zob w28.2.2.1 8 62 := (G.ob rfl (fun j j0 j1 => by have j1 : j < 2 := j1; have hj : j = 0 ∨ j = 1 := (by omega); rcases hj with rfl | rfl <;> decide) (by decide))
  refine z_aast6 C X (k := 16) (i := 2) (v := 62) (G.mem (by decide)) rfl ⟨by decide, by decide⟩ zo (by decide) (N := 5) rfl (zok6 rfl zo) e28 dX9_init_174 (fun H locs X => ?_)
  have M : Mk ν28 [64, 65, 66, 67, 68, 69, 70, 71, 72, 73, 74, 75, 76, 77, 78, 79, 80, 81, 82, 83, 84, 85] [(0, 2), (1, 3), (2, 16), (3, 17), (4, 18), (5, 19), (6, 21), (7, 23), (8, 27), (9, 33), (10, 51)] := M.oth e28 (by decide) (by decide)
  refine z_iinc C (x := 2) (y := 3) (by decide) dX9_init_175 hl (k := 1) rfl (by decide) (lv' := [(1, zI 3), (0, zR w28 1)]) rfl (fun ls hl => ?_)
  have hl : lv_has ls 2 [(0, zR w28 1), (1, zI 3)] := lv_sub hl [1, 0] rfl
  refine lv_goto (tgt := 157) C.1 C.2.1 dX9_init_178 (by decide) ?_
  refine lv_iload_n C.1 C.2.1 dX9_init_157 rfl (lv_at hl 1 rfl) ?_
  refine z_iconst C dX9_init_158 ?_
  refine z_icmpge C (x := 3) (y := 4) ⟨by decide, by decide⟩ ⟨by decide, by decide⟩ (tgt := 181) dX9_init_159 (by decide) (fun hc => absurd hc (by decide)) (fun hc => ?_)
  refine lv_aload_n C.1 C.2.1 dX9_init_162 rfl (lv_at hl 0 rfl) ?_
  refine z_get C X (k := 1) zk9 (G.old hk) rfl 2 (by decide) kw_391 (zR w28 16) (by show zQ w28 (ν28 1 2) = _; rw [M.2 (2, 16) (by decide)]; exact zQ_pos _ (by decide)) dX9_init_163 ?_
  refine lv_iload_n C.1 C.2.1 dX9_init_166 rfl (lv_at hl 1 rfl) ?_
  refine y_newO C X hA zk8 kw_158 kw_182 kw_6 (by decide) 64 (G.nm (ha 64 (by decide)).1 (by decide)) (G.nf (ha 64 (by decide)).2 (by decide)) rfl (M.1 64 (by decide)) (Nat.le_of_ble_eq_true rfl) (Nat.le_of_ble_eq_true rfl) dX9_init_167 (fun w29 H g C X => ?_)
  refine W.st (st' := [zR w29 64, zI 3, zR w29 16]) (cons2 rfl (cons2 rfl (cons2 (g.ref (k := 16) (G.mem (by decide))) rfl))) ?_
  have hl : lv_has ls 2 [(0, zR w29 1), (1, zI 3)] := Eq.mp (congrArg (fun v => lv_has ls 2 [(0, v), (1, zI 3)]) (g.ref (k := 1) (G.old hk))) hl
  have G : Grw Ω w29 [2, 3, 4, 5, 6, 7, 8, 9, 10, 11, 12, 13, 14, 15, 16, 17, 18, 19, 20, 21, 22, 23, 24, 25, 26, 27, 28, 29, 30, 31, 32, 33, 34, 35, 36, 51, 52, 53, 54, 55, 56, 57, 37, 38, 39, 40, 41, 42, 43, 44, 45, 46, 47, 48, 49, 50, 58, 59, 60, 61, 62, 63, 64] [4, 5, 6, 7, 8, 9, 10, 3, 11, 12, 13, 14, 15, 19, 20, 21, 22, 23, 24, 25, 26, 27, 28, 29, 30, 31, 32, 33, 34, 35, 36, 51, 52, 53, 54, 55, 56, 57, 37, 38, 39, 40, 41, 42, 43, 44, 45, 46, 47, 48, 49, 50, 58, 59, 60, 61, 62, 63] := G.tr g rfl rfl
  refine lv_dup C.1 C.2.1 dX9_init_170 rfl ?_
  refine y_callIN C X hA (k := 64) (As := []) (y := yX8_init) (bytes := cX8_init) (maxL := 1) (d := 0) (nw := [65]) (cm := [64, 65]) (mc := 1) (ms := 16) (μ' := ν29) (by rw [e29]; exact I_X8_64 ν28 _ (G.mem (by decide)) (G.nf (ha 64 (by decide)).2 (by decide)) (G.hn M ha (by decide))) kw_185 kw_6 kw_184 hsd.1.2.2.1 rfl (by decide +kernel) ⟨Nat.le_of_ble_eq_true rfl, Nat.le_of_ble_eq_true rfl⟩ rfl hl.1 rfl (Nat.le_of_ble_eq_true rfl) dX9_init_171 ⟨Nat.le_of_ble_eq_true rfl, Nat.le_of_ble_eq_true rfl⟩ (fun w30 H locs g C X => ?_)
  refine W.st (st' := [zR w30 64, zI 3, zR w30 16]) (cons2 (g.ref (k := 64) (G.mem (by decide))) (cons2 rfl (cons2 (g.ref (k := 16) (G.mem (by decide))) rfl))) ?_
  have hl : lv_has ls 2 [(0, zR w30 1), (1, zI 3)] := Eq.mp (congrArg (fun v => lv_has ls 2 [(0, v), (1, zI 3)]) (g.ref (k := 1) (G.old hk))) hl
  have G : Grw Ω w30 [2, 3, 4, 5, 6, 7, 8, 9, 10, 11, 12, 13, 14, 15, 16, 17, 18, 19, 20, 21, 22, 23, 24, 25, 26, 27, 28, 29, 30, 31, 32, 33, 34, 35, 36, 51, 52, 53, 54, 55, 56, 57, 37, 38, 39, 40, 41, 42, 43, 44, 45, 46, 47, 48, 49, 50, 58, 59, 60, 61, 62, 63, 64, 65] [4, 5, 6, 7, 8, 9, 10, 3, 11, 12, 13, 14, 15, 19, 20, 21, 22, 23, 24, 25, 26, 27, 28, 29, 30, 31, 32, 33, 34, 35, 36, 51, 52, 53, 54, 55, 56, 57, 37, 38, 39, 40, 41, 42, 43, 44, 45, 46, 47, 48, 49, 50, 58, 59, 60, 61, 62, 63, 64, 65] := G.tr g rfl rfl
  have M : Mk ν29 [66, 67, 68, 69, 70, 71, 72, 73, 74, 75, 76, 77, 78, 79, 80, 81, 82, 83, 84, 85] [(0, 2), (1, 3), (2, 16), (3, 17), (4, 18), (5, 19), (6, 21), (7, 23), (8, 27), (9, 33), (10, 51)] := M.con F29 (by decide) (by decide)
  have zo : zob w30.2.2.1 8 64 := (G.ob rfl (fun j j0 j1 => by have j1 : j < 2 := j1; have hj : j = 0 ∨ j = 1 := (by omega); rcases hj with rfl | rfl <;> decide) (by decide))
  refine z_aast6 C X (k := 16) (i := 3) (v := 64) (G.mem (by decide)) rfl ⟨by decide, by decide⟩ zo (by decide) (N := 5) rfl (zok6 rfl zo) e30 dX9_init_174 (fun H locs X => ?_)
  have M : Mk ν30 [66, 67, 68, 69, 70, 71, 72, 73, 74, 75, 76, 77, 78, 79, 80, 81, 82, 83, 84, 85] [(0, 2), (1, 3), (2, 16), (3, 17), (4, 18), (5, 19), (6, 21), (7, 23), (8, 27), (9, 33), (10, 51)] := M.oth e30 (by decide) (by decide)
  refine z_iinc C (x := 3) (y := 4) (by decide) dX9_init_175 hl (k := 1) rfl (by decide) (lv' := [(1, zI 4), (0, zR w30 1)]) rfl (fun ls hl => ?_)
  have hl : lv_has ls 2 [(0, zR w30 1), (1, zI 4)] := lv_sub hl [1, 0] rfl
  refine lv_goto (tgt := 157) C.1 C.2.1 dX9_init_178 (by decide) ?_
  refine lv_iload_n C.1 C.2.1 dX9_init_157 rfl (lv_at hl 1 rfl) ?_
  refine z_iconst C dX9_init_158 ?_
  refine z_icmpge C (x := 4) (y := 4) ⟨by decide, by decide⟩ ⟨by decide, by decide⟩ (tgt := 181) dX9_init_159 (by decide) (fun hc => ?_) (fun hc => absurd hc (by decide))
  refine z_iconst C dX9_init_181 ?_
  refine lv_istore_n C.1 C.2.1 (lv' := [(1, zI 0), (0, zR w30 1)]) dX9_init_182 rfl hl (by decide) rfl (fun ls hl => ?_)
  have hl : lv_has ls 2 [(0, zR w30 1), (1, zI 0)] := lv_sub hl [1, 0] rfl
  refine lv_iload_n C.1 C.2.1 dX9_init_183 rfl (lv_at hl 1 rfl) ?_
  refine z_iconst C dX9_init_184 ?_
  refine z_icmpge C (x := 0) (y := 4) ⟨by decide, by decide⟩ ⟨by decide, by decide⟩ (tgt := 207) dX9_init_185 (by decide) (fun hc => absurd hc (by decide)) (fun hc => ?_)
  refine lv_aload_n C.1 C.2.1 dX9_init_188 rfl (lv_at hl 0 rfl) ?_
  refine z_get C X (k := 1) zk9 (G.old hk) rfl 3 (by decide) kw_392 (zR w30 17) (by show zQ w30 (ν30 1 3) = _; rw [M.2 (3, 17) (by decide)]; exact zQ_pos _ (by decide)) dX9_init_189 ?_
  refine lv_iload_n C.1 C.2.1 dX9_init_192 rfl (lv_at hl 1 rfl) ?_
  refine y_newO C X hA zk3 kw_160 kw_325 kw_10 (by decide) 66 (G.nm (ha 66 (by decide)).1 (by decide)) (G.nf (ha 66 (by decide)).2 (by decide)) rfl (M.1 66 (by decide)) (Nat.le_of_ble_eq_true rfl) (Nat.le_of_ble_eq_true rfl) dX9_init_193 (fun w31 H g C X => ?_)
  refine W.st (st' := [zR w31 66, zI 0, zR w31 17]) (cons2 rfl (cons2 rfl (cons2 (g.ref (k := 17) (G.mem (by decide))) rfl))) ?_
  have hl : lv_has ls 2 [(0, zR w31 1), (1, zI 0)] := Eq.mp (congrArg (fun v => lv_has ls 2 [(0, v), (1, zI 0)]) (g.ref (k := 1) (G.old hk))) hl
  have G : Grw Ω w31 [2, 3, 4, 5, 6, 7, 8, 9, 10, 11, 12, 13, 14, 15, 16, 17, 18, 19, 20, 21, 22, 23, 24, 25, 26, 27, 28, 29, 30, 31, 32, 33, 34, 35, 36, 51, 52, 53, 54, 55, 56, 57, 37, 38, 39, 40, 41, 42, 43, 44, 45, 46, 47, 48, 49, 50, 58, 59, 60, 61, 62, 63, 64, 65, 66] [4, 5, 6, 7, 8, 9, 10, 3, 11, 12, 13, 14, 15, 19, 20, 21, 22, 23, 24, 25, 26, 27, 28, 29, 30, 31, 32, 33, 34, 35, 36, 51, 52, 53, 54, 55, 56, 57, 37, 38, 39, 40, 41, 42, 43, 44, 45, 46, 47, 48, 49, 50, 58, 59, 60, 61, 62, 63, 64, 65] := G.tr g rfl rfl
  refine lv_dup C.1 C.2.1 dX9_init_196 rfl ?_
  refine y_callIN C X hA (k := 66) (As := []) (y := yX3_init) (bytes := cX3_init) (maxL := 1) (d := 0) (nw := [67]) (cm := [66, 67]) (mc := 1) (ms := 20) (μ' := ν31) (by rw [e31]; exact I_X3_66 ν30 _ (G.mem (by decide)) (G.nf (ha 66 (by decide)).2 (by decide)) (G.hn M ha (by decide))) kw_328 kw_10 kw_327 hsd.1.2.2.2.2.2.2 rfl (by decide +kernel) ⟨Nat.le_of_ble_eq_true rfl, Nat.le_of_ble_eq_true rfl⟩ rfl hl.1 rfl (Nat.le_of_ble_eq_true rfl) dX9_init_197 ⟨Nat.le_of_ble_eq_true rfl, Nat.le_of_ble_eq_true rfl⟩ (fun w32 H locs g C X => ?_)
  refine W.st (st' := [zR w32 66, zI 0, zR w32 17]) (cons2 (g.ref (k := 66) (G.mem (by decide))) (cons2 rfl (cons2 (g.ref (k := 17) (G.mem (by decide))) rfl))) ?_
  have hl : lv_has ls 2 [(0, zR w32 1), (1, zI 0)] := Eq.mp (congrArg (fun v => lv_has ls 2 [(0, v), (1, zI 0)]) (g.ref (k := 1) (G.old hk))) hl
  have G : Grw Ω w32 [2, 3, 4, 5, 6, 7, 8, 9, 10, 11, 12, 13, 14, 15, 16, 17, 18, 19, 20, 21, 22, 23, 24, 25, 26, 27, 28, 29, 30, 31, 32, 33, 34, 35, 36, 51, 52, 53, 54, 55, 56, 57, 37, 38, 39, 40, 41, 42, 43, 44, 45, 46, 47, 48, 49, 50, 58, 59, 60, 61, 62, 63, 64, 65, 66, 67] [4, 5, 6, 7, 8, 9, 10, 3, 11, 12, 13, 14, 15, 19, 20, 21, 22, 23, 24, 25, 26, 27, 28, 29, 30, 31, 32, 33, 34, 35, 36, 51, 52, 53, 54, 55, 56, 57, 37, 38, 39, 40, 41, 42, 43, 44, 45, 46, 47, 48, 49, 50, 58, 59, 60, 61, 62, 63, 64, 65, 66, 67] := G.tr g rfl rfl
  have M : Mk ν31 [68, 69, 70, 71, 72, 73, 74, 75, 76, 77, 78, 79, 80, 81, 82, 83, 84, 85] [(0, 2), (1, 3), (2, 16), (3, 17), (4, 18), (5, 19), (6, 21), (7, 23), (8, 27), (9, 33), (10, 51)] := M.con F31 (by decide) (by decide)
  have zo : zob w32.2.2.1 3 66 := (G.ob rfl (fun j j0 j1 => by have j1 : j < 2 := j1; have hj : j = 0 ∨ j = 1 := (by omega); rcases hj with rfl | rfl <;> decide) (by decide))
  refine z_aast7 C X (k := 17) (i := 0) (v := 66) (G.mem (by decide)) rfl ⟨by decide, by decide⟩ zo (by decide) (N := 3) rfl (zok7 rfl zo) e32 dX9_init_200 (fun H locs X => ?_)
  have M : Mk ν32 [68, 69, 70, 71, 72, 73, 74, 75, 76, 77, 78, 79, 80, 81, 82, 83, 84, 85] [(0, 2), (1, 3), (2, 16), (3, 17), (4, 18), (5, 19), (6, 21), (7, 23), (8, 27), (9, 33), (10, 51)] := M.oth e32 (by decide) (by decide)
  refine z_iinc C (x := 0) (y := 1) (by decide) dX9_init_201 hl (k := 1) rfl (by decide) (lv' := [(1, zI 1), (0, zR w32 1)]) rfl (fun ls hl => ?_)
  have hl : lv_has ls 2 [(0, zR w32 1), (1, zI 1)] := lv_sub hl [1, 0] rfl
  refine lv_goto (tgt := 183) C.1 C.2.1 dX9_init_204 (by decide) ?_
  refine lv_iload_n C.1 C.2.1 dX9_init_183 rfl (lv_at hl 1 rfl) ?_
  refine z_iconst C dX9_init_184 ?_
  refine z_icmpge C (x := 1) (y := 4) ⟨by decide, by decide⟩ ⟨by decide, by decide⟩ (tgt := 207) dX9_init_185 (by decide) (fun hc => absurd hc (by decide)) (fun hc => ?_)
  refine lv_aload_n C.1 C.2.1 dX9_init_188 rfl (lv_at hl 0 rfl) ?_
  refine z_get C X (k := 1) zk9 (G.old hk) rfl 3 (by decide) kw_392 (zR w32 17) (by show zQ w32 (ν32 1 3) = _; rw [M.2 (3, 17) (by decide)]; exact zQ_pos _ (by decide)) dX9_init_189 ?_
  refine lv_iload_n C.1 C.2.1 dX9_init_192 rfl (lv_at hl 1 rfl) ?_
  refine y_newO C X hA zk3 kw_160 kw_325 kw_10 (by decide) 68 (G.nm (ha 68 (by decide)).1 (by decide)) (G.nf (ha 68 (by decide)).2 (by decide)) rfl (M.1 68 (by decide)) (Nat.le_of_ble_eq_true rfl) (Nat.le_of_ble_eq_true rfl) dX9_init_193 (fun w33 H g C X => ?_)
  refine W.st (st' := [zR w33 68, zI 1, zR w33 17]) (cons2 rfl (cons2 rfl (cons2 (g.ref (k := 17) (G.mem (by decide))) rfl))) ?_
  have hl : lv_has ls 2 [(0, zR w33 1), (1, zI 1)] := Eq.mp (congrArg (fun v => lv_has ls 2 [(0, v), (1, zI 1)]) (g.ref (k := 1) (G.old hk))) hl
  have G : Grw Ω w33 [2, 3, 4, 5, 6, 7, 8, 9, 10, 11, 12, 13, 14, 15, 16, 17, 18, 19, 20, 21, 22, 23, 24, 25, 26, 27, 28, 29, 30, 31, 32, 33, 34, 35, 36, 51, 52, 53, 54, 55, 56, 57, 37, 38, 39, 40, 41, 42, 43, 44, 45, 46, 47, 48, 49, 50, 58, 59, 60, 61, 62, 63, 64, 65, 66, 67, 68] [4, 5, 6, 7, 8, 9, 10, 3, 11, 12, 13, 14, 15, 19, 20, 21, 22, 23, 24, 25, 26, 27, 28, 29, 30, 31, 32, 33, 34, 35, 36, 51, 52, 53, 54, 55, 56, 57, 37, 38, 39, 40, 41, 42, 43, 44, 45, 46, 47, 48, 49, 50, 58, 59, 60, 61, 62, 63, 64, 65, 66, 67] := G.tr g rfl rfl
  refine lv_dup C.1 C.2.1 dX9_init_196 rfl ?_
  refine y_callIN C X hA (k := 68) (As := []) (y := yX3_init) (bytes := cX3_init) (maxL := 1) (d := 0) (nw := [69]) (cm := [68, 69]) (mc := 1) (ms := 20) (μ' := ν33) (by rw [e33]; exact I_X3_68 ν32 _ (G.mem (by decide)) (G.nf (ha 68 (by decide)).2 (by decide)) (G.hn M ha (by decide))) kw_328 kw_10 kw_327 hsd.1.2.2.2.2.2.2 rfl (by decide +kernel) ⟨Nat.le_of_ble_eq_true rfl, Nat.le_of_ble_eq_true rfl⟩ rfl hl.1 rfl (Nat.le_of_ble_eq_true rfl) dX9_init_197 ⟨Nat.le_of_ble_eq_true rfl, Nat.le_of_ble_eq_true rfl⟩ (fun w34 H locs g C X => ?_)
  refine W.st (st' := [zR w34 68, zI 1, zR w34 17]) (cons2 (g.ref (k := 68) (G.mem (by decide))) (cons2 rfl (cons2 (g.ref (k := 17) (G.mem (by decide))) rfl))) ?_
  have hl : lv_has ls 2 [(0, zR w34 1), (1, zI 1)] := Eq.mp (congrArg (fun v => lv_has ls 2 [(0, v), (1, zI 1)]) (g.ref (k := 1) (G.old hk))) hl
  have G : Grw Ω w34 [2, 3, 4, 5, 6, 7, 8, 9, 10, 11, 12, 13, 14, 15, 16, 17, 18, 19, 20, 21, 22, 23, 24, 25, 26, 27, 28, 29, 30, 31, 32, 33, 34, 35, 36, 51, 52, 53, 54, 55, 56, 57, 37, 38, 39, 40, 41, 42, 43, 44, 45, 46, 47, 48, 49, 50, 58, 59, 60, 61, 62, 63, 64, 65, 66, 67, 68, 69] [4, 5, 6, 7, 8, 9, 10, 3, 11, 12, 13, 14, 15, 19, 20, 21, 22, 23, 24, 25, 26, 27, 28, 29, 30, 31, 32, 33, 34, 35, 36, 51, 52, 53, 54, 55, 56, 57, 37, 38, 39, 40, 41, 42, 43, 44, 45, 46, 47, 48, 49, 50, 58, 59, 60, 61, 62, 63, 64, 65, 66, 67, 68, 69] := G.tr g rfl rfl
  have M : Mk ν33 [70, 71, 72, 73, 74, 75, 76, 77, 78, 79, 80, 81, 82, 83, 84, 85] [(0, 2), (1, 3), (2, 16), (3, 17), (4, 18), (5, 19), (6, 21), (7, 23), (8, 27), (9, 33), (10, 51)] := M.con F33 (by decide) (by decide)
  have zo : zob w34.2.2.1 3 68 := (G.ob rfl (fun j j0 j1 => by have j1 : j < 2 := j1; have hj : j = 0 ∨ j = 1 := (by omega); rcases hj with rfl | rfl <;> decide) (by decide))
  refine z_aast7 C X (k := 17) (i := 1) (v := 68) (G.mem (by decide)) rfl ⟨by decide, by decide⟩ zo (by decide) (N := 3) rfl (zok7 rfl zo) e34 dX9_init_200 (fun H locs X => ?_)
  have M : Mk ν34 [70, 71, 72, 73, 74, 75, 76, 77, 78, 79, 80, 81, 82, 83, 84, 85] [(0, 2), (1, 3), (2, 16), (3, 17), (4, 18), (5, 19), (6, 21), (7, 23), (8, 27), (9, 33), (10, 51)] := M.oth e34 (by decide) (by decide)
  refine z_iinc C (x := 1) (y := 2) (by decide) dX9_init_201 hl (k := 1) rfl (by decide) (lv' := [(1, zI 2), (0, zR w34 1)]) rfl (fun ls hl => ?_)
  have hl : lv_has ls 2 [(0, zR w34 1), (1, zI 2)] := lv_sub hl [1, 0] rfl
  refine lv_goto (tgt := 183) C.1 C.2.1 dX9_init_204 (by decide) ?_
  refine lv_iload_n C.1 C.2.1 dX9_init_183 rfl (lv_at hl 1 rfl) ?_
  refine z_iconst C dX9_init_184 ?_
  refine z_icmpge C (x := 2) (y := 4) ⟨by decide, by decide⟩ ⟨by decide, by decide⟩ (tgt := 207) dX9_init_185 (by decide) (fun hc => absurd hc (by decide)) (fun hc => ?_)
  refine lv_aload_n C.1 C.2.1 dX9_init_188 rfl (lv_at hl 0 rfl) ?_
  refine z_get C X (k := 1) zk9 (G.old hk) rfl 3 (by decide) kw_392 (zR w34 17) (by show zQ w34 (ν34 1 3) = _; rw [M.2 (3, 17) (by decide)]; exact zQ_pos _ (by decide)) dX9_init_189 ?_
  refine lv_iload_n C.1 C.2.1 dX9_init_192 rfl (lv_at hl 1 rfl) ?_
  refine y_newO C X hA zk3 kw_160 kw_325 kw_10 (by decide) 70 (G.nm (ha 70 (by decide)).1 (by decide)) (G.nf (ha 70 (by decide)).2 (by decide)) rfl (M.1 70 (by decide)) (Nat.le_of_ble_eq_true rfl) (Nat.le_of_ble_eq_true rfl) dX9_init_193 (fun w35 H g C X => ?_)
  refine W.st (st' := [zR w35 70, zI 2, zR w35 17]) (cons2 rfl (cons2 rfl (cons2 (g.ref (k := 17) (G.mem (by decide))) rfl))) ?_
  have hl : lv_has ls 2 [(0, zR w35 1), (1, zI 2)] := Eq.mp (congrArg (fun v => lv_has ls 2 [(0, v), (1, zI 2)]) (g.ref (k := 1) (G.old hk))) hl
  have G : Grw Ω w35 [2, 3, 4, 5, 6, 7, 8, 9, 10, 11, 12, 13, 14, 15, 16, 17, 18, 19, 20, 21, 22, 23, 24, 25, 26, 27, 28, 29, 30, 31, 32, 33, 34, 35, 36, 51, 52, 53, 54, 55, 56, 57, 37, 38, 39, 40, 41, 42, 43, 44, 45, 46, 47, 48, 49, 50, 58, 59, 60, 61, 62, 63, 64, 65, 66, 67, 68, 69, 70] [4, 5, 6, 7, 8, 9, 10, 3, 11, 12, 13, 14, 15, 19, 20, 21, 22, 23, 24, 25, 26, 27, 28, 29, 30, 31, 32, 33, 34, 35, 36, 51, 52, 53, 54, 55, 56, 57, 37, 38, 39, 40, 41, 42, 43, 44, 45, 46, 47, 48, 49, 50, 58, 59, 60, 61, 62, 63, 64, 65, 66, 67, 68, 69] := G.tr g rfl rfl
  refine lv_dup C.1 C.2.1 dX9_init_196 rfl ?_
  refine y_callIN C X hA (k := 70) (As := []) (y := yX3_init) (bytes := cX3_init) (maxL := 1) (d := 0) (nw := [71]) (cm := [70, 71]) (mc := 1) (ms := 20) (μ' := ν35) (by rw [e35]; exact I_X3_70 ν34 _ (G.mem (by decide)) (G.nf (ha 70 (by decide)).2 (by decide)) (G.hn M ha (by decide))) kw_328 kw_10 kw_327 hsd.1.2.2.2.2.2.2 rfl (by decide +kernel) ⟨Nat.le_of_ble_eq_true rfl, Nat.le_of_ble_eq_true rfl⟩ rfl hl.1 rfl (Nat.le_of_ble_eq_true rfl) dX9_init_197 ⟨Nat.le_of_ble_eq_true rfl, Nat.le_of_ble_eq_true rfl⟩ (fun w36 H locs g C X => ?_)
  refine W.st (st' := [zR w36 70, zI 2, zR w36 17]) (cons2 (g.ref (k := 70) (G.mem (by decide))) (cons2 rfl (cons2 (g.ref (k := 17) (G.mem (by decide))) rfl))) ?_
  have hl : lv_has ls 2 [(0, zR w36 1), (1, zI 2)] := Eq.mp (congrArg (fun v => lv_has ls 2 [(0, v), (1, zI 2)]) (g.ref (k := 1) (G.old hk))) hl
  have G : Grw Ω w36 [2, 3, 4, 5, 6, 7, 8, 9, 10, 11, 12, 13, 14, 15, 16, 17, 18, 19, 20, 21, 22, 23, 24, 25, 26, 27, 28, 29, 30, 31, 32, 33, 34, 35, 36, 51, 52, 53, 54, 55, 56, 57, 37, 38, 39, 40, 41, 42, 43, 44, 45, 46, 47, 48, 49, 50, 58, 59, 60, 61, 62, 63, 64, 65, 66, 67, 68, 69, 70, 71] [4, 5, 6, 7, 8, 9, 10, 3, 11, 12, 13, 14, 15, 19, 20, 21, 22, 23, 24, 25, 26, 27, 28, 29, 30, 31, 32, 33, 34, 35, 36, 51, 52, 53, 54, 55, 56, 57, 37, 38, 39, 40, 41, 42, 43, 44, 45, 46, 47, 48, 49, 50, 58, 59, 60, 61, 62, 63, 64, 65, 66, 67, 68, 69, 70, 71] := G.tr g rfl rfl
  have M : Mk ν35 [72, 73, 74, 75, 76, 77, 78, 79, 80, 81, 82, 83, 84, 85] [(0, 2), (1, 3), (2, 16), (3, 17), (4, 18), (5, 19), (6, 21), (7, 23), (8, 27), (9, 33), (10, 51)] := M.con F35 (by decide) (by decide)
  have zo : zob w36.2.2.1 3 70 := (G.ob rfl (fun j j0 j1 => by have j1 : j < 2 := j1; have hj : j = 0 ∨ j = 1 := (by omega); rcases hj with rfl | rfl <;> decide) (by decide))
  refine z_aast7 C X (k := 17) (i := 2) (v := 70) (G.mem (by decide)) rfl ⟨by decide, by decide⟩ zo (by decide) (N := 3) rfl (zok7 rfl zo) e36 dX9_init_200 (fun H locs X => ?_)
  have M : Mk ν36 [72, 73, 74, 75, 76, 77, 78, 79, 80, 81, 82, 83, 84, 85] [(0, 2), (1, 3), (2, 16), (3, 17), (4, 18), (5, 19), (6, 21), (7, 23), (8, 27), (9, 33), (10, 51)] := M.oth e36 (by decide) (by decide)
  refine z_iinc C (x := 2) (y := 3) (by decide) dX9_init_201 hl (k := 1) rfl (by decide) (lv' := [(1, zI 3), (0, zR w36 1)]) rfl (fun ls hl => ?_)
  have hl : lv_has ls 2 [(0, zR w36 1), (1, zI 3)] := lv_sub hl [1, 0] rfl
  refine lv_goto (tgt := 183) C.1 C.2.1 dX9_init_204 (by decide) ?_
  refine lv_iload_n C.1 C.2.1 dX9_init_183 rfl (lv_at hl 1 rfl) ?_
  refine z_iconst C dX9_init_184 ?_
  refine z_icmpge C (x := 3) (y := 4) ⟨by decide, by decide⟩ ⟨by decide, by decide⟩ (tgt := 207) dX9_init_185 (by decide) (fun hc => absurd hc (by decide)) (fun hc => ?_)
  refine lv_aload_n C.1 C.2.1 dX9_init_188 rfl (lv_at hl 0 rfl) ?_
  refine z_get C X (k := 1) zk9 (G.old hk) rfl 3 (by decide) kw_392 (zR w36 17) (by show zQ w36 (ν36 1 3) = _; rw [M.2 (3, 17) (by decide)]; exact zQ_pos _ (by decide)) dX9_init_189 ?_
  refine lv_iload_n C.1 C.2.1 dX9_init_192 rfl (lv_at hl 1 rfl) ?_
  refine y_newO C X hA zk3 kw_160 kw_325 kw_10 (by decide) 72 (G.nm (ha 72 (by decide)).1 (by decide)) (G.nf (ha 72 (by decide)).2 (by decide)) rfl (M.1 72 (by decide)) (Nat.le_of_ble_eq_true rfl) (Nat.le_of_ble_eq_true rfl) dX9_init_193 (fun w37 H g C X => ?_)
  refine W.st (st' := [zR w37 72, zI 3, zR w37 17]) (cons2 rfl (cons2 rfl (cons2 (g.ref (k := 17) (G.mem (by decide))) rfl))) ?_
  have hl : lv_has ls 2 [(0, zR w37 1), (1, zI 3)] := Eq.mp (congrArg (fun v => lv_has ls 2 [(0, v), (1, zI 3)]) (g.ref (k := 1) (G.old hk))) hl
  have G : Grw Ω w37 [2, 3, 4, 5, 6, 7, 8, 9, 10, 11, 12, 13, 14, 15, 16, 17, 18, 19, 20, 21, 22, 23, 24, 25, 26, 27, 28, 29, 30, 31, 32, 33, 34, 35, 36, 51, 52, 53, 54, 55, 56, 57, 37, 38, 39, 40, 41, 42, 43, 44, 45, 46, 47, 48, 49, 50, 58, 59, 60, 61, 62, 63, 64, 65, 66, 67, 68, 69, 70, 71, 72] [4, 5, 6, 7, 8, 9, 10, 3, 11, 12, 13, 14, 15, 19, 20, 21, 22, 23, 24, 25, 26, 27, 28, 29, 30, 31, 32, 33, 34, 35, 36, 51, 52, 53, 54, 55, 56, 57, 37, 38, 39, 40, 41, 42, 43, 44, 45, 46, 47, 48, 49, 50, 58, 59, 60, 61, 62, 63, 64, 65, 66, 67, 68, 69, 70, 71] := G.tr g rfl rfl
  refine lv_dup C.1 C.2.1 dX9_init_196 rfl ?_
  refine y_callIN C X hA (k := 72) (As := []) (y := yX3_init) (bytes := cX3_init) (maxL := 1) (d := 0) (nw := [73]) (cm := [72, 73]) (mc := 1) (ms := 20) (μ' := ν37) (by rw [e37]; exact I_X3_72 ν36 _ (G.mem (by decide)) (G.nf (ha 72 (by decide)).2 (by decide)) (G.hn M ha (by decide))) kw_328 kw_10 kw_327 hsd.1.2.2.2.2.2.2 rfl (by decide +kernel) ⟨Nat.le_of_ble_eq_true rfl, Nat.le_of_ble_eq_true rfl⟩ rfl hl.1 rfl (Nat.le_of_ble_eq_true rfl) dX9_init_197 ⟨Nat.le_of_ble_eq_true rfl, Nat.le_of_ble_eq_true rfl⟩ (fun w38 H locs g C X => ?_)
  refine W.st (st' := [zR w38 72, zI 3, zR w38 17]) (cons2 (g.ref (k := 72) (G.mem (by decide))) (cons2 rfl (cons2 (g.ref (k := 17) (G.mem (by decide))) rfl))) ?_
  have hl : lv_has ls 2 [(0, zR w38 1), (1, zI 3)] := Eq.mp (congrArg (fun v => lv_has ls 2 [(0, v), (1, zI 3)]) (g.ref (k := 1) (G.old hk))) hl
  have G : Grw Ω w38 [2, 3, 4, 5, 6, 7, 8, 9, 10, 11, 12, 13, 14, 15, 16, 17, 18, 19, 20, 21, 22, 23, 24, 25, 26, 27, 28, 29, 30, 31, 32, 33, 34, 35, 36, 51, 52, 53, 54, 55, 56, 57, 37, 38, 39, 40, 41, 42, 43, 44, 45, 46, 47, 48, 49, 50, 58, 59, 60, 61, 62, 63, 64, 65, 66, 67, 68, 69, 70, 71, 72, 73] [4, 5, 6, 7, 8, 9, 10, 3, 11, 12, 13, 14, 15, 19, 20, 21, 22, 23, 24, 25, 26, 27, 28, 29, 30, 31, 32, 33, 34, 35, 36, 51, 52, 53, 54, 55, 56, 57, 37, 38, 39, 40, 41, 42, 43, 44, 45, 46, 47, 48, 49, 50, 58, 59, 60, 61, 62, 63, 64, 65, 66, 67, 68, 69, 70, 71, 72, 73] := G.tr g rfl rfl
  have M : Mk ν37 [74, 75, 76, 77, 78, 79, 80, 81, 82, 83, 84, 85] [(0, 2), (1, 3), (2, 16), (3, 17), (4, 18), (5, 19), (6, 21), (7, 23), (8, 27), (9, 33), (10, 51)] := M.con F37 (by decide) (by decide)
  have zo : zob w38.2.2.1 3 72 := (G.ob rfl (fun j j0 j1 => by have j1 : j < 2 := j1; have hj : j = 0 ∨ j = 1 := (by omega); rcases hj with rfl | rfl <;> decide) (by decide))
  refine z_aast7 C X (k := 17) (i := 3) (v := 72) (G.mem (by decide)) rfl ⟨by decide, by decide⟩ zo (by decide) (N := 3) rfl (zok7 rfl zo) e38 dX9_init_200 (fun H locs X => ?_)
  have M : Mk ν38 [74, 75, 76, 77, 78, 79, 80, 81, 82, 83, 84, 85] [(0, 2), (1, 3), (2, 16), (3, 17), (4, 18), (5, 19), (6, 21), (7, 23), (8, 27), (9, 33), (10, 51)] := M.oth e38 (by decide) (by decide)
  refine z_iinc C (x := 3) (y := 4) (by decide) dX9_init_201 hl (k := 1) rfl (by decide) (lv' := [(1, zI 4), (0, zR w38 1)]) rfl (fun ls hl => ?_)
  have hl : lv_has ls 2 [(0, zR w38 1), (1, zI 4)] := lv_sub hl [1, 0] rfl
  refine lv_goto (tgt := 183) C.1 C.2.1 dX9_init_204 (by decide) ?_
  refine lv_iload_n C.1 C.2.1 dX9_init_183 rfl (lv_at hl 1 rfl) ?_
  refine z_iconst C dX9_init_184 ?_
  refine z_icmpge C (x := 4) (y := 4) ⟨by decide, by decide⟩ ⟨by decide, by decide⟩ (tgt := 207) dX9_init_185 (by decide) (fun hc => ?_) (fun hc => absurd hc (by decide))
  refine z_iconst C dX9_init_207 ?_
  refine lv_istore_n C.1 C.2.1 (lv' := [(1, zI 2), (0, zR w38 1)]) dX9_init_208 rfl hl (by decide) rfl (fun ls hl => ?_)
  have hl : lv_has ls 2 [(0, zR w38 1), (1, zI 2)] := lv_sub hl [1, 0] rfl
  refine lv_iload_n C.1 C.2.1 dX9_init_209 rfl (lv_at hl 1 rfl) ?_
  refine z_iconst C dX9_init_210 ?_
  refine z_icmpgt C (x := 2) (y := 4) ⟨by decide, by decide⟩ ⟨by decide, by decide⟩ (tgt := 234) dX9_init_211 (by decide) (fun hc => absurd hc (by decide)) (fun hc => ?_)
  refine lv_aload_n C.1 C.2.1 dX9_init_214 rfl (lv_at hl 0 rfl) ?_
  refine z_get C X (k := 1) zk9 (G.old hk) rfl 4 (by decide) kw_393 (zR w38 18) (by show zQ w38 (ν38 1 4) = _; rw [M.2 (4, 18) (by decide)]; exact zQ_pos _ (by decide)) dX9_init_215 ?_
  refine lv_iload_n C.1 C.2.1 dX9_init_218 rfl (lv_at hl 1 rfl) ?_
  refine y_newO C X hA zk4 kw_162 kw_343 kw_11 (by decide) 74 (G.nm (ha 74 (by decide)).1 (by decide)) (G.nf (ha 74 (by decide)).2 (by decide)) rfl (M.1 74 (by decide)) (Nat.le_of_ble_eq_true rfl) (Nat.le_of_ble_eq_true rfl) dX9_init_219 (fun w39 H g C X => ?_)
  refine W.st (st' := [zR w39 74, zI 2, zR w39 18]) (cons2 rfl (cons2 rfl (cons2 (g.ref (k := 18) (G.mem (by decide))) rfl))) ?_
  have hl : lv_has ls 2 [(0, zR w39 1), (1, zI 2)] := Eq.mp (congrArg (fun v => lv_has ls 2 [(0, v), (1, zI 2)]) (g.ref (k := 1) (G.old hk))) hl
  have G : Grw Ω w39 [2, 3, 4, 5, 6, 7, 8, 9, 10, 11, 12, 13, 14, 15, 16, 17, 18, 19, 20, 21, 22, 23, 24, 25, 26, 27, 28, 29, 30, 31, 32, 33, 34, 35, 36, 51, 52, 53, 54, 55, 56, 57, 37, 38, 39, 40, 41, 42, 43, 44, 45, 46, 47, 48, 49, 50, 58, 59, 60, 61, 62, 63, 64, 65, 66, 67, 68, 69, 70, 71, 72, 73, 74] [4, 5, 6, 7, 8, 9, 10, 3, 11, 12, 13, 14, 15, 19, 20, 21, 22, 23, 24, 25, 26, 27, 28, 29, 30, 31, 32, 33, 34, 35, 36, 51, 52, 53, 54, 55, 56, 57, 37, 38, 39, 40, 41, 42, 43, 44, 45, 46, 47, 48, 49, 50, 58, 59, 60, 61, 62, 63, 64, 65, 66, 67, 68, 69, 70, 71, 72, 73] := G.tr g rfl rfl
  refine lv_dup C.1 C.2.1 dX9_init_222 rfl ?_
  refine lv_iload_n C.1 C.2.1 dX9_init_223 rfl (lv_at hl 1 rfl) ?_
  refine y_callI C X hA (k := 74) (As := [zI 2]) (y := yX4_init) (bytes := cX4_init) (maxL := 5) (d := 3) (nw := [75, 76, 77]) (cm := [74, 75, 76, 77]) (mc := 3) (ms := 10) (μ' := ν39) (by exact I_X4_74 ν38 _ (G.mem (by decide)) (G.nf (ha 74 (by decide)).2 (by decide)) (G.hn M ha (by decide)) h39) kw_346 kw_11 kw_345 kw_344 rfl (by decide +kernel) ⟨Nat.le_of_ble_eq_true rfl, Nat.le_of_ble_eq_true rfl⟩ rfl hl.1 rfl (Nat.le_of_ble_eq_true rfl) dX9_init_224 ⟨Nat.le_of_ble_eq_true rfl, Nat.le_of_ble_eq_true rfl⟩ (fun w40 H locs g C X => ?_)
  refine W.st (st' := [zR w40 74, zI 2, zR w40 18]) (cons2 (g.ref (k := 74) (G.mem (by decide))) (cons2 rfl (cons2 (g.ref (k := 18) (G.mem (by decide))) rfl))) ?_
  have hl : lv_has ls 2 [(0, zR w40 1), (1, zI 2)] := Eq.mp (congrArg (fun v => lv_has ls 2 [(0, v), (1, zI 2)]) (g.ref (k := 1) (G.old hk))) hl
  have G : Grw Ω w40 [2, 3, 4, 5, 6, 7, 8, 9, 10, 11, 12, 13, 14, 15, 16, 17, 18, 19, 20, 21, 22, 23, 24, 25, 26, 27, 28, 29, 30, 31, 32, 33, 34, 35, 36, 51, 52, 53, 54, 55, 56, 57, 37, 38, 39, 40, 41, 42, 43, 44, 45, 46, 47, 48, 49, 50, 58, 59, 60, 61, 62, 63, 64, 65, 66, 67, 68, 69, 70, 71, 72, 73, 74, 75, 76, 77] [4, 5, 6, 7, 8, 9, 10, 3, 11, 12, 13, 14, 15, 19, 20, 21, 22, 23, 24, 25, 26, 27, 28, 29, 30, 31, 32, 33, 34, 35, 36, 51, 52, 53, 54, 55, 56, 57, 37, 38, 39, 40, 41, 42, 43, 44, 45, 46, 47, 48, 49, 50, 58, 59, 60, 61, 62, 63, 64, 65, 66, 67, 68, 69, 70, 71, 72, 73, 74, 75, 76, 77] := G.tr g rfl rfl
  have M : Mk ν39 [78, 79, 80, 81, 82, 83, 84, 85] [(0, 2), (1, 3), (2, 16), (3, 17), (4, 18), (5, 19), (6, 21), (7, 23), (8, 27), (9, 33), (10, 51)] := M.con F39 (by decide) (by decide)
  have zo : zob w40.2.2.1 4 74 := (G.ob rfl (fun j j0 j1 => by have j1 : j < 4 := j1; have hj : j = 0 ∨ j = 1 ∨ j = 2 ∨ j = 3 := (by omega); rcases hj with rfl | rfl | rfl | rfl <;> decide) (by decide))
  refine z_aast8 C X (k := 18) (i := 2) (v := 74) (G.mem (by decide)) rfl ⟨by decide, by decide⟩ zo (by decide) (N := 5) rfl (zok8 rfl zo) e40 dX9_init_227 (fun H locs X => ?_)
  have M : Mk ν40 [78, 79, 80, 81, 82, 83, 84, 85] [(0, 2), (1, 3), (2, 16), (3, 17), (4, 18), (5, 19), (6, 21), (7, 23), (8, 27), (9, 33), (10, 51)] := M.oth e40 (by decide) (by decide)
  refine z_iinc C (x := 2) (y := 3) (by decide) dX9_init_228 hl (k := 1) rfl (by decide) (lv' := [(1, zI 3), (0, zR w40 1)]) rfl (fun ls hl => ?_)
  have hl : lv_has ls 2 [(0, zR w40 1), (1, zI 3)] := lv_sub hl [1, 0] rfl
  refine lv_goto (tgt := 209) C.1 C.2.1 dX9_init_231 (by decide) ?_
  refine lv_iload_n C.1 C.2.1 dX9_init_209 rfl (lv_at hl 1 rfl) ?_
  refine z_iconst C dX9_init_210 ?_
  refine z_icmpgt C (x := 3) (y := 4) ⟨by decide, by decide⟩ ⟨by decide, by decide⟩ (tgt := 234) dX9_init_211 (by decide) (fun hc => absurd hc (by decide)) (fun hc => ?_)
  refine lv_aload_n C.1 C.2.1 dX9_init_214 rfl (lv_at hl 0 rfl) ?_
  refine z_get C X (k := 1) zk9 (G.old hk) rfl 4 (by decide) kw_393 (zR w40 18) (by show zQ w40 (ν40 1 4) = _; rw [M.2 (4, 18) (by decide)]; exact zQ_pos _ (by decide)) dX9_init_215 ?_
  refine lv_iload_n C.1 C.2.1 dX9_init_218 rfl (lv_at hl 1 rfl) ?_
  refine y_newO C X hA zk4 kw_162 kw_343 kw_11 (by decide) 78 (G.nm (ha 78 (by decide)).1 (by decide)) (G.nf (ha 78 (by decide)).2 (by decide)) rfl (M.1 78 (by decide)) (Nat.le_of_ble_eq_true rfl) (Nat.le_of_ble_eq_true rfl) dX9_init_219 (fun w41 H g C X => ?_)
  refine W.st (st' := [zR w41 78, zI 3, zR w41 18]) (cons2 rfl (cons2 rfl (cons2 (g.ref (k := 18) (G.mem (by decide))) rfl))) ?_
  have hl : lv_has ls 2 [(0, zR w41 1), (1, zI 3)] := Eq.mp (congrArg (fun v => lv_has ls 2 [(0, v), (1, zI 3)]) (g.ref (k := 1) (G.old hk))) hl
  have G : Grw Ω w41 [2, 3, 4, 5, 6, 7, 8, 9, 10, 11, 12, 13, 14, 15, 16, 17, 18, 19, 20, 21, 22, 23, 24, 25, 26, 27, 28, 29, 30, 31, 32, 33, 34, 35, 36, 51, 52, 53, 54, 55, 56, 57, 37, 38, 39, 40, 41, 42, 43, 44, 45, 46, 47, 48, 49, 50, 58, 59, 60, 61, 62, 63, 64, 65, 66, 67, 68, 69, 70, 71, 72, 73, 74, 75, 76, 77, 78] [4, 5, 6, 7, 8, 9, 10, 3, 11, 12, 13, 14, 15, 19, 20, 21, 22, 23, 24, 25, 26, 27, 28, 29, 30, 31, 32, 33, 34, 35, 36, 51, 52, 53, 54, 55, 56, 57, 37, 38, 39, 40, 41, 42, 43, 44, 45, 46, 47, 48, 49, 50, 58, 59, 60, 61, 62, 63, 64, 65, 66, 67, 68, 69, 70, 71, 72, 73, 74, 75, 76, 77] := G.tr g rfl rfl
  refine lv_dup C.1 C.2.1 dX9_init_222 rfl ?_
  refine lv_iload_n C.1 C.2.1 dX9_init_223 rfl (lv_at hl 1 rfl) ?_
  refine y_callI C X hA (k := 78) (As := [zI 3]) (y := yX4_init) (bytes := cX4_init) (maxL := 5) (d := 3) (nw := [79, 80, 81]) (cm := [78, 79, 80, 81]) (mc := 3) (ms := 60) (μ' := ν41) (by exact I_X4_78 ν40 _ (G.mem (by decide)) (G.nf (ha 78 (by decide)).2 (by decide)) (G.hn M ha (by decide)) h41) kw_346 kw_11 kw_345 kw_344 rfl (by decide +kernel) ⟨Nat.le_of_ble_eq_true rfl, Nat.le_of_ble_eq_true rfl⟩ rfl hl.1 rfl (Nat.le_of_ble_eq_true rfl) dX9_init_224 ⟨Nat.le_of_ble_eq_true rfl, Nat.le_of_ble_eq_true rfl⟩ (fun w42 H locs g C X => ?_)
  refine W.st (st' := [zR w42 78, zI 3, zR w42 18]) (cons2 (g.ref (k := 78) (G.mem (by decide))) (cons2 rfl (cons2 (g.ref (k := 18) (G.mem (by decide))) rfl))) ?_
  have hl : lv_has ls 2 [(0, zR w42 1), (1, zI 3)] := Eq.mp (congrArg (fun v => lv_has ls 2 [(0, v), (1, zI 3)]) (g.ref (k := 1) (G.old hk))) hl
  have G : Grw Ω w42 [2, 3, 4, 5, 6, 7, 8, 9, 10, 11, 12, 13, 14, 15, 16, 17, 18, 19, 20, 21, 22, 23, 24, 25, 26, 27, 28, 29, 30, 31, 32, 33, 34, 35, 36, 51, 52, 53, 54, 55, 56, 57, 37, 38, 39, 40, 41, 42, 43, 44, 45, 46, 47, 48, 49, 50, 58, 59, 60, 61, 62, 63, 64, 65, 66, 67, 68, 69, 70, 71, 72, 73, 74, 75, 76, 77, 78, 79, 80, 81] [4, 5, 6, 7, 8, 9, 10, 3, 11, 12, 13, 14, 15, 19, 20, 21, 22, 23, 24, 25, 26, 27, 28, 29, 30, 31, 32, 33, 34, 35, 36, 51, 52, 53, 54, 55, 56, 57, 37, 38, 39, 40, 41, 42, 43, 44, 45, 46, 47, 48, 49, 50, 58, 59, 60, 61, 62, 63, 64, 65, 66, 67, 68, 69, 70, 71, 72, 73, 74, 75, 76, 77, 78, 79, 80, 81] := G.tr g rfl rfl
  have M : Mk ν41 [82, 83, 84, 85] [(0, 2), (1, 3), (2, 16), (3, 17), (4, 18), (5, 19), (6, 21), (7, 23), (8, 27), (9, 33), (10, 51)] := M.con F41 (by decide) (by decide)
  have zo : zob w42.2.2.1 4 78 := (G.ob rfl (fun j j0 j1 => by have j1 : j < 4 := j1; have hj : j = 0 ∨ j = 1 ∨ j = 2 ∨ j = 3 := (by omega); rcases hj with rfl | rfl | rfl | rfl <;> decide) (by decide))
  refine z_aast8 C X (k := 18) (i := 3) (v := 78) (G.mem (by decide)) rfl ⟨by decide, by decide⟩ zo (by decide) (N := 5) rfl (zok8 rfl zo) e42 dX9_init_227 (fun H locs X => ?_)
  have M : Mk ν42 [82, 83, 84, 85] [(0, 2), (1, 3), (2, 16), (3, 17), (4, 18), (5, 19), (6, 21), (7, 23), (8, 27), (9, 33), (10, 51)] := M.oth e42 (by decide) (by decide)
  refine z_iinc C (x := 3) (y := 4) (by decide) dX9_init_228 hl (k := 1) rfl (by decide) (lv' := [(1, zI 4), (0, zR w42 1)]) rfl (fun ls hl => ?_)
  have hl : lv_has ls 2 [(0, zR w42 1), (1, zI 4)] := lv_sub hl [1, 0] rfl
  refine lv_goto (tgt := 209) C.1 C.2.1 dX9_init_231 (by decide) ?_
  refine lv_iload_n C.1 C.2.1 dX9_init_209 rfl (lv_at hl 1 rfl) ?_
  refine z_iconst C dX9_init_210 ?_
  refine z_icmpgt C (x := 4) (y := 4) ⟨by decide, by decide⟩ ⟨by decide, by decide⟩ (tgt := 234) dX9_init_211 (by decide) (fun hc => absurd hc (by decide)) (fun hc => ?_)
  refine lv_aload_n C.1 C.2.1 dX9_init_214 rfl (lv_at hl 0 rfl) ?_
  refine z_get C X (k := 1) zk9 (G.old hk) rfl 4 (by decide) kw_393 (zR w42 18) (by show zQ w42 (ν42 1 4) = _; rw [M.2 (4, 18) (by decide)]; exact zQ_pos _ (by decide)) dX9_init_215 ?_
  refine lv_iload_n C.1 C.2.1 dX9_init_218 rfl (lv_at hl 1 rfl) ?_
  refine y_newO C X hA zk4 kw_162 kw_343 kw_11 (by decide) 82 (G.nm (ha 82 (by decide)).1 (by decide)) (G.nf (ha 82 (by decide)).2 (by decide)) rfl (M.1 82 (by decide)) (Nat.le_of_ble_eq_true rfl) (Nat.le_of_ble_eq_true rfl) dX9_init_219 (fun w43 H g C X => ?_)
  refine W.st (st' := [zR w43 82, zI 4, zR w43 18]) (cons2 rfl (cons2 rfl (cons2 (g.ref (k := 18) (G.mem (by decide))) rfl))) ?_
  have hl : lv_has ls 2 [(0, zR w43 1), (1, zI 4)] := Eq.mp (congrArg (fun v => lv_has ls 2 [(0, v), (1, zI 4)]) (g.ref (k := 1) (G.old hk))) hl
  have G : Grw Ω w43 [2, 3, 4, 5, 6, 7, 8, 9, 10, 11, 12, 13, 14, 15, 16, 17, 18, 19, 20, 21, 22, 23, 24, 25, 26, 27, 28, 29, 30, 31, 32, 33, 34, 35, 36, 51, 52, 53, 54, 55, 56, 57, 37, 38, 39, 40, 41, 42, 43, 44, 45, 46, 47, 48, 49, 50, 58, 59, 60, 61, 62, 63, 64, 65, 66, 67, 68, 69, 70, 71, 72, 73, 74, 75, 76, 77, 78, 79, 80, 81, 82] [4, 5, 6, 7, 8, 9, 10, 3, 11, 12, 13, 14, 15, 19, 20, 21, 22, 23, 24, 25, 26, 27, 28, 29, 30, 31, 32, 33, 34, 35, 36, 51, 52, 53, 54, 55, 56, 57, 37, 38, 39, 40, 41, 42, 43, 44, 45, 46, 47, 48, 49, 50, 58, 59, 60, 61, 62, 63, 64, 65, 66, 67, 68, 69, 70, 71, 72, 73, 74, 75, 76, 77, 78, 79, 80, 81] := G.tr g rfl rfl
  refine lv_dup C.1 C.2.1 dX9_init_222 rfl ?_
  refine lv_iload_n C.1 C.2.1 dX9_init_223 rfl (lv_at hl 1 rfl) ?_
  refine y_callI C X hA (k := 82) (As := [zI 4]) (y := yX4_init) (bytes := cX4_init) (maxL := 5) (d := 3) (nw := [83, 84, 85]) (cm := [82, 83, 84, 85]) (mc := 3) (ms := 696) (μ' := ν43) (by exact I_X4_82 ν42 _ (G.mem (by decide)) (G.nf (ha 82 (by decide)).2 (by decide)) (G.hn M ha (by decide)) h43) kw_346 kw_11 kw_345 kw_344 rfl (by decide +kernel) ⟨Nat.le_of_ble_eq_true rfl, Nat.le_of_ble_eq_true rfl⟩ rfl hl.1 rfl (Nat.le_of_ble_eq_true rfl) dX9_init_224 ⟨Nat.le_of_ble_eq_true rfl, Nat.le_of_ble_eq_true rfl⟩ (fun w44 H locs g C X => ?_)
  refine W.st (st' := [zR w44 82, zI 4, zR w44 18]) (cons2 (g.ref (k := 82) (G.mem (by decide))) (cons2 rfl (cons2 (g.ref (k := 18) (G.mem (by decide))) rfl))) ?_
  have hl : lv_has ls 2 [(0, zR w44 1), (1, zI 4)] := Eq.mp (congrArg (fun v => lv_has ls 2 [(0, v), (1, zI 4)]) (g.ref (k := 1) (G.old hk))) hl
  have G : Grw Ω w44 [2, 3, 4, 5, 6, 7, 8, 9, 10, 11, 12, 13, 14, 15, 16, 17, 18, 19, 20, 21, 22, 23, 24, 25, 26, 27, 28, 29, 30, 31, 32, 33, 34, 35, 36, 51, 52, 53, 54, 55, 56, 57, 37, 38, 39, 40, 41, 42, 43, 44, 45, 46, 47, 48, 49, 50, 58, 59, 60, 61, 62, 63, 64, 65, 66, 67, 68, 69, 70, 71, 72, 73, 74, 75, 76, 77, 78, 79, 80, 81, 82, 83, 84, 85] [4, 5, 6, 7, 8, 9, 10, 3, 11, 12, 13, 14, 15, 19, 20, 21, 22, 23, 24, 25, 26, 27, 28, 29, 30, 31, 32, 33, 34, 35, 36, 51, 52, 53, 54, 55, 56, 57, 37, 38, 39, 40, 41, 42, 43, 44, 45, 46, 47, 48, 49, 50, 58, 59, 60, 61, 62, 63, 64, 65, 66, 67, 68, 69, 70, 71, 72, 73, 74, 75, 76, 77, 78, 79, 80, 81, 82, 83, 84, 85] := G.tr g rfl rfl
  have M : Mk ν43 [] [(0, 2), (1, 3), (2, 16), (3, 17), (4, 18), (5, 19), (6, 21), (7, 23), (8, 27), (9, 33), (10, 51)] := M.con F43 (by decide) (by decide)
  have zo : zob w44.2.2.1 4 82 := (G.ob rfl (fun j j0 j1 => by have j1 : j < 4 := j1; have hj : j = 0 ∨ j = 1 ∨ j = 2 ∨ j = 3 := (by omega); rcases hj with rfl | rfl | rfl | rfl <;> decide) (by decide))
  refine z_aast8 C X (k := 18) (i := 4) (v := 82) (G.mem (by decide)) rfl ⟨by decide, by decide⟩ zo (by decide) (N := 5) rfl (zok8 rfl zo) e44 dX9_init_227 (fun H locs X => ?_)
  have M : Mk ν44 [] [(0, 2), (1, 3), (2, 16), (3, 17), (4, 18), (5, 19), (6, 21), (7, 23), (8, 27), (9, 33), (10, 51)] := M.oth e44 (by decide) (by decide)
  refine z_iinc C (x := 4) (y := 5) (by decide) dX9_init_228 hl (k := 1) rfl (by decide) (lv' := [(1, zI 5), (0, zR w44 1)]) rfl (fun ls hl => ?_)
  have hl : lv_has ls 2 [(0, zR w44 1), (1, zI 5)] := lv_sub hl [1, 0] rfl
  refine lv_goto (tgt := 209) C.1 C.2.1 dX9_init_231 (by decide) ?_
  refine lv_iload_n C.1 C.2.1 dX9_init_209 rfl (lv_at hl 1 rfl) ?_
  refine z_iconst C dX9_init_210 ?_
  refine z_icmpgt C (x := 5) (y := 4) ⟨by decide, by decide⟩ ⟨by decide, by decide⟩ (tgt := 234) dX9_init_211 (by decide) (fun hc => ?_) (fun hc => absurd hc (by decide))
  obtain ⟨wf, g, C, X⟩ := y_fin (cm := [1, 2, 16, 17, 18]) C X (fun k hkm i i0 h9 hq => by
    simp only [List.mem_cons, List.not_mem_nil, or_false] at hkm
    rcases hkm with rfl | rfl | rfl | rfl | rfl
    · obtain ⟨n, rfl⟩ := Int.eq_ofNat_of_zero_le i0
      match n, hq with
      | 0, _ => exact M.2 (0, 2) (by decide)
      | 1, _ => exact M.2 (1, 3) (by decide)
      | 2, _ => exact M.2 (2, 16) (by decide)
      | 3, _ => exact M.2 (3, 17) (by decide)
      | 4, _ => exact M.2 (4, 18) (by decide)
      | 5, _ => exact M.2 (5, 19) (by decide)
      | 6, _ => exact M.2 (6, 21) (by decide)
      | 7, _ => exact M.2 (7, 23) (by decide)
      | 8, _ => exact M.2 (8, 27) (by decide)
      | 9, _ => exact M.2 (9, 33) (by decide)
      | 10, hq => exact absurd hq (by decide)
      | n + 11, hq => exact absurd (show (0 : Nat) = 3 from hq) (by decide)
    · exact absurd h9 (by decide)
    · exact absurd h9 (by decide)
    · exact absurd h9 (by decide)
    · exact absurd h9 (by decide))
  have G : Grw Ω wf [2, 3, 4, 5, 6, 7, 8, 9, 10, 11, 12, 13, 14, 15, 16, 17, 18, 19, 20, 21, 22, 23, 24, 25, 26, 27, 28, 29, 30, 31, 32, 33, 34, 35, 36, 51, 52, 53, 54, 55, 56, 57, 37, 38, 39, 40, 41, 42, 43, 44, 45, 46, 47, 48, 49, 50, 58, 59, 60, 61, 62, 63, 64, 65, 66, 67, 68, 69, 70, 71, 72, 73, 74, 75, 76, 77, 78, 79, 80, 81, 82, 83, 84, 85] [4, 5, 6, 7, 8, 9, 10, 3, 11, 12, 13, 14, 15, 19, 20, 21, 22, 23, 24, 25, 26, 27, 28, 29, 30, 31, 32, 33, 34, 35, 36, 51, 52, 53, 54, 55, 56, 57, 37, 38, 39, 40, 41, 42, 43, 44, 45, 46, 47, 48, 49, 50, 58, 59, 60, 61, 62, 63, 64, 65, 66, 67, 68, 69, 70, 71, 72, 73, 74, 75, 76, 77, 78, 79, 80, 81, 82, 83, 84, 85, 1, 2, 16, 17, 18] := G.tr g rfl rfl
  exact rt (ad := wf.2.2.2) G.2.2.2 (zX_eq G.eq X) (Nat.le_of_ble_eq_true rfl) (Nat.le_of_ble_eq_true rfl) dX9_init_234
