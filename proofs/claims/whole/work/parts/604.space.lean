/-! the constructor of a space, at each place -/
theorem I_X5_4 {l : Launch} {Ω : zO} (μ : zMem) (sz : Nat) (hk : (4 : Int) ∈ Ω.2.2.1.1) (hkf : (4 : Int) ∉ Ω.2.2.1.2) (hn : ∀ j ∈ ([5, 6, 7, 8, 9, 10] : List Int), j ∉ Ω.2.2.1.1 ∧ j ∉ Ω.2.2.1.2 ∧ ∀ i, μ j i = 0) {μ_1 : zMem} (h1 : f_X5_clear 4 1 (zup (zup (zup (zup (zup (zup μ 4 0 5) 4 1 6) 4 2 7) 4 3 8) 4 4 9) 4 5 10) = some μ_1) {μ_2 : zMem} (h2 : f_X5_findPart 4 μ_1 = some μ_2) : XCon l yX5_init cX5_init 4 2 Ω [zR Ω 4, zI 32, zI 48, zI 32] μ [5, 6, 7, 8, 9, 10] [4, 5, 6, 7, 8, 9, 10] μ_2 sz 6 464 := by
  refine XCon.of (by decide) rfl (Nat.le_of_ble_eq_true rfl) ?_
  intro p e s m args below meth c ls A Q C hin hA X hl rt
  have C : zC p s m args c cX5_init RX5 4 Ω := C
  have hl : lv_has ls 4 [(0, zR Ω 4), (1, zI 32), (2, zI 48), (3, zI 32)] := hl
  refine lv_aload_n C.1 C.2.1 dX5_init_0 rfl (lv_at hl 0 rfl) ?_
  refine z_objI C kw_36 hl.1 dX5_init_1 ⟨Nat.le_of_ble_eq_true rfl, Nat.le_of_ble_eq_true rfl⟩ (Nat.le_of_ble_eq_true rfl) ?_
  refine lv_aload_n C.1 C.2.1 dX5_init_4 rfl (lv_at hl 0 rfl) ?_
  refine lv_iload_n C.1 C.2.1 dX5_init_5 rfl (lv_at hl 2 rfl) ?_
  refine z_newI C X hA (atype := .int) 1 (Or.inl rfl) rfl rfl kw_123 rfl 5 (hn 5 (by decide)).1 (hn 5 (by decide)).2.1 rfl (hn 5 (by decide)).2.2 (by decide) (by decide) (Nat.le_of_ble_eq_true rfl) (Nat.le_of_ble_eq_true rfl) dX5_init_6 (fun q5 H X => ?_)
  have C : zC p s m args c cX5_init RX5 4 (zadd Ω 5 q5) := C
  refine z_putFR C X (v := 5) (k := 4) (Ω := (zadd Ω 5 q5)) zk5 (List.mem_append_left _ hk) rfl 0 (by decide) kw_56 rfl hin rfl rfl (fun _ => rfl) (fun _ => rfl) rfl (by decide) (List.mem_append_right _ (List.mem_singleton_self _)) hkf (i := 0) (μ1 := zup μ 4 0 5) rfl dX5_init_8 (fun H locs X => ?_)
  refine lv_aload_n C.1 C.2.1 dX5_init_11 rfl (lv_at hl 0 rfl) ?_
  refine lv_iload_n C.1 C.2.1 dX5_init_12 rfl (lv_at hl 2 rfl) ?_
  refine z_newI C X hA (atype := .int) 1 (Or.inl rfl) rfl rfl kw_123 rfl 6 (nm_app (hn 6 (by decide)).1 (by decide)) (hn 6 (by decide)).2.1 rfl (zz_up (by decide) (hn 6 (by decide)).2.2) (by decide) (by decide) (Nat.le_of_ble_eq_true rfl) (Nat.le_of_ble_eq_true rfl) dX5_init_13 (fun q6 H X => ?_)
  have C : zC p s m args c cX5_init RX5 4 (zadd (zadd Ω 5 q5) 6 q6) := C
  refine z_putFR C X (v := 6) (k := 4) (Ω := (zadd (zadd Ω 5 q5) 6 q6)) zk5 (List.mem_append_left _ (List.mem_append_left _ hk)) rfl 1 (by decide) kw_60 rfl hin rfl rfl (fun _ => rfl) (fun _ => rfl) rfl (by decide) (List.mem_append_right _ (List.mem_singleton_self _)) hkf (i := 1) (μ1 := zup (zup μ 4 0 5) 4 1 6) rfl dX5_init_15 (fun H locs X => ?_)
  refine lv_aload_n C.1 C.2.1 dX5_init_18 rfl (lv_at hl 0 rfl) ?_
  refine lv_iload_n C.1 C.2.1 dX5_init_19 rfl (lv_at hl 2 rfl) ?_
  refine z_newI C X hA (atype := .int) 1 (Or.inl rfl) rfl rfl kw_123 rfl 7 (nm_app (nm_app (hn 7 (by decide)).1 (by decide)) (by decide)) (hn 7 (by decide)).2.1 rfl (zz_up (by decide) (zz_up (by decide) (hn 7 (by decide)).2.2)) (by decide) (by decide) (Nat.le_of_ble_eq_true rfl) (Nat.le_of_ble_eq_true rfl) dX5_init_20 (fun q7 H X => ?_)
  have C : zC p s m args c cX5_init RX5 4 (zadd (zadd (zadd Ω 5 q5) 6 q6) 7 q7) := C
  refine z_putFR C X (v := 7) (k := 4) (Ω := (zadd (zadd (zadd Ω 5 q5) 6 q6) 7 q7)) zk5 (List.mem_append_left _ (List.mem_append_left _ (List.mem_append_left _ hk))) rfl 2 (by decide) kw_64 rfl hin rfl rfl (fun _ => rfl) (fun _ => rfl) rfl (by decide) (List.mem_append_right _ (List.mem_singleton_self _)) hkf (i := 2) (μ1 := zup (zup (zup μ 4 0 5) 4 1 6) 4 2 7) rfl dX5_init_22 (fun H locs X => ?_)
  refine lv_aload_n C.1 C.2.1 dX5_init_25 rfl (lv_at hl 0 rfl) ?_
  refine lv_iload_n C.1 C.2.1 dX5_init_26 rfl (lv_at hl 1 rfl) ?_
  refine z_newI C X hA (atype := .boolean) 3 (Or.inr (Or.inl rfl)) rfl rfl kw_124 rfl 8 (nm_app (nm_app (nm_app (hn 8 (by decide)).1 (by decide)) (by decide)) (by decide)) (hn 8 (by decide)).2.1 rfl (zz_up (by decide) (zz_up (by decide) (zz_up (by decide) (hn 8 (by decide)).2.2))) (by decide) (by decide) (Nat.le_of_ble_eq_true rfl) (Nat.le_of_ble_eq_true rfl) dX5_init_27 (fun q8 H X => ?_)
  have C : zC p s m args c cX5_init RX5 4 (zadd (zadd (zadd (zadd Ω 5 q5) 6 q6) 7 q7) 8 q8) := C
  refine z_putFR C X (v := 8) (k := 4) (Ω := (zadd (zadd (zadd (zadd Ω 5 q5) 6 q6) 7 q7) 8 q8)) zk5 (List.mem_append_left _ (List.mem_append_left _ (List.mem_append_left _ (List.mem_append_left _ hk)))) rfl 3 (by decide) kw_68 rfl hin rfl rfl (fun _ => rfl) (fun _ => rfl) rfl (by decide) (List.mem_append_right _ (List.mem_singleton_self _)) hkf (i := 3) (μ1 := zup (zup (zup (zup μ 4 0 5) 4 1 6) 4 2 7) 4 3 8) rfl dX5_init_29 (fun H locs X => ?_)
  refine lv_aload_n C.1 C.2.1 dX5_init_32 rfl (lv_at hl 0 rfl) ?_
  refine lv_iload_n C.1 C.2.1 dX5_init_33 rfl (lv_at hl 3 rfl) ?_
  refine z_bipush C dX5_init_34 rfl ?_
  refine z_imul C dX5_init_36 ?_
  refine z_newI C X hA (atype := .int) 1 (Or.inl rfl) rfl rfl kw_123 rfl 9 (nm_app (nm_app (nm_app (nm_app (hn 9 (by decide)).1 (by decide)) (by decide)) (by decide)) (by decide)) (hn 9 (by decide)).2.1 rfl (zz_up (by decide) (zz_up (by decide) (zz_up (by decide) (zz_up (by decide) (hn 9 (by decide)).2.2)))) (by decide) (by decide) (Nat.le_of_ble_eq_true rfl) (Nat.le_of_ble_eq_true rfl) dX5_init_37 (fun q9 H X => ?_)
  have C : zC p s m args c cX5_init RX5 4 (zadd (zadd (zadd (zadd (zadd Ω 5 q5) 6 q6) 7 q7) 8 q8) 9 q9) := C
  refine z_putFR C X (v := 9) (k := 4) (Ω := (zadd (zadd (zadd (zadd (zadd Ω 5 q5) 6 q6) 7 q7) 8 q8) 9 q9)) zk5 (List.mem_append_left _ (List.mem_append_left _ (List.mem_append_left _ (List.mem_append_left _ (List.mem_append_left _ hk))))) rfl 4 (by decide) kw_70 rfl hin rfl rfl (fun _ => rfl) (fun _ => rfl) rfl (by decide) (List.mem_append_right _ (List.mem_singleton_self _)) hkf (i := 4) (μ1 := zup (zup (zup (zup (zup μ 4 0 5) 4 1 6) 4 2 7) 4 3 8) 4 4 9) rfl dX5_init_39 (fun H locs X => ?_)
  refine lv_aload_n C.1 C.2.1 dX5_init_42 rfl (lv_at hl 0 rfl) ?_
  refine lv_iload_n C.1 C.2.1 dX5_init_43 rfl (lv_at hl 3 rfl) ?_
  refine z_newI C X hA (atype := .int) 1 (Or.inl rfl) rfl rfl kw_123 rfl 10 (nm_app (nm_app (nm_app (nm_app (nm_app (hn 10 (by decide)).1 (by decide)) (by decide)) (by decide)) (by decide)) (by decide)) (hn 10 (by decide)).2.1 rfl (zz_up (by decide) (zz_up (by decide) (zz_up (by decide) (zz_up (by decide) (zz_up (by decide) (hn 10 (by decide)).2.2))))) (by decide) (by decide) (Nat.le_of_ble_eq_true rfl) (Nat.le_of_ble_eq_true rfl) dX5_init_44 (fun q10 H X => ?_)
  have C : zC p s m args c cX5_init RX5 4 (zadd (zadd (zadd (zadd (zadd (zadd Ω 5 q5) 6 q6) 7 q7) 8 q8) 9 q9) 10 q10) := C
  refine z_putFR C X (v := 10) (k := 4) (Ω := (zadd (zadd (zadd (zadd (zadd (zadd Ω 5 q5) 6 q6) 7 q7) 8 q8) 9 q9) 10 q10)) zk5 (List.mem_append_left _ (List.mem_append_left _ (List.mem_append_left _ (List.mem_append_left _ (List.mem_append_left _ (List.mem_append_left _ hk)))))) rfl 5 (by decide) kw_71 rfl hin rfl rfl (fun _ => rfl) (fun _ => rfl) rfl (by decide) (List.mem_append_right _ (List.mem_singleton_self _)) hkf (i := 5) (μ1 := zup (zup (zup (zup (zup (zup μ 4 0 5) 4 1 6) 4 2 7) 4 3 8) 4 4 9) 4 5 10) rfl dX5_init_46 (fun H locs X => ?_)
  refine lv_aload_n C.1 C.2.1 dX5_init_49 rfl (lv_at hl 0 rfl) ?_
  refine z_iconst C dX5_init_50 ?_
  have X := zX_fin (cm := [4, 5, 6, 7, 8, 9, 10]) X (fun k hkm i i0 h9 hq => by
    simp only [List.mem_cons, List.not_mem_nil, or_false] at hkm
    rcases hkm with rfl | rfl | rfl | rfl | rfl | rfl | rfl
    · obtain ⟨n, rfl⟩ := Int.eq_ofNat_of_zero_le i0
      match n, hq with
      | 0, _ => rfl
      | 1, _ => rfl
      | 2, _ => rfl
      | 3, _ => rfl
      | 4, _ => rfl
      | 5, _ => rfl
      | 6, hq => exact absurd hq (by decide)
      | 7, hq => exact absurd hq (by decide)
      | 8, hq => exact absurd hq (by decide)
      | 9, hq => exact absurd hq (by decide)
      | 10, hq => exact absurd hq (by decide)
      | n + 11, hq => exact absurd (show (0 : Nat) = 3 from hq) (by decide)
    · exact absurd h9 (by decide)
    · exact absurd h9 (by decide)
    · exact absurd h9 (by decide)
    · exact absurd h9 (by decide)
    · exact absurd h9 (by decide)
    · exact absurd h9 (by decide))
  have ag : ∀ k ∈ Ω.2.2.1.1, (zadd (zadd (zadd (zadd (zadd (zadd Ω 5 q5) 6 q6) 7 q7) 8 q8) 9 q9) 10 q10).2.2.2 k = Ω.2.2.2 k := (ag_add (ag_add (ag_add (ag_add (ag_add (ag_add (fun _ _ => rfl) (hn 5 (by decide)).1) (hn 6 (by decide)).1) (hn 7 (by decide)).1) (hn 8 (by decide)).1) (hn 9 (by decide)).1) (hn 10 (by decide)).1)
  have X : zX (zgr Ω [5, 6, 7, 8, 9, 10] [4, 5, 6, 7, 8, 9, 10] (zadd (zadd (zadd (zadd (zadd (zadd Ω 5 q5) 6 q6) 7 q7) 8 q8) 9 q9) 10 q10).2.2.2) (zup (zup (zup (zup (zup (zup μ 4 0 5) 4 1 6) 4 2 7) 4 3 8) 4 4 9) 4 5 10) A s.heap _ _ := zX_eq (by exact Prod.ext rfl (Prod.ext rfl (Prod.ext (Prod.ext (by simp only [zadd, zgr, List.append_assoc, List.cons_append, List.nil_append]) rfl) rfl))) X
  have C : zC p s m args c cX5_init RX5 4 (zgr Ω [5, 6, 7, 8, 9, 10] [4, 5, 6, 7, 8, 9, 10] (zadd (zadd (zadd (zadd (zadd (zadd Ω 5 q5) 6 q6) 7 q7) 8 q8) 9 q9) 10 q10).2.2.2) := C
  have zo : zob (zgr Ω [5, 6, 7, 8, 9, 10] [4, 5, 6, 7, 8, 9, 10] (zadd (zadd (zadd (zadd (zadd (zadd Ω 5 q5) 6 q6) 7 q7) 8 q8) 9 q9) 10 q10).2.2.2).2.2.1 5 4 := ⟨rfl, fun j j0 j1 => by
    have j1 : j < 7 := j1
    have hj : j = 0 ∨ j = 1 ∨ j = 2 ∨ j = 3 ∨ j = 4 ∨ j = 5 ∨ j = 6 := by omega
    rcases hj with rfl | rfl | rfl | rfl | rfl | rfl | rfl
    · exact List.mem_append_left _ hk
    · exact List.mem_append_right _ (by decide)
    · exact List.mem_append_right _ (by decide)
    · exact List.mem_append_right _ (by decide)
    · exact List.mem_append_right _ (by decide)
    · exact List.mem_append_right _ (by decide)
    · exact List.mem_append_right _ (by decide), List.mem_append_right _ (by decide)⟩
  refine z_callVG C X zk5 (k := 4) (List.mem_append_left _ hk) rfl (As := [zI 1]) (M_X5_clear (zup (zup (zup (zup (zup (zup μ 4 0 5) 4 1 6) 4 2 7) 4 3 8) 4 4 9) 4 5 10) 4 1 zo ⟨by decide, by decide⟩ h1) zc_X5_clear kw_37 ⟨Nat.le_of_ble_eq_true rfl, Nat.le_of_ble_eq_true rfl⟩ rfl hl.1 rfl (Nat.le_of_ble_eq_true rfl) dX5_init_51 ⟨Nat.le_of_ble_eq_true rfl, Nat.le_of_ble_eq_true rfl⟩ (fun H locs _ X => ?_)
  refine lv_aload_n C.1 C.2.1 dX5_init_54 rfl (lv_at hl 0 rfl) ?_
  refine z_callVG C X zk5 (k := 4) (List.mem_append_left _ hk) rfl (As := []) (M_X5_findPart μ_1 4  zo  h2) zc_X5_findPart kw_44 ⟨Nat.le_of_ble_eq_true rfl, Nat.le_of_ble_eq_true rfl⟩ rfl hl.1 rfl (Nat.le_of_ble_eq_true rfl) dX5_init_55 ⟨Nat.le_of_ble_eq_true rfl, Nat.le_of_ble_eq_true rfl⟩ (fun H locs _ X => ?_)
  exact rt (ad := (zadd (zadd (zadd (zadd (zadd (zadd Ω 5 q5) 6 q6) 7 q7) 8 q8) 9 q9) 10 q10).2.2.2) ag X (Nat.le_of_ble_eq_true rfl) (Nat.le_of_ble_eq_true rfl) dX5_init_58
theorem I_X5_37 {l : Launch} {Ω : zO} (μ : zMem) (sz : Nat) (hk : (37 : Int) ∈ Ω.2.2.1.1) (hkf : (37 : Int) ∉ Ω.2.2.1.2) (hn : ∀ j ∈ ([38, 39, 40, 41, 42, 43] : List Int), j ∉ Ω.2.2.1.1 ∧ j ∉ Ω.2.2.1.2 ∧ ∀ i, μ j i = 0) {μ_1 : zMem} (h1 : f_X5_clear 37 1 (zup (zup (zup (zup (zup (zup μ 37 0 38) 37 1 39) 37 2 40) 37 3 41) 37 4 42) 37 5 43) = some μ_1) {μ_2 : zMem} (h2 : f_X5_findPart 37 μ_1 = some μ_2) : XCon l yX5_init cX5_init 4 2 Ω [zR Ω 37, zI 8, zI 12, zI 8] μ [38, 39, 40, 41, 42, 43] [37, 38, 39, 40, 41, 42, 43] μ_2 sz 6 116 := by
  refine XCon.of (by decide) rfl (Nat.le_of_ble_eq_true rfl) ?_
  intro p e s m args below meth c ls A Q C hin hA X hl rt
  have C : zC p s m args c cX5_init RX5 4 Ω := C
  have hl : lv_has ls 4 [(0, zR Ω 37), (1, zI 8), (2, zI 12), (3, zI 8)] := hl
  refine lv_aload_n C.1 C.2.1 dX5_init_0 rfl (lv_at hl 0 rfl) ?_
  refine z_objI C kw_36 hl.1 dX5_init_1 ⟨Nat.le_of_ble_eq_true rfl, Nat.le_of_ble_eq_true rfl⟩ (Nat.le_of_ble_eq_true rfl) ?_
  refine lv_aload_n C.1 C.2.1 dX5_init_4 rfl (lv_at hl 0 rfl) ?_
  refine lv_iload_n C.1 C.2.1 dX5_init_5 rfl (lv_at hl 2 rfl) ?_
  refine z_newI C X hA (atype := .int) 1 (Or.inl rfl) rfl rfl kw_123 rfl 38 (hn 38 (by decide)).1 (hn 38 (by decide)).2.1 rfl (hn 38 (by decide)).2.2 (by decide) (by decide) (Nat.le_of_ble_eq_true rfl) (Nat.le_of_ble_eq_true rfl) dX5_init_6 (fun q38 H X => ?_)
  have C : zC p s m args c cX5_init RX5 4 (zadd Ω 38 q38) := C
  refine z_putFR C X (v := 38) (k := 37) (Ω := (zadd Ω 38 q38)) zk5 (List.mem_append_left _ hk) rfl 0 (by decide) kw_56 rfl hin rfl rfl (fun _ => rfl) (fun _ => rfl) rfl (by decide) (List.mem_append_right _ (List.mem_singleton_self _)) hkf (i := 0) (μ1 := zup μ 37 0 38) rfl dX5_init_8 (fun H locs X => ?_)
  refine lv_aload_n C.1 C.2.1 dX5_init_11 rfl (lv_at hl 0 rfl) ?_
  refine lv_iload_n C.1 C.2.1 dX5_init_12 rfl (lv_at hl 2 rfl) ?_
  refine z_newI C X hA (atype := .int) 1 (Or.inl rfl) rfl rfl kw_123 rfl 39 (nm_app (hn 39 (by decide)).1 (by decide)) (hn 39 (by decide)).2.1 rfl (zz_up (by decide) (hn 39 (by decide)).2.2) (by decide) (by decide) (Nat.le_of_ble_eq_true rfl) (Nat.le_of_ble_eq_true rfl) dX5_init_13 (fun q39 H X => ?_)
  have C : zC p s m args c cX5_init RX5 4 (zadd (zadd Ω 38 q38) 39 q39) := C
  refine z_putFR C X (v := 39) (k := 37) (Ω := (zadd (zadd Ω 38 q38) 39 q39)) zk5 (List.mem_append_left _ (List.mem_append_left _ hk)) rfl 1 (by decide) kw_60 rfl hin rfl rfl (fun _ => rfl) (fun _ => rfl) rfl (by decide) (List.mem_append_right _ (List.mem_singleton_self _)) hkf (i := 1) (μ1 := zup (zup μ 37 0 38) 37 1 39) rfl dX5_init_15 (fun H locs X => ?_)
  refine lv_aload_n C.1 C.2.1 dX5_init_18 rfl (lv_at hl 0 rfl) ?_
  refine lv_iload_n C.1 C.2.1 dX5_init_19 rfl (lv_at hl 2 rfl) ?_
  refine z_newI C X hA (atype := .int) 1 (Or.inl rfl) rfl rfl kw_123 rfl 40 (nm_app (nm_app (hn 40 (by decide)).1 (by decide)) (by decide)) (hn 40 (by decide)).2.1 rfl (zz_up (by decide) (zz_up (by decide) (hn 40 (by decide)).2.2)) (by decide) (by decide) (Nat.le_of_ble_eq_true rfl) (Nat.le_of_ble_eq_true rfl) dX5_init_20 (fun q40 H X => ?_)
  have C : zC p s m args c cX5_init RX5 4 (zadd (zadd (zadd Ω 38 q38) 39 q39) 40 q40) := C
  refine z_putFR C X (v := 40) (k := 37) (Ω := (zadd (zadd (zadd Ω 38 q38) 39 q39) 40 q40)) zk5 (List.mem_append_left _ (List.mem_append_left _ (List.mem_append_left _ hk))) rfl 2 (by decide) kw_64 rfl hin rfl rfl (fun _ => rfl) (fun _ => rfl) rfl (by decide) (List.mem_append_right _ (List.mem_singleton_self _)) hkf (i := 2) (μ1 := zup (zup (zup μ 37 0 38) 37 1 39) 37 2 40) rfl dX5_init_22 (fun H locs X => ?_)
  refine lv_aload_n C.1 C.2.1 dX5_init_25 rfl (lv_at hl 0 rfl) ?_
  refine lv_iload_n C.1 C.2.1 dX5_init_26 rfl (lv_at hl 1 rfl) ?_
  refine z_newI C X hA (atype := .boolean) 3 (Or.inr (Or.inl rfl)) rfl rfl kw_124 rfl 41 (nm_app (nm_app (nm_app (hn 41 (by decide)).1 (by decide)) (by decide)) (by decide)) (hn 41 (by decide)).2.1 rfl (zz_up (by decide) (zz_up (by decide) (zz_up (by decide) (hn 41 (by decide)).2.2))) (by decide) (by decide) (Nat.le_of_ble_eq_true rfl) (Nat.le_of_ble_eq_true rfl) dX5_init_27 (fun q41 H X => ?_)
  have C : zC p s m args c cX5_init RX5 4 (zadd (zadd (zadd (zadd Ω 38 q38) 39 q39) 40 q40) 41 q41) := C
  refine z_putFR C X (v := 41) (k := 37) (Ω := (zadd (zadd (zadd (zadd Ω 38 q38) 39 q39) 40 q40) 41 q41)) zk5 (List.mem_append_left _ (List.mem_append_left _ (List.mem_append_left _ (List.mem_append_left _ hk)))) rfl 3 (by decide) kw_68 rfl hin rfl rfl (fun _ => rfl) (fun _ => rfl) rfl (by decide) (List.mem_append_right _ (List.mem_singleton_self _)) hkf (i := 3) (μ1 := zup (zup (zup (zup μ 37 0 38) 37 1 39) 37 2 40) 37 3 41) rfl dX5_init_29 (fun H locs X => ?_)
  refine lv_aload_n C.1 C.2.1 dX5_init_32 rfl (lv_at hl 0 rfl) ?_
  refine lv_iload_n C.1 C.2.1 dX5_init_33 rfl (lv_at hl 3 rfl) ?_
  refine z_bipush C dX5_init_34 rfl ?_
  refine z_imul C dX5_init_36 ?_
  refine z_newI C X hA (atype := .int) 1 (Or.inl rfl) rfl rfl kw_123 rfl 42 (nm_app (nm_app (nm_app (nm_app (hn 42 (by decide)).1 (by decide)) (by decide)) (by decide)) (by decide)) (hn 42 (by decide)).2.1 rfl (zz_up (by decide) (zz_up (by decide) (zz_up (by decide) (zz_up (by decide) (hn 42 (by decide)).2.2)))) (by decide) (by decide) (Nat.le_of_ble_eq_true rfl) (Nat.le_of_ble_eq_true rfl) dX5_init_37 (fun q42 H X => ?_)
  have C : zC p s m args c cX5_init RX5 4 (zadd (zadd (zadd (zadd (zadd Ω 38 q38) 39 q39) 40 q40) 41 q41) 42 q42) := C
  refine z_putFR C X (v := 42) (k := 37) (Ω := (zadd (zadd (zadd (zadd (zadd Ω 38 q38) 39 q39) 40 q40) 41 q41) 42 q42)) zk5 (List.mem_append_left _ (List.mem_append_left _ (List.mem_append_left _ (List.mem_append_left _ (List.mem_append_left _ hk))))) rfl 4 (by decide) kw_70 rfl hin rfl rfl (fun _ => rfl) (fun _ => rfl) rfl (by decide) (List.mem_append_right _ (List.mem_singleton_self _)) hkf (i := 4) (μ1 := zup (zup (zup (zup (zup μ 37 0 38) 37 1 39) 37 2 40) 37 3 41) 37 4 42) rfl dX5_init_39 (fun H locs X => ?_)
  refine lv_aload_n C.1 C.2.1 dX5_init_42 rfl (lv_at hl 0 rfl) ?_
  refine lv_iload_n C.1 C.2.1 dX5_init_43 rfl (lv_at hl 3 rfl) ?_
  refine z_newI C X hA (atype := .int) 1 (Or.inl rfl) rfl rfl kw_123 rfl 43 (nm_app (nm_app (nm_app (nm_app (nm_app (hn 43 (by decide)).1 (by decide)) (by decide)) (by decide)) (by decide)) (by decide)) (hn 43 (by decide)).2.1 rfl (zz_up (by decide) (zz_up (by decide) (zz_up (by decide) (zz_up (by decide) (zz_up (by decide) (hn 43 (by decide)).2.2))))) (by decide) (by decide) (Nat.le_of_ble_eq_true rfl) (Nat.le_of_ble_eq_true rfl) dX5_init_44 (fun q43 H X => ?_)
  have C : zC p s m args c cX5_init RX5 4 (zadd (zadd (zadd (zadd (zadd (zadd Ω 38 q38) 39 q39) 40 q40) 41 q41) 42 q42) 43 q43) := C
  refine z_putFR C X (v := 43) (k := 37) (Ω := (zadd (zadd (zadd (zadd (zadd (zadd Ω 38 q38) 39 q39) 40 q40) 41 q41) 42 q42) 43 q43)) zk5 (List.mem_append_left _ (List.mem_append_left _ (List.mem_append_left _ (List.mem_append_left _ (List.mem_append_left _ (List.mem_append_left _ hk)))))) rfl 5 (by decide) kw_71 rfl hin rfl rfl (fun _ => rfl) (fun _ => rfl) rfl (by decide) (List.mem_append_right _ (List.mem_singleton_self _)) hkf (i := 5) (μ1 := zup (zup (zup (zup (zup (zup μ 37 0 38) 37 1 39) 37 2 40) 37 3 41) 37 4 42) 37 5 43) rfl dX5_init_46 (fun H locs X => ?_)
  refine lv_aload_n C.1 C.2.1 dX5_init_49 rfl (lv_at hl 0 rfl) ?_
  refine z_iconst C dX5_init_50 ?_
  have X := zX_fin (cm := [37, 38, 39, 40, 41, 42, 43]) X (fun k hkm i i0 h9 hq => by
    simp only [List.mem_cons, List.not_mem_nil, or_false] at hkm
    rcases hkm with rfl | rfl | rfl | rfl | rfl | rfl | rfl
    · obtain ⟨n, rfl⟩ := Int.eq_ofNat_of_zero_le i0
      match n, hq with
      | 0, _ => rfl
      | 1, _ => rfl
      | 2, _ => rfl
      | 3, _ => rfl
      | 4, _ => rfl
      | 5, _ => rfl
      | 6, hq => exact absurd hq (by decide)
      | 7, hq => exact absurd hq (by decide)
      | 8, hq => exact absurd hq (by decide)
      | 9, hq => exact absurd hq (by decide)
      | 10, hq => exact absurd hq (by decide)
      | n + 11, hq => exact absurd (show (0 : Nat) = 3 from hq) (by decide)
    · exact absurd h9 (by decide)
    · exact absurd h9 (by decide)
    · exact absurd h9 (by decide)
    · exact absurd h9 (by decide)
    · exact absurd h9 (by decide)
    · exact absurd h9 (by decide))
  have ag : ∀ k ∈ Ω.2.2.1.1, (zadd (zadd (zadd (zadd (zadd (zadd Ω 38 q38) 39 q39) 40 q40) 41 q41) 42 q42) 43 q43).2.2.2 k = Ω.2.2.2 k := (ag_add (ag_add (ag_add (ag_add (ag_add (ag_add (fun _ _ => rfl) (hn 38 (by decide)).1) (hn 39 (by decide)).1) (hn 40 (by decide)).1) (hn 41 (by decide)).1) (hn 42 (by decide)).1) (hn 43 (by decide)).1)
  have X : zX (zgr Ω [38, 39, 40, 41, 42, 43] [37, 38, 39, 40, 41, 42, 43] (zadd (zadd (zadd (zadd (zadd (zadd Ω 38 q38) 39 q39) 40 q40) 41 q41) 42 q42) 43 q43).2.2.2) (zup (zup (zup (zup (zup (zup μ 37 0 38) 37 1 39) 37 2 40) 37 3 41) 37 4 42) 37 5 43) A s.heap _ _ := zX_eq (by exact Prod.ext rfl (Prod.ext rfl (Prod.ext (Prod.ext (by simp only [zadd, zgr, List.append_assoc, List.cons_append, List.nil_append]) rfl) rfl))) X
  have C : zC p s m args c cX5_init RX5 4 (zgr Ω [38, 39, 40, 41, 42, 43] [37, 38, 39, 40, 41, 42, 43] (zadd (zadd (zadd (zadd (zadd (zadd Ω 38 q38) 39 q39) 40 q40) 41 q41) 42 q42) 43 q43).2.2.2) := C
  have zo : zob (zgr Ω [38, 39, 40, 41, 42, 43] [37, 38, 39, 40, 41, 42, 43] (zadd (zadd (zadd (zadd (zadd (zadd Ω 38 q38) 39 q39) 40 q40) 41 q41) 42 q42) 43 q43).2.2.2).2.2.1 5 37 := ⟨rfl, fun j j0 j1 => by
    have j1 : j < 7 := j1
    have hj : j = 0 ∨ j = 1 ∨ j = 2 ∨ j = 3 ∨ j = 4 ∨ j = 5 ∨ j = 6 := by omega
    rcases hj with rfl | rfl | rfl | rfl | rfl | rfl | rfl
    · exact List.mem_append_left _ hk
    · exact List.mem_append_right _ (by decide)
    · exact List.mem_append_right _ (by decide)
    · exact List.mem_append_right _ (by decide)
    · exact List.mem_append_right _ (by decide)
    · exact List.mem_append_right _ (by decide)
    · exact List.mem_append_right _ (by decide), List.mem_append_right _ (by decide)⟩
  refine z_callVG C X zk5 (k := 37) (List.mem_append_left _ hk) rfl (As := [zI 1]) (M_X5_clear (zup (zup (zup (zup (zup (zup μ 37 0 38) 37 1 39) 37 2 40) 37 3 41) 37 4 42) 37 5 43) 37 1 zo ⟨by decide, by decide⟩ h1) zc_X5_clear kw_37 ⟨Nat.le_of_ble_eq_true rfl, Nat.le_of_ble_eq_true rfl⟩ rfl hl.1 rfl (Nat.le_of_ble_eq_true rfl) dX5_init_51 ⟨Nat.le_of_ble_eq_true rfl, Nat.le_of_ble_eq_true rfl⟩ (fun H locs _ X => ?_)
  refine lv_aload_n C.1 C.2.1 dX5_init_54 rfl (lv_at hl 0 rfl) ?_
  refine z_callVG C X zk5 (k := 37) (List.mem_append_left _ hk) rfl (As := []) (M_X5_findPart μ_1 37  zo  h2) zc_X5_findPart kw_44 ⟨Nat.le_of_ble_eq_true rfl, Nat.le_of_ble_eq_true rfl⟩ rfl hl.1 rfl (Nat.le_of_ble_eq_true rfl) dX5_init_55 ⟨Nat.le_of_ble_eq_true rfl, Nat.le_of_ble_eq_true rfl⟩ (fun H locs _ X => ?_)
  exact rt (ad := (zadd (zadd (zadd (zadd (zadd (zadd Ω 38 q38) 39 q39) 40 q40) 41 q41) 42 q42) 43 q43).2.2.2) ag X (Nat.le_of_ble_eq_true rfl) (Nat.le_of_ble_eq_true rfl) dX5_init_58
theorem I_X5_44 {l : Launch} {Ω : zO} (μ : zMem) (sz : Nat) (hk : (44 : Int) ∈ Ω.2.2.1.1) (hkf : (44 : Int) ∉ Ω.2.2.1.2) (hn : ∀ j ∈ ([45, 46, 47, 48, 49, 50] : List Int), j ∉ Ω.2.2.1.1 ∧ j ∉ Ω.2.2.1.2 ∧ ∀ i, μ j i = 0) {μ_1 : zMem} (h1 : f_X5_clear 44 1 (zup (zup (zup (zup (zup (zup μ 44 0 45) 44 1 46) 44 2 47) 44 3 48) 44 4 49) 44 5 50) = some μ_1) {μ_2 : zMem} (h2 : f_X5_findPart 44 μ_1 = some μ_2) : XCon l yX5_init cX5_init 4 2 Ω [zR Ω 44, zI 8, zI 12, zI 8] μ [45, 46, 47, 48, 49, 50] [44, 45, 46, 47, 48, 49, 50] μ_2 sz 6 116 := by
  refine XCon.of (by decide) rfl (Nat.le_of_ble_eq_true rfl) ?_
  intro p e s m args below meth c ls A Q C hin hA X hl rt
  have C : zC p s m args c cX5_init RX5 4 Ω := C
  have hl : lv_has ls 4 [(0, zR Ω 44), (1, zI 8), (2, zI 12), (3, zI 8)] := hl
  refine lv_aload_n C.1 C.2.1 dX5_init_0 rfl (lv_at hl 0 rfl) ?_
  refine z_objI C kw_36 hl.1 dX5_init_1 ⟨Nat.le_of_ble_eq_true rfl, Nat.le_of_ble_eq_true rfl⟩ (Nat.le_of_ble_eq_true rfl) ?_
  refine lv_aload_n C.1 C.2.1 dX5_init_4 rfl (lv_at hl 0 rfl) ?_
  refine lv_iload_n C.1 C.2.1 dX5_init_5 rfl (lv_at hl 2 rfl) ?_
  refine z_newI C X hA (atype := .int) 1 (Or.inl rfl) rfl rfl kw_123 rfl 45 (hn 45 (by decide)).1 (hn 45 (by decide)).2.1 rfl (hn 45 (by decide)).2.2 (by decide) (by decide) (Nat.le_of_ble_eq_true rfl) (Nat.le_of_ble_eq_true rfl) dX5_init_6 (fun q45 H X => ?_)
  have C : zC p s m args c cX5_init RX5 4 (zadd Ω 45 q45) := C
  refine z_putFR C X (v := 45) (k := 44) (Ω := (zadd Ω 45 q45)) zk5 (List.mem_append_left _ hk) rfl 0 (by decide) kw_56 rfl hin rfl rfl (fun _ => rfl) (fun _ => rfl) rfl (by decide) (List.mem_append_right _ (List.mem_singleton_self _)) hkf (i := 0) (μ1 := zup μ 44 0 45) rfl dX5_init_8 (fun H locs X => ?_)
  refine lv_aload_n C.1 C.2.1 dX5_init_11 rfl (lv_at hl 0 rfl) ?_
  refine lv_iload_n C.1 C.2.1 dX5_init_12 rfl (lv_at hl 2 rfl) ?_
  refine z_newI C X hA (atype := .int) 1 (Or.inl rfl) rfl rfl kw_123 rfl 46 (nm_app (hn 46 (by decide)).1 (by decide)) (hn 46 (by decide)).2.1 rfl (zz_up (by decide) (hn 46 (by decide)).2.2) (by decide) (by decide) (Nat.le_of_ble_eq_true rfl) (Nat.le_of_ble_eq_true rfl) dX5_init_13 (fun q46 H X => ?_)
  have C : zC p s m args c cX5_init RX5 4 (zadd (zadd Ω 45 q45) 46 q46) := C
  refine z_putFR C X (v := 46) (k := 44) (Ω := (zadd (zadd Ω 45 q45) 46 q46)) zk5 (List.mem_append_left _ (List.mem_append_left _ hk)) rfl 1 (by decide) kw_60 rfl hin rfl rfl (fun _ => rfl) (fun _ => rfl) rfl (by decide) (List.mem_append_right _ (List.mem_singleton_self _)) hkf (i := 1) (μ1 := zup (zup μ 44 0 45) 44 1 46) rfl dX5_init_15 (fun H locs X => ?_)
  refine lv_aload_n C.1 C.2.1 dX5_init_18 rfl (lv_at hl 0 rfl) ?_
  refine lv_iload_n C.1 C.2.1 dX5_init_19 rfl (lv_at hl 2 rfl) ?_
  refine z_newI C X hA (atype := .int) 1 (Or.inl rfl) rfl rfl kw_123 rfl 47 (nm_app (nm_app (hn 47 (by decide)).1 (by decide)) (by decide)) (hn 47 (by decide)).2.1 rfl (zz_up (by decide) (zz_up (by decide) (hn 47 (by decide)).2.2)) (by decide) (by decide) (Nat.le_of_ble_eq_true rfl) (Nat.le_of_ble_eq_true rfl) dX5_init_20 (fun q47 H X => ?_)
  have C : zC p s m args c cX5_init RX5 4 (zadd (zadd (zadd Ω 45 q45) 46 q46) 47 q47) := C
  refine z_putFR C X (v := 47) (k := 44) (Ω := (zadd (zadd (zadd Ω 45 q45) 46 q46) 47 q47)) zk5 (List.mem_append_left _ (List.mem_append_left _ (List.mem_append_left _ hk))) rfl 2 (by decide) kw_64 rfl hin rfl rfl (fun _ => rfl) (fun _ => rfl) rfl (by decide) (List.mem_append_right _ (List.mem_singleton_self _)) hkf (i := 2) (μ1 := zup (zup (zup μ 44 0 45) 44 1 46) 44 2 47) rfl dX5_init_22 (fun H locs X => ?_)
  refine lv_aload_n C.1 C.2.1 dX5_init_25 rfl (lv_at hl 0 rfl) ?_
  refine lv_iload_n C.1 C.2.1 dX5_init_26 rfl (lv_at hl 1 rfl) ?_
  refine z_newI C X hA (atype := .boolean) 3 (Or.inr (Or.inl rfl)) rfl rfl kw_124 rfl 48 (nm_app (nm_app (nm_app (hn 48 (by decide)).1 (by decide)) (by decide)) (by decide)) (hn 48 (by decide)).2.1 rfl (zz_up (by decide) (zz_up (by decide) (zz_up (by decide) (hn 48 (by decide)).2.2))) (by decide) (by decide) (Nat.le_of_ble_eq_true rfl) (Nat.le_of_ble_eq_true rfl) dX5_init_27 (fun q48 H X => ?_)
  have C : zC p s m args c cX5_init RX5 4 (zadd (zadd (zadd (zadd Ω 45 q45) 46 q46) 47 q47) 48 q48) := C
  refine z_putFR C X (v := 48) (k := 44) (Ω := (zadd (zadd (zadd (zadd Ω 45 q45) 46 q46) 47 q47) 48 q48)) zk5 (List.mem_append_left _ (List.mem_append_left _ (List.mem_append_left _ (List.mem_append_left _ hk)))) rfl 3 (by decide) kw_68 rfl hin rfl rfl (fun _ => rfl) (fun _ => rfl) rfl (by decide) (List.mem_append_right _ (List.mem_singleton_self _)) hkf (i := 3) (μ1 := zup (zup (zup (zup μ 44 0 45) 44 1 46) 44 2 47) 44 3 48) rfl dX5_init_29 (fun H locs X => ?_)
  refine lv_aload_n C.1 C.2.1 dX5_init_32 rfl (lv_at hl 0 rfl) ?_
  refine lv_iload_n C.1 C.2.1 dX5_init_33 rfl (lv_at hl 3 rfl) ?_
  refine z_bipush C dX5_init_34 rfl ?_
  refine z_imul C dX5_init_36 ?_
  refine z_newI C X hA (atype := .int) 1 (Or.inl rfl) rfl rfl kw_123 rfl 49 (nm_app (nm_app (nm_app (nm_app (hn 49 (by decide)).1 (by decide)) (by decide)) (by decide)) (by decide)) (hn 49 (by decide)).2.1 rfl (zz_up (by decide) (zz_up (by decide) (zz_up (by decide) (zz_up (by decide) (hn 49 (by decide)).2.2)))) (by decide) (by decide) (Nat.le_of_ble_eq_true rfl) (Nat.le_of_ble_eq_true rfl) dX5_init_37 (fun q49 H X => ?_)
  have C : zC p s m args c cX5_init RX5 4 (zadd (zadd (zadd (zadd (zadd Ω 45 q45) 46 q46) 47 q47) 48 q48) 49 q49) := C
  refine z_putFR C X (v := 49) (k := 44) (Ω := (zadd (zadd (zadd (zadd (zadd Ω 45 q45) 46 q46) 47 q47) 48 q48) 49 q49)) zk5 (List.mem_append_left _ (List.mem_append_left _ (List.mem_append_left _ (List.mem_append_left _ (List.mem_append_left _ hk))))) rfl 4 (by decide) kw_70 rfl hin rfl rfl (fun _ => rfl) (fun _ => rfl) rfl (by decide) (List.mem_append_right _ (List.mem_singleton_self _)) hkf (i := 4) (μ1 := zup (zup (zup (zup (zup μ 44 0 45) 44 1 46) 44 2 47) 44 3 48) 44 4 49) rfl dX5_init_39 (fun H locs X => ?_)
  refine lv_aload_n C.1 C.2.1 dX5_init_42 rfl (lv_at hl 0 rfl) ?_
  refine lv_iload_n C.1 C.2.1 dX5_init_43 rfl (lv_at hl 3 rfl) ?_
  refine z_newI C X hA (atype := .int) 1 (Or.inl rfl) rfl rfl kw_123 rfl 50 (nm_app (nm_app (nm_app (nm_app (nm_app (hn 50 (by decide)).1 (by decide)) (by decide)) (by decide)) (by decide)) (by decide)) (hn 50 (by decide)).2.1 rfl (zz_up (by decide) (zz_up (by decide) (zz_up (by decide) (zz_up (by decide) (zz_up (by decide) (hn 50 (by decide)).2.2))))) (by decide) (by decide) (Nat.le_of_ble_eq_true rfl) (Nat.le_of_ble_eq_true rfl) dX5_init_44 (fun q50 H X => ?_)
  have C : zC p s m args c cX5_init RX5 4 (zadd (zadd (zadd (zadd (zadd (zadd Ω 45 q45) 46 q46) 47 q47) 48 q48) 49 q49) 50 q50) := C
  refine z_putFR C X (v := 50) (k := 44) (Ω := (zadd (zadd (zadd (zadd (zadd (zadd Ω 45 q45) 46 q46) 47 q47) 48 q48) 49 q49) 50 q50)) zk5 (List.mem_append_left _ (List.mem_append_left _ (List.mem_append_left _ (List.mem_append_left _ (List.mem_append_left _ (List.mem_append_left _ hk)))))) rfl 5 (by decide) kw_71 rfl hin rfl rfl (fun _ => rfl) (fun _ => rfl) rfl (by decide) (List.mem_append_right _ (List.mem_singleton_self _)) hkf (i := 5) (μ1 := zup (zup (zup (zup (zup (zup μ 44 0 45) 44 1 46) 44 2 47) 44 3 48) 44 4 49) 44 5 50) rfl dX5_init_46 (fun H locs X => ?_)
  refine lv_aload_n C.1 C.2.1 dX5_init_49 rfl (lv_at hl 0 rfl) ?_
  refine z_iconst C dX5_init_50 ?_
  have X := zX_fin (cm := [44, 45, 46, 47, 48, 49, 50]) X (fun k hkm i i0 h9 hq => by
    simp only [List.mem_cons, List.not_mem_nil, or_false] at hkm
    rcases hkm with rfl | rfl | rfl | rfl | rfl | rfl | rfl
    · obtain ⟨n, rfl⟩ := Int.eq_ofNat_of_zero_le i0
      match n, hq with
      | 0, _ => rfl
      | 1, _ => rfl
      | 2, _ => rfl
      | 3, _ => rfl
      | 4, _ => rfl
      | 5, _ => rfl
      | 6, hq => exact absurd hq (by decide)
      | 7, hq => exact absurd hq (by decide)
      | 8, hq => exact absurd hq (by decide)
      | 9, hq => exact absurd hq (by decide)
      | 10, hq => exact absurd hq (by decide)
      | n + 11, hq => exact absurd (show (0 : Nat) = 3 from hq) (by decide)
    · exact absurd h9 (by decide)
    · exact absurd h9 (by decide)
    · exact absurd h9 (by decide)
    · exact absurd h9 (by decide)
    · exact absurd h9 (by decide)
    · exact absurd h9 (by decide))
  have ag : ∀ k ∈ Ω.2.2.1.1, (zadd (zadd (zadd (zadd (zadd (zadd Ω 45 q45) 46 q46) 47 q47) 48 q48) 49 q49) 50 q50).2.2.2 k = Ω.2.2.2 k := (ag_add (ag_add (ag_add (ag_add (ag_add (ag_add (fun _ _ => rfl) (hn 45 (by decide)).1) (hn 46 (by decide)).1) (hn 47 (by decide)).1) (hn 48 (by decide)).1) (hn 49 (by decide)).1) (hn 50 (by decide)).1)
  have X : zX (zgr Ω [45, 46, 47, 48, 49, 50] [44, 45, 46, 47, 48, 49, 50] (zadd (zadd (zadd (zadd (zadd (zadd Ω 45 q45) 46 q46) 47 q47) 48 q48) 49 q49) 50 q50).2.2.2) (zup (zup (zup (zup (zup (zup μ 44 0 45) 44 1 46) 44 2 47) 44 3 48) 44 4 49) 44 5 50) A s.heap _ _ := zX_eq (by exact Prod.ext rfl (Prod.ext rfl (Prod.ext (Prod.ext (by simp only [zadd, zgr, List.append_assoc, List.cons_append, List.nil_append]) rfl) rfl))) X
  have C : zC p s m args c cX5_init RX5 4 (zgr Ω [45, 46, 47, 48, 49, 50] [44, 45, 46, 47, 48, 49, 50] (zadd (zadd (zadd (zadd (zadd (zadd Ω 45 q45) 46 q46) 47 q47) 48 q48) 49 q49) 50 q50).2.2.2) := C
  have zo : zob (zgr Ω [45, 46, 47, 48, 49, 50] [44, 45, 46, 47, 48, 49, 50] (zadd (zadd (zadd (zadd (zadd (zadd Ω 45 q45) 46 q46) 47 q47) 48 q48) 49 q49) 50 q50).2.2.2).2.2.1 5 44 := ⟨rfl, fun j j0 j1 => by
    have j1 : j < 7 := j1
    have hj : j = 0 ∨ j = 1 ∨ j = 2 ∨ j = 3 ∨ j = 4 ∨ j = 5 ∨ j = 6 := by omega
    rcases hj with rfl | rfl | rfl | rfl | rfl | rfl | rfl
    · exact List.mem_append_left _ hk
    · exact List.mem_append_right _ (by decide)
    · exact List.mem_append_right _ (by decide)
    · exact List.mem_append_right _ (by decide)
    · exact List.mem_append_right _ (by decide)
    · exact List.mem_append_right _ (by decide)
    · exact List.mem_append_right _ (by decide), List.mem_append_right _ (by decide)⟩
  refine z_callVG C X zk5 (k := 44) (List.mem_append_left _ hk) rfl (As := [zI 1]) (M_X5_clear (zup (zup (zup (zup (zup (zup μ 44 0 45) 44 1 46) 44 2 47) 44 3 48) 44 4 49) 44 5 50) 44 1 zo ⟨by decide, by decide⟩ h1) zc_X5_clear kw_37 ⟨Nat.le_of_ble_eq_true rfl, Nat.le_of_ble_eq_true rfl⟩ rfl hl.1 rfl (Nat.le_of_ble_eq_true rfl) dX5_init_51 ⟨Nat.le_of_ble_eq_true rfl, Nat.le_of_ble_eq_true rfl⟩ (fun H locs _ X => ?_)
  refine lv_aload_n C.1 C.2.1 dX5_init_54 rfl (lv_at hl 0 rfl) ?_
  refine z_callVG C X zk5 (k := 44) (List.mem_append_left _ hk) rfl (As := []) (M_X5_findPart μ_1 44  zo  h2) zc_X5_findPart kw_44 ⟨Nat.le_of_ble_eq_true rfl, Nat.le_of_ble_eq_true rfl⟩ rfl hl.1 rfl (Nat.le_of_ble_eq_true rfl) dX5_init_55 ⟨Nat.le_of_ble_eq_true rfl, Nat.le_of_ble_eq_true rfl⟩ (fun H locs _ X => ?_)
  exact rt (ad := (zadd (zadd (zadd (zadd (zadd (zadd Ω 45 q45) 46 q46) 47 q47) 48 q48) 49 q49) 50 q50).2.2.2) ag X (Nat.le_of_ble_eq_true rfl) (Nat.le_of_ble_eq_true rfl) dX5_init_58
theorem I_X5_51 {l : Launch} {Ω : zO} (μ : zMem) (sz : Nat) (hk : (51 : Int) ∈ Ω.2.2.1.1) (hkf : (51 : Int) ∉ Ω.2.2.1.2) (hn : ∀ j ∈ ([52, 53, 54, 55, 56, 57] : List Int), j ∉ Ω.2.2.1.1 ∧ j ∉ Ω.2.2.1.2 ∧ ∀ i, μ j i = 0) {μ_1 : zMem} (h1 : f_X5_clear 51 1 (zup (zup (zup (zup (zup (zup μ 51 0 52) 51 1 53) 51 2 54) 51 3 55) 51 4 56) 51 5 57) = some μ_1) {μ_2 : zMem} (h2 : f_X5_findPart 51 μ_1 = some μ_2) : XCon l yX5_init cX5_init 4 2 Ω [zR Ω 51, zI 8, zI 12, zI 8] μ [52, 53, 54, 55, 56, 57] [51, 52, 53, 54, 55, 56, 57] μ_2 sz 6 116 := by
  refine XCon.of (by decide) rfl (Nat.le_of_ble_eq_true rfl) ?_
  intro p e s m args below meth c ls A Q C hin hA X hl rt
  have C : zC p s m args c cX5_init RX5 4 Ω := C
  have hl : lv_has ls 4 [(0, zR Ω 51), (1, zI 8), (2, zI 12), (3, zI 8)] := hl
  refine lv_aload_n C.1 C.2.1 dX5_init_0 rfl (lv_at hl 0 rfl) ?_
  refine z_objI C kw_36 hl.1 dX5_init_1 ⟨Nat.le_of_ble_eq_true rfl, Nat.le_of_ble_eq_true rfl⟩ (Nat.le_of_ble_eq_true rfl) ?_
  refine lv_aload_n C.1 C.2.1 dX5_init_4 rfl (lv_at hl 0 rfl) ?_
  refine lv_iload_n C.1 C.2.1 dX5_init_5 rfl (lv_at hl 2 rfl) ?_
  refine z_newI C X hA (atype := .int) 1 (Or.inl rfl) rfl rfl kw_123 rfl 52 (hn 52 (by decide)).1 (hn 52 (by decide)).2.1 rfl (hn 52 (by decide)).2.2 (by decide) (by decide) (Nat.le_of_ble_eq_true rfl) (Nat.le_of_ble_eq_true rfl) dX5_init_6 (fun q52 H X => ?_)
  have C : zC p s m args c cX5_init RX5 4 (zadd Ω 52 q52) := C
  refine z_putFR C X (v := 52) (k := 51) (Ω := (zadd Ω 52 q52)) zk5 (List.mem_append_left _ hk) rfl 0 (by decide) kw_56 rfl hin rfl rfl (fun _ => rfl) (fun _ => rfl) rfl (by decide) (List.mem_append_right _ (List.mem_singleton_self _)) hkf (i := 0) (μ1 := zup μ 51 0 52) rfl dX5_init_8 (fun H locs X => ?_)
  refine lv_aload_n C.1 C.2.1 dX5_init_11 rfl (lv_at hl 0 rfl) ?_
  refine lv_iload_n C.1 C.2.1 dX5_init_12 rfl (lv_at hl 2 rfl) ?_
  refine z_newI C X hA (atype := .int) 1 (Or.inl rfl) rfl rfl kw_123 rfl 53 (nm_app (hn 53 (by decide)).1 (by decide)) (hn 53 (by decide)).2.1 rfl (zz_up (by decide) (hn 53 (by decide)).2.2) (by decide) (by decide) (Nat.le_of_ble_eq_true rfl) (Nat.le_of_ble_eq_true rfl) dX5_init_13 (fun q53 H X => ?_)
  have C : zC p s m args c cX5_init RX5 4 (zadd (zadd Ω 52 q52) 53 q53) := C
  refine z_putFR C X (v := 53) (k := 51) (Ω := (zadd (zadd Ω 52 q52) 53 q53)) zk5 (List.mem_append_left _ (List.mem_append_left _ hk)) rfl 1 (by decide) kw_60 rfl hin rfl rfl (fun _ => rfl) (fun _ => rfl) rfl (by decide) (List.mem_append_right _ (List.mem_singleton_self _)) hkf (i := 1) (μ1 := zup (zup μ 51 0 52) 51 1 53) rfl dX5_init_15 (fun H locs X => ?_)
  refine lv_aload_n C.1 C.2.1 dX5_init_18 rfl (lv_at hl 0 rfl) ?_
  refine lv_iload_n C.1 C.2.1 dX5_init_19 rfl (lv_at hl 2 rfl) ?_
  refine z_newI C X hA (atype := .int) 1 (Or.inl rfl) rfl rfl kw_123 rfl 54 (nm_app (nm_app (hn 54 (by decide)).1 (by decide)) (by decide)) (hn 54 (by decide)).2.1 rfl (zz_up (by decide) (zz_up (by decide) (hn 54 (by decide)).2.2)) (by decide) (by decide) (Nat.le_of_ble_eq_true rfl) (Nat.le_of_ble_eq_true rfl) dX5_init_20 (fun q54 H X => ?_)
  have C : zC p s m args c cX5_init RX5 4 (zadd (zadd (zadd Ω 52 q52) 53 q53) 54 q54) := C
  refine z_putFR C X (v := 54) (k := 51) (Ω := (zadd (zadd (zadd Ω 52 q52) 53 q53) 54 q54)) zk5 (List.mem_append_left _ (List.mem_append_left _ (List.mem_append_left _ hk))) rfl 2 (by decide) kw_64 rfl hin rfl rfl (fun _ => rfl) (fun _ => rfl) rfl (by decide) (List.mem_append_right _ (List.mem_singleton_self _)) hkf (i := 2) (μ1 := zup (zup (zup μ 51 0 52) 51 1 53) 51 2 54) rfl dX5_init_22 (fun H locs X => ?_)
  refine lv_aload_n C.1 C.2.1 dX5_init_25 rfl (lv_at hl 0 rfl) ?_
  refine lv_iload_n C.1 C.2.1 dX5_init_26 rfl (lv_at hl 1 rfl) ?_
  refine z_newI C X hA (atype := .boolean) 3 (Or.inr (Or.inl rfl)) rfl rfl kw_124 rfl 55 (nm_app (nm_app (nm_app (hn 55 (by decide)).1 (by decide)) (by decide)) (by decide)) (hn 55 (by decide)).2.1 rfl (zz_up (by decide) (zz_up (by decide) (zz_up (by decide) (hn 55 (by decide)).2.2))) (by decide) (by decide) (Nat.le_of_ble_eq_true rfl) (Nat.le_of_ble_eq_true rfl) dX5_init_27 (fun q55 H X => ?_)
  have C : zC p s m args c cX5_init RX5 4 (zadd (zadd (zadd (zadd Ω 52 q52) 53 q53) 54 q54) 55 q55) := C
  refine z_putFR C X (v := 55) (k := 51) (Ω := (zadd (zadd (zadd (zadd Ω 52 q52) 53 q53) 54 q54) 55 q55)) zk5 (List.mem_append_left _ (List.mem_append_left _ (List.mem_append_left _ (List.mem_append_left _ hk)))) rfl 3 (by decide) kw_68 rfl hin rfl rfl (fun _ => rfl) (fun _ => rfl) rfl (by decide) (List.mem_append_right _ (List.mem_singleton_self _)) hkf (i := 3) (μ1 := zup (zup (zup (zup μ 51 0 52) 51 1 53) 51 2 54) 51 3 55) rfl dX5_init_29 (fun H locs X => ?_)
  refine lv_aload_n C.1 C.2.1 dX5_init_32 rfl (lv_at hl 0 rfl) ?_
  refine lv_iload_n C.1 C.2.1 dX5_init_33 rfl (lv_at hl 3 rfl) ?_
  refine z_bipush C dX5_init_34 rfl ?_
  refine z_imul C dX5_init_36 ?_
  refine z_newI C X hA (atype := .int) 1 (Or.inl rfl) rfl rfl kw_123 rfl 56 (nm_app (nm_app (nm_app (nm_app (hn 56 (by decide)).1 (by decide)) (by decide)) (by decide)) (by decide)) (hn 56 (by decide)).2.1 rfl (zz_up (by decide) (zz_up (by decide) (zz_up (by decide) (zz_up (by decide) (hn 56 (by decide)).2.2)))) (by decide) (by decide) (Nat.le_of_ble_eq_true rfl) (Nat.le_of_ble_eq_true rfl) dX5_init_37 (fun q56 H X => ?_)
  have C : zC p s m args c cX5_init RX5 4 (zadd (zadd (zadd (zadd (zadd Ω 52 q52) 53 q53) 54 q54) 55 q55) 56 q56) := C
  refine z_putFR C X (v := 56) (k := 51) (Ω := (zadd (zadd (zadd (zadd (zadd Ω 52 q52) 53 q53) 54 q54) 55 q55) 56 q56)) zk5 (List.mem_append_left _ (List.mem_append_left _ (List.mem_append_left _ (List.mem_append_left _ (List.mem_append_left _ hk))))) rfl 4 (by decide) kw_70 rfl hin rfl rfl (fun _ => rfl) (fun _ => rfl) rfl (by decide) (List.mem_append_right _ (List.mem_singleton_self _)) hkf (i := 4) (μ1 := zup (zup (zup (zup (zup μ 51 0 52) 51 1 53) 51 2 54) 51 3 55) 51 4 56) rfl dX5_init_39 (fun H locs X => ?_)
  refine lv_aload_n C.1 C.2.1 dX5_init_42 rfl (lv_at hl 0 rfl) ?_
  refine lv_iload_n C.1 C.2.1 dX5_init_43 rfl (lv_at hl 3 rfl) ?_
  refine z_newI C X hA (atype := .int) 1 (Or.inl rfl) rfl rfl kw_123 rfl 57 (nm_app (nm_app (nm_app (nm_app (nm_app (hn 57 (by decide)).1 (by decide)) (by decide)) (by decide)) (by decide)) (by decide)) (hn 57 (by decide)).2.1 rfl (zz_up (by decide) (zz_up (by decide) (zz_up (by decide) (zz_up (by decide) (zz_up (by decide) (hn 57 (by decide)).2.2))))) (by decide) (by decide) (Nat.le_of_ble_eq_true rfl) (Nat.le_of_ble_eq_true rfl) dX5_init_44 (fun q57 H X => ?_)
  have C : zC p s m args c cX5_init RX5 4 (zadd (zadd (zadd (zadd (zadd (zadd Ω 52 q52) 53 q53) 54 q54) 55 q55) 56 q56) 57 q57) := C
  refine z_putFR C X (v := 57) (k := 51) (Ω := (zadd (zadd (zadd (zadd (zadd (zadd Ω 52 q52) 53 q53) 54 q54) 55 q55) 56 q56) 57 q57)) zk5 (List.mem_append_left _ (List.mem_append_left _ (List.mem_append_left _ (List.mem_append_left _ (List.mem_append_left _ (List.mem_append_left _ hk)))))) rfl 5 (by decide) kw_71 rfl hin rfl rfl (fun _ => rfl) (fun _ => rfl) rfl (by decide) (List.mem_append_right _ (List.mem_singleton_self _)) hkf (i := 5) (μ1 := zup (zup (zup (zup (zup (zup μ 51 0 52) 51 1 53) 51 2 54) 51 3 55) 51 4 56) 51 5 57) rfl dX5_init_46 (fun H locs X => ?_)
  refine lv_aload_n C.1 C.2.1 dX5_init_49 rfl (lv_at hl 0 rfl) ?_
  refine z_iconst C dX5_init_50 ?_
  have X := zX_fin (cm := [51, 52, 53, 54, 55, 56, 57]) X (fun k hkm i i0 h9 hq => by
    simp only [List.mem_cons, List.not_mem_nil, or_false] at hkm
    rcases hkm with rfl | rfl | rfl | rfl | rfl | rfl | rfl
    · obtain ⟨n, rfl⟩ := Int.eq_ofNat_of_zero_le i0
      match n, hq with
      | 0, _ => rfl
      | 1, _ => rfl
      | 2, _ => rfl
      | 3, _ => rfl
      | 4, _ => rfl
      | 5, _ => rfl
      | 6, hq => exact absurd hq (by decide)
      | 7, hq => exact absurd hq (by decide)
      | 8, hq => exact absurd hq (by decide)
      | 9, hq => exact absurd hq (by decide)
      | 10, hq => exact absurd hq (by decide)
      | n + 11, hq => exact absurd (show (0 : Nat) = 3 from hq) (by decide)
    · exact absurd h9 (by decide)
    · exact absurd h9 (by decide)
    · exact absurd h9 (by decide)
    · exact absurd h9 (by decide)
    · exact absurd h9 (by decide)
    · exact absurd h9 (by decide))
  have ag : ∀ k ∈ Ω.2.2.1.1, (zadd (zadd (zadd (zadd (zadd (zadd Ω 52 q52) 53 q53) 54 q54) 55 q55) 56 q56) 57 q57).2.2.2 k = Ω.2.2.2 k := (ag_add (ag_add (ag_add (ag_add (ag_add (ag_add (fun _ _ => rfl) (hn 52 (by decide)).1) (hn 53 (by decide)).1) (hn 54 (by decide)).1) (hn 55 (by decide)).1) (hn 56 (by decide)).1) (hn 57 (by decide)).1)
  have X : zX (zgr Ω [52, 53, 54, 55, 56, 57] [51, 52, 53, 54, 55, 56, 57] (zadd (zadd (zadd (zadd (zadd (zadd Ω 52 q52) 53 q53) 54 q54) 55 q55) 56 q56) 57 q57).2.2.2) (zup (zup (zup (zup (zup (zup μ 51 0 52) 51 1 53) 51 2 54) 51 3 55) 51 4 56) 51 5 57) A s.heap _ _ := zX_eq (by exact Prod.ext rfl (Prod.ext rfl (Prod.ext (Prod.ext (by simp only [zadd, zgr, List.append_assoc, List.cons_append, List.nil_append]) rfl) rfl))) X
  have C : zC p s m args c cX5_init RX5 4 (zgr Ω [52, 53, 54, 55, 56, 57] [51, 52, 53, 54, 55, 56, 57] (zadd (zadd (zadd (zadd (zadd (zadd Ω 52 q52) 53 q53) 54 q54) 55 q55) 56 q56) 57 q57).2.2.2) := C
  have zo : zob (zgr Ω [52, 53, 54, 55, 56, 57] [51, 52, 53, 54, 55, 56, 57] (zadd (zadd (zadd (zadd (zadd (zadd Ω 52 q52) 53 q53) 54 q54) 55 q55) 56 q56) 57 q57).2.2.2).2.2.1 5 51 := ⟨rfl, fun j j0 j1 => by
    have j1 : j < 7 := j1
    have hj : j = 0 ∨ j = 1 ∨ j = 2 ∨ j = 3 ∨ j = 4 ∨ j = 5 ∨ j = 6 := by omega
    rcases hj with rfl | rfl | rfl | rfl | rfl | rfl | rfl
    · exact List.mem_append_left _ hk
    · exact List.mem_append_right _ (by decide)
    · exact List.mem_append_right _ (by decide)
    · exact List.mem_append_right _ (by decide)
    · exact List.mem_append_right _ (by decide)
    · exact List.mem_append_right _ (by decide)
    · exact List.mem_append_right _ (by decide), List.mem_append_right _ (by decide)⟩
  refine z_callVG C X zk5 (k := 51) (List.mem_append_left _ hk) rfl (As := [zI 1]) (M_X5_clear (zup (zup (zup (zup (zup (zup μ 51 0 52) 51 1 53) 51 2 54) 51 3 55) 51 4 56) 51 5 57) 51 1 zo ⟨by decide, by decide⟩ h1) zc_X5_clear kw_37 ⟨Nat.le_of_ble_eq_true rfl, Nat.le_of_ble_eq_true rfl⟩ rfl hl.1 rfl (Nat.le_of_ble_eq_true rfl) dX5_init_51 ⟨Nat.le_of_ble_eq_true rfl, Nat.le_of_ble_eq_true rfl⟩ (fun H locs _ X => ?_)
  refine lv_aload_n C.1 C.2.1 dX5_init_54 rfl (lv_at hl 0 rfl) ?_
  refine z_callVG C X zk5 (k := 51) (List.mem_append_left _ hk) rfl (As := []) (M_X5_findPart μ_1 51  zo  h2) zc_X5_findPart kw_44 ⟨Nat.le_of_ble_eq_true rfl, Nat.le_of_ble_eq_true rfl⟩ rfl hl.1 rfl (Nat.le_of_ble_eq_true rfl) dX5_init_55 ⟨Nat.le_of_ble_eq_true rfl, Nat.le_of_ble_eq_true rfl⟩ (fun H locs _ X => ?_)
  exact rt (ad := (zadd (zadd (zadd (zadd (zadd (zadd Ω 52 q52) 53 q53) 54 q54) 55 q55) 56 q56) 57 q57).2.2.2) ag X (Nat.le_of_ble_eq_true rfl) (Nat.le_of_ble_eq_true rfl) dX5_init_58
