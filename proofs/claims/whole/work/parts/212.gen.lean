def f_X9_corners (x1 : Int) (x2 : Int) (μ : zMem) : Option (Int × zMem) :=
  if (f_X9_isOwn x1) = 0 then
    some ((-1), μ)
  else
    if x2 < 1 then
      some ((-1), μ)
    else
      if x2 ≤ 8 then
        chk ((0 : Int) ≤ x1 ∧ x1 < 2) <|
        chk ((μ 2 x1) ≠ 0) <|
        zlet (μ 2 x1) fun x_1 =>
        zlet ((μ x_1 6)) fun x_2 =>
        chk ((0 : Int) ≤ x1 ∧ x1 < 2) <|
        chk ((μ 2 x1) ≠ 0) <|
        zlet (μ 2 x1) fun x_3 =>
        bnd (f_X5_clear x_3 x2 μ) fun μ_4 =>
        chk ((0 : Int) ≤ x1 ∧ x1 < 2) <|
        chk ((μ_4 2 x1) ≠ 0) <|
        zlet (μ_4 2 x1) fun x_5 =>
        bnd (f_X5_findPart x_5 μ_4) fun μ_6 =>
        bnd (f_X9_emptySlots x1 μ_6) fun μ_7 =>
        some (x_2, μ_7)
      else
        some ((-1), μ)
set_option maxHeartbeats 4000000 in
set_option maxRecDepth 100000 in
theorem M_X9_corners {l : Launch} {Ω : zO} (hI : zIc Ω) (μ : zMem) (x1 : Int) (x2 : Int) {r : Int} {μ' : zMem} (gx1 : Rg x1) (gx2 : Rg x2) (h : f_X9_corners x1 x2 μ = some (r, μ')) : XMet l yX9_corners cX9_corners 4 (some Jvm.ClassFile.FieldType.int) 2 Ω [zR Ω 1, zI x1, zI x2] μ (some (zI r)) (Rg r) μ' := by
  refine XMet.ofI (by decide) (Nat.le_of_ble_eq_true rfl) ?_
  intro p e s m args below meth c ls Q C rt X hl
  have C : zC p s m args c cX9_corners RX9 4 Ω := C
  have hl : lv_has ls 4 [(0, zR Ω 1), (1, zI x1), (2, zI x2)] := hl
  unfold f_X9_corners at h
  skip
  refine lv_iload_n C.1 C.2.1 dX9_corners_0 rfl (lv_at hl 1 rfl) ?_
  refine z_callS1 C X (As := [zI x1]) (M_X9_isOwn hI μ x1 gx1) zc_X9_isOwn kw_427 (zroom (by decide) (by decide)) rfl hl.1 rfl (Nat.le_of_ble_eq_true rfl) dX9_corners_1 ⟨Nat.zero_le _, Nat.zero_le _⟩ (fun H locs g_1 X => ?_)
  refine z_ifeq C (rgz g_1) (tgt := 18) dX9_corners_4 (by decide) (fun hc4 => ?_) (fun hc4 => ?_)
  · rw [if_pos hc4] at h
    refine z_iconst C dX9_corners_18 ?_
    obtain ⟨rfl, rfl⟩ := Prod.mk.inj (Option.some.inj h)
    exact rt X ⟨by decide, by decide⟩ dX9_corners_19
  · rw [if_neg hc4] at h
    refine lv_iload_n C.1 C.2.1 dX9_corners_7 rfl (lv_at hl 2 rfl) ?_
    refine z_iconst C dX9_corners_8 ?_
    refine z_icmplt C gx2 ⟨by decide, by decide⟩ (tgt := 18) dX9_corners_9 (by decide) (fun hc9 => ?_) (fun hc9 => ?_)
    · rw [if_pos hc9] at h
      refine z_iconst C dX9_corners_18 ?_
      obtain ⟨rfl, rfl⟩ := Prod.mk.inj (Option.some.inj h)
      exact rt X ⟨by decide, by decide⟩ dX9_corners_19
    · rw [if_neg hc9] at h
      refine lv_iload_n C.1 C.2.1 dX9_corners_12 rfl (lv_at hl 2 rfl) ?_
      refine z_bipush C dX9_corners_13 (by decide) ?_
      refine z_icmple C gx2 ⟨by decide, by decide⟩ (tgt := 20) dX9_corners_15 (by decide) (fun hc15 => ?_) (fun hc15 => ?_)
      · rw [if_pos hc15] at h
        refine lv_aload_n C.1 C.2.1 dX9_corners_20 rfl (lv_at hl 0 rfl) ?_
        refine z_get C X zk9 (hI.1 1 (by decide)) rfl 0 (by decide) kw_389 (zR Ω 2) (zfvF (off := 1) X.2.2.2 (hI.1 1 (by decide)) (hI.2 1 (by decide)) rfl rfl (by decide)) dX9_corners_21 ?_
        refine lv_iload_n C.1 C.2.1 dX9_corners_24 rfl (lv_at hl 1 rfl) ?_
        obtain ⟨hc25, h⟩ := chk_some h
        obtain ⟨hn25, h⟩ := chk_some h
        have o_25 := (zrg5 X.2.2.2 (hI.1 2 (by decide)) rfl (i := x1)).resolve_left hn25
        refine z_aald5 C X (hI.1 2 (by decide)) rfl hc25 dX9_corners_25 ?_
        rw [zQ_pos Ω hn25]
        refine zlet_elim h (fun x_1 ex_1 h => ?_)
        rw [← ex_1] at o_25 ⊢
        clear hn25 ex_1
        have g_26 : Rg (μ x_1 6) := zrgf0 (ci := 5) X.2.2.2 (zob.self o_25) (zo5 o_25) 6 rfl
        refine z_get C X zk5 (zob.self o_25) (zo5 o_25) 6 (by decide) kw_79 (zI (μ x_1 6)) rfl dX9_corners_26 ?_
        refine zlet_elim h (fun x_2 ex_2 h => ?_)
        have gx_2 : Rg x_2 := by rw [ex_2]; exact g_26
        refine z_istore_n C ex_2 dX9_corners_29 rfl hl (by decide) (lv' := [(3, zI x_2), (0, zR Ω 1), (1, zI x1), (2, zI x2)]) rfl (fun ls hl => ?_)
        clear ex_2
        refine lv_aload_n C.1 C.2.1 dX9_corners_30 rfl (lv_at hl 1 rfl) ?_
        refine z_get C X zk9 (hI.1 1 (by decide)) rfl 0 (by decide) kw_389 (zR Ω 2) (zfvF (off := 1) X.2.2.2 (hI.1 1 (by decide)) (hI.2 1 (by decide)) rfl rfl (by decide)) dX9_corners_31 ?_
        refine lv_iload_n C.1 C.2.1 dX9_corners_34 rfl (lv_at hl 2 rfl) ?_
        obtain ⟨hc35, h⟩ := chk_some h
        obtain ⟨hn35, h⟩ := chk_some h
        have o_35 := (zrg5 X.2.2.2 (hI.1 2 (by decide)) rfl (i := x1)).resolve_left hn35
        refine z_aald5 C X (hI.1 2 (by decide)) rfl hc35 dX9_corners_35 ?_
        rw [zQ_pos Ω hn35]
        refine zlet_elim h (fun x_3 ex_3 h => ?_)
        rw [← ex_3] at o_35 ⊢
        clear hn35 ex_3
        refine lv_iload_n C.1 C.2.1 dX9_corners_36 rfl (lv_at hl 3 rfl) ?_
        obtain ⟨μ_4, hq37, h⟩ := bnd_some h
        refine z_callV0 C X zk5 (zob.self o_35) (zo5 o_35) (As := [zI x2]) (M_X5_clear μ x_3 x2 o_35 gx2 hq37) zc_X5_clear kw_430 (zroom (by decide) (by decide)) rfl hl.1 rfl (Nat.le_of_ble_eq_true rfl) dX9_corners_37 ⟨Nat.zero_le _, Nat.zero_le _⟩ (fun H locs g_37 X => ?_)
        refine lv_aload_n C.1 C.2.1 dX9_corners_40 rfl (lv_at hl 1 rfl) ?_
        refine z_get C X zk9 (hI.1 1 (by decide)) rfl 0 (by decide) kw_389 (zR Ω 2) (zfvF (off := 1) X.2.2.2 (hI.1 1 (by decide)) (hI.2 1 (by decide)) rfl rfl (by decide)) dX9_corners_41 ?_
        refine lv_iload_n C.1 C.2.1 dX9_corners_44 rfl (lv_at hl 2 rfl) ?_
        obtain ⟨hc45, h⟩ := chk_some h
        obtain ⟨hn45, h⟩ := chk_some h
        have o_45 := (zrg5 X.2.2.2 (hI.1 2 (by decide)) rfl (i := x1)).resolve_left hn45
        refine z_aald5 C X (hI.1 2 (by decide)) rfl hc45 dX9_corners_45 ?_
        rw [zQ_pos Ω hn45]
        refine zlet_elim h (fun x_5 ex_5 h => ?_)
        rw [← ex_5] at o_45 ⊢
        clear hn45 ex_5
        obtain ⟨μ_6, hq46, h⟩ := bnd_some h
        refine z_callV0 C X zk5 (zob.self o_45) (zo5 o_45) (As := []) (M_X5_findPart μ_4 x_5 o_45 hq46) zc_X5_findPart kw_431 (zroom (by decide) (by decide)) rfl hl.1 rfl (Nat.le_of_ble_eq_true rfl) dX9_corners_46 ⟨Nat.zero_le _, Nat.zero_le _⟩ (fun H locs g_46 X => ?_)
        refine lv_aload_n C.1 C.2.1 dX9_corners_49 rfl (lv_at hl 1 rfl) ?_
        refine lv_iload_n C.1 C.2.1 dX9_corners_50 rfl (lv_at hl 2 rfl) ?_
        obtain ⟨μ_7, hq51, h⟩ := bnd_some h
        refine z_callV0 C X zk9 (hI.1 1 (by decide)) rfl (As := [zI x1]) (M_X9_emptySlots hI μ_6 x1 gx1 hq51) zc_X9_emptySlots kw_432 (zroom (by decide) (by decide)) rfl hl.1 rfl (Nat.le_of_ble_eq_true rfl) dX9_corners_51 ⟨Nat.zero_le _, Nat.zero_le _⟩ (fun H locs g_51 X => ?_)
        refine lv_iload_n C.1 C.2.1 dX9_corners_54 rfl (lv_at hl 0 rfl) ?_
        obtain ⟨rfl, rfl⟩ := Prod.mk.inj (Option.some.inj h)
        exact rt X gx_2 dX9_corners_55
      · rw [if_neg hc15] at h
        refine z_iconst C dX9_corners_18 ?_
        obtain ⟨rfl, rfl⟩ := Prod.mk.inj (Option.some.inj h)
        exact rt X ⟨by decide, by decide⟩ dX9_corners_19
theorem zc_X9_corners : zcal yX9_corners cX9_corners 4 (some Jvm.ClassFile.FieldType.int) RX9 2 := ⟨⟨kw_426, kw_424, kw_425, kw_1⟩, rfl, by decide, by decide, by decide +kernel⟩

def f_X9_edge (x1 : Int) (x2 : Int) (x3 : Int) (μ : zMem) : Option (Int × zMem) :=
  if (f_X9_isOwn x1) = 0 then
    some ((-1), μ)
  else
    chk ((0 : Int) ≤ x1 ∧ x1 < 2) <|
    chk ((μ 2 x1) ≠ 0) <|
    zlet (μ 2 x1) fun x_1 =>
    if (f_X5_hasCorner x_1 x2 μ) = 0 then
      some ((-1), μ)
    else
      if (f_X5_hasCorner x_1 x3 μ) = 0 then
        some ((-1), μ)
      else
        if (μ x_1 7) < 12 then
          bnd (f_X5_addEdge x_1 x2 x3 μ) fun μ_2 =>
          bnd (f_X5_findPart x_1 μ_2) fun μ_3 =>
          some ((zw ((μ_3 x_1 7) - 1)), μ_3)
        else
          some ((-3), μ)
set_option maxHeartbeats 4000000 in
set_option maxRecDepth 100000 in
theorem M_X9_edge {l : Launch} {Ω : zO} (hI : zIc Ω) (μ : zMem) (x1 : Int) (x2 : Int) (x3 : Int) {r : Int} {μ' : zMem} (gx1 : Rg x1) (gx2 : Rg x2) (gx3 : Rg x3) (h : f_X9_edge x1 x2 x3 μ = some (r, μ')) : XMet l yX9_edge cX9_edge 5 (some Jvm.ClassFile.FieldType.int) 2 Ω [zR Ω 1, zI x1, zI x2, zI x3] μ (some (zI r)) (Rg r) μ' := by
  refine XMet.ofI (by decide) (Nat.le_of_ble_eq_true rfl) ?_
  intro p e s m args below meth c ls Q C rt X hl
  have C : zC p s m args c cX9_edge RX9 5 Ω := C
  have hl : lv_has ls 5 [(0, zR Ω 1), (1, zI x1), (2, zI x2), (3, zI x3)] := hl
  unfold f_X9_edge at h
  skip
  refine lv_iload_n C.1 C.2.1 dX9_edge_0 rfl (lv_at hl 1 rfl) ?_
  refine z_callS1 C X (As := [zI x1]) (M_X9_isOwn hI μ x1 gx1) zc_X9_isOwn kw_427 (zroom (by decide) (by decide)) rfl hl.1 rfl (Nat.le_of_ble_eq_true rfl) dX9_edge_1 ⟨Nat.zero_le _, Nat.zero_le _⟩ (fun H locs g_1 X => ?_)
  refine z_ifne C (rgz g_1) (tgt := 9) dX9_edge_4 (by decide) (fun hc4 => ?_) (fun hc4 => ?_)
  · rw [if_neg hc4] at h
    refine lv_aload_n C.1 C.2.1 dX9_edge_9 rfl (lv_at hl 0 rfl) ?_
    refine z_get C X zk9 (hI.1 1 (by decide)) rfl 0 (by decide) kw_389 (zR Ω 2) (zfvF (off := 1) X.2.2.2 (hI.1 1 (by decide)) (hI.2 1 (by decide)) rfl rfl (by decide)) dX9_edge_10 ?_
    refine lv_iload_n C.1 C.2.1 dX9_edge_13 rfl (lv_at hl 1 rfl) ?_
    obtain ⟨hc14, h⟩ := chk_some h
    obtain ⟨hn14, h⟩ := chk_some h
    have o_14 := (zrg5 X.2.2.2 (hI.1 2 (by decide)) rfl (i := x1)).resolve_left hn14
    refine z_aald5 C X (hI.1 2 (by decide)) rfl hc14 dX9_edge_14 ?_
    rw [zQ_pos Ω hn14]
    refine zlet_elim h (fun x_1 ex_1 h => ?_)
    rw [← ex_1] at o_14 ⊢
    clear hn14 ex_1
    refine lv_astore C.1 C.2.1 (lv' := [(4, zR Ω x_1), (0, zR Ω 1), (1, zI x1), (2, zI x2), (3, zI x3)]) dX9_edge_15 hl (by decide) rfl (fun ls hl => ?_)
    refine lv_aload C.1 C.2.1 dX9_edge_17 (lv_at hl 0 rfl) ?_
    refine lv_iload_n C.1 C.2.1 dX9_edge_19 rfl (lv_at hl 3 rfl) ?_
    refine z_callV1 C X zk5 (zob.self o_14) (zo5 o_14) (As := [zI x2]) (M_X5_hasCorner μ x_1 x2 o_14 gx2) zc_X5_hasCorner kw_440 (zroom (by decide) (by decide)) rfl hl.1 rfl (Nat.le_of_ble_eq_true rfl) dX9_edge_20 ⟨Nat.zero_le _, Nat.zero_le _⟩ (fun H locs g_20 X => ?_)
    refine z_ifeq C (rgz g_20) (tgt := 35) dX9_edge_23 (by decide) (fun hc23 => ?_) (fun hc23 => ?_)
    · rw [if_pos hc23] at h
      refine z_iconst C dX9_edge_35 ?_
      obtain ⟨rfl, rfl⟩ := Prod.mk.inj (Option.some.inj h)
      exact rt X ⟨by decide, by decide⟩ dX9_edge_36
    · rw [if_neg hc23] at h
      refine lv_aload C.1 C.2.1 dX9_edge_26 (lv_at hl 0 rfl) ?_
      refine lv_iload_n C.1 C.2.1 dX9_edge_28 rfl (lv_at hl 4 rfl) ?_
      refine z_callV1 C X zk5 (zob.self o_14) (zo5 o_14) (As := [zI x3]) (M_X5_hasCorner μ x_1 x3 o_14 gx3) zc_X5_hasCorner kw_440 (zroom (by decide) (by decide)) rfl hl.1 rfl (Nat.le_of_ble_eq_true rfl) dX9_edge_29 ⟨Nat.zero_le _, Nat.zero_le _⟩ (fun H locs g_29 X => ?_)
      refine z_ifne C (rgz g_29) (tgt := 37) dX9_edge_32 (by decide) (fun hc32 => ?_) (fun hc32 => ?_)
      · rw [if_neg hc32] at h
        refine lv_aload C.1 C.2.1 dX9_edge_37 (lv_at hl 0 rfl) ?_
        have g_39 : Rg (μ x_1 7) := zrgf0 (ci := 5) X.2.2.2 (zob.self o_14) (zo5 o_14) 7 rfl
        refine z_get C X zk5 (zob.self o_14) (zo5 o_14) 7 (by decide) kw_84 (zI (μ x_1 7)) rfl dX9_edge_39 ?_
        refine z_bipush C dX9_edge_42 (by decide) ?_
        refine z_icmplt C g_39 ⟨by decide, by decide⟩ (tgt := 50) dX9_edge_44 (by decide) (fun hc44 => ?_) (fun hc44 => ?_)
        · rw [if_pos hc44] at h
          refine lv_aload C.1 C.2.1 dX9_edge_50 (lv_at hl 0 rfl) ?_
          refine lv_iload_n C.1 C.2.1 dX9_edge_52 rfl (lv_at hl 3 rfl) ?_
          refine lv_iload_n C.1 C.2.1 dX9_edge_53 rfl (lv_at hl 4 rfl) ?_
          obtain ⟨μ_2, hq54, h⟩ := bnd_some h
          refine z_callV0 C X zk5 (zob.self o_14) (zo5 o_14) (As := [zI x2, zI x3]) (M_X5_addEdge μ x_1 x2 x3 o_14 gx2 gx3 hq54) zc_X5_addEdge kw_444 (zroom (by decide) (by decide)) rfl hl.1 rfl (Nat.le_of_ble_eq_true rfl) dX9_edge_54 ⟨Nat.zero_le _, Nat.zero_le _⟩ (fun H locs g_54 X => ?_)
          refine lv_aload C.1 C.2.1 dX9_edge_57 (lv_at hl 0 rfl) ?_
          obtain ⟨μ_3, hq59, h⟩ := bnd_some h
          refine z_callV0 C X zk5 (zob.self o_14) (zo5 o_14) (As := []) (M_X5_findPart μ_2 x_1 o_14 hq59) zc_X5_findPart kw_431 (zroom (by decide) (by decide)) rfl hl.1 rfl (Nat.le_of_ble_eq_true rfl) dX9_edge_59 ⟨Nat.zero_le _, Nat.zero_le _⟩ (fun H locs g_59 X => ?_)
          refine lv_aload C.1 C.2.1 dX9_edge_62 (lv_at hl 0 rfl) ?_
          have g_64 : Rg (μ_3 x_1 7) := zrgf0 (ci := 5) X.2.2.2 (zob.self o_14) (zo5 o_14) 7 rfl
          refine z_get C X zk5 (zob.self o_14) (zo5 o_14) 7 (by decide) kw_84 (zI (μ_3 x_1 7)) rfl dX9_edge_64 ?_
          refine z_iconst C dX9_edge_67 ?_
          refine z_isub C dX9_edge_68 ?_
          obtain ⟨rfl, rfl⟩ := Prod.mk.inj (Option.some.inj h)
          exact rt X (Rg.w _) dX9_edge_69
        · rw [if_neg hc44] at h
          refine z_bipush C dX9_edge_47 (by decide) ?_
          obtain ⟨rfl, rfl⟩ := Prod.mk.inj (Option.some.inj h)
          exact rt X ⟨by decide, by decide⟩ dX9_edge_49
      · rw [if_pos hc32] at h
        refine z_iconst C dX9_edge_35 ?_
        obtain ⟨rfl, rfl⟩ := Prod.mk.inj (Option.some.inj h)
        exact rt X ⟨by decide, by decide⟩ dX9_edge_36
  · rw [if_pos hc4] at h
    refine z_iconst C dX9_edge_7 ?_
    obtain ⟨rfl, rfl⟩ := Prod.mk.inj (Option.some.inj h)
    exact rt X ⟨by decide, by decide⟩ dX9_edge_8
theorem zc_X9_edge : zcal yX9_edge cX9_edge 5 (some Jvm.ClassFile.FieldType.int) RX9 3 := ⟨⟨kw_439, kw_437, kw_438, kw_1⟩, rfl, by decide, by decide, by decide +kernel⟩

def f_X9_byteOf (x0 : Int) (x2 : Int) : Int :=
  (zand (zw (zlushr x0 (zw (8 * x2)))) 255)
set_option maxHeartbeats 4000000 in
set_option maxRecDepth 100000 in
theorem M_X9_byteOf {l : Launch} {Ω : zO} (hI : zIc Ω) (μ : zMem) (x0 : Int) (x2 : Int) (gx0 : Rl x0) (gx2 : Rg x2) : XMet l yX9_byteOf cX9_byteOf 3 (some Jvm.ClassFile.FieldType.int) 0 Ω [zJ x0, zI x2] μ (some (zI (f_X9_byteOf x0 x2))) (Rg (f_X9_byteOf x0 x2)) μ := by
  obtain ⟨r, h⟩ : ∃ r, f_X9_byteOf x0 x2 = r := ⟨_, rfl⟩
  rw [h]
  refine XMet.ofI (by decide) (Nat.le_of_ble_eq_true rfl) ?_
  intro p e s m args below meth c ls Q C rt X hl
  have C : zC p s m args c cX9_byteOf RX9 3 Ω := C
  have hl : lv_has ls 3 [(0, zJ x0), (2, zI x2)] := hl
  unfold f_X9_byteOf at h
  skip
  refine lv_lload_n C.1 C.2.1 dX9_byteOf_0 rfl (lv_at hl 0 rfl) ?_
  refine z_bipush C dX9_byteOf_1 (by decide) ?_
  refine lv_iload_n C.1 C.2.1 dX9_byteOf_3 rfl (lv_at hl 1 rfl) ?_
  refine z_imul C dX9_byteOf_4 ?_
  refine z_lushr C dX9_byteOf_5 ?_
  refine z_l2i C dX9_byteOf_6 ?_
  refine z_sipush C dX9_byteOf_7 (by decide) ?_
  refine z_iand C dX9_byteOf_10 ?_
  subst h
  exact rt X (Rg.t _) dX9_byteOf_11
theorem zc_X9_byteOf : zcas yX9_byteOf cX9_byteOf 3 (some Jvm.ClassFile.FieldType.int) 2 := ⟨⟨kw_457, kw_456, kw_1⟩, by decide, by decide, by decide +kernel⟩

def f_X9_isPrintable_L2 (x0 : Int) (x2 : Int) : Nat → Int → Option Int
  | 0, _ => none
  | n + 1, x_1 =>
    if x_1 < x2 then
      zlet ((f_X9_byteOf x0 x_1)) fun x_2 =>
      if x_2 < 32 then
        some 0
      else
        if x_2 ≤ 126 then
          zlet (zw (x_1 + 1)) fun x_3 =>
          (f_X9_isPrintable_L2 x0 x2 n) x_3
        else
          some 0
    else
      some 1
def f_X9_isPrintable (x0 : Int) (x2 : Int) : Option Int :=
  (f_X9_isPrintable_L2 x0 x2) zfu 0
set_option maxHeartbeats 4000000 in
set_option maxRecDepth 100000 in
theorem M_X9_isPrintable {l : Launch} {Ω : zO} (hI : zIc Ω) (μ : zMem) (x0 : Int) (x2 : Int) {r : Int} (gx0 : Rl x0) (gx2 : Rg x2) (h : f_X9_isPrintable x0 x2 = some r) : XMet l yX9_isPrintable cX9_isPrintable 5 (some Jvm.ClassFile.FieldType.boolean) 1 Ω [zJ x0, zI x2] μ (some (zI r)) (0 ≤ r ∧ r ≤ 1) μ := by
  refine XMet.ofZ (by decide) (Nat.le_of_ble_eq_true rfl) ?_
  intro p e s m args below meth c ls Q C rt X hl
  have C : zC p s m args c cX9_isPrintable RX9 5 Ω := C
  have hl : lv_has ls 5 [(0, zJ x0), (2, zI x2)] := hl
  unfold f_X9_isPrintable at h
  skip
  refine z_iconst C dX9_isPrintable_0 ?_
  refine lv_istore_n C.1 C.2.1 (lv' := [(3, zI 0), (0, zJ x0), (2, zI x2)]) dX9_isPrintable_1 rfl hl (by decide) rfl (fun ls hl => ?_)
  have L2 : ∀ (n2 : Nat) (x_1 : Int) (H : Heap) (locs : List Loc) (ls : Array Slot), Rg x_1 → zX Ω μ (zfree Ω) s.heap H locs → lv_has ls 5 [(0, zJ x0), (2, zI x2), (3, zI x_1)] → (f_X9_isPrintable_L2 x0 x2 n2 x_1) = some r → W p l e (zrm 1) s m args below meth c H locs 0 0 Q (F0 m 2 ls []) := by
    intro n2
    induction n2 with
    | zero =>
      intro x_1 H locs ls _ _ _ h
      cases h
    | succ n2 ih2 =>
      intro x_1 H locs ls gx_1 X hl h
      unfold f_X9_isPrintable_L2 at h
      refine lv_iload_n C.1 C.2.1 dX9_isPrintable_2 rfl (lv_at hl 2 rfl) ?_
      refine lv_iload_n C.1 C.2.1 dX9_isPrintable_3 rfl (lv_at hl 1 rfl) ?_
      refine z_icmpge C gx_1 gx2 (tgt := 36) dX9_isPrintable_4 (by decide) (fun hc4 => ?_) (fun hc4 => ?_)
      · rw [if_neg hc4] at h
        refine z_iconst C dX9_isPrintable_36 ?_
        obtain rfl := Option.some.inj h
        exact rt X ⟨by decide, by decide⟩ dX9_isPrintable_37
      · rw [if_pos hc4] at h
        refine lv_lload_n C.1 C.2.1 dX9_isPrintable_7 rfl (lv_at hl 0 rfl) ?_
        refine lv_iload_n C.1 C.2.1 dX9_isPrintable_8 rfl (lv_at hl 2 rfl) ?_
        refine z_callS1 C X (As := [zJ x0, zI x_1]) (M_X9_byteOf hI μ x0 x_1 gx0 gx_1) zc_X9_byteOf kw_455 (zroom (by decide) (by decide)) rfl hl.1 rfl (Nat.le_of_ble_eq_true rfl) dX9_isPrintable_9 ⟨Nat.zero_le _, Nat.zero_le _⟩ (fun H locs g_9 X => ?_)
        refine zlet_elim h (fun x_2 ex_2 h => ?_)
        have gx_2 : Rg x_2 := by rw [ex_2]; exact g_9
        refine z_istore C ex_2 dX9_isPrintable_12 hl (by decide) (lv' := [(4, zI x_2), (0, zJ x0), (2, zI x2), (3, zI x_1)]) rfl (fun ls hl => ?_)
        clear ex_2
        refine lv_iload C.1 C.2.1 dX9_isPrintable_14 (lv_at hl 0 rfl) ?_
        refine z_bipush C dX9_isPrintable_16 (by decide) ?_
        refine z_icmplt C gx_2 ⟨by decide, by decide⟩ (tgt := 28) dX9_isPrintable_18 (by decide) (fun hc18 => ?_) (fun hc18 => ?_)
        · rw [if_pos hc18] at h
          refine z_iconst C dX9_isPrintable_28 ?_
          obtain rfl := Option.some.inj h
          exact rt X ⟨by decide, by decide⟩ dX9_isPrintable_29
        · rw [if_neg hc18] at h
          refine lv_iload C.1 C.2.1 dX9_isPrintable_21 (lv_at hl 0 rfl) ?_
          refine z_bipush C dX9_isPrintable_23 (by decide) ?_
          refine z_icmple C gx_2 ⟨by decide, by decide⟩ (tgt := 30) dX9_isPrintable_25 (by decide) (fun hc25 => ?_) (fun hc25 => ?_)
          · rw [if_pos hc25] at h
            refine zlet_elim h (fun x_3 ex_3 h => ?_)
            have gx_3 : Rg x_3 := by rw [ex_3]; exact Rg.w _
            refine z_iinc C ex_3 dX9_isPrintable_30 hl (k := 3) rfl (by decide) (lv' := [(3, zI x_3), (4, zI x_2), (0, zJ x0), (2, zI x2)]) rfl (fun ls hl => ?_)
            clear ex_3
            refine lv_goto (tgt := 2) C.1 C.2.1 dX9_isPrintable_33 (by decide) ?_
            exact ih2 x_3 _ _ _ gx_3 X (lv_sub hl [2, 3, 0] rfl) h
          · rw [if_neg hc25] at h
            refine z_iconst C dX9_isPrintable_28 ?_
            obtain rfl := Option.some.inj h
            exact rt X ⟨by decide, by decide⟩ dX9_isPrintable_29
  exact L2 zfu 0 _ _ _ ⟨by decide, by decide⟩ X (lv_sub hl [1, 2, 0] rfl) h
theorem zc_X9_isPrintable : zcas yX9_isPrintable cX9_isPrintable 5 (some Jvm.ClassFile.FieldType.boolean) 2 := ⟨⟨kw_454, kw_453, kw_1⟩, by decide, by decide, by decide +kernel⟩

def f_X9_type_L43 (x1 : Int) : Nat → Int → zMem → Option (Int × zMem)
  | 0, _, _ => none
  | n + 1, x_3, μ_4 =>
    if x_3 < 0 then
      some ((μ_4 19 1), μ_4)
    else
      bnd (f_X7_put (f_X9_byteOf x1 x_3) μ_4) fun μ_5 =>
      zlet (zw (x_3 + (-1))) fun x_6 =>
      (f_X9_type_L43 x1 n) x_6 μ_5
def f_X9_type (x1 : Int) (x3 : Int) (μ : zMem) : Option (Int × zMem) :=
  if x3 < 1 then
    some ((-1), μ)
  else
    if x3 ≤ 8 then
      bnd (f_X9_isPrintable x1 x3) fun x_1 =>
      if x_1 = 0 then
        some ((-1), μ)
      else
        if (zw ((μ 19 1) + x3)) ≤ 120 then
          zlet ((zw (x3 - 1))) fun x_2 =>
          (f_X9_type_L43 x1) zfu x_2 μ
        else
          some ((-3), μ)
    else
      some ((-1), μ)
set_option maxHeartbeats 4000000 in
set_option maxRecDepth 100000 in
theorem M_X9_type {l : Launch} {Ω : zO} (hI : zIc Ω) (μ : zMem) (x1 : Int) (x3 : Int) {r : Int} {μ' : zMem} (gx1 : Rl x1) (gx3 : Rg x3) (h : f_X9_type x1 x3 μ = some (r, μ')) : XMet l yX9_type cX9_type 5 (some Jvm.ClassFile.FieldType.int) 2 Ω [zR Ω 1, zJ x1, zI x3] μ (some (zI r)) (Rg r) μ' := by
  refine XMet.ofI (by decide) (Nat.le_of_ble_eq_true rfl) ?_
  intro p e s m args below meth c ls Q C rt X hl
  have C : zC p s m args c cX9_type RX9 5 Ω := C
  have hl : lv_has ls 5 [(0, zR Ω 1), (1, zJ x1), (3, zI x3)] := hl
  unfold f_X9_type at h
  skip
  refine lv_iload_n C.1 C.2.1 dX9_type_0 rfl (lv_at hl 2 rfl) ?_
  refine z_iconst C dX9_type_1 ?_
  refine z_icmplt C gx3 ⟨by decide, by decide⟩ (tgt := 19) dX9_type_2 (by decide) (fun hc2 => ?_) (fun hc2 => ?_)
  · rw [if_pos hc2] at h
    refine z_iconst C dX9_type_19 ?_
    obtain ⟨rfl, rfl⟩ := Prod.mk.inj (Option.some.inj h)
    exact rt X ⟨by decide, by decide⟩ dX9_type_20
  · rw [if_neg hc2] at h
    refine lv_iload_n C.1 C.2.1 dX9_type_5 rfl (lv_at hl 2 rfl) ?_
    refine z_bipush C dX9_type_6 (by decide) ?_
    refine z_icmpgt C gx3 ⟨by decide, by decide⟩ (tgt := 19) dX9_type_8 (by decide) (fun hc8 => ?_) (fun hc8 => ?_)
    · rw [if_neg hc8] at h
      refine z_iconst C dX9_type_19 ?_
      obtain ⟨rfl, rfl⟩ := Prod.mk.inj (Option.some.inj h)
      exact rt X ⟨by decide, by decide⟩ dX9_type_20
    · rw [if_pos hc8] at h
      refine lv_lload_n C.1 C.2.1 dX9_type_11 rfl (lv_at hl 1 rfl) ?_
      refine lv_iload_n C.1 C.2.1 dX9_type_12 rfl (lv_at hl 2 rfl) ?_
      obtain ⟨x_1, hq13, h⟩ := bnd_some h
      refine z_callS1 C X (As := [zJ x1, zI x3]) (M_X9_isPrintable hI μ x1 x3 gx1 gx3 hq13) zc_X9_isPrintable kw_452 (zroom (by decide) (by decide)) rfl hl.1 rfl (Nat.le_of_ble_eq_true rfl) dX9_type_13 ⟨Nat.zero_le _, Nat.zero_le _⟩ (fun H locs g_13 X => ?_)
      refine z_ifne C (rgz g_13) (tgt := 21) dX9_type_16 (by decide) (fun hc16 => ?_) (fun hc16 => ?_)
      · rw [if_neg hc16] at h
        refine lv_aload_n C.1 C.2.1 dX9_type_21 rfl (lv_at hl 0 rfl) ?_
        refine z_get C X zk9 (hI.1 1 (by decide)) rfl 5 (by decide) kw_394 (zR Ω 19) (zfvF (off := 18) X.2.2.2 (hI.1 1 (by decide)) (hI.2 1 (by decide)) rfl rfl (by decide)) dX9_type_22 ?_
        have g_25 : Rg (μ 19 1) := zrgf0 (ci := 7) X.2.2.2 (hI.1 19 (by decide)) rfl 1 rfl
        refine z_get C X zk7 (hI.1 19 (by decide)) rfl 1 (by decide) kw_172 (zI (μ 19 1)) rfl dX9_type_25 ?_
        refine lv_iload_n C.1 C.2.1 dX9_type_28 rfl (lv_at hl 2 rfl) ?_
        refine z_iadd C dX9_type_29 ?_
        refine z_bipush C dX9_type_30 (by decide) ?_
        refine z_icmple C (Rg.w _) ⟨by decide, by decide⟩ (tgt := 38) dX9_type_32 (by decide) (fun hc32 => ?_) (fun hc32 => ?_)
        · rw [if_pos hc32] at h
          refine lv_iload_n C.1 C.2.1 dX9_type_38 rfl (lv_at hl 2 rfl) ?_
          refine z_iconst C dX9_type_39 ?_
          refine z_isub C dX9_type_40 ?_
          refine zlet_elim h (fun x_2 ex_2 h => ?_)
          have gx_2 : Rg x_2 := by rw [ex_2]; exact (Rg.w _)
          refine z_istore C ex_2 dX9_type_41 hl (by decide) (lv' := [(4, zI x_2), (0, zR Ω 1), (1, zJ x1), (3, zI x3)]) rfl (fun ls hl => ?_)
          clear ex_2
          have L43 : ∀ (n43 : Nat) (x_3 : Int) (μ_4 : zMem) (H : Heap) (locs : List Loc) (ls : Array Slot), Rg x_3 → zX Ω μ_4 (zfree Ω) s.heap H locs → lv_has ls 5 [(0, zR Ω 1), (1, zJ x1), (4, zI x_3)] → (f_X9_type_L43 x1 n43 x_3 μ_4) = some (r, μ') → W p l e (zrm 2) s m args below meth c H locs 0 0 Q (F0 m 43 ls []) := by
            intro n43
            induction n43 with
            | zero =>
              intro x_3 μ_4 H locs ls _ _ _ h
              cases h
            | succ n43 ih43 =>
              intro x_3 μ_4 H locs ls gx_3 X hl h
              unfold f_X9_type_L43 at h
              refine lv_iload C.1 C.2.1 dX9_type_43 (lv_at hl 2 rfl) ?_
              refine z_iflt C gx_3 (tgt := 67) dX9_type_45 (by decide) (fun hc45 => ?_) (fun hc45 => ?_)
              · rw [if_pos hc45] at h
                refine lv_aload_n C.1 C.2.1 dX9_type_67 rfl (lv_at hl 0 rfl) ?_
                refine z_get C X zk9 (hI.1 1 (by decide)) rfl 5 (by decide) kw_394 (zR Ω 19) (zfvF (off := 18) X.2.2.2 (hI.1 1 (by decide)) (hI.2 1 (by decide)) rfl rfl (by decide)) dX9_type_68 ?_
                have g_71 : Rg (μ_4 19 1) := zrgf0 (ci := 7) X.2.2.2 (hI.1 19 (by decide)) rfl 1 rfl
                refine z_get C X zk7 (hI.1 19 (by decide)) rfl 1 (by decide) kw_172 (zI (μ_4 19 1)) rfl dX9_type_71 ?_
                obtain ⟨rfl, rfl⟩ := Prod.mk.inj (Option.some.inj h)
                exact rt X g_71 dX9_type_74
              · rw [if_neg hc45] at h
                refine lv_aload_n C.1 C.2.1 dX9_type_48 rfl (lv_at hl 0 rfl) ?_
                refine z_get C X zk9 (hI.1 1 (by decide)) rfl 5 (by decide) kw_394 (zR Ω 19) (zfvF (off := 18) X.2.2.2 (hI.1 1 (by decide)) (hI.2 1 (by decide)) rfl rfl (by decide)) dX9_type_49 ?_
                refine lv_lload_n C.1 C.2.1 dX9_type_52 rfl (lv_at hl 1 rfl) ?_
                refine lv_iload C.1 C.2.1 dX9_type_53 (lv_at hl 2 rfl) ?_
                refine z_callS1 C X (As := [zJ x1, zI x_3]) (M_X9_byteOf hI μ_4 x1 x_3 gx1 gx_3) zc_X9_byteOf kw_455 (zroom (by decide) (by decide)) rfl hl.1 rfl (Nat.le_of_ble_eq_true rfl) dX9_type_55 ⟨Nat.zero_le _, Nat.zero_le _⟩ (fun H locs g_55 X => ?_)
                obtain ⟨μ_5, hq58, h⟩ := bnd_some h
                refine z_callV0 C X zk7 (hI.1 19 (by decide)) rfl (As := [zI (f_X9_byteOf x1 x_3)]) (M_X7_put hI μ_4 (f_X9_byteOf x1 x_3) g_55 hq58) zc_X7_put kw_458 (zroom (by decide) (by decide)) rfl hl.1 rfl (Nat.le_of_ble_eq_true rfl) dX9_type_58 ⟨Nat.zero_le _, Nat.zero_le _⟩ (fun H locs g_58 X => ?_)
                refine zlet_elim h (fun x_6 ex_6 h => ?_)
                have gx_6 : Rg x_6 := by rw [ex_6]; exact Rg.w _
                refine z_iinc C ex_6 dX9_type_61 hl (k := 2) rfl (by decide) (lv' := [(4, zI x_6), (0, zR Ω 1), (1, zJ x1)]) rfl (fun ls hl => ?_)
                clear ex_6
                refine lv_goto (tgt := 43) C.1 C.2.1 dX9_type_64 (by decide) ?_
                exact ih43 x_6 μ_5 _ _ _ gx_6 X (lv_sub hl [1, 2, 0] rfl) h
          exact L43 zfu x_2 μ _ _ _ gx_2 X (lv_sub hl [1, 2, 0] rfl) h
        · rw [if_neg hc32] at h
          refine z_bipush C dX9_type_35 (by decide) ?_
          obtain ⟨rfl, rfl⟩ := Prod.mk.inj (Option.some.inj h)
          exact rt X ⟨by decide, by decide⟩ dX9_type_37
      · rw [if_pos hc16] at h
        refine z_iconst C dX9_type_19 ?_
        obtain ⟨rfl, rfl⟩ := Prod.mk.inj (Option.some.inj h)
        exact rt X ⟨by decide, by decide⟩ dX9_type_20
theorem zc_X9_type : zcal yX9_type cX9_type 5 (some Jvm.ClassFile.FieldType.int) RX9 2 := ⟨⟨kw_451, kw_449, kw_450, kw_1⟩, rfl, by decide, by decide, by decide +kernel⟩

def f_X9_face_J53 (x_1 : Int) (x_5 : Int) (μ_6 : zMem) : Option (Int × zMem) :=
  bnd2 (f_X7_faultHere μ_6) fun x_7 μ_8 =>
  bnd (f_X7_wipe μ_8) fun μ_9 =>
  if x_5 = 0 then
    some (x_7, μ_9)
  else
    if (μ_9 x_1 8) < 8 then
      bnd (f_X5_addPane x_1 (21 + 1) (μ_9 21 2) μ_9) fun μ_10 =>
      some ((zw ((μ_10 x_1 8) - 1)), μ_10)
    else
      some ((-3), μ_9)
def f_X9_face_J52 (g53 : Int → zMem → Option (Int × zMem)) (μ_11 : zMem) : Option (Int × zMem) :=
  g53 0 μ_11
def f_X9_face (x1 : Int) (μ : zMem) : Option (Int × zMem) :=
  if (f_X9_isOwn x1) = 0 then
    some ((-1), μ)
  else
    chk ((0 : Int) ≤ x1 ∧ x1 < 2) <|
    chk ((μ 2 x1) ≠ 0) <|
    zlet (μ 2 x1) fun x_1 =>
    bnd (f_X7_rewind μ) fun μ_2 =>
    bnd2 (f_X7_readRim x_1 21 μ_2) fun x_3 μ_4 =>
    if x_3 = 0 then
      (f_X9_face_J52 (f_X9_face_J53 x_1)) μ_4
    else
      bnd2 (f_X7_isRead μ_4) fun x_12 μ_13 =>
      if x_12 = 0 then
        (f_X9_face_J52 (f_X9_face_J53 x_1)) μ_13
      else
        (f_X9_face_J53 x_1) 1 μ_13
set_option maxHeartbeats 4000000 in
set_option maxRecDepth 100000 in
theorem M_X9_face {l : Launch} {Ω : zO} (hI : zIc Ω) (μ : zMem) (x1 : Int) {r : Int} {μ' : zMem} (gx1 : Rg x1) (h : f_X9_face x1 μ = some (r, μ')) : XMet l yX9_face cX9_face 5 (some Jvm.ClassFile.FieldType.int) 4 Ω [zR Ω 1, zI x1] μ (some (zI r)) (Rg r) μ' := by
  refine XMet.ofI (by decide) (Nat.le_of_ble_eq_true rfl) ?_
  intro p e s m args below meth c ls Q C rt X hl
  have C : zC p s m args c cX9_face RX9 5 Ω := C
  have hl : lv_has ls 5 [(0, zR Ω 1), (1, zI x1)] := hl
  unfold f_X9_face at h
  skip
  refine lv_iload_n C.1 C.2.1 dX9_face_0 rfl (lv_at hl 1 rfl) ?_
  refine z_callS1 C X (As := [zI x1]) (M_X9_isOwn hI μ x1 gx1) zc_X9_isOwn kw_427 (zroom (by decide) (by decide)) rfl hl.1 rfl (Nat.le_of_ble_eq_true rfl) dX9_face_1 ⟨Nat.zero_le _, Nat.zero_le _⟩ (fun H locs g_1 X => ?_)
  refine z_ifne C (rgz g_1) (tgt := 9) dX9_face_4 (by decide) (fun hc4 => ?_) (fun hc4 => ?_)
  · rw [if_neg hc4] at h
    refine lv_aload_n C.1 C.2.1 dX9_face_9 rfl (lv_at hl 0 rfl) ?_
    refine z_get C X zk9 (hI.1 1 (by decide)) rfl 0 (by decide) kw_389 (zR Ω 2) (zfvF (off := 1) X.2.2.2 (hI.1 1 (by decide)) (hI.2 1 (by decide)) rfl rfl (by decide)) dX9_face_10 ?_
    refine lv_iload_n C.1 C.2.1 dX9_face_13 rfl (lv_at hl 1 rfl) ?_
    obtain ⟨hc14, h⟩ := chk_some h
    obtain ⟨hn14, h⟩ := chk_some h
    have o_14 := (zrg5 X.2.2.2 (hI.1 2 (by decide)) rfl (i := x1)).resolve_left hn14
    refine z_aald5 C X (hI.1 2 (by decide)) rfl hc14 dX9_face_14 ?_
    rw [zQ_pos Ω hn14]
    refine zlet_elim h (fun x_1 ex_1 h => ?_)
    rw [← ex_1] at o_14 ⊢
    clear hn14 ex_1
    refine lv_astore_n C.1 C.2.1 (lv' := [(2, zR Ω x_1), (0, zR Ω 1), (1, zI x1)]) dX9_face_15 rfl hl (by decide) rfl (fun ls hl => ?_)
    refine lv_aload_n C.1 C.2.1 dX9_face_16 rfl (lv_at hl 1 rfl) ?_
    refine z_get C X zk9 (hI.1 1 (by decide)) rfl 5 (by decide) kw_394 (zR Ω 19) (zfvF (off := 18) X.2.2.2 (hI.1 1 (by decide)) (hI.2 1 (by decide)) rfl rfl (by decide)) dX9_face_17 ?_
    obtain ⟨μ_2, hq20, h⟩ := bnd_some h
    refine z_callV0 C X zk7 (hI.1 19 (by decide)) rfl (As := []) (M_X7_rewind hI μ hq20) zc_X7_rewind kw_466 (zroom (by decide) (by decide)) rfl hl.1 rfl (Nat.le_of_ble_eq_true rfl) dX9_face_20 ⟨Nat.zero_le _, Nat.zero_le _⟩ (fun H locs g_20 X => ?_)
    refine lv_aload_n C.1 C.2.1 dX9_face_23 rfl (lv_at hl 1 rfl) ?_
    refine z_get C X zk9 (hI.1 1 (by decide)) rfl 5 (by decide) kw_394 (zR Ω 19) (zfvF (off := 18) X.2.2.2 (hI.1 1 (by decide)) (hI.2 1 (by decide)) rfl rfl (by decide)) dX9_face_24 ?_
    refine lv_aload_n C.1 C.2.1 dX9_face_27 rfl (lv_at hl 0 rfl) ?_
    refine lv_aload_n C.1 C.2.1 dX9_face_28 rfl (lv_at hl 1 rfl) ?_
    refine z_get C X zk9 (hI.1 1 (by decide)) rfl 6 (by decide) kw_395 (zR Ω 21) (zfvF (off := 20) X.2.2.2 (hI.1 1 (by decide)) (hI.2 1 (by decide)) rfl rfl (by decide)) dX9_face_29 ?_
    obtain ⟨x_3, μ_4, hq32, h⟩ := bnd2_some h
    refine z_callV1 C X zk7 (hI.1 19 (by decide)) rfl (As := [zR Ω x_1, zR Ω 21]) (M_X7_readRim hI μ_2 x_1 21 o_14 (zoc8 hI 21 rfl (by decide)) hq32) zc_X7_readRim kw_470 (zroom (by decide) (by decide)) rfl hl.1 rfl (Nat.le_of_ble_eq_true rfl) dX9_face_32 ⟨Nat.zero_le _, Nat.zero_le _⟩ (fun H locs g_32 X => ?_)
    have K53 : ∀ (x_5 : Int) (μ_6 : zMem) (H : Heap) (locs : List Loc) (ls : Array Slot), Rg x_5 → zX Ω μ_6 (zfree Ω) s.heap H locs → lv_has ls 5 [(0, zR Ω 1), (2, zR Ω x_1)] → (f_X9_face_J53 x_1) x_5 μ_6 = some (r, μ') → W p l e (zrm 4) s m args below meth c H locs 0 0 Q (F0 m 53 ls [zI x_5]) := by
      intro x_5 μ_6 H locs ls gx_5 X hl h
      unfold f_X9_face_J53 at h
      refine lv_istore_n C.1 C.2.1 (lv' := [(3, zI x_5), (0, zR Ω 1), (2, zR Ω x_1)]) dX9_face_53 rfl hl (by decide) rfl (fun ls hl => ?_)
      refine lv_aload_n C.1 C.2.1 dX9_face_54 rfl (lv_at hl 1 rfl) ?_
      refine z_get C X zk9 (hI.1 1 (by decide)) rfl 5 (by decide) kw_394 (zR Ω 19) (zfvF (off := 18) X.2.2.2 (hI.1 1 (by decide)) (hI.2 1 (by decide)) rfl rfl (by decide)) dX9_face_55 ?_
      obtain ⟨x_7, μ_8, hq58, h⟩ := bnd2_some h
      refine z_callV1 C X zk7 (hI.1 19 (by decide)) rfl (As := []) (M_X7_faultHere hI μ_6 hq58) zc_X7_faultHere kw_509 (zroom (by decide) (by decide)) rfl hl.1 rfl (Nat.le_of_ble_eq_true rfl) dX9_face_58 ⟨Nat.zero_le _, Nat.zero_le _⟩ (fun H locs g_58 X => ?_)
      refine lv_istore C.1 C.2.1 (lv' := [(4, zI x_7), (3, zI x_5), (0, zR Ω 1), (2, zR Ω x_1)]) dX9_face_61 hl (by decide) rfl (fun ls hl => ?_)
      refine lv_aload_n C.1 C.2.1 dX9_face_63 rfl (lv_at hl 2 rfl) ?_
      refine z_get C X zk9 (hI.1 1 (by decide)) rfl 5 (by decide) kw_394 (zR Ω 19) (zfvF (off := 18) X.2.2.2 (hI.1 1 (by decide)) (hI.2 1 (by decide)) rfl rfl (by decide)) dX9_face_64 ?_
      obtain ⟨μ_9, hq67, h⟩ := bnd_some h
      refine z_callV0 C X zk7 (hI.1 19 (by decide)) rfl (As := []) (M_X7_wipe hI μ_8 hq67) zc_X7_wipe kw_513 (zroom (by decide) (by decide)) rfl hl.1 rfl (Nat.le_of_ble_eq_true rfl) dX9_face_67 ⟨Nat.zero_le _, Nat.zero_le _⟩ (fun H locs g_67 X => ?_)
      refine lv_iload_n C.1 C.2.1 dX9_face_70 rfl (lv_at hl 1 rfl) ?_
      refine z_ifne C gx_5 (tgt := 77) dX9_face_71 (by decide) (fun hc71 => ?_) (fun hc71 => ?_)
      · rw [if_neg hc71] at h
        refine lv_aload_n C.1 C.2.1 dX9_face_77 rfl (lv_at hl 3 rfl) ?_
        have g_78 : Rg (μ_9 x_1 8) := zrgf0 (ci := 5) X.2.2.2 (zob.self o_14) (zo5 o_14) 8 rfl
        refine z_get C X zk5 (zob.self o_14) (zo5 o_14) 8 (by decide) kw_91 (zI (μ_9 x_1 8)) rfl dX9_face_78 ?_
        refine z_bipush C dX9_face_81 (by decide) ?_
        refine z_icmplt C g_78 ⟨by decide, by decide⟩ (tgt := 89) dX9_face_83 (by decide) (fun hc83 => ?_) (fun hc83 => ?_)
        · rw [if_pos hc83] at h
          refine lv_aload_n C.1 C.2.1 dX9_face_89 rfl (lv_at hl 3 rfl) ?_
          refine lv_aload_n C.1 C.2.1 dX9_face_90 rfl (lv_at hl 2 rfl) ?_
          refine z_get C X zk9 (hI.1 1 (by decide)) rfl 6 (by decide) kw_395 (zR Ω 21) (zfvF (off := 20) X.2.2.2 (hI.1 1 (by decide)) (hI.2 1 (by decide)) rfl rfl (by decide)) dX9_face_91 ?_
          refine z_get C X zk8 (hI.1 21 (by decide)) rfl 0 (by decide) kw_190 (zR Ω (21 + 1)) (zfvF (off := 1) X.2.2.2 (hI.1 21 (by decide)) (zoc8 hI 21 rfl (by decide)).2.2 rfl rfl (by rw [zo8_1 (zoc8 hI 21 rfl (by decide))]; decide)) dX9_face_94 ?_
          refine lv_aload_n C.1 C.2.1 dX9_face_97 rfl (lv_at hl 2 rfl) ?_
          refine z_get C X zk9 (hI.1 1 (by decide)) rfl 6 (by decide) kw_395 (zR Ω 21) (zfvF (off := 20) X.2.2.2 (hI.1 1 (by decide)) (hI.2 1 (by decide)) rfl rfl (by decide)) dX9_face_98 ?_
          have g_101 : Rg (μ_9 21 2) := zrgf0 (ci := 8) X.2.2.2 (hI.1 21 (by decide)) rfl 2 rfl
          refine z_get C X zk8 (hI.1 21 (by decide)) rfl 2 (by decide) kw_198 (zI (μ_9 21 2)) rfl dX9_face_101 ?_
          obtain ⟨μ_10, hq104, h⟩ := bnd_some h
          refine z_callV0 C X zk5 (zob.self o_14) (zo5 o_14) (As := [zR Ω (21 + 1), zI (μ_9 21 2)]) (M_X5_addPane μ_9 x_1 (21 + 1) (μ_9 21 2) o_14 ((zoc8 hI 21 rfl (by decide)).2.1 1 (by decide) (by decide)) (zo8_1 (zoc8 hI 21 rfl (by decide))) g_101 hq104) zc_X5_addPane kw_517 (zroom (by decide) (by decide)) rfl hl.1 rfl (Nat.le_of_ble_eq_true rfl) dX9_face_104 ⟨Nat.zero_le _, Nat.zero_le _⟩ (fun H locs g_104 X => ?_)
          refine lv_aload_n C.1 C.2.1 dX9_face_107 rfl (lv_at hl 3 rfl) ?_
          have g_108 : Rg (μ_10 x_1 8) := zrgf0 (ci := 5) X.2.2.2 (zob.self o_14) (zo5 o_14) 8 rfl
          refine z_get C X zk5 (zob.self o_14) (zo5 o_14) 8 (by decide) kw_91 (zI (μ_10 x_1 8)) rfl dX9_face_108 ?_
          refine z_iconst C dX9_face_111 ?_
          refine z_isub C dX9_face_112 ?_
          obtain ⟨rfl, rfl⟩ := Prod.mk.inj (Option.some.inj h)
          exact rt X (Rg.w _) dX9_face_113
        · rw [if_neg hc83] at h
          refine z_bipush C dX9_face_86 (by decide) ?_
          obtain ⟨rfl, rfl⟩ := Prod.mk.inj (Option.some.inj h)
          exact rt X ⟨by decide, by decide⟩ dX9_face_88
      · rw [if_pos hc71] at h
        refine lv_iload C.1 C.2.1 dX9_face_74 (lv_at hl 0 rfl) ?_
        obtain ⟨rfl, rfl⟩ := Prod.mk.inj (Option.some.inj h)
        exact rt X g_58 dX9_face_76
    have K52 : ∀ (μ_11 : zMem) (H : Heap) (locs : List Loc) (ls : Array Slot), zX Ω μ_11 (zfree Ω) s.heap H locs → lv_has ls 5 [(0, zR Ω 1), (2, zR Ω x_1)] → (f_X9_face_J52 (f_X9_face_J53 x_1)) μ_11 = some (r, μ') → W p l e (zrm 4) s m args below meth c H locs 0 0 Q (F0 m 52 ls []) := by
      intro μ_11 H locs ls  X hl h
      unfold f_X9_face_J52 at h
      refine z_iconst C dX9_face_52 ?_
      exact K53 0 μ_11 _ _ _ ⟨by decide, by decide⟩ X (lv_sub hl [0, 1] rfl) h
    refine z_ifeq C (rgz g_32) (tgt := 52) dX9_face_35 (by decide) (fun hc35 => ?_) (fun hc35 => ?_)
    · rw [if_pos hc35] at h
      exact K52 μ_4 _ _ _ X (lv_sub hl [1, 0] rfl) h
    · rw [if_neg hc35] at h
      refine lv_aload_n C.1 C.2.1 dX9_face_38 rfl (lv_at hl 1 rfl) ?_
      refine z_get C X zk9 (hI.1 1 (by decide)) rfl 5 (by decide) kw_394 (zR Ω 19) (zfvF (off := 18) X.2.2.2 (hI.1 1 (by decide)) (hI.2 1 (by decide)) rfl rfl (by decide)) dX9_face_39 ?_
      obtain ⟨x_12, μ_13, hq42, h⟩ := bnd2_some h
      refine z_callV1 C X zk7 (hI.1 19 (by decide)) rfl (As := []) (M_X7_isRead hI μ_4 hq42) zc_X7_isRead kw_505 (zroom (by decide) (by decide)) rfl hl.1 rfl (Nat.le_of_ble_eq_true rfl) dX9_face_42 ⟨Nat.zero_le _, Nat.zero_le _⟩ (fun H locs g_42 X => ?_)
      refine z_ifeq C (rgz g_42) (tgt := 52) dX9_face_45 (by decide) (fun hc45 => ?_) (fun hc45 => ?_)
      · rw [if_pos hc45] at h
        exact K52 μ_13 _ _ _ X (lv_sub hl [1, 0] rfl) h
      · rw [if_neg hc45] at h
        refine z_iconst C dX9_face_48 ?_
        refine lv_goto (tgt := 53) C.1 C.2.1 dX9_face_49 (by decide) ?_
        exact K53 1 μ_13 _ _ _ ⟨by decide, by decide⟩ X (lv_sub hl [1, 0] rfl) h
  · rw [if_pos hc4] at h
    refine z_iconst C dX9_face_7 ?_
    obtain ⟨rfl, rfl⟩ := Prod.mk.inj (Option.some.inj h)
    exact rt X ⟨by decide, by decide⟩ dX9_face_8
theorem zc_X9_face : zcal yX9_face cX9_face 5 (some Jvm.ClassFile.FieldType.int) RX9 1 := ⟨⟨kw_465, kw_463, kw_464, kw_1⟩, rfl, by decide, by decide, by decide +kernel⟩

def f_X9_text (x1 : Int) (μ : zMem) : Option (Int × zMem) :=
  if (f_X9_isOwn x1) = 0 then
    some ((-1), μ)
  else
    bnd (f_X7_rewind μ) fun μ_1 =>
    chk ((μ_1 1 10) ≠ 0) <|
    zlet (μ_1 1 10) fun x_2 =>
    bnd2 (f_X7_readSpace x_2 21 μ_1) fun x_3 μ_4 =>
    bnd2 (f_X7_faultHere μ_4) fun x_5 μ_6 =>
    bnd (f_X7_wipe μ_6) fun μ_7 =>
    if x_3 = 0 then
      some (x_5, μ_7)
    else
      chk ((0 : Int) ≤ x1 ∧ x1 < 2) <|
      chk ((μ_7 2 x1) ≠ 0) <|
      zlet (μ_7 2 x1) fun x_8 =>
      chk ((μ_7 1 10) ≠ 0) <|
      zlet (μ_7 1 10) fun x_9 =>
      chk ((0 : Int) ≤ x1 ∧ x1 < 2) <|
      zlet (zup μ_7 2 x1 x_9) fun μ_10 =>
      zlet (zup μ_10 1 10 x_8) fun μ_11 =>
      chk ((0 : Int) ≤ x1 ∧ x1 < 2) <|
      chk ((μ_11 2 x1) ≠ 0) <|
      zlet (μ_11 2 x1) fun x_12 =>
      bnd (f_X5_findPart x_12 μ_11) fun μ_13 =>
      bnd (f_X9_emptySlots x1 μ_13) fun μ_14 =>
      chk ((0 : Int) ≤ x1 ∧ x1 < 2) <|
      chk ((μ_14 2 x1) ≠ 0) <|
      zlet (μ_14 2 x1) fun x_15 =>
      some ((μ_14 x_15 8), μ_14)
set_option maxHeartbeats 4000000 in
set_option maxRecDepth 100000 in
theorem M_X9_text {l : Launch} {Ω : zO} (hI : zIc Ω) (μ : zMem) (x1 : Int) {r : Int} {μ' : zMem} (gx1 : Rg x1) (h : f_X9_text x1 μ = some (r, μ')) : XMet l yX9_text cX9_text 5 (some Jvm.ClassFile.FieldType.int) 6 Ω [zR Ω 1, zI x1] μ (some (zI r)) (Rg r) μ' := by
  refine XMet.ofI (by decide) (Nat.le_of_ble_eq_true rfl) ?_
  intro p e s m args below meth c ls Q C rt X hl
  have C : zC p s m args c cX9_text RX9 5 Ω := C
  have hl : lv_has ls 5 [(0, zR Ω 1), (1, zI x1)] := hl
  unfold f_X9_text at h
  skip
  refine lv_iload_n C.1 C.2.1 dX9_text_0 rfl (lv_at hl 1 rfl) ?_
  refine z_callS1 C X (As := [zI x1]) (M_X9_isOwn hI μ x1 gx1) zc_X9_isOwn kw_427 (zroom (by decide) (by decide)) rfl hl.1 rfl (Nat.le_of_ble_eq_true rfl) dX9_text_1 ⟨Nat.zero_le _, Nat.zero_le _⟩ (fun H locs g_1 X => ?_)
  refine z_ifne C (rgz g_1) (tgt := 9) dX9_text_4 (by decide) (fun hc4 => ?_) (fun hc4 => ?_)
  · rw [if_neg hc4] at h
    refine lv_aload_n C.1 C.2.1 dX9_text_9 rfl (lv_at hl 0 rfl) ?_
    refine z_get C X zk9 (hI.1 1 (by decide)) rfl 5 (by decide) kw_394 (zR Ω 19) (zfvF (off := 18) X.2.2.2 (hI.1 1 (by decide)) (hI.2 1 (by decide)) rfl rfl (by decide)) dX9_text_10 ?_
    obtain ⟨μ_1, hq13, h⟩ := bnd_some h
    refine z_callV0 C X zk7 (hI.1 19 (by decide)) rfl (As := []) (M_X7_rewind hI μ hq13) zc_X7_rewind kw_466 (zroom (by decide) (by decide)) rfl hl.1 rfl (Nat.le_of_ble_eq_true rfl) dX9_text_13 ⟨Nat.zero_le _, Nat.zero_le _⟩ (fun H locs g_13 X => ?_)
    refine lv_aload_n C.1 C.2.1 dX9_text_16 rfl (lv_at hl 0 rfl) ?_
    refine z_get C X zk9 (hI.1 1 (by decide)) rfl 5 (by decide) kw_394 (zR Ω 19) (zfvF (off := 18) X.2.2.2 (hI.1 1 (by decide)) (hI.2 1 (by decide)) rfl rfl (by decide)) dX9_text_17 ?_
    refine lv_aload_n C.1 C.2.1 dX9_text_20 rfl (lv_at hl 0 rfl) ?_
    obtain ⟨hn21, h⟩ := chk_some h
    have o_21 : zob Ω.2.2.1 5 (μ_1 1 10) := (zrgf4 (ci := 9) X.2.2.2 (hI.1 1 (by decide)) rfl 10 5 rfl rfl).resolve_left hn21
    refine z_get C X zk9 (hI.1 1 (by decide)) rfl 10 (by decide) kw_399 (zQ Ω (μ_1 1 10)) rfl dX9_text_21 ?_
    rw [zQ_pos Ω hn21]
    refine zlet_elim h (fun x_2 ex_2 h => ?_)
    rw [← ex_2] at o_21 ⊢
    clear hn21 ex_2
    refine lv_aload_n C.1 C.2.1 dX9_text_24 rfl (lv_at hl 0 rfl) ?_
    refine z_get C X zk9 (hI.1 1 (by decide)) rfl 6 (by decide) kw_395 (zR Ω 21) (zfvF (off := 20) X.2.2.2 (hI.1 1 (by decide)) (hI.2 1 (by decide)) rfl rfl (by decide)) dX9_text_25 ?_
    obtain ⟨x_3, μ_4, hq28, h⟩ := bnd2_some h
    refine z_callV1 C X zk7 (hI.1 19 (by decide)) rfl (As := [zR Ω x_2, zR Ω 21]) (M_X7_readSpace hI μ_1 x_2 21 o_21 (zoc8 hI 21 rfl (by decide)) hq28) zc_X7_readSpace kw_528 (zroom (by decide) (by decide)) rfl hl.1 rfl (Nat.le_of_ble_eq_true rfl) dX9_text_28 ⟨Nat.zero_le _, Nat.zero_le _⟩ (fun H locs g_28 X => ?_)
    refine lv_istore_n C.1 C.2.1 (lv' := [(2, zI x_3), (0, zR Ω 1), (1, zI x1)]) dX9_text_31 rfl hl (by decide) rfl (fun ls hl => ?_)
    refine lv_aload_n C.1 C.2.1 dX9_text_32 rfl (lv_at hl 1 rfl) ?_
    refine z_get C X zk9 (hI.1 1 (by decide)) rfl 5 (by decide) kw_394 (zR Ω 19) (zfvF (off := 18) X.2.2.2 (hI.1 1 (by decide)) (hI.2 1 (by decide)) rfl rfl (by decide)) dX9_text_33 ?_
    obtain ⟨x_5, μ_6, hq36, h⟩ := bnd2_some h
    refine z_callV1 C X zk7 (hI.1 19 (by decide)) rfl (As := []) (M_X7_faultHere hI μ_4 hq36) zc_X7_faultHere kw_509 (zroom (by decide) (by decide)) rfl hl.1 rfl (Nat.le_of_ble_eq_true rfl) dX9_text_36 ⟨Nat.zero_le _, Nat.zero_le _⟩ (fun H locs g_36 X => ?_)
    refine lv_istore_n C.1 C.2.1 (lv' := [(3, zI x_5), (2, zI x_3), (0, zR Ω 1), (1, zI x1)]) dX9_text_39 rfl hl (by decide) rfl (fun ls hl => ?_)
    refine lv_aload_n C.1 C.2.1 dX9_text_40 rfl (lv_at hl 2 rfl) ?_
    refine z_get C X zk9 (hI.1 1 (by decide)) rfl 5 (by decide) kw_394 (zR Ω 19) (zfvF (off := 18) X.2.2.2 (hI.1 1 (by decide)) (hI.2 1 (by decide)) rfl rfl (by decide)) dX9_text_41 ?_
    obtain ⟨μ_7, hq44, h⟩ := bnd_some h
    refine z_callV0 C X zk7 (hI.1 19 (by decide)) rfl (As := []) (M_X7_wipe hI μ_6 hq44) zc_X7_wipe kw_513 (zroom (by decide) (by decide)) rfl hl.1 rfl (Nat.le_of_ble_eq_true rfl) dX9_text_44 ⟨Nat.zero_le _, Nat.zero_le _⟩ (fun H locs g_44 X => ?_)
    refine lv_iload_n C.1 C.2.1 dX9_text_47 rfl (lv_at hl 1 rfl) ?_
    refine z_ifne C (rgz g_28) (tgt := 53) dX9_text_48 (by decide) (fun hc48 => ?_) (fun hc48 => ?_)
    · rw [if_neg hc48] at h
      refine lv_aload_n C.1 C.2.1 dX9_text_53 rfl (lv_at hl 2 rfl) ?_
      refine z_get C X zk9 (hI.1 1 (by decide)) rfl 0 (by decide) kw_389 (zR Ω 2) (zfvF (off := 1) X.2.2.2 (hI.1 1 (by decide)) (hI.2 1 (by decide)) rfl rfl (by decide)) dX9_text_54 ?_
      refine lv_iload_n C.1 C.2.1 dX9_text_57 rfl (lv_at hl 3 rfl) ?_
      obtain ⟨hc58, h⟩ := chk_some h
      obtain ⟨hn58, h⟩ := chk_some h
      have o_58 := (zrg5 X.2.2.2 (hI.1 2 (by decide)) rfl (i := x1)).resolve_left hn58
      refine z_aald5 C X (hI.1 2 (by decide)) rfl hc58 dX9_text_58 ?_
      rw [zQ_pos Ω hn58]
      refine zlet_elim h (fun x_8 ex_8 h => ?_)
      rw [← ex_8] at o_58 ⊢
      clear hn58 ex_8
      refine lv_astore C.1 C.2.1 (lv' := [(4, zR Ω x_8), (3, zI x_5), (2, zI x_3), (0, zR Ω 1), (1, zI x1)]) dX9_text_59 hl (by decide) rfl (fun ls hl => ?_)
      refine lv_aload_n C.1 C.2.1 dX9_text_61 rfl (lv_at hl 3 rfl) ?_
      refine z_get C X zk9 (hI.1 1 (by decide)) rfl 0 (by decide) kw_389 (zR Ω 2) (zfvF (off := 1) X.2.2.2 (hI.1 1 (by decide)) (hI.2 1 (by decide)) rfl rfl (by decide)) dX9_text_62 ?_
      refine lv_iload_n C.1 C.2.1 dX9_text_65 rfl (lv_at hl 4 rfl) ?_
      refine lv_aload_n C.1 C.2.1 dX9_text_66 rfl (lv_at hl 3 rfl) ?_
      obtain ⟨hn67, h⟩ := chk_some h
      have o_67 : zob Ω.2.2.1 5 (μ_7 1 10) := (zrgf4 (ci := 9) X.2.2.2 (hI.1 1 (by decide)) rfl 10 5 rfl rfl).resolve_left hn67
      refine z_get C X zk9 (hI.1 1 (by decide)) rfl 10 (by decide) kw_399 (zQ Ω (μ_7 1 10)) rfl dX9_text_67 ?_
      rw [zQ_pos Ω hn67]
      refine zlet_elim h (fun x_9 ex_9 h => ?_)
      rw [← ex_9] at o_67 ⊢
      clear hn67 ex_9
      obtain ⟨hc70, h⟩ := chk_some h
      refine zlet_elim h (fun μ_10 em h => ?_)
      refine z_aast5 C X (hI.1 2 (by decide)) rfl hc70 o_67 (zob.ne o_67) (zo5 o_67) (zok5 rfl o_67) em dX9_text_70 (fun H locs X => ?_)
      clear em
      refine lv_aload_n C.1 C.2.1 dX9_text_71 rfl (lv_at hl 3 rfl) ?_
      refine lv_aload C.1 C.2.1 dX9_text_72 (lv_at hl 0 rfl) ?_
      refine zlet_elim h (fun μ_11 em h => ?_)
      refine z_putQ (co := 5) C X zk9 (hI.1 1 (by decide)) rfl 10 (by decide) kw_399 rfl rfl rfl rfl o_58 (zob.ne o_58) em dX9_text_74 (fun H locs X => ?_)
      clear em
      refine lv_aload_n C.1 C.2.1 dX9_text_77 rfl (lv_at hl 3 rfl) ?_
      refine z_get C X zk9 (hI.1 1 (by decide)) rfl 0 (by decide) kw_389 (zR Ω 2) (zfvF (off := 1) X.2.2.2 (hI.1 1 (by decide)) (hI.2 1 (by decide)) rfl rfl (by decide)) dX9_text_78 ?_
      refine lv_iload_n C.1 C.2.1 dX9_text_81 rfl (lv_at hl 4 rfl) ?_
      obtain ⟨hc82, h⟩ := chk_some h
      obtain ⟨hn82, h⟩ := chk_some h
      have o_82 := (zrg5 X.2.2.2 (hI.1 2 (by decide)) rfl (i := x1)).resolve_left hn82
      refine z_aald5 C X (hI.1 2 (by decide)) rfl hc82 dX9_text_82 ?_
      rw [zQ_pos Ω hn82]
      refine zlet_elim h (fun x_12 ex_12 h => ?_)
      rw [← ex_12] at o_82 ⊢
      clear hn82 ex_12
      obtain ⟨μ_13, hq83, h⟩ := bnd_some h
      refine z_callV0 C X zk5 (zob.self o_82) (zo5 o_82) (As := []) (M_X5_findPart μ_11 x_12 o_82 hq83) zc_X5_findPart kw_431 (zroom (by decide) (by decide)) rfl hl.1 rfl (Nat.le_of_ble_eq_true rfl) dX9_text_83 ⟨Nat.zero_le _, Nat.zero_le _⟩ (fun H locs g_83 X => ?_)
      refine lv_aload_n C.1 C.2.1 dX9_text_86 rfl (lv_at hl 3 rfl) ?_
      refine lv_iload_n C.1 C.2.1 dX9_text_87 rfl (lv_at hl 4 rfl) ?_
      obtain ⟨μ_14, hq88, h⟩ := bnd_some h
      refine z_callV0 C X zk9 (hI.1 1 (by decide)) rfl (As := [zI x1]) (M_X9_emptySlots hI μ_13 x1 gx1 hq88) zc_X9_emptySlots kw_432 (zroom (by decide) (by decide)) rfl hl.1 rfl (Nat.le_of_ble_eq_true rfl) dX9_text_88 ⟨Nat.zero_le _, Nat.zero_le _⟩ (fun H locs g_88 X => ?_)
      refine lv_aload_n C.1 C.2.1 dX9_text_91 rfl (lv_at hl 3 rfl) ?_
      refine z_get C X zk9 (hI.1 1 (by decide)) rfl 0 (by decide) kw_389 (zR Ω 2) (zfvF (off := 1) X.2.2.2 (hI.1 1 (by decide)) (hI.2 1 (by decide)) rfl rfl (by decide)) dX9_text_92 ?_
      refine lv_iload_n C.1 C.2.1 dX9_text_95 rfl (lv_at hl 4 rfl) ?_
      obtain ⟨hc96, h⟩ := chk_some h
      obtain ⟨hn96, h⟩ := chk_some h
      have o_96 := (zrg5 X.2.2.2 (hI.1 2 (by decide)) rfl (i := x1)).resolve_left hn96
      refine z_aald5 C X (hI.1 2 (by decide)) rfl hc96 dX9_text_96 ?_
      rw [zQ_pos Ω hn96]
      refine zlet_elim h (fun x_15 ex_15 h => ?_)
      rw [← ex_15] at o_96 ⊢
      clear hn96 ex_15
      have g_97 : Rg (μ_14 x_15 8) := zrgf0 (ci := 5) X.2.2.2 (zob.self o_96) (zo5 o_96) 8 rfl
      refine z_get C X zk5 (zob.self o_96) (zo5 o_96) 8 (by decide) kw_91 (zI (μ_14 x_15 8)) rfl dX9_text_97 ?_
      obtain ⟨rfl, rfl⟩ := Prod.mk.inj (Option.some.inj h)
      exact rt X g_97 dX9_text_100
    · rw [if_pos hc48] at h
      refine lv_iload_n C.1 C.2.1 dX9_text_51 rfl (lv_at hl 0 rfl) ?_
      obtain ⟨rfl, rfl⟩ := Prod.mk.inj (Option.some.inj h)
      exact rt X g_36 dX9_text_52
  · rw [if_pos hc4] at h
    refine z_iconst C dX9_text_7 ?_
    obtain ⟨rfl, rfl⟩ := Prod.mk.inj (Option.some.inj h)
    exact rt X ⟨by decide, by decide⟩ dX9_text_8
theorem zc_X9_text : zcal yX9_text cX9_text 5 (some Jvm.ClassFile.FieldType.int) RX9 1 := ⟨⟨kw_527, kw_525, kw_526, kw_1⟩, rfl, by decide, by decide, by decide +kernel⟩

def f_X9_seenSpace (x1 : Int) (μ : zMem) : Option Int :=
  if (f_X9_isOwn x1) = 0 then
    if x1 = 2 then
      if (f_X1_isLaid μ) = 0 then
        some 0
      else
        some 4
    else
      some 0
  else
    chk ((0 : Int) ≤ x1 ∧ x1 < 2) <|
    chk ((μ 2 x1) ≠ 0) <|
    zlet (μ 2 x1) fun x_1 =>
    some x_1
set_option maxHeartbeats 4000000 in
set_option maxRecDepth 100000 in
theorem M_X9_seenSpace {l : Launch} {Ω : zO} (hI : zIc Ω) (μ : zMem) (x1 : Int) {r : Int} (gx1 : Rg x1) (h : f_X9_seenSpace x1 μ = some r) : XMet l yX9_seenSpace cX9_seenSpace 2 (some (Jvm.ClassFile.FieldType.object "LoopSpaces$Space")) 1 Ω [zR Ω 1, zI x1] μ (some (zQ Ω r)) (r = 0 ∨ zob Ω.2.2.1 5 r) μ := by
  refine XMet.ofA (by decide) (Nat.le_of_ble_eq_true rfl) ?_
  intro p e s m args below meth c ls Q C rt X hl
  have C : zC p s m args c cX9_seenSpace RX9 2 Ω := C
  have hl : lv_has ls 2 [(0, zR Ω 1), (1, zI x1)] := hl
  unfold f_X9_seenSpace at h
  skip
  refine lv_iload_n C.1 C.2.1 dX9_seenSpace_0 rfl (lv_at hl 1 rfl) ?_
  refine z_callS1 C X (As := [zI x1]) (M_X9_isOwn hI μ x1 gx1) zc_X9_isOwn kw_427 (zroom (by decide) (by decide)) rfl hl.1 rfl (Nat.le_of_ble_eq_true rfl) dX9_seenSpace_1 ⟨Nat.zero_le _, Nat.zero_le _⟩ (fun H locs g_1 X => ?_)
  refine z_ifeq C (rgz g_1) (tgt := 14) dX9_seenSpace_4 (by decide) (fun hc4 => ?_) (fun hc4 => ?_)
  · rw [if_pos hc4] at h
    refine lv_iload_n C.1 C.2.1 dX9_seenSpace_14 rfl (lv_at hl 1 rfl) ?_
    refine z_iconst C dX9_seenSpace_15 ?_
    refine z_icmpne C gx1 ⟨by decide, by decide⟩ (tgt := 39) dX9_seenSpace_16 (by decide) (fun hc16 => ?_) (fun hc16 => ?_)
    · rw [if_neg hc16] at h
      refine lv_null C.1 C.2.1 dX9_seenSpace_39 ?_
      rw [← zQ_nul Ω (rfl : (0 : Int) = 0)]
      obtain rfl := Option.some.inj h
      exact rt X (Or.inl rfl) dX9_seenSpace_40
    · rw [if_pos hc16] at h
      refine lv_aload_n C.1 C.2.1 dX9_seenSpace_19 rfl (lv_at hl 0 rfl) ?_
      refine z_get C X zk9 (hI.1 1 (by decide)) rfl 1 (by decide) kw_390 (zR Ω 3) (zfvF (off := 2) X.2.2.2 (hI.1 1 (by decide)) (hI.2 1 (by decide)) rfl rfl (by decide)) dX9_seenSpace_20 ?_
      refine z_callV1 C X zk1 (hI.1 3 (by decide)) rfl (As := []) (M_X1_isLaid hI μ) zc_X1_isLaid kw_562 (zroom (by decide) (by decide)) rfl hl.1 rfl (Nat.le_of_ble_eq_true rfl) dX9_seenSpace_23 ⟨Nat.zero_le _, Nat.zero_le _⟩ (fun H locs g_23 X => ?_)
      refine z_ifeq C (rgz g_23) (tgt := 39) dX9_seenSpace_26 (by decide) (fun hc26 => ?_) (fun hc26 => ?_)
      · rw [if_pos hc26] at h
        refine lv_null C.1 C.2.1 dX9_seenSpace_39 ?_
        rw [← zQ_nul Ω (rfl : (0 : Int) = 0)]
        obtain rfl := Option.some.inj h
        exact rt X (Or.inl rfl) dX9_seenSpace_40
      · rw [if_neg hc26] at h
        refine lv_aload_n C.1 C.2.1 dX9_seenSpace_29 rfl (lv_at hl 0 rfl) ?_
        refine z_get C X zk9 (hI.1 1 (by decide)) rfl 1 (by decide) kw_390 (zR Ω 3) (zfvF (off := 2) X.2.2.2 (hI.1 1 (by decide)) (hI.2 1 (by decide)) rfl rfl (by decide)) dX9_seenSpace_30 ?_
        refine z_get C X zk1 (hI.1 3 (by decide)) rfl 0 (by decide) kw_126 (zR Ω 4) (zfvF (off := 1) X.2.2.2 (hI.1 3 (by decide)) (hI.2 3 (by decide)) rfl rfl (by decide)) dX9_seenSpace_33 ?_
        refine lv_goto (tgt := 40) C.1 C.2.1 dX9_seenSpace_36 (by decide) ?_
        rw [← zQ_pos Ω (zob.ne (zoc5 hI 4 rfl (by decide)))]
        obtain rfl := Option.some.inj h
        exact rt X (Or.inr (zoc5 hI 4 rfl (by decide))) dX9_seenSpace_40
  · rw [if_neg hc4] at h
    refine lv_aload_n C.1 C.2.1 dX9_seenSpace_7 rfl (lv_at hl 0 rfl) ?_
    refine z_get C X zk9 (hI.1 1 (by decide)) rfl 0 (by decide) kw_389 (zR Ω 2) (zfvF (off := 1) X.2.2.2 (hI.1 1 (by decide)) (hI.2 1 (by decide)) rfl rfl (by decide)) dX9_seenSpace_8 ?_
    refine lv_iload_n C.1 C.2.1 dX9_seenSpace_11 rfl (lv_at hl 1 rfl) ?_
    obtain ⟨hc12, h⟩ := chk_some h
    obtain ⟨hn12, h⟩ := chk_some h
    have o_12 := (zrg5 X.2.2.2 (hI.1 2 (by decide)) rfl (i := x1)).resolve_left hn12
    refine z_aald5 C X (hI.1 2 (by decide)) rfl hc12 dX9_seenSpace_12 ?_
    rw [zQ_pos Ω hn12]
    refine zlet_elim h (fun x_1 ex_1 h => ?_)
    rw [← ex_1] at o_12 ⊢
    clear hn12 ex_1
    rw [← zQ_pos Ω (zob.ne o_12)]
    obtain rfl := Option.some.inj h
    exact rt X (Or.inr o_12) dX9_seenSpace_13
theorem zc_X9_seenSpace : zcal yX9_seenSpace cX9_seenSpace 2 (some (Jvm.ClassFile.FieldType.object "LoopSpaces$Space")) RX9 1 := ⟨⟨kw_561, kw_560, kp_10, kw_1⟩, rfl, by decide, by decide, by decide +kernel⟩

def f_X9_count (x1 : Int) (x2 : Int) (μ : zMem) : Option Int :=
  bnd (f_X9_seenSpace x1 μ) fun x_1 =>
  if x_1 = 0 then
    some (-1001)
  else
    if x2 = 0 then
      some (μ x_1 6)
    else
      if x2 = 1 then
        some (μ x_1 7)
      else
        if x2 = 2 then
          some (μ x_1 8)
        else
          if x2 = 3 then
            some (zw ((zw ((μ x_1 6) - (μ x_1 7))) + (μ x_1 8)))
          else
            if x2 = 4 then
              some (μ x_1 9)
            else
              if x2 = 5 then
                some (μ x_1 10)
              else
                some (-1001)
set_option maxHeartbeats 4000000 in
set_option maxRecDepth 100000 in
theorem M_X9_count {l : Launch} {Ω : zO} (hI : zIc Ω) (μ : zMem) (x1 : Int) (x2 : Int) {r : Int} (gx1 : Rg x1) (gx2 : Rg x2) (h : f_X9_count x1 x2 μ = some r) : XMet l yX9_count cX9_count 4 (some Jvm.ClassFile.FieldType.int) 2 Ω [zR Ω 1, zI x1, zI x2] μ (some (zI r)) (Rg r) μ := by
  refine XMet.ofI (by decide) (Nat.le_of_ble_eq_true rfl) ?_
  intro p e s m args below meth c ls Q C rt X hl
  have C : zC p s m args c cX9_count RX9 4 Ω := C
  have hl : lv_has ls 4 [(0, zR Ω 1), (1, zI x1), (2, zI x2)] := hl
  unfold f_X9_count at h
  skip
  refine lv_aload_n C.1 C.2.1 dX9_count_0 rfl (lv_at hl 0 rfl) ?_
  refine lv_iload_n C.1 C.2.1 dX9_count_1 rfl (lv_at hl 1 rfl) ?_
  obtain ⟨x_1, hq2, h⟩ := bnd_some h
  refine z_callV1 C X zk9 (hI.1 1 (by decide)) rfl (As := [zI x1]) (M_X9_seenSpace hI μ x1 gx1 hq2) zc_X9_seenSpace kw_558 (zroom (by decide) (by decide)) rfl hl.1 rfl (Nat.le_of_ble_eq_true rfl) dX9_count_2 ⟨Nat.zero_le _, Nat.zero_le _⟩ (fun H locs g_2 X => ?_)
  refine z_astore_nQ C (lv' := [(3, zQ Ω x_1), (0, zR Ω 1), (1, zI x1), (2, zI x2)]) dX9_count_5 rfl hl (by decide) rfl (fun ls hl => ?_)
  refine z_aload_nQ C dX9_count_6 rfl (lv_at hl 0 rfl) ?_
  refine z_ifnonnull C (tgt := 14) dX9_count_7 (by decide) (fun hc7 => ?_) (fun hc7 => ?_)
  · rw [if_neg hc7] at h
    have o_7 := (g_2).resolve_left hc7
    rw [zQ_pos Ω hc7] at hl
    refine lv_iload_n C.1 C.2.1 dX9_count_14 rfl (lv_at hl 3 rfl) ?_
    by_cases hs15_0 : x2 = 0
    · rw [if_pos hs15_0] at h
      refine z_tabI C gx2 hs15_0 (tgt := 52) dX9_count_15 (by decide) (by decide) rfl (by decide) ?_
      refine lv_aload_n C.1 C.2.1 dX9_count_52 rfl (lv_at hl 0 rfl) ?_
      have g_53 : Rg (μ x_1 6) := zrgf0 (ci := 5) X.2.2.2 (zob.self o_7) (zo5 o_7) 6 rfl
      refine z_get C X zk5 (zob.self o_7) (zo5 o_7) 6 (by decide) kw_79 (zI (μ x_1 6)) rfl dX9_count_53 ?_
      obtain rfl := Option.some.inj h
      exact rt X g_53 dX9_count_56
    · rw [if_neg hs15_0] at h
      by_cases hs15_1 : x2 = 1
      · rw [if_pos hs15_1] at h
        refine z_tabI C gx2 hs15_1 (tgt := 57) dX9_count_15 (by decide) (by decide) rfl (by decide) ?_
        refine lv_aload_n C.1 C.2.1 dX9_count_57 rfl (lv_at hl 0 rfl) ?_
        have g_58 : Rg (μ x_1 7) := zrgf0 (ci := 5) X.2.2.2 (zob.self o_7) (zo5 o_7) 7 rfl
        refine z_get C X zk5 (zob.self o_7) (zo5 o_7) 7 (by decide) kw_84 (zI (μ x_1 7)) rfl dX9_count_58 ?_
        obtain rfl := Option.some.inj h
        exact rt X g_58 dX9_count_61
      · rw [if_neg hs15_1] at h
        by_cases hs15_2 : x2 = 2
        · rw [if_pos hs15_2] at h
          refine z_tabI C gx2 hs15_2 (tgt := 62) dX9_count_15 (by decide) (by decide) rfl (by decide) ?_
          refine lv_aload_n C.1 C.2.1 dX9_count_62 rfl (lv_at hl 0 rfl) ?_
          have g_63 : Rg (μ x_1 8) := zrgf0 (ci := 5) X.2.2.2 (zob.self o_7) (zo5 o_7) 8 rfl
          refine z_get C X zk5 (zob.self o_7) (zo5 o_7) 8 (by decide) kw_91 (zI (μ x_1 8)) rfl dX9_count_63 ?_
          obtain rfl := Option.some.inj h
          exact rt X g_63 dX9_count_66
        · rw [if_neg hs15_2] at h
          by_cases hs15_3 : x2 = 3
          · rw [if_pos hs15_3] at h
            refine z_tabI C gx2 hs15_3 (tgt := 67) dX9_count_15 (by decide) (by decide) rfl (by decide) ?_
            refine lv_aload_n C.1 C.2.1 dX9_count_67 rfl (lv_at hl 0 rfl) ?_
            have g_68 : Rg (μ x_1 6) := zrgf0 (ci := 5) X.2.2.2 (zob.self o_7) (zo5 o_7) 6 rfl
            refine z_get C X zk5 (zob.self o_7) (zo5 o_7) 6 (by decide) kw_79 (zI (μ x_1 6)) rfl dX9_count_68 ?_
            refine lv_aload_n C.1 C.2.1 dX9_count_71 rfl (lv_at hl 0 rfl) ?_
            have g_72 : Rg (μ x_1 7) := zrgf0 (ci := 5) X.2.2.2 (zob.self o_7) (zo5 o_7) 7 rfl
            refine z_get C X zk5 (zob.self o_7) (zo5 o_7) 7 (by decide) kw_84 (zI (μ x_1 7)) rfl dX9_count_72 ?_
            refine z_isub C dX9_count_75 ?_
            refine lv_aload_n C.1 C.2.1 dX9_count_76 rfl (lv_at hl 0 rfl) ?_
            have g_77 : Rg (μ x_1 8) := zrgf0 (ci := 5) X.2.2.2 (zob.self o_7) (zo5 o_7) 8 rfl
            refine z_get C X zk5 (zob.self o_7) (zo5 o_7) 8 (by decide) kw_91 (zI (μ x_1 8)) rfl dX9_count_77 ?_
            refine z_iadd C dX9_count_80 ?_
            obtain rfl := Option.some.inj h
            exact rt X (Rg.w _) dX9_count_81
          · rw [if_neg hs15_3] at h
            by_cases hs15_4 : x2 = 4
            · rw [if_pos hs15_4] at h
              refine z_tabI C gx2 hs15_4 (tgt := 82) dX9_count_15 (by decide) (by decide) rfl (by decide) ?_
              refine lv_aload_n C.1 C.2.1 dX9_count_82 rfl (lv_at hl 0 rfl) ?_
              have g_83 : Rg (μ x_1 9) := zrgf0 (ci := 5) X.2.2.2 (zob.self o_7) (zo5 o_7) 9 rfl
              refine z_get C X zk5 (zob.self o_7) (zo5 o_7) 9 (by decide) kw_95 (zI (μ x_1 9)) rfl dX9_count_83 ?_
              obtain rfl := Option.some.inj h
              exact rt X g_83 dX9_count_86
            · rw [if_neg hs15_4] at h
              by_cases hs15_5 : x2 = 5
              · rw [if_pos hs15_5] at h
                refine z_tabI C gx2 hs15_5 (tgt := 87) dX9_count_15 (by decide) (by decide) rfl (by decide) ?_
                refine lv_aload_n C.1 C.2.1 dX9_count_87 rfl (lv_at hl 0 rfl) ?_
                have g_88 : Rg (μ x_1 10) := zrgf0 (ci := 5) X.2.2.2 (zob.self o_7) (zo5 o_7) 10 rfl
                refine z_get C X zk5 (zob.self o_7) (zo5 o_7) 10 (by decide) kw_98 (zI (μ x_1 10)) rfl dX9_count_88 ?_
                obtain rfl := Option.some.inj h
                exact rt X g_88 dX9_count_91
              · rw [if_neg hs15_5] at h
                refine z_tabO C gx2 (tgt := 92) dX9_count_15 (by omega) (by decide) ?_
                refine z_sipush C dX9_count_92 (by decide) ?_
                obtain rfl := Option.some.inj h
                exact rt X ⟨by decide, by decide⟩ dX9_count_95
  · rw [if_pos hc7] at h
    refine z_sipush C dX9_count_10 (by decide) ?_
    obtain rfl := Option.some.inj h
    exact rt X ⟨by decide, by decide⟩ dX9_count_13
theorem zc_X9_count : zcal yX9_count cX9_count 4 (some Jvm.ClassFile.FieldType.int) RX9 2 := ⟨⟨kw_557, kw_555, kw_556, kw_1⟩, rfl, by decide, by decide, by decide +kernel⟩

def f_X9_told (x1 : Int) (x2 : Int) (x3 : Int) (μ : zMem) : Option Int :=
  bnd (f_X9_seenSpace x1 μ) fun x_1 =>
  if x_1 = 0 then
    some (-1)
  else
    if x2 < 0 then
      some (-1)
    else
      if x2 < (μ x_1 7) then
        if x3 = 0 then
          chk ((0 : Int) ≤ x2 ∧ x2 < zlen (x_1 + 1)) <|
          some (μ (x_1 + 1) x2)
        else
          if x3 = 1 then
            chk ((0 : Int) ≤ x2 ∧ x2 < zlen (x_1 + 2)) <|
            some (μ (x_1 + 2) x2)
          else
            if x3 = 2 then
              chk ((0 : Int) ≤ x2 ∧ x2 < zlen (x_1 + 3)) <|
              if (μ (x_1 + 3) x2) = (-1) then
                some 1
              else
                some 0
            else
              some (-1)
      else
        some (-1)
set_option maxHeartbeats 4000000 in
set_option maxRecDepth 100000 in
theorem M_X9_told {l : Launch} {Ω : zO} (hI : zIc Ω) (μ : zMem) (x1 : Int) (x2 : Int) (x3 : Int) {r : Int} (gx1 : Rg x1) (gx2 : Rg x2) (gx3 : Rg x3) (h : f_X9_told x1 x2 x3 μ = some r) : XMet l yX9_told cX9_told 5 (some Jvm.ClassFile.FieldType.int) 2 Ω [zR Ω 1, zI x1, zI x2, zI x3] μ (some (zI r)) (Rg r) μ := by
  refine XMet.ofI (by decide) (Nat.le_of_ble_eq_true rfl) ?_
  intro p e s m args below meth c ls Q C rt X hl
  have C : zC p s m args c cX9_told RX9 5 Ω := C
  have hl : lv_has ls 5 [(0, zR Ω 1), (1, zI x1), (2, zI x2), (3, zI x3)] := hl
  unfold f_X9_told at h
  skip
  refine lv_aload_n C.1 C.2.1 dX9_told_0 rfl (lv_at hl 0 rfl) ?_
  refine lv_iload_n C.1 C.2.1 dX9_told_1 rfl (lv_at hl 1 rfl) ?_
  obtain ⟨x_1, hq2, h⟩ := bnd_some h
  refine z_callV1 C X zk9 (hI.1 1 (by decide)) rfl (As := [zI x1]) (M_X9_seenSpace hI μ x1 gx1 hq2) zc_X9_seenSpace kw_558 (zroom (by decide) (by decide)) rfl hl.1 rfl (Nat.le_of_ble_eq_true rfl) dX9_told_2 ⟨Nat.zero_le _, Nat.zero_le _⟩ (fun H locs g_2 X => ?_)
  refine z_astoreQ C (lv' := [(4, zQ Ω x_1), (0, zR Ω 1), (1, zI x1), (2, zI x2), (3, zI x3)]) dX9_told_5 hl (by decide) rfl (fun ls hl => ?_)
  refine z_aloadQ C dX9_told_7 (lv_at hl 0 rfl) ?_
  refine z_ifnull C (tgt := 25) dX9_told_9 (by decide) (fun hc9 => ?_) (fun hc9 => ?_)
  · rw [if_pos hc9] at h
    refine z_iconst C dX9_told_25 ?_
    obtain rfl := Option.some.inj h
    exact rt X ⟨by decide, by decide⟩ dX9_told_26
  · rw [if_neg hc9] at h
    have o_9 := (g_2).resolve_left hc9
    rw [zQ_pos Ω hc9] at hl
    refine lv_iload_n C.1 C.2.1 dX9_told_12 rfl (lv_at hl 3 rfl) ?_
    refine z_iflt C gx2 (tgt := 25) dX9_told_13 (by decide) (fun hc13 => ?_) (fun hc13 => ?_)
    · rw [if_pos hc13] at h
      refine z_iconst C dX9_told_25 ?_
      obtain rfl := Option.some.inj h
      exact rt X ⟨by decide, by decide⟩ dX9_told_26
    · rw [if_neg hc13] at h
      refine lv_iload_n C.1 C.2.1 dX9_told_16 rfl (lv_at hl 3 rfl) ?_
      refine lv_aload C.1 C.2.1 dX9_told_17 (lv_at hl 0 rfl) ?_
      have g_19 : Rg (μ x_1 7) := zrgf0 (ci := 5) X.2.2.2 (zob.self o_9) (zo5 o_9) 7 rfl
      refine z_get C X zk5 (zob.self o_9) (zo5 o_9) 7 (by decide) kw_84 (zI (μ x_1 7)) rfl dX9_told_19 ?_
      refine z_icmplt C gx2 g_19 (tgt := 27) dX9_told_22 (by decide) (fun hc22 => ?_) (fun hc22 => ?_)
      · rw [if_pos hc22] at h
        refine lv_iload_n C.1 C.2.1 dX9_told_27 rfl (lv_at hl 4 rfl) ?_
        by_cases hs28_0 : x3 = 0
        · rw [if_pos hs28_0] at h
          refine z_tabI C gx3 hs28_0 (tgt := 56) dX9_told_28 (by decide) (by decide) rfl (by decide) ?_
          refine lv_aload C.1 C.2.1 dX9_told_56 (lv_at hl 0 rfl) ?_
          refine z_get C X zk5 (zob.self o_9) (zo5 o_9) 0 (by decide) kw_59 (zR Ω (x_1 + 1)) (zfvF (off := 1) X.2.2.2 (zob.self o_9) o_9.2.2 (zo5 o_9) rfl (by rw [zo5_1 o_9]; decide)) dX9_told_58 ?_
          refine lv_iload_n C.1 C.2.1 dX9_told_61 rfl (lv_at hl 3 rfl) ?_
          obtain ⟨hc62, h⟩ := chk_some h
          have g_62 : Rg (μ (x_1 + 1) x2) := zrg1 X.2.2.2 (o_9.2.1 1 (by decide) (by decide)) (zo5_1 o_9)
          refine z_iald C X (o_9.2.1 1 (by decide) (by decide)) (zo5_1 o_9) hc62 dX9_told_62 ?_
          obtain rfl := Option.some.inj h
          exact rt X g_62 dX9_told_63
        · rw [if_neg hs28_0] at h
          by_cases hs28_1 : x3 = 1
          · rw [if_pos hs28_1] at h
            refine z_tabI C gx3 hs28_1 (tgt := 64) dX9_told_28 (by decide) (by decide) rfl (by decide) ?_
            refine lv_aload C.1 C.2.1 dX9_told_64 (lv_at hl 0 rfl) ?_
            refine z_get C X zk5 (zob.self o_9) (zo5 o_9) 1 (by decide) kw_62 (zR Ω (x_1 + 2)) (zfvF (off := 2) X.2.2.2 (zob.self o_9) o_9.2.2 (zo5 o_9) rfl (by rw [zo5_2 o_9]; decide)) dX9_told_66 ?_
            refine lv_iload_n C.1 C.2.1 dX9_told_69 rfl (lv_at hl 3 rfl) ?_
            obtain ⟨hc70, h⟩ := chk_some h
            have g_70 : Rg (μ (x_1 + 2) x2) := zrg1 X.2.2.2 (o_9.2.1 2 (by decide) (by decide)) (zo5_2 o_9)
            refine z_iald C X (o_9.2.1 2 (by decide) (by decide)) (zo5_2 o_9) hc70 dX9_told_70 ?_
            obtain rfl := Option.some.inj h
            exact rt X g_70 dX9_told_71
          · rw [if_neg hs28_1] at h
            by_cases hs28_2 : x3 = 2
            · rw [if_pos hs28_2] at h
              refine z_tabI C gx3 hs28_2 (tgt := 72) dX9_told_28 (by decide) (by decide) rfl (by decide) ?_
              refine lv_aload C.1 C.2.1 dX9_told_72 (lv_at hl 0 rfl) ?_
              refine z_get C X zk5 (zob.self o_9) (zo5 o_9) 2 (by decide) kw_67 (zR Ω (x_1 + 3)) (zfvF (off := 3) X.2.2.2 (zob.self o_9) o_9.2.2 (zo5 o_9) rfl (by rw [zo5_3 o_9]; decide)) dX9_told_74 ?_
              refine lv_iload_n C.1 C.2.1 dX9_told_77 rfl (lv_at hl 3 rfl) ?_
              obtain ⟨hc78, h⟩ := chk_some h
              have g_78 : Rg (μ (x_1 + 3) x2) := zrg1 X.2.2.2 (o_9.2.1 3 (by decide) (by decide)) (zo5_3 o_9)
              refine z_iald C X (o_9.2.1 3 (by decide) (by decide)) (zo5_3 o_9) hc78 dX9_told_78 ?_
              refine z_iconst C dX9_told_79 ?_
              refine z_icmpne C g_78 ⟨by decide, by decide⟩ (tgt := 87) dX9_told_80 (by decide) (fun hc80 => ?_) (fun hc80 => ?_)
              · rw [if_neg hc80] at h
                refine z_iconst C dX9_told_87 ?_
                obtain rfl := Option.some.inj h
                exact rt X ⟨by decide, by decide⟩ dX9_told_88
              · rw [if_pos hc80] at h
                refine z_iconst C dX9_told_83 ?_
                refine lv_goto (tgt := 88) C.1 C.2.1 dX9_told_84 (by decide) ?_
                obtain rfl := Option.some.inj h
                exact rt X ⟨by decide, by decide⟩ dX9_told_88
            · rw [if_neg hs28_2] at h
              refine z_tabO C gx3 (tgt := 89) dX9_told_28 (by omega) (by decide) ?_
              refine z_iconst C dX9_told_89 ?_
              obtain rfl := Option.some.inj h
              exact rt X ⟨by decide, by decide⟩ dX9_told_90
      · rw [if_neg hc22] at h
        refine z_iconst C dX9_told_25 ?_
        obtain rfl := Option.some.inj h
        exact rt X ⟨by decide, by decide⟩ dX9_told_26
theorem zc_X9_told : zcal yX9_told cX9_told 5 (some Jvm.ClassFile.FieldType.int) RX9 3 := ⟨⟨kw_569, kw_567, kw_568, kw_1⟩, rfl, by decide, by decide, by decide +kernel⟩

