def f_X9_join (μ : zMem) : Option (Int × zMem) :=
  chk ((μ 2 0) ≠ 0) <|
  zlet (μ 2 0) fun x_1 =>
  chk ((μ 2 1) ≠ 0) <|
  zlet (μ 2 1) fun x_2 =>
  if (zw ((zw ((μ x_1 6) + (μ x_2 6))) - 1)) ≤ 8 then
    if (zw ((μ x_1 7) + (μ x_2 7))) ≤ 12 then
      if (zw ((μ x_1 8) + (μ x_2 8))) ≤ 8 then
        bnd (f_X5_takeIn x_1 x_2 μ) fun μ_3 =>
        bnd (f_X5_findPart x_1 μ_3) fun μ_4 =>
        bnd (f_X9_emptySlots 0 μ_4) fun μ_5 =>
        some ((μ_5 x_1 6), μ_5)
      else
        some ((-3), μ)
    else
      some ((-3), μ)
  else
    some ((-3), μ)
set_option maxHeartbeats 4000000 in
set_option maxRecDepth 100000 in
theorem M_X9_join {l : Launch} {Ω : zO} (hI : zIc Ω) (μ : zMem) {r : Int} {μ' : zMem} (h : f_X9_join μ = some (r, μ')) : XMet l yX9_join cX9_join 3 (some Jvm.ClassFile.FieldType.int) 2 Ω [zR Ω 1] μ (some (zI r)) (Rg r) μ' := by
  refine XMet.ofI (by decide) (Nat.le_of_ble_eq_true rfl) ?_
  intro p e s m args below meth c ls Q C rt X hl
  have C : zC p s m args c cX9_join RX9 3 Ω := C
  have hl : lv_has ls 3 [(0, zR Ω 1)] := hl
  unfold f_X9_join at h
  skip
  refine lv_aload_n C.1 C.2.1 dX9_join_0 rfl (lv_at hl 0 rfl) ?_
  refine z_get C X zk9 (hI.1 1 (by decide)) rfl 0 (by decide) kw_389 (zR Ω 2) (zfvF (off := 1) X.2.2.2 (hI.1 1 (by decide)) (hI.2 1 (by decide)) rfl rfl (by decide)) dX9_join_1 ?_
  refine z_iconst C dX9_join_4 ?_
  obtain ⟨hn5, h⟩ := chk_some h
  have o_5 := (zrg5 X.2.2.2 (hI.1 2 (by decide)) rfl (i := 0)).resolve_left hn5
  refine z_aald5 C X (hI.1 2 (by decide)) rfl (by decide) dX9_join_5 ?_
  rw [zQ_pos Ω hn5]
  refine zlet_elim h (fun x_1 ex_1 h => ?_)
  rw [← ex_1] at o_5 ⊢
  clear hn5 ex_1
  refine lv_astore_n C.1 C.2.1 (lv' := [(1, zR Ω x_1), (0, zR Ω 1)]) dX9_join_6 rfl hl (by decide) rfl (fun ls hl => ?_)
  refine lv_aload_n C.1 C.2.1 dX9_join_7 rfl (lv_at hl 1 rfl) ?_
  refine z_get C X zk9 (hI.1 1 (by decide)) rfl 0 (by decide) kw_389 (zR Ω 2) (zfvF (off := 1) X.2.2.2 (hI.1 1 (by decide)) (hI.2 1 (by decide)) rfl rfl (by decide)) dX9_join_8 ?_
  refine z_iconst C dX9_join_11 ?_
  obtain ⟨hn12, h⟩ := chk_some h
  have o_12 := (zrg5 X.2.2.2 (hI.1 2 (by decide)) rfl (i := 1)).resolve_left hn12
  refine z_aald5 C X (hI.1 2 (by decide)) rfl (by decide) dX9_join_12 ?_
  rw [zQ_pos Ω hn12]
  refine zlet_elim h (fun x_2 ex_2 h => ?_)
  rw [← ex_2] at o_12 ⊢
  clear hn12 ex_2
  refine lv_astore_n C.1 C.2.1 (lv' := [(2, zR Ω x_2), (1, zR Ω x_1), (0, zR Ω 1)]) dX9_join_13 rfl hl (by decide) rfl (fun ls hl => ?_)
  refine lv_aload_n C.1 C.2.1 dX9_join_14 rfl (lv_at hl 1 rfl) ?_
  have g_15 : Rg (μ x_1 6) := zrgf0 (ci := 5) X.2.2.2 (zob.self o_5) (zo5 o_5) 6 rfl
  refine z_get C X zk5 (zob.self o_5) (zo5 o_5) 6 (by decide) kw_79 (zI (μ x_1 6)) rfl dX9_join_15 ?_
  refine lv_aload_n C.1 C.2.1 dX9_join_18 rfl (lv_at hl 0 rfl) ?_
  have g_19 : Rg (μ x_2 6) := zrgf0 (ci := 5) X.2.2.2 (zob.self o_12) (zo5 o_12) 6 rfl
  refine z_get C X zk5 (zob.self o_12) (zo5 o_12) 6 (by decide) kw_79 (zI (μ x_2 6)) rfl dX9_join_19 ?_
  refine z_iadd C dX9_join_22 ?_
  refine z_iconst C dX9_join_23 ?_
  refine z_isub C dX9_join_24 ?_
  refine z_bipush C dX9_join_25 (by decide) ?_
  refine z_icmpgt C (Rg.w _) ⟨by decide, by decide⟩ (tgt := 58) dX9_join_27 (by decide) (fun hc27 => ?_) (fun hc27 => ?_)
  · rw [if_neg hc27] at h
    refine z_bipush C dX9_join_58 (by decide) ?_
    obtain ⟨rfl, rfl⟩ := Prod.mk.inj (Option.some.inj h)
    exact rt X ⟨by decide, by decide⟩ dX9_join_60
  · rw [if_pos hc27] at h
    refine lv_aload_n C.1 C.2.1 dX9_join_30 rfl (lv_at hl 1 rfl) ?_
    have g_31 : Rg (μ x_1 7) := zrgf0 (ci := 5) X.2.2.2 (zob.self o_5) (zo5 o_5) 7 rfl
    refine z_get C X zk5 (zob.self o_5) (zo5 o_5) 7 (by decide) kw_84 (zI (μ x_1 7)) rfl dX9_join_31 ?_
    refine lv_aload_n C.1 C.2.1 dX9_join_34 rfl (lv_at hl 0 rfl) ?_
    have g_35 : Rg (μ x_2 7) := zrgf0 (ci := 5) X.2.2.2 (zob.self o_12) (zo5 o_12) 7 rfl
    refine z_get C X zk5 (zob.self o_12) (zo5 o_12) 7 (by decide) kw_84 (zI (μ x_2 7)) rfl dX9_join_35 ?_
    refine z_iadd C dX9_join_38 ?_
    refine z_bipush C dX9_join_39 (by decide) ?_
    refine z_icmpgt C (Rg.w _) ⟨by decide, by decide⟩ (tgt := 58) dX9_join_41 (by decide) (fun hc41 => ?_) (fun hc41 => ?_)
    · rw [if_neg hc41] at h
      refine z_bipush C dX9_join_58 (by decide) ?_
      obtain ⟨rfl, rfl⟩ := Prod.mk.inj (Option.some.inj h)
      exact rt X ⟨by decide, by decide⟩ dX9_join_60
    · rw [if_pos hc41] at h
      refine lv_aload_n C.1 C.2.1 dX9_join_44 rfl (lv_at hl 1 rfl) ?_
      have g_45 : Rg (μ x_1 8) := zrgf0 (ci := 5) X.2.2.2 (zob.self o_5) (zo5 o_5) 8 rfl
      refine z_get C X zk5 (zob.self o_5) (zo5 o_5) 8 (by decide) kw_91 (zI (μ x_1 8)) rfl dX9_join_45 ?_
      refine lv_aload_n C.1 C.2.1 dX9_join_48 rfl (lv_at hl 0 rfl) ?_
      have g_49 : Rg (μ x_2 8) := zrgf0 (ci := 5) X.2.2.2 (zob.self o_12) (zo5 o_12) 8 rfl
      refine z_get C X zk5 (zob.self o_12) (zo5 o_12) 8 (by decide) kw_91 (zI (μ x_2 8)) rfl dX9_join_49 ?_
      refine z_iadd C dX9_join_52 ?_
      refine z_bipush C dX9_join_53 (by decide) ?_
      refine z_icmple C (Rg.w _) ⟨by decide, by decide⟩ (tgt := 61) dX9_join_55 (by decide) (fun hc55 => ?_) (fun hc55 => ?_)
      · rw [if_pos hc55] at h
        refine lv_aload_n C.1 C.2.1 dX9_join_61 rfl (lv_at hl 1 rfl) ?_
        refine lv_aload_n C.1 C.2.1 dX9_join_62 rfl (lv_at hl 0 rfl) ?_
        obtain ⟨μ_3, hq63, h⟩ := bnd_some h
        refine z_callV0 C X zk5 (zob.self o_5) (zo5 o_5) (As := [zR Ω x_2]) (M_X5_takeIn μ x_1 x_2 o_5 o_12 hq63) zc_X5_takeIn kw_996 (zroom (by decide) (by decide)) rfl hl.1 rfl (Nat.le_of_ble_eq_true rfl) dX9_join_63 ⟨Nat.zero_le _, Nat.zero_le _⟩ (fun H locs g_63 X => ?_)
        refine lv_aload_n C.1 C.2.1 dX9_join_66 rfl (lv_at hl 1 rfl) ?_
        obtain ⟨μ_4, hq67, h⟩ := bnd_some h
        refine z_callV0 C X zk5 (zob.self o_5) (zo5 o_5) (As := []) (M_X5_findPart μ_3 x_1 o_5 hq67) zc_X5_findPart kw_431 (zroom (by decide) (by decide)) rfl hl.1 rfl (Nat.le_of_ble_eq_true rfl) dX9_join_67 ⟨Nat.zero_le _, Nat.zero_le _⟩ (fun H locs g_67 X => ?_)
        refine lv_aload_n C.1 C.2.1 dX9_join_70 rfl (lv_at hl 2 rfl) ?_
        refine z_iconst C dX9_join_71 ?_
        obtain ⟨μ_5, hq72, h⟩ := bnd_some h
        refine z_callV0 C X zk9 (hI.1 1 (by decide)) rfl (As := [zI 0]) (M_X9_emptySlots hI μ_4 0 ⟨by decide, by decide⟩ hq72) zc_X9_emptySlots kw_432 (zroom (by decide) (by decide)) rfl hl.1 rfl (Nat.le_of_ble_eq_true rfl) dX9_join_72 ⟨Nat.zero_le _, Nat.zero_le _⟩ (fun H locs g_72 X => ?_)
        refine lv_aload_n C.1 C.2.1 dX9_join_75 rfl (lv_at hl 1 rfl) ?_
        have g_76 : Rg (μ_5 x_1 6) := zrgf0 (ci := 5) X.2.2.2 (zob.self o_5) (zo5 o_5) 6 rfl
        refine z_get C X zk5 (zob.self o_5) (zo5 o_5) 6 (by decide) kw_79 (zI (μ_5 x_1 6)) rfl dX9_join_76 ?_
        obtain ⟨rfl, rfl⟩ := Prod.mk.inj (Option.some.inj h)
        exact rt X g_76 dX9_join_79
      · rw [if_neg hc55] at h
        refine z_bipush C dX9_join_58 (by decide) ?_
        obtain ⟨rfl, rfl⟩ := Prod.mk.inj (Option.some.inj h)
        exact rt X ⟨by decide, by decide⟩ dX9_join_60
theorem zc_X9_join : zcal yX9_join cX9_join 3 (some Jvm.ClassFile.FieldType.int) RX9 0 := ⟨⟨kw_995, kw_993, kw_994, kw_1⟩, rfl, by decide, by decide, by decide +kernel⟩

def f_X9_sheet (x1 : Int) (x2 : Int) (x3 : Int) (μ : zMem) : Option (Int × zMem) :=
  if (f_X9_isSheet x1) = 0 then
    some ((-1), μ)
  else
    if (f_X9_isLane x2) = 0 then
      some ((-1), μ)
    else
      if x3 ≤ 20 then
        if x3 < 0 then
          some ((-14), μ)
        else
          chk ((0 : Int) ≤ x1 ∧ x1 < 4) <|
          chk ((μ 17 x1) ≠ 0) <|
          zlet (μ 17 x1) fun x_1 =>
          bnd (f_X3_renew x_1 x2 x3 μ) fun μ_2 =>
          some (x3, μ_2)
      else
        some ((-1), μ)
set_option maxHeartbeats 4000000 in
set_option maxRecDepth 100000 in
theorem M_X9_sheet {l : Launch} {Ω : zO} (hI : zIc Ω) (μ : zMem) (x1 : Int) (x2 : Int) (x3 : Int) {r : Int} {μ' : zMem} (gx1 : Rg x1) (gx2 : Rg x2) (gx3 : Rg x3) (h : f_X9_sheet x1 x2 x3 μ = some (r, μ')) : XMet l yX9_sheet cX9_sheet 4 (some Jvm.ClassFile.FieldType.int) 2 Ω [zR Ω 1, zI x1, zI x2, zI x3] μ (some (zI r)) (Rg r) μ' := by
  refine XMet.ofI (by decide) (Nat.le_of_ble_eq_true rfl) ?_
  intro p e s m args below meth c ls Q C rt X hl
  have C : zC p s m args c cX9_sheet RX9 4 Ω := C
  have hl : lv_has ls 4 [(0, zR Ω 1), (1, zI x1), (2, zI x2), (3, zI x3)] := hl
  unfold f_X9_sheet at h
  skip
  refine lv_iload_n C.1 C.2.1 dX9_sheet_0 rfl (lv_at hl 1 rfl) ?_
  refine z_callS1 C X (As := [zI x1]) (M_X9_isSheet hI μ x1 gx1) zc_X9_isSheet kw_864 (zroom (by decide) (by decide)) rfl hl.1 rfl (Nat.le_of_ble_eq_true rfl) dX9_sheet_1 ⟨Nat.zero_le _, Nat.zero_le _⟩ (fun H locs g_1 X => ?_)
  refine z_ifeq C (rgz g_1) (tgt := 20) dX9_sheet_4 (by decide) (fun hc4 => ?_) (fun hc4 => ?_)
  · rw [if_pos hc4] at h
    refine z_iconst C dX9_sheet_20 ?_
    obtain ⟨rfl, rfl⟩ := Prod.mk.inj (Option.some.inj h)
    exact rt X ⟨by decide, by decide⟩ dX9_sheet_21
  · rw [if_neg hc4] at h
    refine lv_iload_n C.1 C.2.1 dX9_sheet_7 rfl (lv_at hl 2 rfl) ?_
    refine z_callS1 C X (As := [zI x2]) (M_X9_isLane hI μ x2 gx2) zc_X9_isLane kw_867 (zroom (by decide) (by decide)) rfl hl.1 rfl (Nat.le_of_ble_eq_true rfl) dX9_sheet_8 ⟨Nat.zero_le _, Nat.zero_le _⟩ (fun H locs g_8 X => ?_)
    refine z_ifeq C (rgz g_8) (tgt := 20) dX9_sheet_11 (by decide) (fun hc11 => ?_) (fun hc11 => ?_)
    · rw [if_pos hc11] at h
      refine z_iconst C dX9_sheet_20 ?_
      obtain ⟨rfl, rfl⟩ := Prod.mk.inj (Option.some.inj h)
      exact rt X ⟨by decide, by decide⟩ dX9_sheet_21
    · rw [if_neg hc11] at h
      refine lv_iload_n C.1 C.2.1 dX9_sheet_14 rfl (lv_at hl 3 rfl) ?_
      refine z_bipush C dX9_sheet_15 (by decide) ?_
      refine z_icmple C gx3 ⟨by decide, by decide⟩ (tgt := 22) dX9_sheet_17 (by decide) (fun hc17 => ?_) (fun hc17 => ?_)
      · rw [if_pos hc17] at h
        refine lv_iload_n C.1 C.2.1 dX9_sheet_22 rfl (lv_at hl 3 rfl) ?_
        refine z_ifge C gx3 (tgt := 29) dX9_sheet_23 (by decide) (fun hc23 => ?_) (fun hc23 => ?_)
        · rw [if_neg hc23] at h
          refine lv_aload_n C.1 C.2.1 dX9_sheet_29 rfl (lv_at hl 0 rfl) ?_
          refine z_get C X zk9 (hI.1 1 (by decide)) rfl 3 (by decide) kw_392 (zR Ω 17) (zfvF (off := 16) X.2.2.2 (hI.1 1 (by decide)) (hI.2 1 (by decide)) rfl rfl (by decide)) dX9_sheet_30 ?_
          refine lv_iload_n C.1 C.2.1 dX9_sheet_33 rfl (lv_at hl 1 rfl) ?_
          obtain ⟨hc34, h⟩ := chk_some h
          obtain ⟨hn34, h⟩ := chk_some h
          have o_34 := (zrg7 X.2.2.2 (hI.1 17 (by decide)) rfl (i := x1)).resolve_left hn34
          refine z_aald7 C X (hI.1 17 (by decide)) rfl hc34 dX9_sheet_34 ?_
          rw [zQ_pos Ω hn34]
          refine zlet_elim h (fun x_1 ex_1 h => ?_)
          rw [← ex_1] at o_34 ⊢
          clear hn34 ex_1
          refine lv_iload_n C.1 C.2.1 dX9_sheet_35 rfl (lv_at hl 2 rfl) ?_
          refine lv_iload_n C.1 C.2.1 dX9_sheet_36 rfl (lv_at hl 3 rfl) ?_
          obtain ⟨μ_2, hq37, h⟩ := bnd_some h
          refine z_callV0 C X zk3 (zob.self o_34) (zo3 o_34) (As := [zI x2, zI x3]) (M_X3_renew μ x_1 x2 x3 o_34 gx2 gx3 hq37) zc_X3_renew kw_1008 (zroom (by decide) (by decide)) rfl hl.1 rfl (Nat.le_of_ble_eq_true rfl) dX9_sheet_37 ⟨Nat.zero_le _, Nat.zero_le _⟩ (fun H locs g_37 X => ?_)
          refine lv_iload_n C.1 C.2.1 dX9_sheet_40 rfl (lv_at hl 3 rfl) ?_
          obtain ⟨rfl, rfl⟩ := Prod.mk.inj (Option.some.inj h)
          exact rt X gx3 dX9_sheet_41
        · rw [if_pos hc23] at h
          refine z_bipush C dX9_sheet_26 (by decide) ?_
          obtain ⟨rfl, rfl⟩ := Prod.mk.inj (Option.some.inj h)
          exact rt X ⟨by decide, by decide⟩ dX9_sheet_28
      · rw [if_neg hc17] at h
        refine z_iconst C dX9_sheet_20 ?_
        obtain ⟨rfl, rfl⟩ := Prod.mk.inj (Option.some.inj h)
        exact rt X ⟨by decide, by decide⟩ dX9_sheet_21
theorem zc_X9_sheet : zcal yX9_sheet cX9_sheet 4 (some Jvm.ClassFile.FieldType.int) RX9 3 := ⟨⟨kw_1007, kw_1005, kw_1006, kw_1⟩, rfl, by decide, by decide, by decide +kernel⟩

def f_X9_drop (x1 : Int) (μ : zMem) : Option (Int × zMem) :=
  if (f_X9_isSheet x1) = 0 then
    some ((-1), μ)
  else
    chk ((0 : Int) ≤ x1 ∧ x1 < 4) <|
    chk ((μ 17 x1) ≠ 0) <|
    zlet (μ 17 x1) fun x_1 =>
    if (μ x_1 1) = (-1) then
      some ((-11), μ)
    else
      chk ((0 : Int) ≤ x1 ∧ x1 < 4) <|
      chk ((μ 17 x1) ≠ 0) <|
      zlet (μ 17 x1) fun x_2 =>
      zlet ((μ x_2 2)) fun x_3 =>
      chk ((0 : Int) ≤ x1 ∧ x1 < 4) <|
      chk ((μ 17 x1) ≠ 0) <|
      zlet (μ 17 x1) fun x_4 =>
      bnd (f_X3_renew x_4 (-1) 0 μ) fun μ_5 =>
      some (x_3, μ_5)
set_option maxHeartbeats 4000000 in
set_option maxRecDepth 100000 in
theorem M_X9_drop {l : Launch} {Ω : zO} (hI : zIc Ω) (μ : zMem) (x1 : Int) {r : Int} {μ' : zMem} (gx1 : Rg x1) (h : f_X9_drop x1 μ = some (r, μ')) : XMet l yX9_drop cX9_drop 3 (some Jvm.ClassFile.FieldType.int) 2 Ω [zR Ω 1, zI x1] μ (some (zI r)) (Rg r) μ' := by
  refine XMet.ofI (by decide) (Nat.le_of_ble_eq_true rfl) ?_
  intro p e s m args below meth c ls Q C rt X hl
  have C : zC p s m args c cX9_drop RX9 3 Ω := C
  have hl : lv_has ls 3 [(0, zR Ω 1), (1, zI x1)] := hl
  unfold f_X9_drop at h
  skip
  refine lv_iload_n C.1 C.2.1 dX9_drop_0 rfl (lv_at hl 1 rfl) ?_
  refine z_callS1 C X (As := [zI x1]) (M_X9_isSheet hI μ x1 gx1) zc_X9_isSheet kw_864 (zroom (by decide) (by decide)) rfl hl.1 rfl (Nat.le_of_ble_eq_true rfl) dX9_drop_1 ⟨Nat.zero_le _, Nat.zero_le _⟩ (fun H locs g_1 X => ?_)
  refine z_ifne C (rgz g_1) (tgt := 9) dX9_drop_4 (by decide) (fun hc4 => ?_) (fun hc4 => ?_)
  · rw [if_neg hc4] at h
    refine lv_aload_n C.1 C.2.1 dX9_drop_9 rfl (lv_at hl 0 rfl) ?_
    refine z_get C X zk9 (hI.1 1 (by decide)) rfl 3 (by decide) kw_392 (zR Ω 17) (zfvF (off := 16) X.2.2.2 (hI.1 1 (by decide)) (hI.2 1 (by decide)) rfl rfl (by decide)) dX9_drop_10 ?_
    refine lv_iload_n C.1 C.2.1 dX9_drop_13 rfl (lv_at hl 1 rfl) ?_
    obtain ⟨hc14, h⟩ := chk_some h
    obtain ⟨hn14, h⟩ := chk_some h
    have o_14 := (zrg7 X.2.2.2 (hI.1 17 (by decide)) rfl (i := x1)).resolve_left hn14
    refine z_aald7 C X (hI.1 17 (by decide)) rfl hc14 dX9_drop_14 ?_
    rw [zQ_pos Ω hn14]
    refine zlet_elim h (fun x_1 ex_1 h => ?_)
    rw [← ex_1] at o_14 ⊢
    clear hn14 ex_1
    have g_15 : Rg (μ x_1 1) := zrgf0 (ci := 3) X.2.2.2 (zob.self o_14) (zo3 o_14) 1 rfl
    refine z_get C X zk3 (zob.self o_14) (zo3 o_14) 1 (by decide) kw_333 (zI (μ x_1 1)) rfl dX9_drop_15 ?_
    refine z_iconst C dX9_drop_18 ?_
    refine z_icmpne C g_15 ⟨by decide, by decide⟩ (tgt := 25) dX9_drop_19 (by decide) (fun hc19 => ?_) (fun hc19 => ?_)
    · rw [if_neg hc19] at h
      refine lv_aload_n C.1 C.2.1 dX9_drop_25 rfl (lv_at hl 0 rfl) ?_
      refine z_get C X zk9 (hI.1 1 (by decide)) rfl 3 (by decide) kw_392 (zR Ω 17) (zfvF (off := 16) X.2.2.2 (hI.1 1 (by decide)) (hI.2 1 (by decide)) rfl rfl (by decide)) dX9_drop_26 ?_
      refine lv_iload_n C.1 C.2.1 dX9_drop_29 rfl (lv_at hl 1 rfl) ?_
      obtain ⟨hc30, h⟩ := chk_some h
      obtain ⟨hn30, h⟩ := chk_some h
      have o_30 := (zrg7 X.2.2.2 (hI.1 17 (by decide)) rfl (i := x1)).resolve_left hn30
      refine z_aald7 C X (hI.1 17 (by decide)) rfl hc30 dX9_drop_30 ?_
      rw [zQ_pos Ω hn30]
      refine zlet_elim h (fun x_2 ex_2 h => ?_)
      rw [← ex_2] at o_30 ⊢
      clear hn30 ex_2
      have g_31 : Rg (μ x_2 2) := zrgf0 (ci := 3) X.2.2.2 (zob.self o_30) (zo3 o_30) 2 rfl
      refine z_get C X zk3 (zob.self o_30) (zo3 o_30) 2 (by decide) kw_335 (zI (μ x_2 2)) rfl dX9_drop_31 ?_
      refine zlet_elim h (fun x_3 ex_3 h => ?_)
      have gx_3 : Rg x_3 := by rw [ex_3]; exact g_31
      refine z_istore_n C ex_3 dX9_drop_34 rfl hl (by decide) (lv' := [(2, zI x_3), (0, zR Ω 1), (1, zI x1)]) rfl (fun ls hl => ?_)
      clear ex_3
      refine lv_aload_n C.1 C.2.1 dX9_drop_35 rfl (lv_at hl 1 rfl) ?_
      refine z_get C X zk9 (hI.1 1 (by decide)) rfl 3 (by decide) kw_392 (zR Ω 17) (zfvF (off := 16) X.2.2.2 (hI.1 1 (by decide)) (hI.2 1 (by decide)) rfl rfl (by decide)) dX9_drop_36 ?_
      refine lv_iload_n C.1 C.2.1 dX9_drop_39 rfl (lv_at hl 2 rfl) ?_
      obtain ⟨hc40, h⟩ := chk_some h
      obtain ⟨hn40, h⟩ := chk_some h
      have o_40 := (zrg7 X.2.2.2 (hI.1 17 (by decide)) rfl (i := x1)).resolve_left hn40
      refine z_aald7 C X (hI.1 17 (by decide)) rfl hc40 dX9_drop_40 ?_
      rw [zQ_pos Ω hn40]
      refine zlet_elim h (fun x_4 ex_4 h => ?_)
      rw [← ex_4] at o_40 ⊢
      clear hn40 ex_4
      refine z_iconst C dX9_drop_41 ?_
      refine z_iconst C dX9_drop_42 ?_
      obtain ⟨μ_5, hq43, h⟩ := bnd_some h
      refine z_callV0 C X zk3 (zob.self o_40) (zo3 o_40) (As := [zI (-1), zI 0]) (M_X3_renew μ x_4 (-1) 0 o_40 ⟨by decide, by decide⟩ ⟨by decide, by decide⟩ hq43) zc_X3_renew kw_1008 (zroom (by decide) (by decide)) rfl hl.1 rfl (Nat.le_of_ble_eq_true rfl) dX9_drop_43 ⟨Nat.zero_le _, Nat.zero_le _⟩ (fun H locs g_43 X => ?_)
      refine lv_iload_n C.1 C.2.1 dX9_drop_46 rfl (lv_at hl 0 rfl) ?_
      obtain ⟨rfl, rfl⟩ := Prod.mk.inj (Option.some.inj h)
      exact rt X gx_3 dX9_drop_47
    · rw [if_pos hc19] at h
      refine z_bipush C dX9_drop_22 (by decide) ?_
      obtain ⟨rfl, rfl⟩ := Prod.mk.inj (Option.some.inj h)
      exact rt X ⟨by decide, by decide⟩ dX9_drop_24
  · rw [if_pos hc4] at h
    refine z_iconst C dX9_drop_7 ?_
    obtain ⟨rfl, rfl⟩ := Prod.mk.inj (Option.some.inj h)
    exact rt X ⟨by decide, by decide⟩ dX9_drop_8
theorem zc_X9_drop : zcal yX9_drop cX9_drop 3 (some Jvm.ClassFile.FieldType.int) RX9 1 := ⟨⟨kw_1016, kw_1014, kw_1015, kw_1⟩, rfl, by decide, by decide, by decide +kernel⟩

def f_X9_item (x1 : Int) (x2 : Int) (x3 : Int) (x4 : Int) (μ : zMem) : Option (Int × zMem) :=
  bnd (f_X9_refuseRow x1 x2 μ) fun x_1 =>
  if x_1 = 0 then
    chk ((0 : Int) ≤ x1 ∧ x1 < 4) <|
    chk ((μ 17 x1) ≠ 0) <|
    zlet (μ 17 x1) fun x_2 =>
    if x3 < 0 then
      some ((-13), μ)
    else
      if x3 < (μ x_2 2) then
        bnd (f_X3_put x_2 x3 x4 μ) fun μ_3 =>
        some (1, μ_3)
      else
        some ((-13), μ)
  else
    some (x_1, μ)
set_option maxHeartbeats 4000000 in
set_option maxRecDepth 100000 in
theorem M_X9_item {l : Launch} {Ω : zO} (hI : zIc Ω) (μ : zMem) (x1 : Int) (x2 : Int) (x3 : Int) (x4 : Int) {r : Int} {μ' : zMem} (gx1 : Rg x1) (gx2 : Rg x2) (gx3 : Rg x3) (gx4 : Rg x4) (h : f_X9_item x1 x2 x3 x4 μ = some (r, μ')) : XMet l yX9_item cX9_item 7 (some Jvm.ClassFile.FieldType.int) 2 Ω [zR Ω 1, zI x1, zI x2, zI x3, zI x4] μ (some (zI r)) (Rg r) μ' := by
  refine XMet.ofI (by decide) (Nat.le_of_ble_eq_true rfl) ?_
  intro p e s m args below meth c ls Q C rt X hl
  have C : zC p s m args c cX9_item RX9 7 Ω := C
  have hl : lv_has ls 7 [(0, zR Ω 1), (1, zI x1), (2, zI x2), (3, zI x3), (4, zI x4)] := hl
  unfold f_X9_item at h
  skip
  refine lv_aload_n C.1 C.2.1 dX9_item_0 rfl (lv_at hl 0 rfl) ?_
  refine lv_iload_n C.1 C.2.1 dX9_item_1 rfl (lv_at hl 1 rfl) ?_
  refine lv_iload_n C.1 C.2.1 dX9_item_2 rfl (lv_at hl 2 rfl) ?_
  obtain ⟨x_1, hq3, h⟩ := bnd_some h
  refine z_callV1 C X zk9 (hI.1 1 (by decide)) rfl (As := [zI x1, zI x2]) (M_X9_refuseRow hI μ x1 x2 gx1 gx2 hq3) zc_X9_refuseRow kw_860 (zroom (by decide) (by decide)) rfl hl.1 rfl (Nat.le_of_ble_eq_true rfl) dX9_item_3 ⟨Nat.zero_le _, Nat.zero_le _⟩ (fun H locs g_3 X => ?_)
  refine lv_istore C.1 C.2.1 (lv' := [(5, zI x_1), (0, zR Ω 1), (1, zI x1), (2, zI x2), (3, zI x3), (4, zI x4)]) dX9_item_6 hl (by decide) rfl (fun ls hl => ?_)
  refine lv_iload C.1 C.2.1 dX9_item_8 (lv_at hl 0 rfl) ?_
  refine z_ifeq C g_3 (tgt := 16) dX9_item_10 (by decide) (fun hc10 => ?_) (fun hc10 => ?_)
  · rw [if_pos hc10] at h
    refine lv_aload_n C.1 C.2.1 dX9_item_16 rfl (lv_at hl 1 rfl) ?_
    refine z_get C X zk9 (hI.1 1 (by decide)) rfl 3 (by decide) kw_392 (zR Ω 17) (zfvF (off := 16) X.2.2.2 (hI.1 1 (by decide)) (hI.2 1 (by decide)) rfl rfl (by decide)) dX9_item_17 ?_
    refine lv_iload_n C.1 C.2.1 dX9_item_20 rfl (lv_at hl 2 rfl) ?_
    obtain ⟨hc21, h⟩ := chk_some h
    obtain ⟨hn21, h⟩ := chk_some h
    have o_21 := (zrg7 X.2.2.2 (hI.1 17 (by decide)) rfl (i := x1)).resolve_left hn21
    refine z_aald7 C X (hI.1 17 (by decide)) rfl hc21 dX9_item_21 ?_
    rw [zQ_pos Ω hn21]
    refine zlet_elim h (fun x_2 ex_2 h => ?_)
    rw [← ex_2] at o_21 ⊢
    clear hn21 ex_2
    refine lv_astore C.1 C.2.1 (lv' := [(6, zR Ω x_2), (5, zI x_1), (0, zR Ω 1), (1, zI x1), (2, zI x2), (3, zI x3), (4, zI x4)]) dX9_item_22 hl (by decide) rfl (fun ls hl => ?_)
    refine lv_iload_n C.1 C.2.1 dX9_item_24 rfl (lv_at hl 5 rfl) ?_
    refine z_iflt C gx3 (tgt := 37) dX9_item_25 (by decide) (fun hc25 => ?_) (fun hc25 => ?_)
    · rw [if_pos hc25] at h
      refine z_bipush C dX9_item_37 (by decide) ?_
      obtain ⟨rfl, rfl⟩ := Prod.mk.inj (Option.some.inj h)
      exact rt X ⟨by decide, by decide⟩ dX9_item_39
    · rw [if_neg hc25] at h
      refine lv_iload_n C.1 C.2.1 dX9_item_28 rfl (lv_at hl 5 rfl) ?_
      refine lv_aload C.1 C.2.1 dX9_item_29 (lv_at hl 0 rfl) ?_
      have g_31 : Rg (μ x_2 2) := zrgf0 (ci := 3) X.2.2.2 (zob.self o_21) (zo3 o_21) 2 rfl
      refine z_get C X zk3 (zob.self o_21) (zo3 o_21) 2 (by decide) kw_335 (zI (μ x_2 2)) rfl dX9_item_31 ?_
      refine z_icmplt C gx3 g_31 (tgt := 40) dX9_item_34 (by decide) (fun hc34 => ?_) (fun hc34 => ?_)
      · rw [if_pos hc34] at h
        refine lv_aload C.1 C.2.1 dX9_item_40 (lv_at hl 0 rfl) ?_
        refine lv_iload_n C.1 C.2.1 dX9_item_42 rfl (lv_at hl 5 rfl) ?_
        refine lv_iload C.1 C.2.1 dX9_item_43 (lv_at hl 6 rfl) ?_
        obtain ⟨μ_3, hq45, h⟩ := bnd_some h
        refine z_callV0 C X zk3 (zob.self o_21) (zo3 o_21) (As := [zI x3, zI x4]) (M_X3_put μ x_2 x3 x4 o_21 gx3 gx4 hq45) zc_X3_put kw_1021 (zroom (by decide) (by decide)) rfl hl.1 rfl (Nat.le_of_ble_eq_true rfl) dX9_item_45 ⟨Nat.zero_le _, Nat.zero_le _⟩ (fun H locs g_45 X => ?_)
        refine z_iconst C dX9_item_48 ?_
        obtain ⟨rfl, rfl⟩ := Prod.mk.inj (Option.some.inj h)
        exact rt X ⟨by decide, by decide⟩ dX9_item_49
      · rw [if_neg hc34] at h
        refine z_bipush C dX9_item_37 (by decide) ?_
        obtain ⟨rfl, rfl⟩ := Prod.mk.inj (Option.some.inj h)
        exact rt X ⟨by decide, by decide⟩ dX9_item_39
  · rw [if_neg hc10] at h
    refine lv_iload C.1 C.2.1 dX9_item_13 (lv_at hl 0 rfl) ?_
    obtain ⟨rfl, rfl⟩ := Prod.mk.inj (Option.some.inj h)
    exact rt X g_3 dX9_item_15
theorem zc_X9_item : zcal yX9_item cX9_item 7 (some Jvm.ClassFile.FieldType.int) RX9 4 := ⟨⟨kw_1020, kw_1018, kw_1019, kw_1⟩, rfl, by decide, by decide, by decide +kernel⟩

def f_X10_in (x0 : Int) (x1 : Int) (x2 : Int) : Int :=
  if x0 < x1 then
    0
  else
    if x0 ≤ x2 then
      1
    else
      0
set_option maxHeartbeats 4000000 in
set_option maxRecDepth 100000 in
theorem M_X10_in {l : Launch} {Ω : zO} (hI : zIm Ω) (μ : zMem) (x0 : Int) (x1 : Int) (x2 : Int) (gx0 : Rg x0) (gx1 : Rg x1) (gx2 : Rg x2) : XMet l yX10_in cX10_in 3 (some Jvm.ClassFile.FieldType.boolean) 0 Ω [zI x0, zI x1, zI x2] μ (some (zI (f_X10_in x0 x1 x2))) (0 ≤ (f_X10_in x0 x1 x2) ∧ (f_X10_in x0 x1 x2) ≤ 1) μ := by
  obtain ⟨r, h⟩ : ∃ r, f_X10_in x0 x1 x2 = r := ⟨_, rfl⟩
  rw [h]
  refine XMet.ofZ (by decide) (Nat.le_of_ble_eq_true rfl) ?_
  intro p e s m args below meth c ls Q C rt X hl
  have C : zC p s m args c cX10_in RX10 3 Ω := C
  have hl : lv_has ls 3 [(0, zI x0), (1, zI x1), (2, zI x2)] := hl
  unfold f_X10_in at h
  skip
  refine lv_iload_n C.1 C.2.1 dX10_in_0 rfl (lv_at hl 0 rfl) ?_
  refine lv_iload_n C.1 C.2.1 dX10_in_1 rfl (lv_at hl 1 rfl) ?_
  refine z_icmplt C gx0 gx1 (tgt := 14) dX10_in_2 (by decide) (fun hc2 => ?_) (fun hc2 => ?_)
  · rw [if_pos hc2] at h
    refine z_iconst C dX10_in_14 ?_
    subst h
    exact rt X ⟨by decide, by decide⟩ dX10_in_15
  · rw [if_neg hc2] at h
    refine lv_iload_n C.1 C.2.1 dX10_in_5 rfl (lv_at hl 0 rfl) ?_
    refine lv_iload_n C.1 C.2.1 dX10_in_6 rfl (lv_at hl 2 rfl) ?_
    refine z_icmpgt C gx0 gx2 (tgt := 14) dX10_in_7 (by decide) (fun hc7 => ?_) (fun hc7 => ?_)
    · rw [if_neg hc7] at h
      refine z_iconst C dX10_in_14 ?_
      subst h
      exact rt X ⟨by decide, by decide⟩ dX10_in_15
    · rw [if_pos hc7] at h
      refine z_iconst C dX10_in_10 ?_
      refine lv_goto (tgt := 15) C.1 C.2.1 dX10_in_11 (by decide) ?_
      subst h
      exact rt X ⟨by decide, by decide⟩ dX10_in_15
theorem zc_X10_in : zcas yX10_in cX10_in 3 (some Jvm.ClassFile.FieldType.boolean) 3 := ⟨⟨kw_1219, kw_1218, kw_12⟩, by decide, by decide, by decide +kernel⟩

def f_X10_isSpace (x0 : Int) : Int :=
  (f_X10_in x0 0 1)
set_option maxHeartbeats 4000000 in
set_option maxRecDepth 100000 in
theorem M_X10_isSpace {l : Launch} {Ω : zO} (hI : zIm Ω) (μ : zMem) (x0 : Int) (gx0 : Rg x0) : XMet l yX10_isSpace cX10_isSpace 1 (some Jvm.ClassFile.FieldType.boolean) 1 Ω [zI x0] μ (some (zI (f_X10_isSpace x0))) (0 ≤ (f_X10_isSpace x0) ∧ (f_X10_isSpace x0) ≤ 1) μ := by
  obtain ⟨r, h⟩ : ∃ r, f_X10_isSpace x0 = r := ⟨_, rfl⟩
  rw [h]
  refine XMet.ofZ (by decide) (Nat.le_of_ble_eq_true rfl) ?_
  intro p e s m args below meth c ls Q C rt X hl
  have C : zC p s m args c cX10_isSpace RX10 1 Ω := C
  have hl : lv_has ls 1 [(0, zI x0)] := hl
  unfold f_X10_isSpace at h
  skip
  refine lv_iload_n C.1 C.2.1 dX10_isSpace_0 rfl (lv_at hl 0 rfl) ?_
  refine z_iconst C dX10_isSpace_1 ?_
  refine z_iconst C dX10_isSpace_2 ?_
  refine z_callS1 C X (As := [zI x0, zI 0, zI 1]) (M_X10_in hI μ x0 0 1 gx0 ⟨by decide, by decide⟩ ⟨by decide, by decide⟩) zc_X10_in kw_1217 (zroom (by decide) (by decide)) rfl hl.1 rfl (Nat.le_of_ble_eq_true rfl) dX10_isSpace_3 ⟨Nat.zero_le _, Nat.zero_le _⟩ (fun H locs g_3 X => ?_)
  subst h
  exact rt X g_3 dX10_isSpace_6
theorem zc_X10_isSpace : zcas yX10_isSpace cX10_isSpace 1 (some Jvm.ClassFile.FieldType.boolean) 1 := ⟨⟨kw_1216, kw_1215, kw_12⟩, by decide, by decide, by decide +kernel⟩

def f_X10_isAny (x1 : Int) (μ : zMem) : Int :=
  if (f_X10_isSpace x1) = 0 then
    if x1 = 2 then
      if (μ 101 7) = 0 then
        0
      else
        1
    else
      0
  else
    1
set_option maxHeartbeats 4000000 in
set_option maxRecDepth 100000 in
theorem M_X10_isAny {l : Launch} {Ω : zO} (hI : zIm Ω) (μ : zMem) (x1 : Int) (gx1 : Rg x1) : XMet l yX10_isAny cX10_isAny 2 (some Jvm.ClassFile.FieldType.boolean) 2 Ω [zR Ω 101, zI x1] μ (some (zI (f_X10_isAny x1 μ))) (0 ≤ (f_X10_isAny x1 μ) ∧ (f_X10_isAny x1 μ) ≤ 1) μ := by
  obtain ⟨r, h⟩ : ∃ r, f_X10_isAny x1 μ = r := ⟨_, rfl⟩
  rw [h]
  refine XMet.ofZ (by decide) (Nat.le_of_ble_eq_true rfl) ?_
  intro p e s m args below meth c ls Q C rt X hl
  have C : zC p s m args c cX10_isAny RX10 2 Ω := C
  have hl : lv_has ls 2 [(0, zR Ω 101), (1, zI x1)] := hl
  unfold f_X10_isAny at h
  skip
  refine lv_iload_n C.1 C.2.1 dX10_isAny_0 rfl (lv_at hl 1 rfl) ?_
  refine z_callS1 C X (As := [zI x1]) (M_X10_isSpace hI μ x1 gx1) zc_X10_isSpace kw_1214 (zroom (by decide) (by decide)) rfl hl.1 rfl (Nat.le_of_ble_eq_true rfl) dX10_isAny_1 ⟨Nat.zero_le _, Nat.zero_le _⟩ (fun H locs g_1 X => ?_)
  refine z_ifne C (rgz g_1) (tgt := 19) dX10_isAny_4 (by decide) (fun hc4 => ?_) (fun hc4 => ?_)
  · rw [if_neg hc4] at h
    refine z_iconst C dX10_isAny_19 ?_
    refine lv_goto (tgt := 24) C.1 C.2.1 dX10_isAny_20 (by decide) ?_
    subst h
    exact rt X ⟨by decide, by decide⟩ dX10_isAny_24
  · rw [if_pos hc4] at h
    refine lv_iload_n C.1 C.2.1 dX10_isAny_7 rfl (lv_at hl 1 rfl) ?_
    refine z_iconst C dX10_isAny_8 ?_
    refine z_icmpne C gx1 ⟨by decide, by decide⟩ (tgt := 23) dX10_isAny_9 (by decide) (fun hc9 => ?_) (fun hc9 => ?_)
    · rw [if_neg hc9] at h
      refine z_iconst C dX10_isAny_23 ?_
      subst h
      exact rt X ⟨by decide, by decide⟩ dX10_isAny_24
    · rw [if_pos hc9] at h
      refine lv_aload_n C.1 C.2.1 dX10_isAny_12 rfl (lv_at hl 0 rfl) ?_
      have g_13 : 0 ≤ (μ 101 7) ∧ (μ 101 7) ≤ 1 := zrgf2 (ci := 10) X.2.2.2 (hI.1 101 (by decide)) rfl 7 rfl
      refine z_get C X zk10 (hI.1 101 (by decide)) rfl 7 (by decide) kw_1039 (zI (μ 101 7)) rfl dX10_isAny_13 ?_
      refine z_ifeq C (rgz g_13) (tgt := 23) dX10_isAny_16 (by decide) (fun hc16 => ?_) (fun hc16 => ?_)
      · rw [if_pos hc16] at h
        refine z_iconst C dX10_isAny_23 ?_
        subst h
        exact rt X ⟨by decide, by decide⟩ dX10_isAny_24
      · rw [if_neg hc16] at h
        refine z_iconst C dX10_isAny_19 ?_
        refine lv_goto (tgt := 24) C.1 C.2.1 dX10_isAny_20 (by decide) ?_
        subst h
        exact rt X ⟨by decide, by decide⟩ dX10_isAny_24
theorem zc_X10_isAny : zcal yX10_isAny cX10_isAny 2 (some Jvm.ClassFile.FieldType.boolean) RX10 1 := ⟨⟨kw_1308, kw_1307, kp_68, kw_12⟩, rfl, by decide, by decide, by decide +kernel⟩

def f_X10_fromOf (x1 : Int) (x2 : Int) (μ : zMem) : Option Int :=
  if x2 ≤ 0 then
    chk ((0 : Int) ≤ (zw ((zw ((zw (48 * x1)) - x2)) - 1)) ∧ (zw ((zw ((zw (48 * x1)) - x2)) - 1)) < 144) <|
    some (μ 106 (zw ((zw ((zw (48 * x1)) - x2)) - 1)))
  else
    chk ((0 : Int) ≤ (zw ((zw ((zw (48 * x1)) + x2)) - 1)) ∧ (zw ((zw ((zw (48 * x1)) + x2)) - 1)) < 144) <|
    some (μ 105 (zw ((zw ((zw (48 * x1)) + x2)) - 1)))
set_option maxHeartbeats 4000000 in
set_option maxRecDepth 100000 in
theorem M_X10_fromOf {l : Launch} {Ω : zO} (hI : zIm Ω) (μ : zMem) (x1 : Int) (x2 : Int) {r : Int} (gx1 : Rg x1) (gx2 : Rg x2) (h : f_X10_fromOf x1 x2 μ = some r) : XMet l yX10_fromOf cX10_fromOf 3 (some Jvm.ClassFile.FieldType.int) 0 Ω [zR Ω 101, zI x1, zI x2] μ (some (zI r)) (Rg r) μ := by
  refine XMet.ofI (by decide) (Nat.le_of_ble_eq_true rfl) ?_
  intro p e s m args below meth c ls Q C rt X hl
  have C : zC p s m args c cX10_fromOf RX10 3 Ω := C
  have hl : lv_has ls 3 [(0, zR Ω 101), (1, zI x1), (2, zI x2)] := hl
  unfold f_X10_fromOf at h
  skip
  refine lv_iload_n C.1 C.2.1 dX10_fromOf_0 rfl (lv_at hl 2 rfl) ?_
  refine z_ifle C gx2 (tgt := 20) dX10_fromOf_1 (by decide) (fun hc1 => ?_) (fun hc1 => ?_)
  · rw [if_pos hc1] at h
    refine lv_aload_n C.1 C.2.1 dX10_fromOf_20 rfl (lv_at hl 0 rfl) ?_
    refine z_get C X zk10 (hI.1 101 (by decide)) rfl 4 (by decide) kw_1036 (zR Ω 106) (zfvF (off := 5) X.2.2.2 (hI.1 101 (by decide)) hI.2 rfl rfl (by decide)) dX10_fromOf_21 ?_
    refine z_bipush C dX10_fromOf_24 (by decide) ?_
    refine lv_iload_n C.1 C.2.1 dX10_fromOf_26 rfl (lv_at hl 1 rfl) ?_
    refine z_imul C dX10_fromOf_27 ?_
    refine lv_iload_n C.1 C.2.1 dX10_fromOf_28 rfl (lv_at hl 2 rfl) ?_
    refine z_isub C dX10_fromOf_29 ?_
    refine z_iconst C dX10_fromOf_30 ?_
    refine z_isub C dX10_fromOf_31 ?_
    obtain ⟨hc32, h⟩ := chk_some h
    have g_32 : Rg (μ 106 (zw ((zw ((zw (48 * x1)) - x2)) - 1))) := zrg1 X.2.2.2 (hI.1 106 (by decide)) rfl
    refine z_iald C X (hI.1 106 (by decide)) rfl hc32 dX10_fromOf_32 ?_
    obtain rfl := Option.some.inj h
    exact rt X g_32 dX10_fromOf_33
  · rw [if_neg hc1] at h
    refine lv_aload_n C.1 C.2.1 dX10_fromOf_4 rfl (lv_at hl 0 rfl) ?_
    refine z_get C X zk10 (hI.1 101 (by decide)) rfl 3 (by decide) kw_1035 (zR Ω 105) (zfvF (off := 4) X.2.2.2 (hI.1 101 (by decide)) hI.2 rfl rfl (by decide)) dX10_fromOf_5 ?_
    refine z_bipush C dX10_fromOf_8 (by decide) ?_
    refine lv_iload_n C.1 C.2.1 dX10_fromOf_10 rfl (lv_at hl 1 rfl) ?_
    refine z_imul C dX10_fromOf_11 ?_
    refine lv_iload_n C.1 C.2.1 dX10_fromOf_12 rfl (lv_at hl 2 rfl) ?_
    refine z_iadd C dX10_fromOf_13 ?_
    refine z_iconst C dX10_fromOf_14 ?_
    refine z_isub C dX10_fromOf_15 ?_
    obtain ⟨hc16, h⟩ := chk_some h
    have g_16 : Rg (μ 105 (zw ((zw ((zw (48 * x1)) + x2)) - 1))) := zrg1 X.2.2.2 (hI.1 105 (by decide)) rfl
    refine z_iald C X (hI.1 105 (by decide)) rfl hc16 dX10_fromOf_16 ?_
    refine lv_goto (tgt := 33) C.1 C.2.1 dX10_fromOf_17 (by decide) ?_
    obtain rfl := Option.some.inj h
    exact rt X g_16 dX10_fromOf_33
theorem zc_X10_fromOf : zcal yX10_fromOf cX10_fromOf 3 (some Jvm.ClassFile.FieldType.int) RX10 2 := ⟨⟨kw_1268, kw_1267, kp_60, kw_12⟩, rfl, by decide, by decide, by decide +kernel⟩

def f_X10_toOf (x1 : Int) (x2 : Int) (μ : zMem) : Option Int :=
  bnd (f_X10_fromOf x1 (zw (-x2)) μ) fun x_1 =>
  some x_1
set_option maxHeartbeats 4000000 in
set_option maxRecDepth 100000 in
theorem M_X10_toOf {l : Launch} {Ω : zO} (hI : zIm Ω) (μ : zMem) (x1 : Int) (x2 : Int) {r : Int} (gx1 : Rg x1) (gx2 : Rg x2) (h : f_X10_toOf x1 x2 μ = some r) : XMet l yX10_toOf cX10_toOf 3 (some Jvm.ClassFile.FieldType.int) 1 Ω [zR Ω 101, zI x1, zI x2] μ (some (zI r)) (Rg r) μ := by
  refine XMet.ofI (by decide) (Nat.le_of_ble_eq_true rfl) ?_
  intro p e s m args below meth c ls Q C rt X hl
  have C : zC p s m args c cX10_toOf RX10 3 Ω := C
  have hl : lv_has ls 3 [(0, zR Ω 101), (1, zI x1), (2, zI x2)] := hl
  unfold f_X10_toOf at h
  skip
  refine lv_aload_n C.1 C.2.1 dX10_toOf_0 rfl (lv_at hl 0 rfl) ?_
  refine lv_iload_n C.1 C.2.1 dX10_toOf_1 rfl (lv_at hl 1 rfl) ?_
  refine lv_iload_n C.1 C.2.1 dX10_toOf_2 rfl (lv_at hl 2 rfl) ?_
  refine z_ineg C dX10_toOf_3 ?_
  obtain ⟨x_1, hq4, h⟩ := bnd_some h
  refine z_callV1 C X zk10 (hI.1 101 (by decide)) rfl (As := [zI x1, zI (zw (-x2))]) (M_X10_fromOf hI μ x1 (zw (-x2)) gx1 (Rg.w _) hq4) zc_X10_fromOf kw_1265 (zroom (by decide) (by decide)) rfl hl.1 rfl (Nat.le_of_ble_eq_true rfl) dX10_toOf_4 ⟨Nat.zero_le _, Nat.zero_le _⟩ (fun H locs g_4 X => ?_)
  obtain rfl := Option.some.inj h
  exact rt X g_4 dX10_toOf_7
theorem zc_X10_toOf : zcal yX10_toOf cX10_toOf 3 (some Jvm.ClassFile.FieldType.int) RX10 2 := ⟨⟨kw_1264, kw_1263, kp_59, kw_12⟩, rfl, by decide, by decide, by decide +kernel⟩

def f_X10_rimAt (x1 : Int) (x2 : Int) (x3 : Int) (μ : zMem) : Option Int :=
  chk ((0 : Int) ≤ (zw ((zw (8 * (zw ((zw (32 * x1)) + x2)))) + x3)) ∧ (zw ((zw (8 * (zw ((zw (32 * x1)) + x2)))) + x3)) < 768) <|
  some (μ 108 (zw ((zw (8 * (zw ((zw (32 * x1)) + x2)))) + x3)))
set_option maxHeartbeats 4000000 in
set_option maxRecDepth 100000 in
theorem M_X10_rimAt {l : Launch} {Ω : zO} (hI : zIm Ω) (μ : zMem) (x1 : Int) (x2 : Int) (x3 : Int) {r : Int} (gx1 : Rg x1) (gx2 : Rg x2) (gx3 : Rg x3) (h : f_X10_rimAt x1 x2 x3 μ = some r) : XMet l yX10_rimAt cX10_rimAt 4 (some Jvm.ClassFile.FieldType.int) 0 Ω [zR Ω 101, zI x1, zI x2, zI x3] μ (some (zI r)) (Rg r) μ := by
  refine XMet.ofI (by decide) (Nat.le_of_ble_eq_true rfl) ?_
  intro p e s m args below meth c ls Q C rt X hl
  have C : zC p s m args c cX10_rimAt RX10 4 Ω := C
  have hl : lv_has ls 4 [(0, zR Ω 101), (1, zI x1), (2, zI x2), (3, zI x3)] := hl
  unfold f_X10_rimAt at h
  skip
  refine lv_aload_n C.1 C.2.1 dX10_rimAt_0 rfl (lv_at hl 0 rfl) ?_
  refine z_get C X zk10 (hI.1 101 (by decide)) rfl 6 (by decide) kw_1038 (zR Ω 108) (zfvF (off := 7) X.2.2.2 (hI.1 101 (by decide)) hI.2 rfl rfl (by decide)) dX10_rimAt_1 ?_
  refine z_bipush C dX10_rimAt_4 (by decide) ?_
  refine z_bipush C dX10_rimAt_6 (by decide) ?_
  refine lv_iload_n C.1 C.2.1 dX10_rimAt_8 rfl (lv_at hl 1 rfl) ?_
  refine z_imul C dX10_rimAt_9 ?_
  refine lv_iload_n C.1 C.2.1 dX10_rimAt_10 rfl (lv_at hl 2 rfl) ?_
  refine z_iadd C dX10_rimAt_11 ?_
  refine z_imul C dX10_rimAt_12 ?_
  refine lv_iload_n C.1 C.2.1 dX10_rimAt_13 rfl (lv_at hl 3 rfl) ?_
  refine z_iadd C dX10_rimAt_14 ?_
  obtain ⟨hc15, h⟩ := chk_some h
  have g_15 : Rg (μ 108 (zw ((zw (8 * (zw ((zw (32 * x1)) + x2)))) + x3))) := zrg1 X.2.2.2 (hI.1 108 (by decide)) rfl
  refine z_iald C X (hI.1 108 (by decide)) rfl hc15 dX10_rimAt_15 ?_
  obtain rfl := Option.some.inj h
  exact rt X g_15 dX10_rimAt_16
theorem zc_X10_rimAt : zcal yX10_rimAt cX10_rimAt 4 (some Jvm.ClassFile.FieldType.int) RX10 3 := ⟨⟨kw_1324, kw_1323, kp_70, kw_12⟩, rfl, by decide, by decide, by decide +kernel⟩

def f_X10_emptySlots_J33 (x_1 : Int) (g2 : Int → zMem → Option zMem) (x_3 : Int) (μ_4 : zMem) : Option zMem :=
  chk ((0 : Int) ≤ x_1 ∧ x_1 < 4) <|
  zlet (zup μ_4 148 x_1 x_3) fun μ_5 =>
  zlet (zw (x_1 + 1)) fun x_6 =>
  g2 x_6 μ_5
def f_X10_emptySlots_L2 (x1 : Int) : Nat → Int → zMem → Option zMem
  | 0, _, _ => none
  | n + 1, x_1, μ_2 =>
    if x_1 < 4 then
      chk ((0 : Int) ≤ x_1 ∧ x_1 < 4) <|
      if (μ_2 148 x_1) = x1 then
        (f_X10_emptySlots_J33 x_1 (f_X10_emptySlots_L2 x1 n)) (-4) μ_2
      else
        chk ((0 : Int) ≤ x_1 ∧ x_1 < 4) <|
        (f_X10_emptySlots_J33 x_1 (f_X10_emptySlots_L2 x1 n)) (μ_2 148 x_1) μ_2
    else
      some μ_2
def f_X10_emptySlots (x1 : Int) (μ : zMem) : Option zMem :=
  (f_X10_emptySlots_L2 x1) zfu 0 μ
set_option maxHeartbeats 4000000 in
set_option maxRecDepth 100000 in
theorem M_X10_emptySlots {l : Launch} {Ω : zO} (hI : zIm Ω) (μ : zMem) (x1 : Int) {μ' : zMem} (gx1 : Rg x1) (h : f_X10_emptySlots x1 μ = some μ') : XMet l yX10_emptySlots cX10_emptySlots 3 none 0 Ω [zR Ω 101, zI x1] μ none True μ' := by
  refine XMet.ofV (by decide) (Nat.le_of_ble_eq_true rfl) ?_
  intro p e s m args below meth c ls Q C rt X hl
  have C : zC p s m args c cX10_emptySlots RX10 3 Ω := C
  have hl : lv_has ls 3 [(0, zR Ω 101), (1, zI x1)] := hl
  unfold f_X10_emptySlots at h
  skip
  refine z_iconst C dX10_emptySlots_0 ?_
  refine lv_istore_n C.1 C.2.1 (lv' := [(2, zI 0), (0, zR Ω 101), (1, zI x1)]) dX10_emptySlots_1 rfl hl (by decide) rfl (fun ls hl => ?_)
  have L2 : ∀ (n2 : Nat) (x_1 : Int) (μ_2 : zMem) (H : Heap) (locs : List Loc) (ls : Array Slot), Rg x_1 → zX Ω μ_2 (zfree Ω) s.heap H locs → lv_has ls 3 [(0, zR Ω 101), (1, zI x1), (2, zI x_1)] → (f_X10_emptySlots_L2 x1 n2 x_1 μ_2) = some μ' → W p l e (zrm 0) s m args below meth c H locs 0 0 Q (F0 m 2 ls []) := by
    intro n2
    induction n2 with
    | zero =>
      intro x_1 μ_2 H locs ls _ _ _ h
      cases h
    | succ n2 ih2 =>
      intro x_1 μ_2 H locs ls gx_1 X hl h
      unfold f_X10_emptySlots_L2 at h
      refine lv_iload_n C.1 C.2.1 dX10_emptySlots_2 rfl (lv_at hl 2 rfl) ?_
      refine z_iconst C dX10_emptySlots_3 ?_
      refine z_icmpge C gx_1 ⟨by decide, by decide⟩ (tgt := 40) dX10_emptySlots_4 (by decide) (fun hc4 => ?_) (fun hc4 => ?_)
      · rw [if_neg hc4] at h
        obtain rfl := Option.some.inj h
        exact rt X dX10_emptySlots_40
      · rw [if_pos hc4] at h
        refine lv_aload_n C.1 C.2.1 dX10_emptySlots_7 rfl (lv_at hl 0 rfl) ?_
        refine z_get C X zk10 (hI.1 101 (by decide)) rfl 46 (by decide) kw_1078 (zR Ω 148) (zfvF (off := 47) X.2.2.2 (hI.1 101 (by decide)) hI.2 rfl rfl (by decide)) dX10_emptySlots_8 ?_
        refine lv_iload_n C.1 C.2.1 dX10_emptySlots_11 rfl (lv_at hl 2 rfl) ?_
        refine lv_aload_n C.1 C.2.1 dX10_emptySlots_12 rfl (lv_at hl 0 rfl) ?_
        refine z_get C X zk10 (hI.1 101 (by decide)) rfl 46 (by decide) kw_1078 (zR Ω 148) (zfvF (off := 47) X.2.2.2 (hI.1 101 (by decide)) hI.2 rfl rfl (by decide)) dX10_emptySlots_13 ?_
        refine lv_iload_n C.1 C.2.1 dX10_emptySlots_16 rfl (lv_at hl 2 rfl) ?_
        obtain ⟨hc17, h⟩ := chk_some h
        have g_17 : Rg (μ_2 148 x_1) := zrg1 X.2.2.2 (hI.1 148 (by decide)) rfl
        refine z_iald C X (hI.1 148 (by decide)) rfl hc17 dX10_emptySlots_17 ?_
        refine lv_iload_n C.1 C.2.1 dX10_emptySlots_18 rfl (lv_at hl 1 rfl) ?_
        have K33 : ∀ (x_3 : Int) (μ_4 : zMem) (H : Heap) (locs : List Loc) (ls : Array Slot), Rg x_3 → zX Ω μ_4 (zfree Ω) s.heap H locs → lv_has ls 3 [(0, zR Ω 101), (1, zI x1), (2, zI x_1)] → (f_X10_emptySlots_J33 x_1 (f_X10_emptySlots_L2 x1 n2)) x_3 μ_4 = some μ' → W p l e (zrm 0) s m args below meth c H locs 0 0 Q (F0 m 33 ls [zI x_3, zI x_1, zR Ω 148]) := by
          intro x_3 μ_4 H locs ls gx_3 X hl h
          unfold f_X10_emptySlots_J33 at h
          obtain ⟨hc33, h⟩ := chk_some h
          refine zlet_elim h (fun μ_5 em h => ?_)
          refine z_iast C X (hI.1 148 (by decide)) rfl hc33 (zok1 rfl gx_3) em dX10_emptySlots_33 (fun H locs X => ?_)
          clear em
          refine zlet_elim h (fun x_6 ex_6 h => ?_)
          have gx_6 : Rg x_6 := by rw [ex_6]; exact Rg.w _
          refine z_iinc C ex_6 dX10_emptySlots_34 hl (k := 2) rfl (by decide) (lv' := [(2, zI x_6), (0, zR Ω 101), (1, zI x1)]) rfl (fun ls hl => ?_)
          clear ex_6
          refine lv_goto (tgt := 2) C.1 C.2.1 dX10_emptySlots_37 (by decide) ?_
          exact ih2 x_6 μ_5 _ _ _ gx_6 X (lv_sub hl [1, 2, 0] rfl) h
        refine z_icmpne C g_17 gx1 (tgt := 27) dX10_emptySlots_19 (by decide) (fun hc19 => ?_) (fun hc19 => ?_)
        · rw [if_neg hc19] at h
          refine lv_aload_n C.1 C.2.1 dX10_emptySlots_27 rfl (lv_at hl 0 rfl) ?_
          refine z_get C X zk10 (hI.1 101 (by decide)) rfl 46 (by decide) kw_1078 (zR Ω 148) (zfvF (off := 47) X.2.2.2 (hI.1 101 (by decide)) hI.2 rfl rfl (by decide)) dX10_emptySlots_28 ?_
          refine lv_iload_n C.1 C.2.1 dX10_emptySlots_31 rfl (lv_at hl 2 rfl) ?_
          obtain ⟨hc32, h⟩ := chk_some h
          have g_32 : Rg (μ_2 148 x_1) := zrg1 X.2.2.2 (hI.1 148 (by decide)) rfl
          refine z_iald C X (hI.1 148 (by decide)) rfl hc32 dX10_emptySlots_32 ?_
          exact K33 (μ_2 148 x_1) μ_2 _ _ _ g_32 X (lv_sub hl [0, 1, 2] rfl) h
        · rw [if_pos hc19] at h
          refine z_bipush C dX10_emptySlots_22 (by decide) ?_
          refine lv_goto (tgt := 33) C.1 C.2.1 dX10_emptySlots_24 (by decide) ?_
          exact K33 (-4) μ_2 _ _ _ ⟨by decide, by decide⟩ X (lv_sub hl [0, 1, 2] rfl) h
  exact L2 zfu 0 μ _ _ _ ⟨by decide, by decide⟩ X (lv_sub hl [1, 2, 0] rfl) h
theorem zc_X10_emptySlots : zcal yX10_emptySlots cX10_emptySlots 3 none RX10 1 := ⟨⟨kw_1227, kw_1226, kp_53, kw_12⟩, rfl, by decide, by decide, by decide +kernel⟩

def f_X10_clear (x1 : Int) (x2 : Int) (μ : zMem) : Option zMem :=
  chk ((0 : Int) ≤ x1 ∧ x1 < 3) <|
  zlet (zup μ 102 x1 x2) fun μ_1 =>
  chk ((0 : Int) ≤ x1 ∧ x1 < 3) <|
  zlet (zup μ_1 103 x1 0) fun μ_2 =>
  chk ((0 : Int) ≤ x1 ∧ x1 < 3) <|
  zlet (zup μ_2 104 x1 0) fun μ_3 =>
  some μ_3
set_option maxHeartbeats 4000000 in
set_option maxRecDepth 100000 in
theorem M_X10_clear {l : Launch} {Ω : zO} (hI : zIm Ω) (μ : zMem) (x1 : Int) (x2 : Int) {μ' : zMem} (gx1 : Rg x1) (gx2 : Rg x2) (h : f_X10_clear x1 x2 μ = some μ') : XMet l yX10_clear cX10_clear 3 none 0 Ω [zR Ω 101, zI x1, zI x2] μ none True μ' := by
  refine XMet.ofV (by decide) (Nat.le_of_ble_eq_true rfl) ?_
  intro p e s m args below meth c ls Q C rt X hl
  have C : zC p s m args c cX10_clear RX10 3 Ω := C
  have hl : lv_has ls 3 [(0, zR Ω 101), (1, zI x1), (2, zI x2)] := hl
  unfold f_X10_clear at h
  skip
  refine lv_aload_n C.1 C.2.1 dX10_clear_0 rfl (lv_at hl 0 rfl) ?_
  refine z_get C X zk10 (hI.1 101 (by decide)) rfl 0 (by decide) kw_1032 (zR Ω 102) (zfvF (off := 1) X.2.2.2 (hI.1 101 (by decide)) hI.2 rfl rfl (by decide)) dX10_clear_1 ?_
  refine lv_iload_n C.1 C.2.1 dX10_clear_4 rfl (lv_at hl 1 rfl) ?_
  refine lv_iload_n C.1 C.2.1 dX10_clear_5 rfl (lv_at hl 2 rfl) ?_
  obtain ⟨hc6, h⟩ := chk_some h
  refine zlet_elim h (fun μ_1 em h => ?_)
  refine z_iast C X (hI.1 102 (by decide)) rfl hc6 (zok1 rfl gx2) em dX10_clear_6 (fun H locs X => ?_)
  clear em
  refine lv_aload_n C.1 C.2.1 dX10_clear_7 rfl (lv_at hl 0 rfl) ?_
  refine z_get C X zk10 (hI.1 101 (by decide)) rfl 1 (by decide) kw_1033 (zR Ω 103) (zfvF (off := 2) X.2.2.2 (hI.1 101 (by decide)) hI.2 rfl rfl (by decide)) dX10_clear_8 ?_
  refine lv_iload_n C.1 C.2.1 dX10_clear_11 rfl (lv_at hl 1 rfl) ?_
  refine z_iconst C dX10_clear_12 ?_
  obtain ⟨hc13, h⟩ := chk_some h
  refine zlet_elim h (fun μ_2 em h => ?_)
  refine z_iast C X (hI.1 103 (by decide)) rfl hc13 (zok1 rfl ⟨by decide, by decide⟩) em dX10_clear_13 (fun H locs X => ?_)
  clear em
  refine lv_aload_n C.1 C.2.1 dX10_clear_14 rfl (lv_at hl 0 rfl) ?_
  refine z_get C X zk10 (hI.1 101 (by decide)) rfl 2 (by decide) kw_1034 (zR Ω 104) (zfvF (off := 3) X.2.2.2 (hI.1 101 (by decide)) hI.2 rfl rfl (by decide)) dX10_clear_15 ?_
  refine lv_iload_n C.1 C.2.1 dX10_clear_18 rfl (lv_at hl 1 rfl) ?_
  refine z_iconst C dX10_clear_19 ?_
  obtain ⟨hc20, h⟩ := chk_some h
  refine zlet_elim h (fun μ_3 em h => ?_)
  refine z_iast C X (hI.1 104 (by decide)) rfl hc20 (zok1 rfl ⟨by decide, by decide⟩) em dX10_clear_20 (fun H locs X => ?_)
  clear em
  obtain rfl := Option.some.inj h
  exact rt X dX10_clear_21
theorem zc_X10_clear : zcal yX10_clear cX10_clear 3 none RX10 2 := ⟨⟨kw_1223, kw_1222, kp_52, kw_12⟩, rfl, by decide, by decide, by decide +kernel⟩

def f_X10_corners (x1 : Int) (x2 : Int) (μ : zMem) : Option (Int × zMem) :=
  if (f_X10_isSpace x1) = 0 then
    some ((-1), μ)
  else
    if (f_X10_in x2 1 8) = 0 then
      some ((-1), μ)
    else
      chk ((0 : Int) ≤ x1 ∧ x1 < 3) <|
      zlet ((μ 102 x1)) fun x_1 =>
      bnd (f_X10_clear x1 x2 μ) fun μ_2 =>
      bnd (f_X10_emptySlots x1 μ_2) fun μ_3 =>
      some (x_1, μ_3)
set_option maxHeartbeats 4000000 in
set_option maxRecDepth 100000 in
theorem M_X10_corners {l : Launch} {Ω : zO} (hI : zIm Ω) (μ : zMem) (x1 : Int) (x2 : Int) {r : Int} {μ' : zMem} (gx1 : Rg x1) (gx2 : Rg x2) (h : f_X10_corners x1 x2 μ = some (r, μ')) : XMet l yX10_corners cX10_corners 4 (some Jvm.ClassFile.FieldType.int) 2 Ω [zR Ω 101, zI x1, zI x2] μ (some (zI r)) (Rg r) μ' := by
  refine XMet.ofI (by decide) (Nat.le_of_ble_eq_true rfl) ?_
  intro p e s m args below meth c ls Q C rt X hl
  have C : zC p s m args c cX10_corners RX10 4 Ω := C
  have hl : lv_has ls 4 [(0, zR Ω 101), (1, zI x1), (2, zI x2)] := hl
  unfold f_X10_corners at h
  skip
  refine lv_iload_n C.1 C.2.1 dX10_corners_0 rfl (lv_at hl 1 rfl) ?_
  refine z_callS1 C X (As := [zI x1]) (M_X10_isSpace hI μ x1 gx1) zc_X10_isSpace kw_1214 (zroom (by decide) (by decide)) rfl hl.1 rfl (Nat.le_of_ble_eq_true rfl) dX10_corners_1 ⟨Nat.zero_le _, Nat.zero_le _⟩ (fun H locs g_1 X => ?_)
  refine z_ifeq C (rgz g_1) (tgt := 17) dX10_corners_4 (by decide) (fun hc4 => ?_) (fun hc4 => ?_)
  · rw [if_pos hc4] at h
    refine z_iconst C dX10_corners_17 ?_
    obtain ⟨rfl, rfl⟩ := Prod.mk.inj (Option.some.inj h)
    exact rt X ⟨by decide, by decide⟩ dX10_corners_18
  · rw [if_neg hc4] at h
    refine lv_iload_n C.1 C.2.1 dX10_corners_7 rfl (lv_at hl 2 rfl) ?_
    refine z_iconst C dX10_corners_8 ?_
    refine z_bipush C dX10_corners_9 (by decide) ?_
    refine z_callS1 C X (As := [zI x2, zI 1, zI 8]) (M_X10_in hI μ x2 1 8 gx2 ⟨by decide, by decide⟩ ⟨by decide, by decide⟩) zc_X10_in kw_1217 (zroom (by decide) (by decide)) rfl hl.1 rfl (Nat.le_of_ble_eq_true rfl) dX10_corners_11 ⟨Nat.zero_le _, Nat.zero_le _⟩ (fun H locs g_11 X => ?_)
    refine z_ifne C (rgz g_11) (tgt := 19) dX10_corners_14 (by decide) (fun hc14 => ?_) (fun hc14 => ?_)
    · rw [if_neg hc14] at h
      refine lv_aload_n C.1 C.2.1 dX10_corners_19 rfl (lv_at hl 0 rfl) ?_
      refine z_get C X zk10 (hI.1 101 (by decide)) rfl 0 (by decide) kw_1032 (zR Ω 102) (zfvF (off := 1) X.2.2.2 (hI.1 101 (by decide)) hI.2 rfl rfl (by decide)) dX10_corners_20 ?_
      refine lv_iload_n C.1 C.2.1 dX10_corners_23 rfl (lv_at hl 1 rfl) ?_
      obtain ⟨hc24, h⟩ := chk_some h
      have g_24 : Rg (μ 102 x1) := zrg1 X.2.2.2 (hI.1 102 (by decide)) rfl
      refine z_iald C X (hI.1 102 (by decide)) rfl hc24 dX10_corners_24 ?_
      refine zlet_elim h (fun x_1 ex_1 h => ?_)
      have gx_1 : Rg x_1 := by rw [ex_1]; exact g_24
      refine z_istore_n C ex_1 dX10_corners_25 rfl hl (by decide) (lv' := [(3, zI x_1), (0, zR Ω 101), (1, zI x1), (2, zI x2)]) rfl (fun ls hl => ?_)
      clear ex_1
      refine lv_aload_n C.1 C.2.1 dX10_corners_26 rfl (lv_at hl 1 rfl) ?_
      refine lv_iload_n C.1 C.2.1 dX10_corners_27 rfl (lv_at hl 2 rfl) ?_
      refine lv_iload_n C.1 C.2.1 dX10_corners_28 rfl (lv_at hl 3 rfl) ?_
      obtain ⟨μ_2, hq29, h⟩ := bnd_some h
      refine z_callV0 C X zk10 (hI.1 101 (by decide)) rfl (As := [zI x1, zI x2]) (M_X10_clear hI μ x1 x2 gx1 gx2 hq29) zc_X10_clear kw_1220 (zroom (by decide) (by decide)) rfl hl.1 rfl (Nat.le_of_ble_eq_true rfl) dX10_corners_29 ⟨Nat.zero_le _, Nat.zero_le _⟩ (fun H locs g_29 X => ?_)
      refine lv_aload_n C.1 C.2.1 dX10_corners_32 rfl (lv_at hl 1 rfl) ?_
      refine lv_iload_n C.1 C.2.1 dX10_corners_33 rfl (lv_at hl 2 rfl) ?_
      obtain ⟨μ_3, hq34, h⟩ := bnd_some h
      refine z_callV0 C X zk10 (hI.1 101 (by decide)) rfl (As := [zI x1]) (M_X10_emptySlots hI μ_2 x1 gx1 hq34) zc_X10_emptySlots kw_1224 (zroom (by decide) (by decide)) rfl hl.1 rfl (Nat.le_of_ble_eq_true rfl) dX10_corners_34 ⟨Nat.zero_le _, Nat.zero_le _⟩ (fun H locs g_34 X => ?_)
      refine lv_iload_n C.1 C.2.1 dX10_corners_37 rfl (lv_at hl 0 rfl) ?_
      obtain ⟨rfl, rfl⟩ := Prod.mk.inj (Option.some.inj h)
      exact rt X gx_1 dX10_corners_38
    · rw [if_pos hc14] at h
      refine z_iconst C dX10_corners_17 ?_
      obtain ⟨rfl, rfl⟩ := Prod.mk.inj (Option.some.inj h)
      exact rt X ⟨by decide, by decide⟩ dX10_corners_18
theorem zc_X10_corners : zcal yX10_corners cX10_corners 4 (some Jvm.ClassFile.FieldType.int) RX10 2 := ⟨⟨kw_1213, kw_1211, kw_1212, kw_12⟩, rfl, by decide, by decide, by decide +kernel⟩

def f_X10_addEdge (x1 : Int) (x2 : Int) (x3 : Int) (μ : zMem) : Option (Int × zMem) :=
  chk ((0 : Int) ≤ x1 ∧ x1 < 3) <|
  chk ((0 : Int) ≤ (zw ((zw (48 * x1)) + (μ 103 x1))) ∧ (zw ((zw (48 * x1)) + (μ 103 x1))) < 144) <|
  zlet (zup μ 105 (zw ((zw (48 * x1)) + (μ 103 x1))) x2) fun μ_1 =>
  chk ((0 : Int) ≤ x1 ∧ x1 < 3) <|
  chk ((0 : Int) ≤ (zw ((zw (48 * x1)) + (μ_1 103 x1))) ∧ (zw ((zw (48 * x1)) + (μ_1 103 x1))) < 144) <|
  zlet (zup μ_1 106 (zw ((zw (48 * x1)) + (μ_1 103 x1))) x3) fun μ_2 =>
  chk ((0 : Int) ≤ x1 ∧ x1 < 3) <|
  chk ((0 : Int) ≤ x1 ∧ x1 < 3) <|
  zlet (zup μ_2 103 x1 (zw ((μ_2 103 x1) + 1))) fun μ_3 =>
  chk ((0 : Int) ≤ x1 ∧ x1 < 3) <|
  some ((zw ((μ_3 103 x1) - 1)), μ_3)
set_option maxHeartbeats 4000000 in
set_option maxRecDepth 100000 in
theorem M_X10_addEdge {l : Launch} {Ω : zO} (hI : zIm Ω) (μ : zMem) (x1 : Int) (x2 : Int) (x3 : Int) {r : Int} {μ' : zMem} (gx1 : Rg x1) (gx2 : Rg x2) (gx3 : Rg x3) (h : f_X10_addEdge x1 x2 x3 μ = some (r, μ')) : XMet l yX10_addEdge cX10_addEdge 4 (some Jvm.ClassFile.FieldType.int) 0 Ω [zR Ω 101, zI x1, zI x2, zI x3] μ (some (zI r)) (Rg r) μ' := by
  refine XMet.ofI (by decide) (Nat.le_of_ble_eq_true rfl) ?_
  intro p e s m args below meth c ls Q C rt X hl
  have C : zC p s m args c cX10_addEdge RX10 4 Ω := C
  have hl : lv_has ls 4 [(0, zR Ω 101), (1, zI x1), (2, zI x2), (3, zI x3)] := hl
  unfold f_X10_addEdge at h
  skip
  refine lv_aload_n C.1 C.2.1 dX10_addEdge_0 rfl (lv_at hl 0 rfl) ?_
  refine z_get C X zk10 (hI.1 101 (by decide)) rfl 3 (by decide) kw_1035 (zR Ω 105) (zfvF (off := 4) X.2.2.2 (hI.1 101 (by decide)) hI.2 rfl rfl (by decide)) dX10_addEdge_1 ?_
  refine z_bipush C dX10_addEdge_4 (by decide) ?_
  refine lv_iload_n C.1 C.2.1 dX10_addEdge_6 rfl (lv_at hl 1 rfl) ?_
  refine z_imul C dX10_addEdge_7 ?_
  refine lv_aload_n C.1 C.2.1 dX10_addEdge_8 rfl (lv_at hl 0 rfl) ?_
  refine z_get C X zk10 (hI.1 101 (by decide)) rfl 1 (by decide) kw_1033 (zR Ω 103) (zfvF (off := 2) X.2.2.2 (hI.1 101 (by decide)) hI.2 rfl rfl (by decide)) dX10_addEdge_9 ?_
  refine lv_iload_n C.1 C.2.1 dX10_addEdge_12 rfl (lv_at hl 1 rfl) ?_
  obtain ⟨hc13, h⟩ := chk_some h
  have g_13 : Rg (μ 103 x1) := zrg1 X.2.2.2 (hI.1 103 (by decide)) rfl
  refine z_iald C X (hI.1 103 (by decide)) rfl hc13 dX10_addEdge_13 ?_
  refine z_iadd C dX10_addEdge_14 ?_
  refine lv_iload_n C.1 C.2.1 dX10_addEdge_15 rfl (lv_at hl 2 rfl) ?_
  obtain ⟨hc16, h⟩ := chk_some h
  refine zlet_elim h (fun μ_1 em h => ?_)
  refine z_iast C X (hI.1 105 (by decide)) rfl hc16 (zok1 rfl gx2) em dX10_addEdge_16 (fun H locs X => ?_)
  clear em
  refine lv_aload_n C.1 C.2.1 dX10_addEdge_17 rfl (lv_at hl 0 rfl) ?_
  refine z_get C X zk10 (hI.1 101 (by decide)) rfl 4 (by decide) kw_1036 (zR Ω 106) (zfvF (off := 5) X.2.2.2 (hI.1 101 (by decide)) hI.2 rfl rfl (by decide)) dX10_addEdge_18 ?_
  refine z_bipush C dX10_addEdge_21 (by decide) ?_
  refine lv_iload_n C.1 C.2.1 dX10_addEdge_23 rfl (lv_at hl 1 rfl) ?_
  refine z_imul C dX10_addEdge_24 ?_
  refine lv_aload_n C.1 C.2.1 dX10_addEdge_25 rfl (lv_at hl 0 rfl) ?_
  refine z_get C X zk10 (hI.1 101 (by decide)) rfl 1 (by decide) kw_1033 (zR Ω 103) (zfvF (off := 2) X.2.2.2 (hI.1 101 (by decide)) hI.2 rfl rfl (by decide)) dX10_addEdge_26 ?_
  refine lv_iload_n C.1 C.2.1 dX10_addEdge_29 rfl (lv_at hl 1 rfl) ?_
  obtain ⟨hc30, h⟩ := chk_some h
  have g_30 : Rg (μ_1 103 x1) := zrg1 X.2.2.2 (hI.1 103 (by decide)) rfl
  refine z_iald C X (hI.1 103 (by decide)) rfl hc30 dX10_addEdge_30 ?_
  refine z_iadd C dX10_addEdge_31 ?_
  refine lv_iload_n C.1 C.2.1 dX10_addEdge_32 rfl (lv_at hl 3 rfl) ?_
  obtain ⟨hc33, h⟩ := chk_some h
  refine zlet_elim h (fun μ_2 em h => ?_)
  refine z_iast C X (hI.1 106 (by decide)) rfl hc33 (zok1 rfl gx3) em dX10_addEdge_33 (fun H locs X => ?_)
  clear em
  refine lv_aload_n C.1 C.2.1 dX10_addEdge_34 rfl (lv_at hl 0 rfl) ?_
  refine z_get C X zk10 (hI.1 101 (by decide)) rfl 1 (by decide) kw_1033 (zR Ω 103) (zfvF (off := 2) X.2.2.2 (hI.1 101 (by decide)) hI.2 rfl rfl (by decide)) dX10_addEdge_35 ?_
  refine lv_iload_n C.1 C.2.1 dX10_addEdge_38 rfl (lv_at hl 1 rfl) ?_
  refine lv_dup2_11 C.1 C.2.1 dX10_addEdge_39 rfl rfl ?_
  obtain ⟨hc40, h⟩ := chk_some h
  have g_40 : Rg (μ_2 103 x1) := zrg1 X.2.2.2 (hI.1 103 (by decide)) rfl
  refine z_iald C X (hI.1 103 (by decide)) rfl hc40 dX10_addEdge_40 ?_
  refine z_iconst C dX10_addEdge_41 ?_
  refine z_iadd C dX10_addEdge_42 ?_
  obtain ⟨hc43, h⟩ := chk_some h
  refine zlet_elim h (fun μ_3 em h => ?_)
  refine z_iast C X (hI.1 103 (by decide)) rfl hc43 (zok1 rfl (Rg.w _)) em dX10_addEdge_43 (fun H locs X => ?_)
  clear em
  refine lv_aload_n C.1 C.2.1 dX10_addEdge_44 rfl (lv_at hl 0 rfl) ?_
  refine z_get C X zk10 (hI.1 101 (by decide)) rfl 1 (by decide) kw_1033 (zR Ω 103) (zfvF (off := 2) X.2.2.2 (hI.1 101 (by decide)) hI.2 rfl rfl (by decide)) dX10_addEdge_45 ?_
  refine lv_iload_n C.1 C.2.1 dX10_addEdge_48 rfl (lv_at hl 1 rfl) ?_
  obtain ⟨hc49, h⟩ := chk_some h
  have g_49 : Rg (μ_3 103 x1) := zrg1 X.2.2.2 (hI.1 103 (by decide)) rfl
  refine z_iald C X (hI.1 103 (by decide)) rfl hc49 dX10_addEdge_49 ?_
  refine z_iconst C dX10_addEdge_50 ?_
  refine z_isub C dX10_addEdge_51 ?_
  obtain ⟨rfl, rfl⟩ := Prod.mk.inj (Option.some.inj h)
  exact rt X (Rg.w _) dX10_addEdge_52
theorem zc_X10_addEdge : zcal yX10_addEdge cX10_addEdge 4 (some Jvm.ClassFile.FieldType.int) RX10 3 := ⟨⟨kw_1235, kw_1234, kp_54, kw_12⟩, rfl, by decide, by decide, by decide +kernel⟩

def f_X10_edge (x1 : Int) (x2 : Int) (x3 : Int) (μ : zMem) : Option (Int × zMem) :=
  if (f_X10_isSpace x1) = 0 then
    some ((-1), μ)
  else
    chk ((0 : Int) ≤ x1 ∧ x1 < 3) <|
    if (f_X10_in x2 0 (zw ((μ 102 x1) - 1))) = 0 then
      some ((-1), μ)
    else
      chk ((0 : Int) ≤ x1 ∧ x1 < 3) <|
      if (f_X10_in x3 0 (zw ((μ 102 x1) - 1))) = 0 then
        some ((-1), μ)
      else
        chk ((0 : Int) ≤ x1 ∧ x1 < 3) <|
        if (μ 103 x1) = 12 then
          some ((-3), μ)
        else
          bnd2 (f_X10_addEdge x1 x2 x3 μ) fun x_1 μ_2 =>
          some (x_1, μ_2)
set_option maxHeartbeats 4000000 in
set_option maxRecDepth 100000 in
theorem M_X10_edge {l : Launch} {Ω : zO} (hI : zIm Ω) (μ : zMem) (x1 : Int) (x2 : Int) (x3 : Int) {r : Int} {μ' : zMem} (gx1 : Rg x1) (gx2 : Rg x2) (gx3 : Rg x3) (h : f_X10_edge x1 x2 x3 μ = some (r, μ')) : XMet l yX10_edge cX10_edge 4 (some Jvm.ClassFile.FieldType.int) 2 Ω [zR Ω 101, zI x1, zI x2, zI x3] μ (some (zI r)) (Rg r) μ' := by
  refine XMet.ofI (by decide) (Nat.le_of_ble_eq_true rfl) ?_
  intro p e s m args below meth c ls Q C rt X hl
  have C : zC p s m args c cX10_edge RX10 4 Ω := C
  have hl : lv_has ls 4 [(0, zR Ω 101), (1, zI x1), (2, zI x2), (3, zI x3)] := hl
  unfold f_X10_edge at h
  skip
  refine lv_iload_n C.1 C.2.1 dX10_edge_0 rfl (lv_at hl 1 rfl) ?_
  refine z_callS1 C X (As := [zI x1]) (M_X10_isSpace hI μ x1 gx1) zc_X10_isSpace kw_1214 (zroom (by decide) (by decide)) rfl hl.1 rfl (Nat.le_of_ble_eq_true rfl) dX10_edge_1 ⟨Nat.zero_le _, Nat.zero_le _⟩ (fun H locs g_1 X => ?_)
  refine z_ifeq C (rgz g_1) (tgt := 39) dX10_edge_4 (by decide) (fun hc4 => ?_) (fun hc4 => ?_)
  · rw [if_pos hc4] at h
    refine z_iconst C dX10_edge_39 ?_
    obtain ⟨rfl, rfl⟩ := Prod.mk.inj (Option.some.inj h)
    exact rt X ⟨by decide, by decide⟩ dX10_edge_40
  · rw [if_neg hc4] at h
    refine lv_iload_n C.1 C.2.1 dX10_edge_7 rfl (lv_at hl 2 rfl) ?_
    refine z_iconst C dX10_edge_8 ?_
    refine lv_aload_n C.1 C.2.1 dX10_edge_9 rfl (lv_at hl 0 rfl) ?_
    refine z_get C X zk10 (hI.1 101 (by decide)) rfl 0 (by decide) kw_1032 (zR Ω 102) (zfvF (off := 1) X.2.2.2 (hI.1 101 (by decide)) hI.2 rfl rfl (by decide)) dX10_edge_10 ?_
    refine lv_iload_n C.1 C.2.1 dX10_edge_13 rfl (lv_at hl 1 rfl) ?_
    obtain ⟨hc14, h⟩ := chk_some h
    have g_14 : Rg (μ 102 x1) := zrg1 X.2.2.2 (hI.1 102 (by decide)) rfl
    refine z_iald C X (hI.1 102 (by decide)) rfl hc14 dX10_edge_14 ?_
    refine z_iconst C dX10_edge_15 ?_
    refine z_isub C dX10_edge_16 ?_
    refine z_callS1 C X (As := [zI x2, zI 0, zI (zw ((μ 102 x1) - 1))]) (M_X10_in hI μ x2 0 (zw ((μ 102 x1) - 1)) gx2 ⟨by decide, by decide⟩ (Rg.w _)) zc_X10_in kw_1217 (zroom (by decide) (by decide)) rfl hl.1 rfl (Nat.le_of_ble_eq_true rfl) dX10_edge_17 ⟨Nat.zero_le _, Nat.zero_le _⟩ (fun H locs g_17 X => ?_)
    refine z_ifeq C (rgz g_17) (tgt := 39) dX10_edge_20 (by decide) (fun hc20 => ?_) (fun hc20 => ?_)
    · rw [if_pos hc20] at h
      refine z_iconst C dX10_edge_39 ?_
      obtain ⟨rfl, rfl⟩ := Prod.mk.inj (Option.some.inj h)
      exact rt X ⟨by decide, by decide⟩ dX10_edge_40
    · rw [if_neg hc20] at h
      refine lv_iload_n C.1 C.2.1 dX10_edge_23 rfl (lv_at hl 3 rfl) ?_
      refine z_iconst C dX10_edge_24 ?_
      refine lv_aload_n C.1 C.2.1 dX10_edge_25 rfl (lv_at hl 0 rfl) ?_
      refine z_get C X zk10 (hI.1 101 (by decide)) rfl 0 (by decide) kw_1032 (zR Ω 102) (zfvF (off := 1) X.2.2.2 (hI.1 101 (by decide)) hI.2 rfl rfl (by decide)) dX10_edge_26 ?_
      refine lv_iload_n C.1 C.2.1 dX10_edge_29 rfl (lv_at hl 1 rfl) ?_
      obtain ⟨hc30, h⟩ := chk_some h
      have g_30 : Rg (μ 102 x1) := zrg1 X.2.2.2 (hI.1 102 (by decide)) rfl
      refine z_iald C X (hI.1 102 (by decide)) rfl hc30 dX10_edge_30 ?_
      refine z_iconst C dX10_edge_31 ?_
      refine z_isub C dX10_edge_32 ?_
      refine z_callS1 C X (As := [zI x3, zI 0, zI (zw ((μ 102 x1) - 1))]) (M_X10_in hI μ x3 0 (zw ((μ 102 x1) - 1)) gx3 ⟨by decide, by decide⟩ (Rg.w _)) zc_X10_in kw_1217 (zroom (by decide) (by decide)) rfl hl.1 rfl (Nat.le_of_ble_eq_true rfl) dX10_edge_33 ⟨Nat.zero_le _, Nat.zero_le _⟩ (fun H locs g_33 X => ?_)
      refine z_ifne C (rgz g_33) (tgt := 41) dX10_edge_36 (by decide) (fun hc36 => ?_) (fun hc36 => ?_)
      · rw [if_neg hc36] at h
        refine lv_aload_n C.1 C.2.1 dX10_edge_41 rfl (lv_at hl 0 rfl) ?_
        refine z_get C X zk10 (hI.1 101 (by decide)) rfl 1 (by decide) kw_1033 (zR Ω 103) (zfvF (off := 2) X.2.2.2 (hI.1 101 (by decide)) hI.2 rfl rfl (by decide)) dX10_edge_42 ?_
        refine lv_iload_n C.1 C.2.1 dX10_edge_45 rfl (lv_at hl 1 rfl) ?_
        obtain ⟨hc46, h⟩ := chk_some h
        have g_46 : Rg (μ 103 x1) := zrg1 X.2.2.2 (hI.1 103 (by decide)) rfl
        refine z_iald C X (hI.1 103 (by decide)) rfl hc46 dX10_edge_46 ?_
        refine z_bipush C dX10_edge_47 (by decide) ?_
        refine z_icmpne C g_46 ⟨by decide, by decide⟩ (tgt := 57) dX10_edge_49 (by decide) (fun hc49 => ?_) (fun hc49 => ?_)
        · rw [if_neg hc49] at h
          refine lv_aload_n C.1 C.2.1 dX10_edge_57 rfl (lv_at hl 0 rfl) ?_
          refine lv_iload_n C.1 C.2.1 dX10_edge_58 rfl (lv_at hl 1 rfl) ?_
          refine lv_iload_n C.1 C.2.1 dX10_edge_59 rfl (lv_at hl 2 rfl) ?_
          refine lv_iload_n C.1 C.2.1 dX10_edge_60 rfl (lv_at hl 3 rfl) ?_
          obtain ⟨x_1, μ_2, hq61, h⟩ := bnd2_some h
          refine z_callV1 C X zk10 (hI.1 101 (by decide)) rfl (As := [zI x1, zI x2, zI x3]) (M_X10_addEdge hI μ x1 x2 x3 gx1 gx2 gx3 hq61) zc_X10_addEdge kw_1232 (zroom (by decide) (by decide)) rfl hl.1 rfl (Nat.le_of_ble_eq_true rfl) dX10_edge_61 ⟨Nat.zero_le _, Nat.zero_le _⟩ (fun H locs g_61 X => ?_)
          obtain ⟨rfl, rfl⟩ := Prod.mk.inj (Option.some.inj h)
          exact rt X g_61 dX10_edge_64
        · rw [if_pos hc49] at h
          refine z_bipush C dX10_edge_52 (by decide) ?_
          refine lv_goto (tgt := 64) C.1 C.2.1 dX10_edge_54 (by decide) ?_
          obtain ⟨rfl, rfl⟩ := Prod.mk.inj (Option.some.inj h)
          exact rt X ⟨by decide, by decide⟩ dX10_edge_64
      · rw [if_pos hc36] at h
        refine z_iconst C dX10_edge_39 ?_
        obtain ⟨rfl, rfl⟩ := Prod.mk.inj (Option.some.inj h)
        exact rt X ⟨by decide, by decide⟩ dX10_edge_40
theorem zc_X10_edge : zcal yX10_edge cX10_edge 4 (some Jvm.ClassFile.FieldType.int) RX10 3 := ⟨⟨kw_1231, kw_1229, kw_1230, kw_12⟩, rfl, by decide, by decide, by decide +kernel⟩

