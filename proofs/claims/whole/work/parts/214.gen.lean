def f_X9_storeys (x1 : Int) (μ : zMem) : Option Int :=
  if (f_X9_isOwn x1) = 0 then
    if x1 = 2 then
      if (f_X1_isLaid μ) = 0 then
        some (-1)
      else
        chk ((μ 3 8) ≠ 0) <|
        zlet (μ 3 8) fun x_1 =>
        some (μ x_1 0)
    else
      some (-1)
  else
    some (-12)
set_option maxHeartbeats 4000000 in
set_option maxRecDepth 100000 in
theorem M_X9_storeys {l : Launch} {Ω : zO} (hI : zIc Ω) (μ : zMem) (x1 : Int) {r : Int} (gx1 : Rg x1) (h : f_X9_storeys x1 μ = some r) : XMet l yX9_storeys cX9_storeys 2 (some Jvm.ClassFile.FieldType.int) 1 Ω [zR Ω 1, zI x1] μ (some (zI r)) (Rg r) μ := by
  refine XMet.ofI (by decide) (Nat.le_of_ble_eq_true rfl) ?_
  intro p e s m args below meth c ls Q C rt X hl
  have C : zC p s m args c cX9_storeys RX9 2 Ω := C
  have hl : lv_has ls 2 [(0, zR Ω 1), (1, zI x1)] := hl
  unfold f_X9_storeys at h
  skip
  refine lv_iload_n C.1 C.2.1 dX9_storeys_0 rfl (lv_at hl 1 rfl) ?_
  refine z_callS1 C X (As := [zI x1]) (M_X9_isOwn hI μ x1 gx1) zc_X9_isOwn kw_427 (zroom (by decide) (by decide)) rfl hl.1 rfl (Nat.le_of_ble_eq_true rfl) dX9_storeys_1 ⟨Nat.zero_le _, Nat.zero_le _⟩ (fun H locs g_1 X => ?_)
  refine z_ifeq C (rgz g_1) (tgt := 10) dX9_storeys_4 (by decide) (fun hc4 => ?_) (fun hc4 => ?_)
  · rw [if_pos hc4] at h
    refine lv_iload_n C.1 C.2.1 dX9_storeys_10 rfl (lv_at hl 1 rfl) ?_
    refine z_iconst C dX9_storeys_11 ?_
    refine z_icmpne C gx1 ⟨by decide, by decide⟩ (tgt := 25) dX9_storeys_12 (by decide) (fun hc12 => ?_) (fun hc12 => ?_)
    · rw [if_neg hc12] at h
      refine z_iconst C dX9_storeys_25 ?_
      obtain rfl := Option.some.inj h
      exact rt X ⟨by decide, by decide⟩ dX9_storeys_26
    · rw [if_pos hc12] at h
      refine lv_aload_n C.1 C.2.1 dX9_storeys_15 rfl (lv_at hl 0 rfl) ?_
      refine z_get C X zk9 (hI.1 1 (by decide)) rfl 1 (by decide) kw_390 (zR Ω 3) (zfvF (off := 2) X.2.2.2 (hI.1 1 (by decide)) (hI.2 1 (by decide)) rfl rfl (by decide)) dX9_storeys_16 ?_
      refine z_callV1 C X zk1 (hI.1 3 (by decide)) rfl (As := []) (M_X1_isLaid hI μ) zc_X1_isLaid kw_562 (zroom (by decide) (by decide)) rfl hl.1 rfl (Nat.le_of_ble_eq_true rfl) dX9_storeys_19 ⟨Nat.zero_le _, Nat.zero_le _⟩ (fun H locs g_19 X => ?_)
      refine z_ifne C (rgz g_19) (tgt := 27) dX9_storeys_22 (by decide) (fun hc22 => ?_) (fun hc22 => ?_)
      · rw [if_neg hc22] at h
        refine lv_aload_n C.1 C.2.1 dX9_storeys_27 rfl (lv_at hl 0 rfl) ?_
        refine z_get C X zk9 (hI.1 1 (by decide)) rfl 1 (by decide) kw_390 (zR Ω 3) (zfvF (off := 2) X.2.2.2 (hI.1 1 (by decide)) (hI.2 1 (by decide)) rfl rfl (by decide)) dX9_storeys_28 ?_
        obtain ⟨hn31, h⟩ := chk_some h
        have o_31 : zob Ω.2.2.1 4 (μ 3 8) := (zrgf4 (ci := 1) X.2.2.2 (hI.1 3 (by decide)) rfl 8 4 rfl rfl).resolve_left hn31
        refine z_get C X zk1 (hI.1 3 (by decide)) rfl 8 (by decide) kw_138 (zQ Ω (μ 3 8)) rfl dX9_storeys_31 ?_
        rw [zQ_pos Ω hn31]
        refine zlet_elim h (fun x_1 ex_1 h => ?_)
        rw [← ex_1] at o_31 ⊢
        clear hn31 ex_1
        have g_34 : Rg (μ x_1 0) := zrgf0 (ci := 4) X.2.2.2 (zob.self o_31) (zo4 o_31) 0 rfl
        refine z_get C X zk4 (zob.self o_31) (zo4 o_31) 0 (by decide) kw_372 (zI (μ x_1 0)) rfl dX9_storeys_34 ?_
        obtain rfl := Option.some.inj h
        exact rt X g_34 dX9_storeys_37
      · rw [if_pos hc22] at h
        refine z_iconst C dX9_storeys_25 ?_
        obtain rfl := Option.some.inj h
        exact rt X ⟨by decide, by decide⟩ dX9_storeys_26
  · rw [if_neg hc4] at h
    refine z_bipush C dX9_storeys_7 (by decide) ?_
    obtain rfl := Option.some.inj h
    exact rt X ⟨by decide, by decide⟩ dX9_storeys_9
theorem zc_X9_storeys : zcal yX9_storeys cX9_storeys 2 (some Jvm.ClassFile.FieldType.int) RX9 1 := ⟨⟨kw_812, kw_810, kw_811, kw_1⟩, rfl, by decide, by decide, by decide +kernel⟩

def f_X9_moves (x1 : Int) (x2 : Int) (μ : zMem) : Option Int :=
  if (f_X1_isLaid μ) = 0 then
    some (-4)
  else
    if x1 < 0 then
      some (-1)
    else
      if x1 < (μ 3 7) then
        bnd (f_X1_hasStorey x2 μ) fun x_1 =>
        if x_1 = 0 then
          some (-1)
        else
          chk ((μ 3 8) ≠ 0) <|
          zlet (μ 3 8) fun x_2 =>
          chk ((0 : Int) ≤ x1 ∧ x1 < 12) <|
          bnd (f_X4_move x_2 (μ 11 x1) x2 μ) fun x_3 =>
          some x_3
      else
        some (-1)
set_option maxHeartbeats 4000000 in
set_option maxRecDepth 100000 in
theorem M_X9_moves {l : Launch} {Ω : zO} (hI : zIc Ω) (μ : zMem) (x1 : Int) (x2 : Int) {r : Int} (gx1 : Rg x1) (gx2 : Rg x2) (h : f_X9_moves x1 x2 μ = some r) : XMet l yX9_moves cX9_moves 3 (some Jvm.ClassFile.FieldType.int) 1 Ω [zR Ω 1, zI x1, zI x2] μ (some (zI r)) (Rg r) μ := by
  refine XMet.ofI (by decide) (Nat.le_of_ble_eq_true rfl) ?_
  intro p e s m args below meth c ls Q C rt X hl
  have C : zC p s m args c cX9_moves RX9 3 Ω := C
  have hl : lv_has ls 3 [(0, zR Ω 1), (1, zI x1), (2, zI x2)] := hl
  unfold f_X9_moves at h
  skip
  refine lv_aload_n C.1 C.2.1 dX9_moves_0 rfl (lv_at hl 0 rfl) ?_
  refine z_get C X zk9 (hI.1 1 (by decide)) rfl 1 (by decide) kw_390 (zR Ω 3) (zfvF (off := 2) X.2.2.2 (hI.1 1 (by decide)) (hI.2 1 (by decide)) rfl rfl (by decide)) dX9_moves_1 ?_
  refine z_callV1 C X zk1 (hI.1 3 (by decide)) rfl (As := []) (M_X1_isLaid hI μ) zc_X1_isLaid kw_562 (zroom (by decide) (by decide)) rfl hl.1 rfl (Nat.le_of_ble_eq_true rfl) dX9_moves_4 ⟨Nat.zero_le _, Nat.zero_le _⟩ (fun H locs g_4 X => ?_)
  refine z_ifne C (rgz g_4) (tgt := 13) dX9_moves_7 (by decide) (fun hc7 => ?_) (fun hc7 => ?_)
  · rw [if_neg hc7] at h
    refine lv_iload_n C.1 C.2.1 dX9_moves_13 rfl (lv_at hl 1 rfl) ?_
    refine z_iflt C gx1 (tgt := 39) dX9_moves_14 (by decide) (fun hc14 => ?_) (fun hc14 => ?_)
    · rw [if_pos hc14] at h
      refine z_iconst C dX9_moves_39 ?_
      obtain rfl := Option.some.inj h
      exact rt X ⟨by decide, by decide⟩ dX9_moves_40
    · rw [if_neg hc14] at h
      refine lv_iload_n C.1 C.2.1 dX9_moves_17 rfl (lv_at hl 1 rfl) ?_
      refine lv_aload_n C.1 C.2.1 dX9_moves_18 rfl (lv_at hl 0 rfl) ?_
      refine z_get C X zk9 (hI.1 1 (by decide)) rfl 1 (by decide) kw_390 (zR Ω 3) (zfvF (off := 2) X.2.2.2 (hI.1 1 (by decide)) (hI.2 1 (by decide)) rfl rfl (by decide)) dX9_moves_19 ?_
      have g_22 : Rg (μ 3 7) := zrgf0 (ci := 1) X.2.2.2 (hI.1 3 (by decide)) rfl 7 rfl
      refine z_get C X zk1 (hI.1 3 (by decide)) rfl 7 (by decide) kw_136 (zI (μ 3 7)) rfl dX9_moves_22 ?_
      refine z_icmpge C gx1 g_22 (tgt := 39) dX9_moves_25 (by decide) (fun hc25 => ?_) (fun hc25 => ?_)
      · rw [if_neg hc25] at h
        refine z_iconst C dX9_moves_39 ?_
        obtain rfl := Option.some.inj h
        exact rt X ⟨by decide, by decide⟩ dX9_moves_40
      · rw [if_pos hc25] at h
        refine lv_aload_n C.1 C.2.1 dX9_moves_28 rfl (lv_at hl 0 rfl) ?_
        refine z_get C X zk9 (hI.1 1 (by decide)) rfl 1 (by decide) kw_390 (zR Ω 3) (zfvF (off := 2) X.2.2.2 (hI.1 1 (by decide)) (hI.2 1 (by decide)) rfl rfl (by decide)) dX9_moves_29 ?_
        refine lv_iload_n C.1 C.2.1 dX9_moves_32 rfl (lv_at hl 2 rfl) ?_
        obtain ⟨x_1, hq33, h⟩ := bnd_some h
        refine z_callV1 C X zk1 (hI.1 3 (by decide)) rfl (As := [zI x2]) (M_X1_hasStorey hI μ x2 gx2 hq33) zc_X1_hasStorey kw_817 (zroom (by decide) (by decide)) rfl hl.1 rfl (Nat.le_of_ble_eq_true rfl) dX9_moves_33 ⟨Nat.zero_le _, Nat.zero_le _⟩ (fun H locs g_33 X => ?_)
        refine z_ifne C (rgz g_33) (tgt := 41) dX9_moves_36 (by decide) (fun hc36 => ?_) (fun hc36 => ?_)
        · rw [if_neg hc36] at h
          refine lv_aload_n C.1 C.2.1 dX9_moves_41 rfl (lv_at hl 0 rfl) ?_
          refine z_get C X zk9 (hI.1 1 (by decide)) rfl 1 (by decide) kw_390 (zR Ω 3) (zfvF (off := 2) X.2.2.2 (hI.1 1 (by decide)) (hI.2 1 (by decide)) rfl rfl (by decide)) dX9_moves_42 ?_
          obtain ⟨hn45, h⟩ := chk_some h
          have o_45 : zob Ω.2.2.1 4 (μ 3 8) := (zrgf4 (ci := 1) X.2.2.2 (hI.1 3 (by decide)) rfl 8 4 rfl rfl).resolve_left hn45
          refine z_get C X zk1 (hI.1 3 (by decide)) rfl 8 (by decide) kw_138 (zQ Ω (μ 3 8)) rfl dX9_moves_45 ?_
          rw [zQ_pos Ω hn45]
          refine zlet_elim h (fun x_2 ex_2 h => ?_)
          rw [← ex_2] at o_45 ⊢
          clear hn45 ex_2
          refine lv_aload_n C.1 C.2.1 dX9_moves_48 rfl (lv_at hl 0 rfl) ?_
          refine z_get C X zk9 (hI.1 1 (by decide)) rfl 1 (by decide) kw_390 (zR Ω 3) (zfvF (off := 2) X.2.2.2 (hI.1 1 (by decide)) (hI.2 1 (by decide)) rfl rfl (by decide)) dX9_moves_49 ?_
          refine z_get C X zk1 (hI.1 3 (by decide)) rfl 1 (by decide) kw_128 (zR Ω 11) (zfvF (off := 8) X.2.2.2 (hI.1 3 (by decide)) (hI.2 3 (by decide)) rfl rfl (by decide)) dX9_moves_52 ?_
          refine lv_iload_n C.1 C.2.1 dX9_moves_55 rfl (lv_at hl 1 rfl) ?_
          obtain ⟨hc56, h⟩ := chk_some h
          have g_56 : Rg (μ 11 x1) := zrg1 X.2.2.2 (hI.1 11 (by decide)) rfl
          refine z_iald C X (hI.1 11 (by decide)) rfl hc56 dX9_moves_56 ?_
          refine lv_iload_n C.1 C.2.1 dX9_moves_57 rfl (lv_at hl 2 rfl) ?_
          obtain ⟨x_3, hq58, h⟩ := bnd_some h
          refine z_callV1 C X zk4 (zob.self o_45) (zo4 o_45) (As := [zI (μ 11 x1), zI x2]) (M_X4_move μ x_2 (μ 11 x1) x2 o_45 g_56 gx2 hq58) zc_X4_move kw_821 (zroom (by decide) (by decide)) rfl hl.1 rfl (Nat.le_of_ble_eq_true rfl) dX9_moves_58 ⟨Nat.zero_le _, Nat.zero_le _⟩ (fun H locs g_58 X => ?_)
          obtain rfl := Option.some.inj h
          exact rt X g_58 dX9_moves_61
        · rw [if_pos hc36] at h
          refine z_iconst C dX9_moves_39 ?_
          obtain rfl := Option.some.inj h
          exact rt X ⟨by decide, by decide⟩ dX9_moves_40
  · rw [if_pos hc7] at h
    refine z_bipush C dX9_moves_10 (by decide) ?_
    obtain rfl := Option.some.inj h
    exact rt X ⟨by decide, by decide⟩ dX9_moves_12
theorem zc_X9_moves : zcal yX9_moves cX9_moves 3 (some Jvm.ClassFile.FieldType.int) RX9 2 := ⟨⟨kw_816, kw_814, kw_815, kw_1⟩, rfl, by decide, by decide, by decide +kernel⟩

def f_X9_isSlot (x0 : Int) : Int :=
  if x0 < 0 then
    0
  else
    if x0 < 4 then
      1
    else
      0
set_option maxHeartbeats 4000000 in
set_option maxRecDepth 100000 in
theorem M_X9_isSlot {l : Launch} {Ω : zO} (hI : zIc Ω) (μ : zMem) (x0 : Int) (gx0 : Rg x0) : XMet l yX9_isSlot cX9_isSlot 1 (some Jvm.ClassFile.FieldType.boolean) 0 Ω [zI x0] μ (some (zI (f_X9_isSlot x0))) (0 ≤ (f_X9_isSlot x0) ∧ (f_X9_isSlot x0) ≤ 1) μ := by
  obtain ⟨r, h⟩ : ∃ r, f_X9_isSlot x0 = r := ⟨_, rfl⟩
  rw [h]
  refine XMet.ofZ (by decide) (Nat.le_of_ble_eq_true rfl) ?_
  intro p e s m args below meth c ls Q C rt X hl
  have C : zC p s m args c cX9_isSlot RX9 1 Ω := C
  have hl : lv_has ls 1 [(0, zI x0)] := hl
  unfold f_X9_isSlot at h
  skip
  refine lv_iload_n C.1 C.2.1 dX9_isSlot_0 rfl (lv_at hl 0 rfl) ?_
  refine z_iflt C gx0 (tgt := 13) dX9_isSlot_1 (by decide) (fun hc1 => ?_) (fun hc1 => ?_)
  · rw [if_pos hc1] at h
    refine z_iconst C dX9_isSlot_13 ?_
    subst h
    exact rt X ⟨by decide, by decide⟩ dX9_isSlot_14
  · rw [if_neg hc1] at h
    refine lv_iload_n C.1 C.2.1 dX9_isSlot_4 rfl (lv_at hl 0 rfl) ?_
    refine z_iconst C dX9_isSlot_5 ?_
    refine z_icmpge C gx0 ⟨by decide, by decide⟩ (tgt := 13) dX9_isSlot_6 (by decide) (fun hc6 => ?_) (fun hc6 => ?_)
    · rw [if_neg hc6] at h
      refine z_iconst C dX9_isSlot_13 ?_
      subst h
      exact rt X ⟨by decide, by decide⟩ dX9_isSlot_14
    · rw [if_pos hc6] at h
      refine z_iconst C dX9_isSlot_9 ?_
      refine lv_goto (tgt := 14) C.1 C.2.1 dX9_isSlot_10 (by decide) ?_
      subst h
      exact rt X ⟨by decide, by decide⟩ dX9_isSlot_14
theorem zc_X9_isSlot : zcas yX9_isSlot cX9_isSlot 1 (some Jvm.ClassFile.FieldType.boolean) 1 := ⟨⟨kw_828, kw_827, kw_1⟩, by decide, by decide, by decide +kernel⟩

def f_X9_lift_L81 (μ : zMem) (x_2 : Int) : Nat → Int → Int → Option Int
  | 0, _, _ => none
  | n + 1, x_4, x_5 =>
    if x_5 < (μ x_2 2) then
      chk ((0 : Int) ≤ x_5 ∧ x_5 < zlen (x_2 + 1)) <|
      bnd (f_X1_moveByStep (μ (x_2 + 1) x_5) x_4 μ) fun x_6 =>
      zlet (zw (x_5 + 1)) fun x_7 =>
      (f_X9_lift_L81 μ x_2 n) x_6 x_7
    else
      some x_4
def f_X9_lift (x1 : Int) (x2 : Int) (μ : zMem) : Option Int :=
  if (f_X1_isLaid μ) = 0 then
    some (-4)
  else
    if (f_X9_isSlot x1) = 0 then
      some (-1)
    else
      bnd (f_X1_hasStorey x2 μ) fun x_1 =>
      if x_1 = 0 then
        some (-1)
      else
        chk ((0 : Int) ≤ x1 ∧ x1 < 4) <|
        chk ((μ 16 x1) ≠ 0) <|
        zlet (μ 16 x1) fun x_2 =>
        if (μ x_2 1) = (μ 3 6) then
          if (μ x_2 3) = 0 then
            bnd (f_X1_knows x_2 μ) fun x_3 =>
            if x_3 = 0 then
              some (-2)
            else
              (f_X9_lift_L81 μ x_2) zfu x2 0
          else
            some (-2)
        else
          some (-2)
set_option maxHeartbeats 4000000 in
set_option maxRecDepth 100000 in
theorem M_X9_lift {l : Launch} {Ω : zO} (hI : zIc Ω) (μ : zMem) (x1 : Int) (x2 : Int) {r : Int} (gx1 : Rg x1) (gx2 : Rg x2) (h : f_X9_lift x1 x2 μ = some r) : XMet l yX9_lift cX9_lift 6 (some Jvm.ClassFile.FieldType.int) 2 Ω [zR Ω 1, zI x1, zI x2] μ (some (zI r)) (Rg r) μ := by
  refine XMet.ofI (by decide) (Nat.le_of_ble_eq_true rfl) ?_
  intro p e s m args below meth c ls Q C rt X hl
  have C : zC p s m args c cX9_lift RX9 6 Ω := C
  have hl : lv_has ls 6 [(0, zR Ω 1), (1, zI x1), (2, zI x2)] := hl
  unfold f_X9_lift at h
  skip
  refine lv_aload_n C.1 C.2.1 dX9_lift_0 rfl (lv_at hl 0 rfl) ?_
  refine z_get C X zk9 (hI.1 1 (by decide)) rfl 1 (by decide) kw_390 (zR Ω 3) (zfvF (off := 2) X.2.2.2 (hI.1 1 (by decide)) (hI.2 1 (by decide)) rfl rfl (by decide)) dX9_lift_1 ?_
  refine z_callV1 C X zk1 (hI.1 3 (by decide)) rfl (As := []) (M_X1_isLaid hI μ) zc_X1_isLaid kw_562 (zroom (by decide) (by decide)) rfl hl.1 rfl (Nat.le_of_ble_eq_true rfl) dX9_lift_4 ⟨Nat.zero_le _, Nat.zero_le _⟩ (fun H locs g_4 X => ?_)
  refine z_ifne C (rgz g_4) (tgt := 13) dX9_lift_7 (by decide) (fun hc7 => ?_) (fun hc7 => ?_)
  · rw [if_neg hc7] at h
    refine lv_iload_n C.1 C.2.1 dX9_lift_13 rfl (lv_at hl 1 rfl) ?_
    refine z_callS1 C X (As := [zI x1]) (M_X9_isSlot hI μ x1 gx1) zc_X9_isSlot kw_826 (zroom (by decide) (by decide)) rfl hl.1 rfl (Nat.le_of_ble_eq_true rfl) dX9_lift_14 ⟨Nat.zero_le _, Nat.zero_le _⟩ (fun H locs g_14 X => ?_)
    refine z_ifeq C (rgz g_14) (tgt := 31) dX9_lift_17 (by decide) (fun hc17 => ?_) (fun hc17 => ?_)
    · rw [if_pos hc17] at h
      refine z_iconst C dX9_lift_31 ?_
      obtain rfl := Option.some.inj h
      exact rt X ⟨by decide, by decide⟩ dX9_lift_32
    · rw [if_neg hc17] at h
      refine lv_aload_n C.1 C.2.1 dX9_lift_20 rfl (lv_at hl 0 rfl) ?_
      refine z_get C X zk9 (hI.1 1 (by decide)) rfl 1 (by decide) kw_390 (zR Ω 3) (zfvF (off := 2) X.2.2.2 (hI.1 1 (by decide)) (hI.2 1 (by decide)) rfl rfl (by decide)) dX9_lift_21 ?_
      refine lv_iload_n C.1 C.2.1 dX9_lift_24 rfl (lv_at hl 2 rfl) ?_
      obtain ⟨x_1, hq25, h⟩ := bnd_some h
      refine z_callV1 C X zk1 (hI.1 3 (by decide)) rfl (As := [zI x2]) (M_X1_hasStorey hI μ x2 gx2 hq25) zc_X1_hasStorey kw_817 (zroom (by decide) (by decide)) rfl hl.1 rfl (Nat.le_of_ble_eq_true rfl) dX9_lift_25 ⟨Nat.zero_le _, Nat.zero_le _⟩ (fun H locs g_25 X => ?_)
      refine z_ifne C (rgz g_25) (tgt := 33) dX9_lift_28 (by decide) (fun hc28 => ?_) (fun hc28 => ?_)
      · rw [if_neg hc28] at h
        refine lv_aload_n C.1 C.2.1 dX9_lift_33 rfl (lv_at hl 0 rfl) ?_
        refine z_get C X zk9 (hI.1 1 (by decide)) rfl 2 (by decide) kw_391 (zR Ω 16) (zfvF (off := 15) X.2.2.2 (hI.1 1 (by decide)) (hI.2 1 (by decide)) rfl rfl (by decide)) dX9_lift_34 ?_
        refine lv_iload_n C.1 C.2.1 dX9_lift_37 rfl (lv_at hl 1 rfl) ?_
        obtain ⟨hc38, h⟩ := chk_some h
        obtain ⟨hn38, h⟩ := chk_some h
        have o_38 := (zrg6 X.2.2.2 (hI.1 16 (by decide)) rfl (i := x1)).resolve_left hn38
        refine z_aald6 C X (hI.1 16 (by decide)) rfl hc38 dX9_lift_38 ?_
        rw [zQ_pos Ω hn38]
        refine zlet_elim h (fun x_2 ex_2 h => ?_)
        rw [← ex_2] at o_38 ⊢
        clear hn38 ex_2
        refine lv_astore_n C.1 C.2.1 (lv' := [(3, zR Ω x_2), (0, zR Ω 1), (1, zI x1), (2, zI x2)]) dX9_lift_39 rfl hl (by decide) rfl (fun ls hl => ?_)
        refine lv_aload_n C.1 C.2.1 dX9_lift_40 rfl (lv_at hl 0 rfl) ?_
        have g_41 : Rg (μ x_2 1) := zrgf0 (ci := 8) X.2.2.2 (zob.self o_38) (zo8 o_38) 1 rfl
        refine z_get C X zk8 (zob.self o_38) (zo8 o_38) 1 (by decide) kw_194 (zI (μ x_2 1)) rfl dX9_lift_41 ?_
        refine lv_aload_n C.1 C.2.1 dX9_lift_44 rfl (lv_at hl 1 rfl) ?_
        refine z_get C X zk9 (hI.1 1 (by decide)) rfl 1 (by decide) kw_390 (zR Ω 3) (zfvF (off := 2) X.2.2.2 (hI.1 1 (by decide)) (hI.2 1 (by decide)) rfl rfl (by decide)) dX9_lift_45 ?_
        have g_48 : Rg (μ 3 6) := zrgf0 (ci := 1) X.2.2.2 (hI.1 3 (by decide)) rfl 6 rfl
        refine z_get C X zk1 (hI.1 3 (by decide)) rfl 6 (by decide) kw_134 (zI (μ 3 6)) rfl dX9_lift_48 ?_
        refine z_icmpne C g_41 g_48 (tgt := 72) dX9_lift_51 (by decide) (fun hc51 => ?_) (fun hc51 => ?_)
        · rw [if_neg hc51] at h
          refine z_bipush C dX9_lift_72 (by decide) ?_
          obtain rfl := Option.some.inj h
          exact rt X ⟨by decide, by decide⟩ dX9_lift_74
        · rw [if_pos hc51] at h
          refine lv_aload_n C.1 C.2.1 dX9_lift_54 rfl (lv_at hl 0 rfl) ?_
          have g_55 : Rg (μ x_2 3) := zrgf0 (ci := 8) X.2.2.2 (zob.self o_38) (zo8 o_38) 3 rfl
          refine z_get C X zk8 (zob.self o_38) (zo8 o_38) 3 (by decide) kw_203 (zI (μ x_2 3)) rfl dX9_lift_55 ?_
          refine z_ifne C g_55 (tgt := 72) dX9_lift_58 (by decide) (fun hc58 => ?_) (fun hc58 => ?_)
          · rw [if_neg hc58] at h
            refine z_bipush C dX9_lift_72 (by decide) ?_
            obtain rfl := Option.some.inj h
            exact rt X ⟨by decide, by decide⟩ dX9_lift_74
          · rw [if_pos hc58] at h
            refine lv_aload_n C.1 C.2.1 dX9_lift_61 rfl (lv_at hl 1 rfl) ?_
            refine z_get C X zk9 (hI.1 1 (by decide)) rfl 1 (by decide) kw_390 (zR Ω 3) (zfvF (off := 2) X.2.2.2 (hI.1 1 (by decide)) (hI.2 1 (by decide)) rfl rfl (by decide)) dX9_lift_62 ?_
            refine lv_aload_n C.1 C.2.1 dX9_lift_65 rfl (lv_at hl 0 rfl) ?_
            obtain ⟨x_3, hq66, h⟩ := bnd_some h
            refine z_callV1 C X zk1 (hI.1 3 (by decide)) rfl (As := [zR Ω x_2]) (M_X1_knows hI μ x_2 o_38 hq66) zc_X1_knows kw_829 (zroom (by decide) (by decide)) rfl hl.1 rfl (Nat.le_of_ble_eq_true rfl) dX9_lift_66 ⟨Nat.zero_le _, Nat.zero_le _⟩ (fun H locs g_66 X => ?_)
            refine z_ifne C (rgz g_66) (tgt := 75) dX9_lift_69 (by decide) (fun hc69 => ?_) (fun hc69 => ?_)
            · rw [if_neg hc69] at h
              refine lv_iload_n C.1 C.2.1 dX9_lift_75 rfl (lv_at hl 3 rfl) ?_
              refine lv_istore C.1 C.2.1 (lv' := [(4, zI x2), (3, zR Ω x_2), (0, zR Ω 1), (1, zI x1), (2, zI x2)]) dX9_lift_76 hl (by decide) rfl (fun ls hl => ?_)
              refine z_iconst C dX9_lift_78 ?_
              refine lv_istore C.1 C.2.1 (lv' := [(5, zI 0), (4, zI x2), (3, zR Ω x_2), (0, zR Ω 1), (1, zI x1), (2, zI x2)]) dX9_lift_79 hl (by decide) rfl (fun ls hl => ?_)
              have L81 : ∀ (n81 : Nat) (x_4 : Int) (x_5 : Int) (H : Heap) (locs : List Loc) (ls : Array Slot), Rg x_4 → Rg x_5 → zX Ω μ (zfree Ω) s.heap H locs → lv_has ls 6 [(0, zR Ω 1), (3, zR Ω x_2), (4, zI x_4), (5, zI x_5)] → (f_X9_lift_L81 μ x_2 n81 x_4 x_5) = some r → W p l e (zrm 2) s m args below meth c H locs 0 0 Q (F0 m 81 ls []) := by
                intro n81
                induction n81 with
                | zero =>
                  intro x_4 x_5 H locs ls _ _ _ _ h
                  cases h
                | succ n81 ih81 =>
                  intro x_4 x_5 H locs ls gx_4 gx_5 X hl h
                  unfold f_X9_lift_L81 at h
                  refine lv_iload C.1 C.2.1 dX9_lift_81 (lv_at hl 3 rfl) ?_
                  refine lv_aload_n C.1 C.2.1 dX9_lift_83 rfl (lv_at hl 1 rfl) ?_
                  have g_84 : Rg (μ x_2 2) := zrgf0 (ci := 8) X.2.2.2 (zob.self o_38) (zo8 o_38) 2 rfl
                  refine z_get C X zk8 (zob.self o_38) (zo8 o_38) 2 (by decide) kw_198 (zI (μ x_2 2)) rfl dX9_lift_84 ?_
                  refine z_icmpge C gx_5 g_84 (tgt := 114) dX9_lift_87 (by decide) (fun hc87 => ?_) (fun hc87 => ?_)
                  · rw [if_neg hc87] at h
                    refine lv_iload C.1 C.2.1 dX9_lift_114 (lv_at hl 2 rfl) ?_
                    obtain rfl := Option.some.inj h
                    exact rt X gx_4 dX9_lift_116
                  · rw [if_pos hc87] at h
                    refine lv_aload_n C.1 C.2.1 dX9_lift_90 rfl (lv_at hl 0 rfl) ?_
                    refine z_get C X zk9 (hI.1 1 (by decide)) rfl 1 (by decide) kw_390 (zR Ω 3) (zfvF (off := 2) X.2.2.2 (hI.1 1 (by decide)) (hI.2 1 (by decide)) rfl rfl (by decide)) dX9_lift_91 ?_
                    refine lv_aload_n C.1 C.2.1 dX9_lift_94 rfl (lv_at hl 1 rfl) ?_
                    refine z_get C X zk8 (zob.self o_38) (zo8 o_38) 0 (by decide) kw_190 (zR Ω (x_2 + 1)) (zfvF (off := 1) X.2.2.2 (zob.self o_38) o_38.2.2 (zo8 o_38) rfl (by rw [zo8_1 o_38]; decide)) dX9_lift_95 ?_
                    refine lv_iload C.1 C.2.1 dX9_lift_98 (lv_at hl 3 rfl) ?_
                    obtain ⟨hc100, h⟩ := chk_some h
                    have g_100 : Rg (μ (x_2 + 1) x_5) := zrg1 X.2.2.2 (o_38.2.1 1 (by decide) (by decide)) (zo8_1 o_38)
                    refine z_iald C X (o_38.2.1 1 (by decide) (by decide)) (zo8_1 o_38) hc100 dX9_lift_100 ?_
                    refine lv_iload C.1 C.2.1 dX9_lift_101 (lv_at hl 2 rfl) ?_
                    obtain ⟨x_6, hq103, h⟩ := bnd_some h
                    refine z_callV1 C X zk1 (hI.1 3 (by decide)) rfl (As := [zI (μ (x_2 + 1) x_5), zI x_4]) (M_X1_moveByStep hI μ (μ (x_2 + 1) x_5) x_4 g_100 gx_4 hq103) zc_X1_moveByStep kw_833 (zroom (by decide) (by decide)) rfl hl.1 rfl (Nat.le_of_ble_eq_true rfl) dX9_lift_103 ⟨Nat.zero_le _, Nat.zero_le _⟩ (fun H locs g_103 X => ?_)
                    refine lv_istore C.1 C.2.1 (lv' := [(4, zI x_6), (0, zR Ω 1), (3, zR Ω x_2), (5, zI x_5)]) dX9_lift_106 hl (by decide) rfl (fun ls hl => ?_)
                    refine zlet_elim h (fun x_7 ex_7 h => ?_)
                    have gx_7 : Rg x_7 := by rw [ex_7]; exact Rg.w _
                    refine z_iinc C ex_7 dX9_lift_108 hl (k := 3) rfl (by decide) (lv' := [(5, zI x_7), (4, zI x_6), (0, zR Ω 1), (3, zR Ω x_2)]) rfl (fun ls hl => ?_)
                    clear ex_7
                    refine lv_goto (tgt := 81) C.1 C.2.1 dX9_lift_111 (by decide) ?_
                    exact ih81 x_6 x_7 _ _ _ g_103 gx_7 X (lv_sub hl [2, 3, 1, 0] rfl) h
              exact L81 zfu x2 0 _ _ _ gx2 ⟨by decide, by decide⟩ X (lv_sub hl [3, 2, 1, 0] rfl) h
            · rw [if_pos hc69] at h
              refine z_bipush C dX9_lift_72 (by decide) ?_
              obtain rfl := Option.some.inj h
              exact rt X ⟨by decide, by decide⟩ dX9_lift_74
      · rw [if_pos hc28] at h
        refine z_iconst C dX9_lift_31 ?_
        obtain rfl := Option.some.inj h
        exact rt X ⟨by decide, by decide⟩ dX9_lift_32
  · rw [if_pos hc7] at h
    refine z_bipush C dX9_lift_10 (by decide) ?_
    obtain rfl := Option.some.inj h
    exact rt X ⟨by decide, by decide⟩ dX9_lift_12
theorem zc_X9_lift : zcal yX9_lift cX9_lift 6 (some Jvm.ClassFile.FieldType.int) RX9 2 := ⟨⟨kw_825, kw_823, kw_824, kw_1⟩, rfl, by decide, by decide, by decide +kernel⟩

def f_X9_moved_L56 (x_1 : Int) (x_2 : Int) : Nat → Int → zMem → Option (Int × zMem)
  | 0, _, _ => none
  | n + 1, x_3, μ_4 =>
    if x_3 ≤ 4 then
      chk ((0 : Int) ≤ x_3 ∧ x_3 < 5) <|
      chk ((μ_4 18 x_3) ≠ 0) <|
      zlet (μ_4 18 x_3) fun x_5 =>
      bnd (f_X6_isMany x_2 x_5 μ_4) fun x_6 =>
      if x_6 = 0 then
        chk ((0 : Int) ≤ x_3 ∧ x_3 < 5) <|
        chk ((μ_4 18 x_3) ≠ 0) <|
        zlet (μ_4 18 x_3) fun x_8 =>
        bnd2 (f_X6_isMovedBySome x_2 x_8 x_1 μ_4) fun x_9 μ_10 =>
        if x_9 = 0 then
          zlet (zw (x_3 + 1)) fun x_11 =>
          (f_X9_moved_L56 x_1 x_2 n) x_11 μ_10
        else
          some (x_3, μ_10)
      else
        zlet (zw (x_3 + 1)) fun x_7 =>
        (f_X9_moved_L56 x_1 x_2 n) x_7 μ_4
    else
      some ((-4), μ_4)
def f_X9_moved (x1 : Int) (μ : zMem) : Option (Int × zMem) :=
  if (f_X9_isSlot x1) = 0 then
    some ((-1), μ)
  else
    chk ((0 : Int) ≤ x1 ∧ x1 < 4) <|
    chk ((μ 16 x1) ≠ 0) <|
    zlet (μ 16 x1) fun x_1 =>
    if (f_X9_isOwn (μ x_1 1)) = 0 then
      some ((-2), μ)
    else
      if (μ x_1 3) = 0 then
        if (μ x_1 4) = 0 then
          chk ((0 : Int) ≤ (μ x_1 1) ∧ (μ x_1 1) < 2) <|
          chk ((μ 2 (μ x_1 1)) ≠ 0) <|
          zlet (μ 2 (μ x_1 1)) fun x_2 =>
          (f_X9_moved_L56 x_1 x_2) zfu 2 μ
        else
          some ((-2), μ)
      else
        some ((-2), μ)
set_option maxHeartbeats 4000000 in
set_option maxRecDepth 100000 in
theorem M_X9_moved {l : Launch} {Ω : zO} (hI : zIc Ω) (μ : zMem) (x1 : Int) {r : Int} {μ' : zMem} (gx1 : Rg x1) (h : f_X9_moved x1 μ = some (r, μ')) : XMet l yX9_moved cX9_moved 5 (some Jvm.ClassFile.FieldType.int) 5 Ω [zR Ω 1, zI x1] μ (some (zI r)) (Rg r) μ' := by
  refine XMet.ofI (by decide) (Nat.le_of_ble_eq_true rfl) ?_
  intro p e s m args below meth c ls Q C rt X hl
  have C : zC p s m args c cX9_moved RX9 5 Ω := C
  have hl : lv_has ls 5 [(0, zR Ω 1), (1, zI x1)] := hl
  unfold f_X9_moved at h
  skip
  refine lv_iload_n C.1 C.2.1 dX9_moved_0 rfl (lv_at hl 1 rfl) ?_
  refine z_callS1 C X (As := [zI x1]) (M_X9_isSlot hI μ x1 gx1) zc_X9_isSlot kw_826 (zroom (by decide) (by decide)) rfl hl.1 rfl (Nat.le_of_ble_eq_true rfl) dX9_moved_1 ⟨Nat.zero_le _, Nat.zero_le _⟩ (fun H locs g_1 X => ?_)
  refine z_ifne C (rgz g_1) (tgt := 9) dX9_moved_4 (by decide) (fun hc4 => ?_) (fun hc4 => ?_)
  · rw [if_neg hc4] at h
    refine lv_aload_n C.1 C.2.1 dX9_moved_9 rfl (lv_at hl 0 rfl) ?_
    refine z_get C X zk9 (hI.1 1 (by decide)) rfl 2 (by decide) kw_391 (zR Ω 16) (zfvF (off := 15) X.2.2.2 (hI.1 1 (by decide)) (hI.2 1 (by decide)) rfl rfl (by decide)) dX9_moved_10 ?_
    refine lv_iload_n C.1 C.2.1 dX9_moved_13 rfl (lv_at hl 1 rfl) ?_
    obtain ⟨hc14, h⟩ := chk_some h
    obtain ⟨hn14, h⟩ := chk_some h
    have o_14 := (zrg6 X.2.2.2 (hI.1 16 (by decide)) rfl (i := x1)).resolve_left hn14
    refine z_aald6 C X (hI.1 16 (by decide)) rfl hc14 dX9_moved_14 ?_
    rw [zQ_pos Ω hn14]
    refine zlet_elim h (fun x_1 ex_1 h => ?_)
    rw [← ex_1] at o_14 ⊢
    clear hn14 ex_1
    refine lv_astore_n C.1 C.2.1 (lv' := [(2, zR Ω x_1), (0, zR Ω 1), (1, zI x1)]) dX9_moved_15 rfl hl (by decide) rfl (fun ls hl => ?_)
    refine lv_aload_n C.1 C.2.1 dX9_moved_16 rfl (lv_at hl 0 rfl) ?_
    have g_17 : Rg (μ x_1 1) := zrgf0 (ci := 8) X.2.2.2 (zob.self o_14) (zo8 o_14) 1 rfl
    refine z_get C X zk8 (zob.self o_14) (zo8 o_14) 1 (by decide) kw_194 (zI (μ x_1 1)) rfl dX9_moved_17 ?_
    refine z_callS1 C X (As := [zI (μ x_1 1)]) (M_X9_isOwn hI μ (μ x_1 1) g_17) zc_X9_isOwn kw_427 (zroom (by decide) (by decide)) rfl hl.1 rfl (Nat.le_of_ble_eq_true rfl) dX9_moved_20 ⟨Nat.zero_le _, Nat.zero_le _⟩ (fun H locs g_20 X => ?_)
    refine z_ifeq C (rgz g_20) (tgt := 40) dX9_moved_23 (by decide) (fun hc23 => ?_) (fun hc23 => ?_)
    · rw [if_pos hc23] at h
      refine z_bipush C dX9_moved_40 (by decide) ?_
      obtain ⟨rfl, rfl⟩ := Prod.mk.inj (Option.some.inj h)
      exact rt X ⟨by decide, by decide⟩ dX9_moved_42
    · rw [if_neg hc23] at h
      refine lv_aload_n C.1 C.2.1 dX9_moved_26 rfl (lv_at hl 0 rfl) ?_
      have g_27 : Rg (μ x_1 3) := zrgf0 (ci := 8) X.2.2.2 (zob.self o_14) (zo8 o_14) 3 rfl
      refine z_get C X zk8 (zob.self o_14) (zo8 o_14) 3 (by decide) kw_203 (zI (μ x_1 3)) rfl dX9_moved_27 ?_
      refine z_ifne C g_27 (tgt := 40) dX9_moved_30 (by decide) (fun hc30 => ?_) (fun hc30 => ?_)
      · rw [if_neg hc30] at h
        refine z_bipush C dX9_moved_40 (by decide) ?_
        obtain ⟨rfl, rfl⟩ := Prod.mk.inj (Option.some.inj h)
        exact rt X ⟨by decide, by decide⟩ dX9_moved_42
      · rw [if_pos hc30] at h
        refine lv_aload_n C.1 C.2.1 dX9_moved_33 rfl (lv_at hl 0 rfl) ?_
        have g_34 : Rg (μ x_1 4) := zrgf0 (ci := 8) X.2.2.2 (zob.self o_14) (zo8 o_14) 4 rfl
        refine z_get C X zk8 (zob.self o_14) (zo8 o_14) 4 (by decide) kw_205 (zI (μ x_1 4)) rfl dX9_moved_34 ?_
        refine z_ifeq C g_34 (tgt := 43) dX9_moved_37 (by decide) (fun hc37 => ?_) (fun hc37 => ?_)
        · rw [if_pos hc37] at h
          refine lv_aload_n C.1 C.2.1 dX9_moved_43 rfl (lv_at hl 1 rfl) ?_
          refine z_get C X zk9 (hI.1 1 (by decide)) rfl 0 (by decide) kw_389 (zR Ω 2) (zfvF (off := 1) X.2.2.2 (hI.1 1 (by decide)) (hI.2 1 (by decide)) rfl rfl (by decide)) dX9_moved_44 ?_
          refine lv_aload_n C.1 C.2.1 dX9_moved_47 rfl (lv_at hl 0 rfl) ?_
          have g_48 : Rg (μ x_1 1) := zrgf0 (ci := 8) X.2.2.2 (zob.self o_14) (zo8 o_14) 1 rfl
          refine z_get C X zk8 (zob.self o_14) (zo8 o_14) 1 (by decide) kw_194 (zI (μ x_1 1)) rfl dX9_moved_48 ?_
          obtain ⟨hc51, h⟩ := chk_some h
          obtain ⟨hn51, h⟩ := chk_some h
          have o_51 := (zrg5 X.2.2.2 (hI.1 2 (by decide)) rfl (i := (μ x_1 1))).resolve_left hn51
          refine z_aald5 C X (hI.1 2 (by decide)) rfl hc51 dX9_moved_51 ?_
          rw [zQ_pos Ω hn51]
          refine zlet_elim h (fun x_2 ex_2 h => ?_)
          rw [← ex_2] at o_51 ⊢
          clear hn51 ex_2
          refine lv_astore_n C.1 C.2.1 (lv' := [(3, zR Ω x_2), (2, zR Ω x_1), (0, zR Ω 1), (1, zI x1)]) dX9_moved_52 rfl hl (by decide) rfl (fun ls hl => ?_)
          refine z_iconst C dX9_moved_53 ?_
          refine lv_istore C.1 C.2.1 (lv' := [(4, zI 2), (3, zR Ω x_2), (2, zR Ω x_1), (0, zR Ω 1), (1, zI x1)]) dX9_moved_54 hl (by decide) rfl (fun ls hl => ?_)
          have L56 : ∀ (n56 : Nat) (x_3 : Int) (μ_4 : zMem) (H : Heap) (locs : List Loc) (ls : Array Slot), Rg x_3 → zX Ω μ_4 (zfree Ω) s.heap H locs → lv_has ls 5 [(0, zR Ω 1), (2, zR Ω x_1), (3, zR Ω x_2), (4, zI x_3)] → (f_X9_moved_L56 x_1 x_2 n56 x_3 μ_4) = some (r, μ') → W p l e (zrm 5) s m args below meth c H locs 0 0 Q (F0 m 56 ls []) := by
            intro n56
            induction n56 with
            | zero =>
              intro x_3 μ_4 H locs ls _ _ _ h
              cases h
            | succ n56 ih56 =>
              intro x_3 μ_4 H locs ls gx_3 X hl h
              unfold f_X9_moved_L56 at h
              refine lv_iload C.1 C.2.1 dX9_moved_56 (lv_at hl 3 rfl) ?_
              refine z_iconst C dX9_moved_58 ?_
              refine z_icmpgt C gx_3 ⟨by decide, by decide⟩ (tgt := 108) dX9_moved_59 (by decide) (fun hc59 => ?_) (fun hc59 => ?_)
              · rw [if_neg hc59] at h
                refine z_bipush C dX9_moved_108 (by decide) ?_
                obtain ⟨rfl, rfl⟩ := Prod.mk.inj (Option.some.inj h)
                exact rt X ⟨by decide, by decide⟩ dX9_moved_110
              · rw [if_pos hc59] at h
                refine lv_aload_n C.1 C.2.1 dX9_moved_62 rfl (lv_at hl 0 rfl) ?_
                refine z_get C X zk9 (hI.1 1 (by decide)) rfl 8 (by decide) kw_397 (zR Ω 27) (zfvF (off := 26) X.2.2.2 (hI.1 1 (by decide)) (hI.2 1 (by decide)) rfl rfl (by decide)) dX9_moved_63 ?_
                refine lv_aload_n C.1 C.2.1 dX9_moved_66 rfl (lv_at hl 2 rfl) ?_
                refine lv_aload_n C.1 C.2.1 dX9_moved_67 rfl (lv_at hl 0 rfl) ?_
                refine z_get C X zk9 (hI.1 1 (by decide)) rfl 4 (by decide) kw_393 (zR Ω 18) (zfvF (off := 17) X.2.2.2 (hI.1 1 (by decide)) (hI.2 1 (by decide)) rfl rfl (by decide)) dX9_moved_68 ?_
                refine lv_iload C.1 C.2.1 dX9_moved_71 (lv_at hl 3 rfl) ?_
                obtain ⟨hc73, h⟩ := chk_some h
                obtain ⟨hn73, h⟩ := chk_some h
                have o_73 := (zrg8 X.2.2.2 (hI.1 18 (by decide)) rfl (i := x_3)).resolve_left hn73
                refine z_aald8 C X (hI.1 18 (by decide)) rfl hc73 dX9_moved_73 ?_
                rw [zQ_pos Ω hn73]
                refine zlet_elim h (fun x_5 ex_5 h => ?_)
                rw [← ex_5] at o_73 ⊢
                clear hn73 ex_5
                obtain ⟨x_6, hq74, h⟩ := bnd_some h
                refine z_callV1 C X zk6 (hI.1 27 (by decide)) rfl (As := [zR Ω x_2, zR Ω x_5]) (M_X6_isMany hI μ_4 x_2 x_5 o_51 o_73 hq74) zc_X6_isMany kw_697 (zroom (by decide) (by decide)) rfl hl.1 rfl (Nat.le_of_ble_eq_true rfl) dX9_moved_74 ⟨Nat.zero_le _, Nat.zero_le _⟩ (fun H locs g_74 X => ?_)
                refine z_ifne C (rgz g_74) (tgt := 102) dX9_moved_77 (by decide) (fun hc77 => ?_) (fun hc77 => ?_)
                · rw [if_neg hc77] at h
                  refine zlet_elim h (fun x_7 ex_7 h => ?_)
                  have gx_7 : Rg x_7 := by rw [ex_7]; exact Rg.w _
                  refine z_iinc C ex_7 dX9_moved_102 hl (k := 3) rfl (by decide) (lv' := [(4, zI x_7), (0, zR Ω 1), (2, zR Ω x_1), (3, zR Ω x_2)]) rfl (fun ls hl => ?_)
                  clear ex_7
                  refine lv_goto (tgt := 56) C.1 C.2.1 dX9_moved_105 (by decide) ?_
                  exact ih56 x_7 μ_4 _ _ _ gx_7 X (lv_sub hl [1, 2, 3, 0] rfl) h
                · rw [if_pos hc77] at h
                  refine lv_aload_n C.1 C.2.1 dX9_moved_80 rfl (lv_at hl 0 rfl) ?_
                  refine z_get C X zk9 (hI.1 1 (by decide)) rfl 8 (by decide) kw_397 (zR Ω 27) (zfvF (off := 26) X.2.2.2 (hI.1 1 (by decide)) (hI.2 1 (by decide)) rfl rfl (by decide)) dX9_moved_81 ?_
                  refine lv_aload_n C.1 C.2.1 dX9_moved_84 rfl (lv_at hl 2 rfl) ?_
                  refine lv_aload_n C.1 C.2.1 dX9_moved_85 rfl (lv_at hl 0 rfl) ?_
                  refine z_get C X zk9 (hI.1 1 (by decide)) rfl 4 (by decide) kw_393 (zR Ω 18) (zfvF (off := 17) X.2.2.2 (hI.1 1 (by decide)) (hI.2 1 (by decide)) rfl rfl (by decide)) dX9_moved_86 ?_
                  refine lv_iload C.1 C.2.1 dX9_moved_89 (lv_at hl 3 rfl) ?_
                  obtain ⟨hc91, h⟩ := chk_some h
                  obtain ⟨hn91, h⟩ := chk_some h
                  have o_91 := (zrg8 X.2.2.2 (hI.1 18 (by decide)) rfl (i := x_3)).resolve_left hn91
                  refine z_aald8 C X (hI.1 18 (by decide)) rfl hc91 dX9_moved_91 ?_
                  rw [zQ_pos Ω hn91]
                  refine zlet_elim h (fun x_8 ex_8 h => ?_)
                  rw [← ex_8] at o_91 ⊢
                  clear hn91 ex_8
                  refine lv_aload_n C.1 C.2.1 dX9_moved_92 rfl (lv_at hl 1 rfl) ?_
                  obtain ⟨x_9, μ_10, hq93, h⟩ := bnd2_some h
                  refine z_callV1 C X zk6 (hI.1 27 (by decide)) rfl (As := [zR Ω x_2, zR Ω x_8, zR Ω x_1]) (M_X6_isMovedBySome hI μ_4 x_2 x_8 x_1 o_51 o_91 o_14 hq93) zc_X6_isMovedBySome kw_838 (zroom (by decide) (by decide)) rfl hl.1 rfl (Nat.le_of_ble_eq_true rfl) dX9_moved_93 ⟨Nat.zero_le _, Nat.zero_le _⟩ (fun H locs g_93 X => ?_)
                  refine z_ifeq C (rgz g_93) (tgt := 102) dX9_moved_96 (by decide) (fun hc96 => ?_) (fun hc96 => ?_)
                  · rw [if_pos hc96] at h
                    refine zlet_elim h (fun x_11 ex_11 h => ?_)
                    have gx_11 : Rg x_11 := by rw [ex_11]; exact Rg.w _
                    refine z_iinc C ex_11 dX9_moved_102 hl (k := 3) rfl (by decide) (lv' := [(4, zI x_11), (0, zR Ω 1), (2, zR Ω x_1), (3, zR Ω x_2)]) rfl (fun ls hl => ?_)
                    clear ex_11
                    refine lv_goto (tgt := 56) C.1 C.2.1 dX9_moved_105 (by decide) ?_
                    exact ih56 x_11 μ_10 _ _ _ gx_11 X (lv_sub hl [1, 2, 3, 0] rfl) h
                  · rw [if_neg hc96] at h
                    refine lv_iload C.1 C.2.1 dX9_moved_99 (lv_at hl 3 rfl) ?_
                    obtain ⟨rfl, rfl⟩ := Prod.mk.inj (Option.some.inj h)
                    exact rt X gx_3 dX9_moved_101
          exact L56 zfu 2 μ _ _ _ ⟨by decide, by decide⟩ X (lv_sub hl [3, 2, 1, 0] rfl) h
        · rw [if_neg hc37] at h
          refine z_bipush C dX9_moved_40 (by decide) ?_
          obtain ⟨rfl, rfl⟩ := Prod.mk.inj (Option.some.inj h)
          exact rt X ⟨by decide, by decide⟩ dX9_moved_42
  · rw [if_pos hc4] at h
    refine z_iconst C dX9_moved_7 ?_
    obtain ⟨rfl, rfl⟩ := Prod.mk.inj (Option.some.inj h)
    exact rt X ⟨by decide, by decide⟩ dX9_moved_8
theorem zc_X9_moved : zcal yX9_moved cX9_moved 5 (some Jvm.ClassFile.FieldType.int) RX9 1 := ⟨⟨kw_837, kw_835, kw_836, kw_1⟩, rfl, by decide, by decide, by decide +kernel⟩

def f_X9_keepReduced (x1 : Int) (x2 : Int) (μ : zMem) : Option (Int × zMem) :=
  chk ((0 : Int) ≤ x1 ∧ x1 < 4) <|
  chk ((μ 16 x1) ≠ 0) <|
  zlet (μ 16 x1) fun x_1 =>
  bnd (f_X8_takeReduced x_1 21 μ) fun μ_2 =>
  chk ((0 : Int) ≤ x1 ∧ x1 < 4) <|
  chk ((μ_2 16 x1) ≠ 0) <|
  zlet (μ_2 16 x1) fun x_3 =>
  zlet (zup μ_2 x_3 1 x2) fun μ_4 =>
  chk ((0 : Int) ≤ x1 ∧ x1 < 4) <|
  chk ((μ_4 16 x1) ≠ 0) <|
  zlet (μ_4 16 x1) fun x_5 =>
  some ((μ_4 x_5 2), μ_4)
set_option maxHeartbeats 4000000 in
set_option maxRecDepth 100000 in
theorem M_X9_keepReduced {l : Launch} {Ω : zO} (hI : zIc Ω) (μ : zMem) (x1 : Int) (x2 : Int) {r : Int} {μ' : zMem} (gx1 : Rg x1) (gx2 : Rg x2) (h : f_X9_keepReduced x1 x2 μ = some (r, μ')) : XMet l yX9_keepReduced cX9_keepReduced 3 (some Jvm.ClassFile.FieldType.int) 1 Ω [zR Ω 1, zI x1, zI x2] μ (some (zI r)) (Rg r) μ' := by
  refine XMet.ofI (by decide) (Nat.le_of_ble_eq_true rfl) ?_
  intro p e s m args below meth c ls Q C rt X hl
  have C : zC p s m args c cX9_keepReduced RX9 3 Ω := C
  have hl : lv_has ls 3 [(0, zR Ω 1), (1, zI x1), (2, zI x2)] := hl
  unfold f_X9_keepReduced at h
  skip
  refine lv_aload_n C.1 C.2.1 dX9_keepReduced_0 rfl (lv_at hl 0 rfl) ?_
  refine z_get C X zk9 (hI.1 1 (by decide)) rfl 2 (by decide) kw_391 (zR Ω 16) (zfvF (off := 15) X.2.2.2 (hI.1 1 (by decide)) (hI.2 1 (by decide)) rfl rfl (by decide)) dX9_keepReduced_1 ?_
  refine lv_iload_n C.1 C.2.1 dX9_keepReduced_4 rfl (lv_at hl 1 rfl) ?_
  obtain ⟨hc5, h⟩ := chk_some h
  obtain ⟨hn5, h⟩ := chk_some h
  have o_5 := (zrg6 X.2.2.2 (hI.1 16 (by decide)) rfl (i := x1)).resolve_left hn5
  refine z_aald6 C X (hI.1 16 (by decide)) rfl hc5 dX9_keepReduced_5 ?_
  rw [zQ_pos Ω hn5]
  refine zlet_elim h (fun x_1 ex_1 h => ?_)
  rw [← ex_1] at o_5 ⊢
  clear hn5 ex_1
  refine lv_aload_n C.1 C.2.1 dX9_keepReduced_6 rfl (lv_at hl 0 rfl) ?_
  refine z_get C X zk9 (hI.1 1 (by decide)) rfl 6 (by decide) kw_395 (zR Ω 21) (zfvF (off := 20) X.2.2.2 (hI.1 1 (by decide)) (hI.2 1 (by decide)) rfl rfl (by decide)) dX9_keepReduced_7 ?_
  obtain ⟨μ_2, hq10, h⟩ := bnd_some h
  refine z_callV0 C X zk8 (zob.self o_5) (zo8 o_5) (As := [zR Ω 21]) (M_X8_takeReduced μ x_1 21 o_5 (zoc8 hI 21 rfl (by decide)) hq10) zc_X8_takeReduced kw_852 (zroom (by decide) (by decide)) rfl hl.1 rfl (Nat.le_of_ble_eq_true rfl) dX9_keepReduced_10 ⟨Nat.zero_le _, Nat.zero_le _⟩ (fun H locs g_10 X => ?_)
  refine lv_aload_n C.1 C.2.1 dX9_keepReduced_13 rfl (lv_at hl 0 rfl) ?_
  refine z_get C X zk9 (hI.1 1 (by decide)) rfl 2 (by decide) kw_391 (zR Ω 16) (zfvF (off := 15) X.2.2.2 (hI.1 1 (by decide)) (hI.2 1 (by decide)) rfl rfl (by decide)) dX9_keepReduced_14 ?_
  refine lv_iload_n C.1 C.2.1 dX9_keepReduced_17 rfl (lv_at hl 1 rfl) ?_
  obtain ⟨hc18, h⟩ := chk_some h
  obtain ⟨hn18, h⟩ := chk_some h
  have o_18 := (zrg6 X.2.2.2 (hI.1 16 (by decide)) rfl (i := x1)).resolve_left hn18
  refine z_aald6 C X (hI.1 16 (by decide)) rfl hc18 dX9_keepReduced_18 ?_
  rw [zQ_pos Ω hn18]
  refine zlet_elim h (fun x_3 ex_3 h => ?_)
  rw [← ex_3] at o_18 ⊢
  clear hn18 ex_3
  refine lv_iload_n C.1 C.2.1 dX9_keepReduced_19 rfl (lv_at hl 2 rfl) ?_
  refine zlet_elim h (fun μ_4 em h => ?_)
  refine z_putI C X zk8 (zob.self o_18) (zo8 o_18) 1 (by decide) kw_194 rfl rfl rfl rfl gx2 em dX9_keepReduced_20 (fun H locs X => ?_)
  clear em
  refine lv_aload_n C.1 C.2.1 dX9_keepReduced_23 rfl (lv_at hl 0 rfl) ?_
  refine z_get C X zk9 (hI.1 1 (by decide)) rfl 2 (by decide) kw_391 (zR Ω 16) (zfvF (off := 15) X.2.2.2 (hI.1 1 (by decide)) (hI.2 1 (by decide)) rfl rfl (by decide)) dX9_keepReduced_24 ?_
  refine lv_iload_n C.1 C.2.1 dX9_keepReduced_27 rfl (lv_at hl 1 rfl) ?_
  obtain ⟨hc28, h⟩ := chk_some h
  obtain ⟨hn28, h⟩ := chk_some h
  have o_28 := (zrg6 X.2.2.2 (hI.1 16 (by decide)) rfl (i := x1)).resolve_left hn28
  refine z_aald6 C X (hI.1 16 (by decide)) rfl hc28 dX9_keepReduced_28 ?_
  rw [zQ_pos Ω hn28]
  refine zlet_elim h (fun x_5 ex_5 h => ?_)
  rw [← ex_5] at o_28 ⊢
  clear hn28 ex_5
  have g_29 : Rg (μ_4 x_5 2) := zrgf0 (ci := 8) X.2.2.2 (zob.self o_28) (zo8 o_28) 2 rfl
  refine z_get C X zk8 (zob.self o_28) (zo8 o_28) 2 (by decide) kw_198 (zI (μ_4 x_5 2)) rfl dX9_keepReduced_29 ?_
  obtain ⟨rfl, rfl⟩ := Prod.mk.inj (Option.some.inj h)
  exact rt X g_29 dX9_keepReduced_32
theorem zc_X9_keepReduced : zcal yX9_keepReduced cX9_keepReduced 3 (some Jvm.ClassFile.FieldType.int) RX9 2 := ⟨⟨kw_851, kw_850, kp_36, kw_1⟩, rfl, by decide, by decide, by decide +kernel⟩

def f_X9_word (x1 : Int) (x2 : Int) (μ : zMem) : Option (Int × zMem) :=
  if (f_X9_isSlot x1) = 0 then
    some ((-1), μ)
  else
    if (f_X9_isOwn x2) = 0 then
      some ((-1), μ)
    else
      bnd (f_X7_rewind μ) fun μ_1 =>
      chk ((0 : Int) ≤ x2 ∧ x2 < 2) <|
      chk ((μ_1 2 x2) ≠ 0) <|
      zlet (μ_1 2 x2) fun x_2 =>
      bnd (f_X7_readSteps x_2 21 16 μ_1) fun μ_3 =>
      bnd2 (f_X7_isRead μ_3) fun x_4 μ_5 =>
      bnd2 (f_X7_faultHere μ_5) fun x_6 μ_7 =>
      bnd (f_X7_wipe μ_7) fun μ_8 =>
      if x_4 = 0 then
        some (x_6, μ_8)
      else
        bnd2 (f_X9_keepReduced x1 x2 μ_8) fun x_9 μ_10 =>
        some (x_9, μ_10)
set_option maxHeartbeats 4000000 in
set_option maxRecDepth 100000 in
theorem M_X9_word {l : Launch} {Ω : zO} (hI : zIc Ω) (μ : zMem) (x1 : Int) (x2 : Int) {r : Int} {μ' : zMem} (gx1 : Rg x1) (gx2 : Rg x2) (h : f_X9_word x1 x2 μ = some (r, μ')) : XMet l yX9_word cX9_word 5 (some Jvm.ClassFile.FieldType.int) 3 Ω [zR Ω 1, zI x1, zI x2] μ (some (zI r)) (Rg r) μ' := by
  refine XMet.ofI (by decide) (Nat.le_of_ble_eq_true rfl) ?_
  intro p e s m args below meth c ls Q C rt X hl
  have C : zC p s m args c cX9_word RX9 5 Ω := C
  have hl : lv_has ls 5 [(0, zR Ω 1), (1, zI x1), (2, zI x2)] := hl
  unfold f_X9_word at h
  skip
  refine lv_iload_n C.1 C.2.1 dX9_word_0 rfl (lv_at hl 1 rfl) ?_
  refine z_callS1 C X (As := [zI x1]) (M_X9_isSlot hI μ x1 gx1) zc_X9_isSlot kw_826 (zroom (by decide) (by decide)) rfl hl.1 rfl (Nat.le_of_ble_eq_true rfl) dX9_word_1 ⟨Nat.zero_le _, Nat.zero_le _⟩ (fun H locs g_1 X => ?_)
  refine z_ifeq C (rgz g_1) (tgt := 14) dX9_word_4 (by decide) (fun hc4 => ?_) (fun hc4 => ?_)
  · rw [if_pos hc4] at h
    refine z_iconst C dX9_word_14 ?_
    obtain ⟨rfl, rfl⟩ := Prod.mk.inj (Option.some.inj h)
    exact rt X ⟨by decide, by decide⟩ dX9_word_15
  · rw [if_neg hc4] at h
    refine lv_iload_n C.1 C.2.1 dX9_word_7 rfl (lv_at hl 2 rfl) ?_
    refine z_callS1 C X (As := [zI x2]) (M_X9_isOwn hI μ x2 gx2) zc_X9_isOwn kw_427 (zroom (by decide) (by decide)) rfl hl.1 rfl (Nat.le_of_ble_eq_true rfl) dX9_word_8 ⟨Nat.zero_le _, Nat.zero_le _⟩ (fun H locs g_8 X => ?_)
    refine z_ifne C (rgz g_8) (tgt := 16) dX9_word_11 (by decide) (fun hc11 => ?_) (fun hc11 => ?_)
    · rw [if_neg hc11] at h
      refine lv_aload_n C.1 C.2.1 dX9_word_16 rfl (lv_at hl 0 rfl) ?_
      refine z_get C X zk9 (hI.1 1 (by decide)) rfl 5 (by decide) kw_394 (zR Ω 19) (zfvF (off := 18) X.2.2.2 (hI.1 1 (by decide)) (hI.2 1 (by decide)) rfl rfl (by decide)) dX9_word_17 ?_
      obtain ⟨μ_1, hq20, h⟩ := bnd_some h
      refine z_callV0 C X zk7 (hI.1 19 (by decide)) rfl (As := []) (M_X7_rewind hI μ hq20) zc_X7_rewind kw_466 (zroom (by decide) (by decide)) rfl hl.1 rfl (Nat.le_of_ble_eq_true rfl) dX9_word_20 ⟨Nat.zero_le _, Nat.zero_le _⟩ (fun H locs g_20 X => ?_)
      refine lv_aload_n C.1 C.2.1 dX9_word_23 rfl (lv_at hl 0 rfl) ?_
      refine z_get C X zk9 (hI.1 1 (by decide)) rfl 5 (by decide) kw_394 (zR Ω 19) (zfvF (off := 18) X.2.2.2 (hI.1 1 (by decide)) (hI.2 1 (by decide)) rfl rfl (by decide)) dX9_word_24 ?_
      refine lv_aload_n C.1 C.2.1 dX9_word_27 rfl (lv_at hl 0 rfl) ?_
      refine z_get C X zk9 (hI.1 1 (by decide)) rfl 0 (by decide) kw_389 (zR Ω 2) (zfvF (off := 1) X.2.2.2 (hI.1 1 (by decide)) (hI.2 1 (by decide)) rfl rfl (by decide)) dX9_word_28 ?_
      refine lv_iload_n C.1 C.2.1 dX9_word_31 rfl (lv_at hl 2 rfl) ?_
      obtain ⟨hc32, h⟩ := chk_some h
      obtain ⟨hn32, h⟩ := chk_some h
      have o_32 := (zrg5 X.2.2.2 (hI.1 2 (by decide)) rfl (i := x2)).resolve_left hn32
      refine z_aald5 C X (hI.1 2 (by decide)) rfl hc32 dX9_word_32 ?_
      rw [zQ_pos Ω hn32]
      refine zlet_elim h (fun x_2 ex_2 h => ?_)
      rw [← ex_2] at o_32 ⊢
      clear hn32 ex_2
      refine lv_aload_n C.1 C.2.1 dX9_word_33 rfl (lv_at hl 0 rfl) ?_
      refine z_get C X zk9 (hI.1 1 (by decide)) rfl 6 (by decide) kw_395 (zR Ω 21) (zfvF (off := 20) X.2.2.2 (hI.1 1 (by decide)) (hI.2 1 (by decide)) rfl rfl (by decide)) dX9_word_34 ?_
      refine z_bipush C dX9_word_37 (by decide) ?_
      obtain ⟨μ_3, hq39, h⟩ := bnd_some h
      refine z_callV0 C X zk7 (hI.1 19 (by decide)) rfl (As := [zR Ω x_2, zR Ω 21, zI 16]) (M_X7_readSteps hI μ_1 x_2 21 16 o_32 (zoc8 hI 21 rfl (by decide)) ⟨by decide, by decide⟩ hq39) zc_X7_readSteps kw_847 (zroom (by decide) (by decide)) rfl hl.1 rfl (Nat.le_of_ble_eq_true rfl) dX9_word_39 ⟨Nat.zero_le _, Nat.zero_le _⟩ (fun H locs g_39 X => ?_)
      refine lv_aload_n C.1 C.2.1 dX9_word_42 rfl (lv_at hl 0 rfl) ?_
      refine z_get C X zk9 (hI.1 1 (by decide)) rfl 5 (by decide) kw_394 (zR Ω 19) (zfvF (off := 18) X.2.2.2 (hI.1 1 (by decide)) (hI.2 1 (by decide)) rfl rfl (by decide)) dX9_word_43 ?_
      obtain ⟨x_4, μ_5, hq46, h⟩ := bnd2_some h
      refine z_callV1 C X zk7 (hI.1 19 (by decide)) rfl (As := []) (M_X7_isRead hI μ_3 hq46) zc_X7_isRead kw_505 (zroom (by decide) (by decide)) rfl hl.1 rfl (Nat.le_of_ble_eq_true rfl) dX9_word_46 ⟨Nat.zero_le _, Nat.zero_le _⟩ (fun H locs g_46 X => ?_)
      refine lv_istore_n C.1 C.2.1 (lv' := [(3, zI x_4), (0, zR Ω 1), (1, zI x1), (2, zI x2)]) dX9_word_49 rfl hl (by decide) rfl (fun ls hl => ?_)
      refine lv_aload_n C.1 C.2.1 dX9_word_50 rfl (lv_at hl 1 rfl) ?_
      refine z_get C X zk9 (hI.1 1 (by decide)) rfl 5 (by decide) kw_394 (zR Ω 19) (zfvF (off := 18) X.2.2.2 (hI.1 1 (by decide)) (hI.2 1 (by decide)) rfl rfl (by decide)) dX9_word_51 ?_
      obtain ⟨x_6, μ_7, hq54, h⟩ := bnd2_some h
      refine z_callV1 C X zk7 (hI.1 19 (by decide)) rfl (As := []) (M_X7_faultHere hI μ_5 hq54) zc_X7_faultHere kw_509 (zroom (by decide) (by decide)) rfl hl.1 rfl (Nat.le_of_ble_eq_true rfl) dX9_word_54 ⟨Nat.zero_le _, Nat.zero_le _⟩ (fun H locs g_54 X => ?_)
      refine lv_istore C.1 C.2.1 (lv' := [(4, zI x_6), (3, zI x_4), (0, zR Ω 1), (1, zI x1), (2, zI x2)]) dX9_word_57 hl (by decide) rfl (fun ls hl => ?_)
      refine lv_aload_n C.1 C.2.1 dX9_word_59 rfl (lv_at hl 2 rfl) ?_
      refine z_get C X zk9 (hI.1 1 (by decide)) rfl 5 (by decide) kw_394 (zR Ω 19) (zfvF (off := 18) X.2.2.2 (hI.1 1 (by decide)) (hI.2 1 (by decide)) rfl rfl (by decide)) dX9_word_60 ?_
      obtain ⟨μ_8, hq63, h⟩ := bnd_some h
      refine z_callV0 C X zk7 (hI.1 19 (by decide)) rfl (As := []) (M_X7_wipe hI μ_7 hq63) zc_X7_wipe kw_513 (zroom (by decide) (by decide)) rfl hl.1 rfl (Nat.le_of_ble_eq_true rfl) dX9_word_63 ⟨Nat.zero_le _, Nat.zero_le _⟩ (fun H locs g_63 X => ?_)
      refine lv_iload_n C.1 C.2.1 dX9_word_66 rfl (lv_at hl 1 rfl) ?_
      refine z_ifne C (rgz g_46) (tgt := 73) dX9_word_67 (by decide) (fun hc67 => ?_) (fun hc67 => ?_)
      · rw [if_neg hc67] at h
        refine lv_aload_n C.1 C.2.1 dX9_word_73 rfl (lv_at hl 2 rfl) ?_
        refine lv_iload_n C.1 C.2.1 dX9_word_74 rfl (lv_at hl 3 rfl) ?_
        refine lv_iload_n C.1 C.2.1 dX9_word_75 rfl (lv_at hl 4 rfl) ?_
        obtain ⟨x_9, μ_10, hq76, h⟩ := bnd2_some h
        refine z_callV1 C X zk9 (hI.1 1 (by decide)) rfl (As := [zI x1, zI x2]) (M_X9_keepReduced hI μ_8 x1 x2 gx1 gx2 hq76) zc_X9_keepReduced kw_848 (zroom (by decide) (by decide)) rfl hl.1 rfl (Nat.le_of_ble_eq_true rfl) dX9_word_76 ⟨Nat.zero_le _, Nat.zero_le _⟩ (fun H locs g_76 X => ?_)
        obtain ⟨rfl, rfl⟩ := Prod.mk.inj (Option.some.inj h)
        exact rt X g_76 dX9_word_79
      · rw [if_pos hc67] at h
        refine lv_iload C.1 C.2.1 dX9_word_70 (lv_at hl 0 rfl) ?_
        obtain ⟨rfl, rfl⟩ := Prod.mk.inj (Option.some.inj h)
        exact rt X g_54 dX9_word_72
    · rw [if_pos hc11] at h
      refine z_iconst C dX9_word_14 ?_
      obtain ⟨rfl, rfl⟩ := Prod.mk.inj (Option.some.inj h)
      exact rt X ⟨by decide, by decide⟩ dX9_word_15
theorem zc_X9_word : zcal yX9_word cX9_word 5 (some Jvm.ClassFile.FieldType.int) RX9 2 := ⟨⟨kw_846, kw_844, kw_845, kw_1⟩, rfl, by decide, by decide, by decide +kernel⟩

def f_X9_isLane (x0 : Int) : Int :=
  if x0 < 0 then
    0
  else
    if x0 < 3 then
      1
    else
      0
set_option maxHeartbeats 4000000 in
set_option maxRecDepth 100000 in
theorem M_X9_isLane {l : Launch} {Ω : zO} (hI : zIc Ω) (μ : zMem) (x0 : Int) (gx0 : Rg x0) : XMet l yX9_isLane cX9_isLane 1 (some Jvm.ClassFile.FieldType.boolean) 0 Ω [zI x0] μ (some (zI (f_X9_isLane x0))) (0 ≤ (f_X9_isLane x0) ∧ (f_X9_isLane x0) ≤ 1) μ := by
  obtain ⟨r, h⟩ : ∃ r, f_X9_isLane x0 = r := ⟨_, rfl⟩
  rw [h]
  refine XMet.ofZ (by decide) (Nat.le_of_ble_eq_true rfl) ?_
  intro p e s m args below meth c ls Q C rt X hl
  have C : zC p s m args c cX9_isLane RX9 1 Ω := C
  have hl : lv_has ls 1 [(0, zI x0)] := hl
  unfold f_X9_isLane at h
  skip
  refine lv_iload_n C.1 C.2.1 dX9_isLane_0 rfl (lv_at hl 0 rfl) ?_
  refine z_iflt C gx0 (tgt := 13) dX9_isLane_1 (by decide) (fun hc1 => ?_) (fun hc1 => ?_)
  · rw [if_pos hc1] at h
    refine z_iconst C dX9_isLane_13 ?_
    subst h
    exact rt X ⟨by decide, by decide⟩ dX9_isLane_14
  · rw [if_neg hc1] at h
    refine lv_iload_n C.1 C.2.1 dX9_isLane_4 rfl (lv_at hl 0 rfl) ?_
    refine z_iconst C dX9_isLane_5 ?_
    refine z_icmpge C gx0 ⟨by decide, by decide⟩ (tgt := 13) dX9_isLane_6 (by decide) (fun hc6 => ?_) (fun hc6 => ?_)
    · rw [if_neg hc6] at h
      refine z_iconst C dX9_isLane_13 ?_
      subst h
      exact rt X ⟨by decide, by decide⟩ dX9_isLane_14
    · rw [if_pos hc6] at h
      refine z_iconst C dX9_isLane_9 ?_
      refine lv_goto (tgt := 14) C.1 C.2.1 dX9_isLane_10 (by decide) ?_
      subst h
      exact rt X ⟨by decide, by decide⟩ dX9_isLane_14
theorem zc_X9_isLane : zcas yX9_isLane cX9_isLane 1 (some Jvm.ClassFile.FieldType.boolean) 1 := ⟨⟨kw_869, kw_868, kw_1⟩, by decide, by decide, by decide +kernel⟩

def f_X9_isSheet (x0 : Int) : Int :=
  if x0 < 0 then
    0
  else
    if x0 < 4 then
      1
    else
      0
set_option maxHeartbeats 4000000 in
set_option maxRecDepth 100000 in
theorem M_X9_isSheet {l : Launch} {Ω : zO} (hI : zIc Ω) (μ : zMem) (x0 : Int) (gx0 : Rg x0) : XMet l yX9_isSheet cX9_isSheet 1 (some Jvm.ClassFile.FieldType.boolean) 0 Ω [zI x0] μ (some (zI (f_X9_isSheet x0))) (0 ≤ (f_X9_isSheet x0) ∧ (f_X9_isSheet x0) ≤ 1) μ := by
  obtain ⟨r, h⟩ : ∃ r, f_X9_isSheet x0 = r := ⟨_, rfl⟩
  rw [h]
  refine XMet.ofZ (by decide) (Nat.le_of_ble_eq_true rfl) ?_
  intro p e s m args below meth c ls Q C rt X hl
  have C : zC p s m args c cX9_isSheet RX9 1 Ω := C
  have hl : lv_has ls 1 [(0, zI x0)] := hl
  unfold f_X9_isSheet at h
  skip
  refine lv_iload_n C.1 C.2.1 dX9_isSheet_0 rfl (lv_at hl 0 rfl) ?_
  refine z_iflt C gx0 (tgt := 13) dX9_isSheet_1 (by decide) (fun hc1 => ?_) (fun hc1 => ?_)
  · rw [if_pos hc1] at h
    refine z_iconst C dX9_isSheet_13 ?_
    subst h
    exact rt X ⟨by decide, by decide⟩ dX9_isSheet_14
  · rw [if_neg hc1] at h
    refine lv_iload_n C.1 C.2.1 dX9_isSheet_4 rfl (lv_at hl 0 rfl) ?_
    refine z_iconst C dX9_isSheet_5 ?_
    refine z_icmpge C gx0 ⟨by decide, by decide⟩ (tgt := 13) dX9_isSheet_6 (by decide) (fun hc6 => ?_) (fun hc6 => ?_)
    · rw [if_neg hc6] at h
      refine z_iconst C dX9_isSheet_13 ?_
      subst h
      exact rt X ⟨by decide, by decide⟩ dX9_isSheet_14
    · rw [if_pos hc6] at h
      refine z_iconst C dX9_isSheet_9 ?_
      refine lv_goto (tgt := 14) C.1 C.2.1 dX9_isSheet_10 (by decide) ?_
      subst h
      exact rt X ⟨by decide, by decide⟩ dX9_isSheet_14
theorem zc_X9_isSheet : zcas yX9_isSheet cX9_isSheet 1 (some Jvm.ClassFile.FieldType.boolean) 1 := ⟨⟨kw_866, kw_865, kw_1⟩, by decide, by decide, by decide +kernel⟩

def f_X9_refuseRow (x1 : Int) (x2 : Int) (μ : zMem) : Option Int :=
  if (f_X9_isSheet x1) = 0 then
    some (-1)
  else
    if (f_X9_isLane x2) = 0 then
      some (-1)
    else
      chk ((0 : Int) ≤ x1 ∧ x1 < 4) <|
      chk ((μ 17 x1) ≠ 0) <|
      zlet (μ 17 x1) fun x_1 =>
      if (μ x_1 1) = (-1) then
        some (-11)
      else
        chk ((0 : Int) ≤ x1 ∧ x1 < 4) <|
        chk ((μ 17 x1) ≠ 0) <|
        zlet (μ 17 x1) fun x_2 =>
        if (μ x_2 1) = x2 then
          some 0
        else
          some (-12)
set_option maxHeartbeats 4000000 in
set_option maxRecDepth 100000 in
theorem M_X9_refuseRow {l : Launch} {Ω : zO} (hI : zIc Ω) (μ : zMem) (x1 : Int) (x2 : Int) {r : Int} (gx1 : Rg x1) (gx2 : Rg x2) (h : f_X9_refuseRow x1 x2 μ = some r) : XMet l yX9_refuseRow cX9_refuseRow 3 (some Jvm.ClassFile.FieldType.int) 1 Ω [zR Ω 1, zI x1, zI x2] μ (some (zI r)) (Rg r) μ := by
  refine XMet.ofI (by decide) (Nat.le_of_ble_eq_true rfl) ?_
  intro p e s m args below meth c ls Q C rt X hl
  have C : zC p s m args c cX9_refuseRow RX9 3 Ω := C
  have hl : lv_has ls 3 [(0, zR Ω 1), (1, zI x1), (2, zI x2)] := hl
  unfold f_X9_refuseRow at h
  skip
  refine lv_iload_n C.1 C.2.1 dX9_refuseRow_0 rfl (lv_at hl 1 rfl) ?_
  refine z_callS1 C X (As := [zI x1]) (M_X9_isSheet hI μ x1 gx1) zc_X9_isSheet kw_864 (zroom (by decide) (by decide)) rfl hl.1 rfl (Nat.le_of_ble_eq_true rfl) dX9_refuseRow_1 ⟨Nat.zero_le _, Nat.zero_le _⟩ (fun H locs g_1 X => ?_)
  refine z_ifeq C (rgz g_1) (tgt := 14) dX9_refuseRow_4 (by decide) (fun hc4 => ?_) (fun hc4 => ?_)
  · rw [if_pos hc4] at h
    refine z_iconst C dX9_refuseRow_14 ?_
    obtain rfl := Option.some.inj h
    exact rt X ⟨by decide, by decide⟩ dX9_refuseRow_15
  · rw [if_neg hc4] at h
    refine lv_iload_n C.1 C.2.1 dX9_refuseRow_7 rfl (lv_at hl 2 rfl) ?_
    refine z_callS1 C X (As := [zI x2]) (M_X9_isLane hI μ x2 gx2) zc_X9_isLane kw_867 (zroom (by decide) (by decide)) rfl hl.1 rfl (Nat.le_of_ble_eq_true rfl) dX9_refuseRow_8 ⟨Nat.zero_le _, Nat.zero_le _⟩ (fun H locs g_8 X => ?_)
    refine z_ifne C (rgz g_8) (tgt := 16) dX9_refuseRow_11 (by decide) (fun hc11 => ?_) (fun hc11 => ?_)
    · rw [if_neg hc11] at h
      refine lv_aload_n C.1 C.2.1 dX9_refuseRow_16 rfl (lv_at hl 0 rfl) ?_
      refine z_get C X zk9 (hI.1 1 (by decide)) rfl 3 (by decide) kw_392 (zR Ω 17) (zfvF (off := 16) X.2.2.2 (hI.1 1 (by decide)) (hI.2 1 (by decide)) rfl rfl (by decide)) dX9_refuseRow_17 ?_
      refine lv_iload_n C.1 C.2.1 dX9_refuseRow_20 rfl (lv_at hl 1 rfl) ?_
      obtain ⟨hc21, h⟩ := chk_some h
      obtain ⟨hn21, h⟩ := chk_some h
      have o_21 := (zrg7 X.2.2.2 (hI.1 17 (by decide)) rfl (i := x1)).resolve_left hn21
      refine z_aald7 C X (hI.1 17 (by decide)) rfl hc21 dX9_refuseRow_21 ?_
      rw [zQ_pos Ω hn21]
      refine zlet_elim h (fun x_1 ex_1 h => ?_)
      rw [← ex_1] at o_21 ⊢
      clear hn21 ex_1
      have g_22 : Rg (μ x_1 1) := zrgf0 (ci := 3) X.2.2.2 (zob.self o_21) (zo3 o_21) 1 rfl
      refine z_get C X zk3 (zob.self o_21) (zo3 o_21) 1 (by decide) kw_333 (zI (μ x_1 1)) rfl dX9_refuseRow_22 ?_
      refine z_iconst C dX9_refuseRow_25 ?_
      refine z_icmpne C g_22 ⟨by decide, by decide⟩ (tgt := 32) dX9_refuseRow_26 (by decide) (fun hc26 => ?_) (fun hc26 => ?_)
      · rw [if_neg hc26] at h
        refine lv_aload_n C.1 C.2.1 dX9_refuseRow_32 rfl (lv_at hl 0 rfl) ?_
        refine z_get C X zk9 (hI.1 1 (by decide)) rfl 3 (by decide) kw_392 (zR Ω 17) (zfvF (off := 16) X.2.2.2 (hI.1 1 (by decide)) (hI.2 1 (by decide)) rfl rfl (by decide)) dX9_refuseRow_33 ?_
        refine lv_iload_n C.1 C.2.1 dX9_refuseRow_36 rfl (lv_at hl 1 rfl) ?_
        obtain ⟨hc37, h⟩ := chk_some h
        obtain ⟨hn37, h⟩ := chk_some h
        have o_37 := (zrg7 X.2.2.2 (hI.1 17 (by decide)) rfl (i := x1)).resolve_left hn37
        refine z_aald7 C X (hI.1 17 (by decide)) rfl hc37 dX9_refuseRow_37 ?_
        rw [zQ_pos Ω hn37]
        refine zlet_elim h (fun x_2 ex_2 h => ?_)
        rw [← ex_2] at o_37 ⊢
        clear hn37 ex_2
        have g_38 : Rg (μ x_2 1) := zrgf0 (ci := 3) X.2.2.2 (zob.self o_37) (zo3 o_37) 1 rfl
        refine z_get C X zk3 (zob.self o_37) (zo3 o_37) 1 (by decide) kw_333 (zI (μ x_2 1)) rfl dX9_refuseRow_38 ?_
        refine lv_iload_n C.1 C.2.1 dX9_refuseRow_41 rfl (lv_at hl 2 rfl) ?_
        refine z_icmpne C g_38 gx2 (tgt := 49) dX9_refuseRow_42 (by decide) (fun hc42 => ?_) (fun hc42 => ?_)
        · rw [if_neg hc42] at h
          refine z_bipush C dX9_refuseRow_49 (by decide) ?_
          obtain rfl := Option.some.inj h
          exact rt X ⟨by decide, by decide⟩ dX9_refuseRow_51
        · rw [if_pos hc42] at h
          refine z_iconst C dX9_refuseRow_45 ?_
          refine lv_goto (tgt := 51) C.1 C.2.1 dX9_refuseRow_46 (by decide) ?_
          obtain rfl := Option.some.inj h
          exact rt X ⟨by decide, by decide⟩ dX9_refuseRow_51
      · rw [if_pos hc26] at h
        refine z_bipush C dX9_refuseRow_29 (by decide) ?_
        obtain rfl := Option.some.inj h
        exact rt X ⟨by decide, by decide⟩ dX9_refuseRow_31
    · rw [if_pos hc11] at h
      refine z_iconst C dX9_refuseRow_14 ?_
      obtain rfl := Option.some.inj h
      exact rt X ⟨by decide, by decide⟩ dX9_refuseRow_15
theorem zc_X9_refuseRow : zcal yX9_refuseRow cX9_refuseRow 3 (some Jvm.ClassFile.FieldType.int) RX9 2 := ⟨⟨kw_863, kw_862, kp_37, kw_1⟩, rfl, by decide, by decide, by decide +kernel⟩

def f_X9_stepOfItem_J37 (x_1 : Int) (x_2 : Int) : Int :=
  (zw ((zw (2 * x_1)) + x_2))
def f_X9_stepOfItem_J13 (x0 : Int) (x1 : Int) (x_1 : Int) : Int :=
  if x0 = 0 then
    (-1)
  else
    if x_1 < x1 then
      (f_X9_stepOfItem_J37 x_1) (if x0 < 0 then 1 else 0)
    else
      (-1)
def f_X9_stepOfItem (x0 : Int) (x1 : Int) : Int :=
  (f_X9_stepOfItem_J13 x0 x1) (if x0 ≤ 0 then (zw ((-1) - x0)) else (zw (x0 - 1)))
set_option maxHeartbeats 4000000 in
set_option maxRecDepth 100000 in
theorem M_X9_stepOfItem {l : Launch} {Ω : zO} (hI : zIc Ω) (μ : zMem) (x0 : Int) (x1 : Int) (gx0 : Rg x0) (gx1 : Rg x1) : XMet l yX9_stepOfItem cX9_stepOfItem 3 (some Jvm.ClassFile.FieldType.int) 0 Ω [zI x0, zI x1] μ (some (zI (f_X9_stepOfItem x0 x1))) (Rg (f_X9_stepOfItem x0 x1)) μ := by
  obtain ⟨r, h⟩ : ∃ r, f_X9_stepOfItem x0 x1 = r := ⟨_, rfl⟩
  rw [h]
  refine XMet.ofI (by decide) (Nat.le_of_ble_eq_true rfl) ?_
  intro p e s m args below meth c ls Q C rt X hl
  have C : zC p s m args c cX9_stepOfItem RX9 3 Ω := C
  have hl : lv_has ls 3 [(0, zI x0), (1, zI x1)] := hl
  unfold f_X9_stepOfItem at h
  skip
  refine lv_iload_n C.1 C.2.1 dX9_stepOfItem_0 rfl (lv_at hl 0 rfl) ?_
  have K13 : ∀ (x_1 : Int) (H : Heap) (locs : List Loc) (ls : Array Slot), Rg x_1 → zX Ω μ (zfree Ω) s.heap H locs → lv_has ls 3 [(0, zI x0), (1, zI x1)] → (f_X9_stepOfItem_J13 x0 x1) x_1 = r → W p l e (zrm 0) s m args below meth c H locs 0 0 Q (F0 m 13 ls [zI x_1]) := by
    intro x_1 H locs ls gx_1 X hl h
    unfold f_X9_stepOfItem_J13 at h
    refine lv_istore_n C.1 C.2.1 (lv' := [(2, zI x_1), (0, zI x0), (1, zI x1)]) dX9_stepOfItem_13 rfl hl (by decide) rfl (fun ls hl => ?_)
    refine lv_iload_n C.1 C.2.1 dX9_stepOfItem_14 rfl (lv_at hl 1 rfl) ?_
    refine z_ifeq C gx0 (tgt := 23) dX9_stepOfItem_15 (by decide) (fun hc15 => ?_) (fun hc15 => ?_)
    · rw [if_pos hc15] at h
      refine z_iconst C dX9_stepOfItem_23 ?_
      subst h
      exact rt X ⟨by decide, by decide⟩ dX9_stepOfItem_24
    · rw [if_neg hc15] at h
      refine lv_iload_n C.1 C.2.1 dX9_stepOfItem_18 rfl (lv_at hl 0 rfl) ?_
      refine lv_iload_n C.1 C.2.1 dX9_stepOfItem_19 rfl (lv_at hl 2 rfl) ?_
      refine z_icmplt C gx_1 gx1 (tgt := 25) dX9_stepOfItem_20 (by decide) (fun hc20 => ?_) (fun hc20 => ?_)
      · rw [if_pos hc20] at h
        refine z_iconst C dX9_stepOfItem_25 ?_
        refine lv_iload_n C.1 C.2.1 dX9_stepOfItem_26 rfl (lv_at hl 0 rfl) ?_
        refine z_imul C dX9_stepOfItem_27 ?_
        refine lv_iload_n C.1 C.2.1 dX9_stepOfItem_28 rfl (lv_at hl 1 rfl) ?_
        have K37 : ∀ (x_2 : Int) (H : Heap) (locs : List Loc) (ls : Array Slot), Rg x_2 → zX Ω μ (zfree Ω) s.heap H locs → lv_has ls 3 [] → (f_X9_stepOfItem_J37 x_1) x_2 = r → W p l e (zrm 0) s m args below meth c H locs 0 0 Q (F0 m 37 ls [zI x_2, zI (zw (2 * x_1))]) := by
          intro x_2 H locs ls gx_2 X hl h
          unfold f_X9_stepOfItem_J37 at h
          refine z_iadd C dX9_stepOfItem_37 ?_
          subst h
          exact rt X (Rg.w _) dX9_stepOfItem_38
        refine z_ifge C gx0 (tgt := 36) dX9_stepOfItem_29 (by decide) (fun hc29 => ?_) (fun hc29 => ?_)
        · rw [if_neg hc29] at h
          refine z_iconst C dX9_stepOfItem_36 ?_
          exact K37 0 _ _ _ ⟨by decide, by decide⟩ X (lv_sub hl [] rfl) h
        · rw [if_pos hc29] at h
          refine z_iconst C dX9_stepOfItem_32 ?_
          refine lv_goto (tgt := 37) C.1 C.2.1 dX9_stepOfItem_33 (by decide) ?_
          exact K37 1 _ _ _ ⟨by decide, by decide⟩ X (lv_sub hl [] rfl) h
      · rw [if_neg hc20] at h
        refine z_iconst C dX9_stepOfItem_23 ?_
        subst h
        exact rt X ⟨by decide, by decide⟩ dX9_stepOfItem_24
  refine z_ifle C gx0 (tgt := 10) dX9_stepOfItem_1 (by decide) (fun hc1 => ?_) (fun hc1 => ?_)
  · rw [if_pos hc1] at h
    refine z_iconst C dX9_stepOfItem_10 ?_
    refine lv_iload_n C.1 C.2.1 dX9_stepOfItem_11 rfl (lv_at hl 0 rfl) ?_
    refine z_isub C dX9_stepOfItem_12 ?_
    exact K13 (zw ((-1) - x0)) _ _ _ (Rg.w _) X (lv_sub hl [0, 1] rfl) h
  · rw [if_neg hc1] at h
    refine lv_iload_n C.1 C.2.1 dX9_stepOfItem_4 rfl (lv_at hl 0 rfl) ?_
    refine z_iconst C dX9_stepOfItem_5 ?_
    refine z_isub C dX9_stepOfItem_6 ?_
    refine lv_goto (tgt := 13) C.1 C.2.1 dX9_stepOfItem_7 (by decide) ?_
    exact K13 (zw (x0 - 1)) _ _ _ (Rg.w _) X (lv_sub hl [0, 1] rfl) h
theorem zc_X9_stepOfItem : zcas yX9_stepOfItem cX9_stepOfItem 3 (some Jvm.ClassFile.FieldType.int) 2 := ⟨⟨kw_873, kw_872, kw_1⟩, by decide, by decide, by decide +kernel⟩

