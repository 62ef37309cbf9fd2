def f_X10_about (x1 : Int) (x2 : Int) (μ : zMem) : Option Int :=
  if (f_X10_isSlot x1) = 0 then
    some (-1)
  else
    if (f_X10_in x2 0 3) = 0 then
      some (-1)
    else
      chk ((0 : Int) ≤ x1 ∧ x1 < 4) <|
      if (μ 148 x1) < 0 then
        some (-4)
      else
        if x2 = 0 then
          chk ((0 : Int) ≤ x1 ∧ x1 < 4) <|
          some (μ 149 x1)
        else
          if x2 = 1 then
            chk ((0 : Int) ≤ x1 ∧ x1 < 4) <|
            some (μ 148 x1)
          else
            if x2 = 2 then
              chk ((0 : Int) ≤ x1 ∧ x1 < 4) <|
              some (μ 150 x1)
            else
              chk ((0 : Int) ≤ x1 ∧ x1 < 4) <|
              some (μ 151 x1)
set_option maxHeartbeats 4000000 in
set_option maxRecDepth 100000 in
theorem M_X10_about {l : Launch} {Ω : zO} (hI : zIm Ω) (μ : zMem) (x1 : Int) (x2 : Int) {r : Int} (gx1 : Rg x1) (gx2 : Rg x2) (h : f_X10_about x1 x2 μ = some r) : XMet l yX10_about cX10_about 3 (some Jvm.ClassFile.FieldType.int) 2 Ω [zR Ω 101, zI x1, zI x2] μ (some (zI r)) (Rg r) μ := by
  refine XMet.ofI (by decide) (Nat.le_of_ble_eq_true rfl) ?_
  intro p e s m args below meth c ls Q C rt X hl
  have C : zC p s m args c cX10_about RX10 3 Ω := C
  have hl : lv_has ls 3 [(0, zR Ω 101), (1, zI x1), (2, zI x2)] := hl
  unfold f_X10_about at h
  skip
  refine lv_iload_n C.1 C.2.1 dX10_about_0 rfl (lv_at hl 1 rfl) ?_
  refine z_callS1 C X (As := [zI x1]) (M_X10_isSlot hI μ x1 gx1) zc_X10_isSlot kw_1455 (zroom (by decide) (by decide)) rfl hl.1 rfl (Nat.le_of_ble_eq_true rfl) dX10_about_1 ⟨Nat.zero_le _, Nat.zero_le _⟩ (fun H locs g_1 X => ?_)
  refine z_ifeq C (rgz g_1) (tgt := 16) dX10_about_4 (by decide) (fun hc4 => ?_) (fun hc4 => ?_)
  · rw [if_pos hc4] at h
    refine z_iconst C dX10_about_16 ?_
    obtain rfl := Option.some.inj h
    exact rt X ⟨by decide, by decide⟩ dX10_about_17
  · rw [if_neg hc4] at h
    refine lv_iload_n C.1 C.2.1 dX10_about_7 rfl (lv_at hl 2 rfl) ?_
    refine z_iconst C dX10_about_8 ?_
    refine z_iconst C dX10_about_9 ?_
    refine z_callS1 C X (As := [zI x2, zI 0, zI 3]) (M_X10_in hI μ x2 0 3 gx2 ⟨by decide, by decide⟩ ⟨by decide, by decide⟩) zc_X10_in kw_1217 (zroom (by decide) (by decide)) rfl hl.1 rfl (Nat.le_of_ble_eq_true rfl) dX10_about_10 ⟨Nat.zero_le _, Nat.zero_le _⟩ (fun H locs g_10 X => ?_)
    refine z_ifne C (rgz g_10) (tgt := 18) dX10_about_13 (by decide) (fun hc13 => ?_) (fun hc13 => ?_)
    · rw [if_neg hc13] at h
      refine lv_aload_n C.1 C.2.1 dX10_about_18 rfl (lv_at hl 0 rfl) ?_
      refine z_get C X zk10 (hI.1 101 (by decide)) rfl 46 (by decide) kw_1078 (zR Ω 148) (zfvF (off := 47) X.2.2.2 (hI.1 101 (by decide)) hI.2 rfl rfl (by decide)) dX10_about_19 ?_
      refine lv_iload_n C.1 C.2.1 dX10_about_22 rfl (lv_at hl 1 rfl) ?_
      obtain ⟨hc23, h⟩ := chk_some h
      have g_23 : Rg (μ 148 x1) := zrg1 X.2.2.2 (hI.1 148 (by decide)) rfl
      refine z_iald C X (hI.1 148 (by decide)) rfl hc23 dX10_about_23 ?_
      refine z_ifge C g_23 (tgt := 30) dX10_about_24 (by decide) (fun hc24 => ?_) (fun hc24 => ?_)
      · rw [if_neg hc24] at h
        refine lv_iload_n C.1 C.2.1 dX10_about_30 rfl (lv_at hl 2 rfl) ?_
        refine z_ifne C gx2 (tgt := 43) dX10_about_31 (by decide) (fun hc31 => ?_) (fun hc31 => ?_)
        · rw [if_neg hc31] at h
          refine lv_iload_n C.1 C.2.1 dX10_about_43 rfl (lv_at hl 2 rfl) ?_
          refine z_iconst C dX10_about_44 ?_
          refine z_icmpne C gx2 ⟨by decide, by decide⟩ (tgt := 57) dX10_about_45 (by decide) (fun hc45 => ?_) (fun hc45 => ?_)
          · rw [if_neg hc45] at h
            refine lv_iload_n C.1 C.2.1 dX10_about_57 rfl (lv_at hl 2 rfl) ?_
            refine z_iconst C dX10_about_58 ?_
            refine z_icmpne C gx2 ⟨by decide, by decide⟩ (tgt := 71) dX10_about_59 (by decide) (fun hc59 => ?_) (fun hc59 => ?_)
            · rw [if_neg hc59] at h
              refine lv_aload_n C.1 C.2.1 dX10_about_71 rfl (lv_at hl 0 rfl) ?_
              refine z_get C X zk10 (hI.1 101 (by decide)) rfl 49 (by decide) kw_1081 (zR Ω 151) (zfvF (off := 50) X.2.2.2 (hI.1 101 (by decide)) hI.2 rfl rfl (by decide)) dX10_about_72 ?_
              refine lv_iload_n C.1 C.2.1 dX10_about_75 rfl (lv_at hl 1 rfl) ?_
              obtain ⟨hc76, h⟩ := chk_some h
              have g_76 : Rg (μ 151 x1) := zrg1 X.2.2.2 (hI.1 151 (by decide)) rfl
              refine z_iald C X (hI.1 151 (by decide)) rfl hc76 dX10_about_76 ?_
              obtain rfl := Option.some.inj h
              exact rt X g_76 dX10_about_77
            · rw [if_pos hc59] at h
              refine lv_aload_n C.1 C.2.1 dX10_about_62 rfl (lv_at hl 0 rfl) ?_
              refine z_get C X zk10 (hI.1 101 (by decide)) rfl 48 (by decide) kw_1080 (zR Ω 150) (zfvF (off := 49) X.2.2.2 (hI.1 101 (by decide)) hI.2 rfl rfl (by decide)) dX10_about_63 ?_
              refine lv_iload_n C.1 C.2.1 dX10_about_66 rfl (lv_at hl 1 rfl) ?_
              obtain ⟨hc67, h⟩ := chk_some h
              have g_67 : Rg (μ 150 x1) := zrg1 X.2.2.2 (hI.1 150 (by decide)) rfl
              refine z_iald C X (hI.1 150 (by decide)) rfl hc67 dX10_about_67 ?_
              refine lv_goto (tgt := 77) C.1 C.2.1 dX10_about_68 (by decide) ?_
              obtain rfl := Option.some.inj h
              exact rt X g_67 dX10_about_77
          · rw [if_pos hc45] at h
            refine lv_aload_n C.1 C.2.1 dX10_about_48 rfl (lv_at hl 0 rfl) ?_
            refine z_get C X zk10 (hI.1 101 (by decide)) rfl 46 (by decide) kw_1078 (zR Ω 148) (zfvF (off := 47) X.2.2.2 (hI.1 101 (by decide)) hI.2 rfl rfl (by decide)) dX10_about_49 ?_
            refine lv_iload_n C.1 C.2.1 dX10_about_52 rfl (lv_at hl 1 rfl) ?_
            obtain ⟨hc53, h⟩ := chk_some h
            have g_53 : Rg (μ 148 x1) := zrg1 X.2.2.2 (hI.1 148 (by decide)) rfl
            refine z_iald C X (hI.1 148 (by decide)) rfl hc53 dX10_about_53 ?_
            refine lv_goto (tgt := 77) C.1 C.2.1 dX10_about_54 (by decide) ?_
            obtain rfl := Option.some.inj h
            exact rt X g_53 dX10_about_77
        · rw [if_pos hc31] at h
          refine lv_aload_n C.1 C.2.1 dX10_about_34 rfl (lv_at hl 0 rfl) ?_
          refine z_get C X zk10 (hI.1 101 (by decide)) rfl 47 (by decide) kw_1079 (zR Ω 149) (zfvF (off := 48) X.2.2.2 (hI.1 101 (by decide)) hI.2 rfl rfl (by decide)) dX10_about_35 ?_
          refine lv_iload_n C.1 C.2.1 dX10_about_38 rfl (lv_at hl 1 rfl) ?_
          obtain ⟨hc39, h⟩ := chk_some h
          have g_39 : Rg (μ 149 x1) := zrg1 X.2.2.2 (hI.1 149 (by decide)) rfl
          refine z_iald C X (hI.1 149 (by decide)) rfl hc39 dX10_about_39 ?_
          refine lv_goto (tgt := 77) C.1 C.2.1 dX10_about_40 (by decide) ?_
          obtain rfl := Option.some.inj h
          exact rt X g_39 dX10_about_77
      · rw [if_pos hc24] at h
        refine z_bipush C dX10_about_27 (by decide) ?_
        obtain rfl := Option.some.inj h
        exact rt X ⟨by decide, by decide⟩ dX10_about_29
    · rw [if_pos hc13] at h
      refine z_iconst C dX10_about_16 ?_
      obtain rfl := Option.some.inj h
      exact rt X ⟨by decide, by decide⟩ dX10_about_17
theorem zc_X10_about : zcal yX10_about cX10_about 3 (some Jvm.ClassFile.FieldType.int) RX10 2 := ⟨⟨kw_1484, kw_1482, kw_1483, kw_12⟩, rfl, by decide, by decide, by decide +kernel⟩

def f_X10_step (x1 : Int) (x2 : Int) (μ : zMem) : Option Int :=
  if (f_X10_isSlot x1) = 0 then
    some (-1)
  else
    if x2 < 0 then
      some (-1)
    else
      chk ((0 : Int) ≤ x1 ∧ x1 < 4) <|
      if (μ 148 x1) < 0 then
        some (-4)
      else
        chk ((0 : Int) ≤ x1 ∧ x1 < 4) <|
        if (f_X10_in x2 0 (zw ((μ 149 x1) - 1))) = 0 then
          some (-1)
        else
          chk ((0 : Int) ≤ (zw ((zw (16 * x1)) + x2)) ∧ (zw ((zw (16 * x1)) + x2)) < 64) <|
          some (f_X10_tellsStep (μ 152 (zw ((zw (16 * x1)) + x2))))
set_option maxHeartbeats 4000000 in
set_option maxRecDepth 100000 in
theorem M_X10_step {l : Launch} {Ω : zO} (hI : zIm Ω) (μ : zMem) (x1 : Int) (x2 : Int) {r : Int} (gx1 : Rg x1) (gx2 : Rg x2) (h : f_X10_step x1 x2 μ = some r) : XMet l yX10_step cX10_step 3 (some Jvm.ClassFile.FieldType.int) 2 Ω [zR Ω 101, zI x1, zI x2] μ (some (zI r)) (Rg r) μ := by
  refine XMet.ofI (by decide) (Nat.le_of_ble_eq_true rfl) ?_
  intro p e s m args below meth c ls Q C rt X hl
  have C : zC p s m args c cX10_step RX10 3 Ω := C
  have hl : lv_has ls 3 [(0, zR Ω 101), (1, zI x1), (2, zI x2)] := hl
  unfold f_X10_step at h
  skip
  refine lv_iload_n C.1 C.2.1 dX10_step_0 rfl (lv_at hl 1 rfl) ?_
  refine z_callS1 C X (As := [zI x1]) (M_X10_isSlot hI μ x1 gx1) zc_X10_isSlot kw_1455 (zroom (by decide) (by decide)) rfl hl.1 rfl (Nat.le_of_ble_eq_true rfl) dX10_step_1 ⟨Nat.zero_le _, Nat.zero_le _⟩ (fun H locs g_1 X => ?_)
  refine z_ifeq C (rgz g_1) (tgt := 11) dX10_step_4 (by decide) (fun hc4 => ?_) (fun hc4 => ?_)
  · rw [if_pos hc4] at h
    refine z_iconst C dX10_step_11 ?_
    obtain rfl := Option.some.inj h
    exact rt X ⟨by decide, by decide⟩ dX10_step_12
  · rw [if_neg hc4] at h
    refine lv_iload_n C.1 C.2.1 dX10_step_7 rfl (lv_at hl 2 rfl) ?_
    refine z_ifge C gx2 (tgt := 13) dX10_step_8 (by decide) (fun hc8 => ?_) (fun hc8 => ?_)
    · rw [if_neg hc8] at h
      refine lv_aload_n C.1 C.2.1 dX10_step_13 rfl (lv_at hl 0 rfl) ?_
      refine z_get C X zk10 (hI.1 101 (by decide)) rfl 46 (by decide) kw_1078 (zR Ω 148) (zfvF (off := 47) X.2.2.2 (hI.1 101 (by decide)) hI.2 rfl rfl (by decide)) dX10_step_14 ?_
      refine lv_iload_n C.1 C.2.1 dX10_step_17 rfl (lv_at hl 1 rfl) ?_
      obtain ⟨hc18, h⟩ := chk_some h
      have g_18 : Rg (μ 148 x1) := zrg1 X.2.2.2 (hI.1 148 (by decide)) rfl
      refine z_iald C X (hI.1 148 (by decide)) rfl hc18 dX10_step_18 ?_
      refine z_ifge C g_18 (tgt := 25) dX10_step_19 (by decide) (fun hc19 => ?_) (fun hc19 => ?_)
      · rw [if_neg hc19] at h
        refine lv_iload_n C.1 C.2.1 dX10_step_25 rfl (lv_at hl 2 rfl) ?_
        refine z_iconst C dX10_step_26 ?_
        refine lv_aload_n C.1 C.2.1 dX10_step_27 rfl (lv_at hl 0 rfl) ?_
        refine z_get C X zk10 (hI.1 101 (by decide)) rfl 47 (by decide) kw_1079 (zR Ω 149) (zfvF (off := 48) X.2.2.2 (hI.1 101 (by decide)) hI.2 rfl rfl (by decide)) dX10_step_28 ?_
        refine lv_iload_n C.1 C.2.1 dX10_step_31 rfl (lv_at hl 1 rfl) ?_
        obtain ⟨hc32, h⟩ := chk_some h
        have g_32 : Rg (μ 149 x1) := zrg1 X.2.2.2 (hI.1 149 (by decide)) rfl
        refine z_iald C X (hI.1 149 (by decide)) rfl hc32 dX10_step_32 ?_
        refine z_iconst C dX10_step_33 ?_
        refine z_isub C dX10_step_34 ?_
        refine z_callS1 C X (As := [zI x2, zI 0, zI (zw ((μ 149 x1) - 1))]) (M_X10_in hI μ x2 0 (zw ((μ 149 x1) - 1)) gx2 ⟨by decide, by decide⟩ (Rg.w _)) zc_X10_in kw_1217 (zroom (by decide) (by decide)) rfl hl.1 rfl (Nat.le_of_ble_eq_true rfl) dX10_step_35 ⟨Nat.zero_le _, Nat.zero_le _⟩ (fun H locs g_35 X => ?_)
        refine z_ifeq C (rgz g_35) (tgt := 58) dX10_step_38 (by decide) (fun hc38 => ?_) (fun hc38 => ?_)
        · rw [if_pos hc38] at h
          refine z_iconst C dX10_step_58 ?_
          obtain rfl := Option.some.inj h
          exact rt X ⟨by decide, by decide⟩ dX10_step_59
        · rw [if_neg hc38] at h
          refine lv_aload_n C.1 C.2.1 dX10_step_41 rfl (lv_at hl 0 rfl) ?_
          refine z_get C X zk10 (hI.1 101 (by decide)) rfl 50 (by decide) kw_1082 (zR Ω 152) (zfvF (off := 51) X.2.2.2 (hI.1 101 (by decide)) hI.2 rfl rfl (by decide)) dX10_step_42 ?_
          refine z_bipush C dX10_step_45 (by decide) ?_
          refine lv_iload_n C.1 C.2.1 dX10_step_47 rfl (lv_at hl 1 rfl) ?_
          refine z_imul C dX10_step_48 ?_
          refine lv_iload_n C.1 C.2.1 dX10_step_49 rfl (lv_at hl 2 rfl) ?_
          refine z_iadd C dX10_step_50 ?_
          obtain ⟨hc51, h⟩ := chk_some h
          have g_51 : Rg (μ 152 (zw ((zw (16 * x1)) + x2))) := zrg1 X.2.2.2 (hI.1 152 (by decide)) rfl
          refine z_iald C X (hI.1 152 (by decide)) rfl hc51 dX10_step_51 ?_
          refine z_callS1 C X (As := [zI (μ 152 (zw ((zw (16 * x1)) + x2)))]) (M_X10_tellsStep hI μ (μ 152 (zw ((zw (16 * x1)) + x2))) g_51) zc_X10_tellsStep kw_1325 (zroom (by decide) (by decide)) rfl hl.1 rfl (Nat.le_of_ble_eq_true rfl) dX10_step_52 ⟨Nat.zero_le _, Nat.zero_le _⟩ (fun H locs g_52 X => ?_)
          refine lv_goto (tgt := 59) C.1 C.2.1 dX10_step_55 (by decide) ?_
          obtain rfl := Option.some.inj h
          exact rt X g_52 dX10_step_59
      · rw [if_pos hc19] at h
        refine z_bipush C dX10_step_22 (by decide) ?_
        obtain rfl := Option.some.inj h
        exact rt X ⟨by decide, by decide⟩ dX10_step_24
    · rw [if_pos hc8] at h
      refine z_iconst C dX10_step_11 ?_
      obtain rfl := Option.some.inj h
      exact rt X ⟨by decide, by decide⟩ dX10_step_12
theorem zc_X10_step : zcal yX10_step cX10_step 3 (some Jvm.ClassFile.FieldType.int) RX10 2 := ⟨⟨kw_1488, kw_1486, kw_1487, kw_12⟩, rfl, by decide, by decide, by decide +kernel⟩

def f_X10_list_K77 (x1 : Int) (x_2 : Int) (x_3 : Int) (μ_4 : zMem) : Option zMem :=
  chk ((0 : Int) ≤ x1 ∧ x1 < 4800) <|
  zlet (zup μ_4 156 x1 x_2) fun μ_5 =>
  chk ((0 : Int) ≤ x1 ∧ x1 < 4800) <|
  zlet (zup μ_5 157 x1 x_3) fun μ_6 =>
  some μ_6
def f_X10_list_L12 (g77 : Int → Int → zMem → Option zMem) : Nat → Int → Int → Int → zMem → Option zMem
  | 0, _, _, _, _ => none
  | n + 1, x_7, x_8, x_9, μ_10 =>
    if x_9 < (μ_10 101 51) then
      if x_9 < 12 then
        chk ((0 : Int) ≤ x_9 ∧ x_9 < 24) <|
        zlet ((zl ((zl ((zl (32 * x_7)) + (μ_10 154 x_9))) + 15))) fun x_13 =>
        zlet (zw (x_9 + 1)) fun x_14 =>
        (f_X10_list_L12 g77 n) x_13 x_8 x_14 μ_10
      else
        chk ((0 : Int) ≤ x_9 ∧ x_9 < 24) <|
        zlet ((zl ((zl ((zl (32 * x_8)) + (μ_10 154 x_9))) + 15))) fun x_11 =>
        zlet (zw (x_9 + 1)) fun x_12 =>
        (f_X10_list_L12 g77 n) x_7 x_11 x_12 μ_10
    else
      g77 x_7 x_8 μ_10
def f_X10_list (x1 : Int) (μ : zMem) : Option zMem :=
  zlet ((μ 101 51)) fun x_1 =>
  (f_X10_list_L12 (f_X10_list_K77 x1)) zfu 0 x_1 0 μ
set_option maxHeartbeats 4000000 in
set_option maxRecDepth 100000 in
theorem M_X10_list {l : Launch} {Ω : zO} (hI : zIm Ω) (μ : zMem) (x1 : Int) {μ' : zMem} (gx1 : Rg x1) (h : f_X10_list x1 μ = some μ') : XMet l yX10_list cX10_list 7 none 0 Ω [zR Ω 101, zI x1] μ none True μ' := by
  refine XMet.ofV (by decide) (Nat.le_of_ble_eq_true rfl) ?_
  intro p e s m args below meth c ls Q C rt X hl
  have C : zC p s m args c cX10_list RX10 7 Ω := C
  have hl : lv_has ls 7 [(0, zR Ω 101), (1, zI x1)] := hl
  unfold f_X10_list at h
  skip
  refine z_lconst C 0 rfl dX10_list_0 ?_
  refine lv_lstore_n C.1 C.2.1 (lv' := [(2, zJ 0), (0, zR Ω 101), (1, zI x1)]) dX10_list_1 rfl hl (by decide) rfl (fun ls hl => ?_)
  refine lv_aload_n C.1 C.2.1 dX10_list_2 rfl (lv_at hl 1 rfl) ?_
  have g_3 : Rg (μ 101 51) := zrgf0 (ci := 10) X.2.2.2 (hI.1 101 (by decide)) rfl 51 rfl
  refine z_get C X zk10 (hI.1 101 (by decide)) rfl 51 (by decide) kw_1083 (zI (μ 101 51)) rfl dX10_list_3 ?_
  refine z_i2l C g_3 dX10_list_6 ?_
  refine zlet_elim h (fun x_1 ex_1 h => ?_)
  have gx_1 : Rl x_1 := by rw [ex_1]; exact (Rg.l g_3)
  refine z_lstore C ex_1 dX10_list_7 hl (by decide) (lv' := [(4, zJ x_1), (2, zJ 0), (0, zR Ω 101), (1, zI x1)]) rfl (fun ls hl => ?_)
  clear ex_1
  refine z_iconst C dX10_list_9 ?_
  refine lv_istore C.1 C.2.1 (lv' := [(6, zI 0), (4, zJ x_1), (2, zJ 0), (0, zR Ω 101), (1, zI x1)]) dX10_list_10 hl (by decide) rfl (fun ls hl => ?_)
  have K77 : ∀ (x_2 : Int) (x_3 : Int) (μ_4 : zMem) (H : Heap) (locs : List Loc) (ls : Array Slot), Rl x_2 → Rl x_3 → zX Ω μ_4 (zfree Ω) s.heap H locs → lv_has ls 7 [(0, zR Ω 101), (1, zI x1), (2, zJ x_2), (4, zJ x_3)] → (f_X10_list_K77 x1) x_2 x_3 μ_4 = some μ' → W p l e (zrm 0) s m args below meth c H locs 0 0 Q (F0 m 77 ls []) := by
    intro x_2 x_3 μ_4 H locs ls gx_2 gx_3 X hl h
    unfold f_X10_list_K77 at h
    refine lv_aload_n C.1 C.2.1 dX10_list_77 rfl (lv_at hl 0 rfl) ?_
    refine z_get C X zk10 (hI.1 101 (by decide)) rfl 54 (by decide) kw_1086 (zR Ω 156) (zfvF (off := 55) X.2.2.2 (hI.1 101 (by decide)) hI.2 rfl rfl (by decide)) dX10_list_78 ?_
    refine lv_iload_n C.1 C.2.1 dX10_list_81 rfl (lv_at hl 1 rfl) ?_
    refine lv_lload_n C.1 C.2.1 dX10_list_82 rfl (lv_at hl 2 rfl) ?_
    obtain ⟨hc83, h⟩ := chk_some h
    refine zlet_elim h (fun μ_5 em h => ?_)
    refine z_last C X (hI.1 156 (by decide)) rfl hc83 (zok2 rfl gx_2) em dX10_list_83 (fun H locs X => ?_)
    clear em
    refine lv_aload_n C.1 C.2.1 dX10_list_84 rfl (lv_at hl 0 rfl) ?_
    refine z_get C X zk10 (hI.1 101 (by decide)) rfl 55 (by decide) kw_1087 (zR Ω 157) (zfvF (off := 56) X.2.2.2 (hI.1 101 (by decide)) hI.2 rfl rfl (by decide)) dX10_list_85 ?_
    refine lv_iload_n C.1 C.2.1 dX10_list_88 rfl (lv_at hl 1 rfl) ?_
    refine lv_lload C.1 C.2.1 dX10_list_89 (lv_at hl 3 rfl) ?_
    obtain ⟨hc91, h⟩ := chk_some h
    refine zlet_elim h (fun μ_6 em h => ?_)
    refine z_last C X (hI.1 157 (by decide)) rfl hc91 (zok2 rfl gx_3) em dX10_list_91 (fun H locs X => ?_)
    clear em
    obtain rfl := Option.some.inj h
    exact rt X dX10_list_92
  have L12 : ∀ (n12 : Nat) (x_7 : Int) (x_8 : Int) (x_9 : Int) (μ_10 : zMem) (H : Heap) (locs : List Loc) (ls : Array Slot), Rl x_7 → Rl x_8 → Rg x_9 → zX Ω μ_10 (zfree Ω) s.heap H locs → lv_has ls 7 [(0, zR Ω 101), (1, zI x1), (2, zJ x_7), (4, zJ x_8), (6, zI x_9)] → (f_X10_list_L12 (f_X10_list_K77 x1) n12 x_7 x_8 x_9 μ_10) = some μ' → W p l e (zrm 0) s m args below meth c H locs 0 0 Q (F0 m 12 ls []) := by
    intro n12
    induction n12 with
    | zero =>
      intro x_7 x_8 x_9 μ_10 H locs ls _ _ _ _ _ h
      cases h
    | succ n12 ih12 =>
      intro x_7 x_8 x_9 μ_10 H locs ls gx_7 gx_8 gx_9 X hl h
      unfold f_X10_list_L12 at h
      refine lv_iload C.1 C.2.1 dX10_list_12 (lv_at hl 4 rfl) ?_
      refine lv_aload_n C.1 C.2.1 dX10_list_14 rfl (lv_at hl 0 rfl) ?_
      have g_15 : Rg (μ_10 101 51) := zrgf0 (ci := 10) X.2.2.2 (hI.1 101 (by decide)) rfl 51 rfl
      refine z_get C X zk10 (hI.1 101 (by decide)) rfl 51 (by decide) kw_1083 (zI (μ_10 101 51)) rfl dX10_list_15 ?_
      refine z_icmpge C gx_9 g_15 (tgt := 77) dX10_list_18 (by decide) (fun hc18 => ?_) (fun hc18 => ?_)
      · rw [if_neg hc18] at h
        exact K77 x_7 x_8 μ_10 _ _ _ gx_7 gx_8 X (lv_sub hl [0, 1, 2, 3] rfl) h
      · rw [if_pos hc18] at h
        refine lv_iload C.1 C.2.1 dX10_list_21 (lv_at hl 4 rfl) ?_
        refine z_bipush C dX10_list_23 (by decide) ?_
        refine z_icmpge C gx_9 ⟨by decide, by decide⟩ (tgt := 50) dX10_list_25 (by decide) (fun hc25 => ?_) (fun hc25 => ?_)
        · rw [if_neg hc25] at h
          refine z_ldc2 C 32 kw_1501 (by decide) dX10_list_50 ?_
          refine lv_lload C.1 C.2.1 dX10_list_53 (lv_at hl 3 rfl) ?_
          refine z_lmul C dX10_list_55 ?_
          refine lv_aload_n C.1 C.2.1 dX10_list_56 rfl (lv_at hl 0 rfl) ?_
          refine z_get C X zk10 (hI.1 101 (by decide)) rfl 52 (by decide) kw_1084 (zR Ω 154) (zfvF (off := 53) X.2.2.2 (hI.1 101 (by decide)) hI.2 rfl rfl (by decide)) dX10_list_57 ?_
          refine lv_iload C.1 C.2.1 dX10_list_60 (lv_at hl 4 rfl) ?_
          obtain ⟨hc62, h⟩ := chk_some h
          have g_62 : Rg (μ_10 154 x_9) := zrg1 X.2.2.2 (hI.1 154 (by decide)) rfl
          refine z_iald C X (hI.1 154 (by decide)) rfl hc62 dX10_list_62 ?_
          refine z_i2l C g_62 dX10_list_63 ?_
          refine z_ladd C dX10_list_64 ?_
          refine z_ldc2 C 15 kw_1502 (by decide) dX10_list_65 ?_
          refine z_ladd C dX10_list_68 ?_
          refine zlet_elim h (fun x_11 ex_11 h => ?_)
          have gx_11 : Rl x_11 := by rw [ex_11]; exact (Rl.w _)
          refine z_lstore C ex_11 dX10_list_69 hl (by decide) (lv' := [(4, zJ x_11), (0, zR Ω 101), (1, zI x1), (2, zJ x_7), (6, zI x_9)]) rfl (fun ls hl => ?_)
          clear ex_11
          refine zlet_elim h (fun x_12 ex_12 h => ?_)
          have gx_12 : Rg x_12 := by rw [ex_12]; exact Rg.w _
          refine z_iinc C ex_12 dX10_list_71 hl (k := 4) rfl (by decide) (lv' := [(6, zI x_12), (4, zJ x_11), (0, zR Ω 101), (1, zI x1), (2, zJ x_7)]) rfl (fun ls hl => ?_)
          clear ex_12
          refine lv_goto (tgt := 12) C.1 C.2.1 dX10_list_74 (by decide) ?_
          exact ih12 x_7 x_11 x_12 μ_10 _ _ _ gx_7 gx_11 gx_12 X (lv_sub hl [2, 3, 4, 1, 0] rfl) h
        · rw [if_pos hc25] at h
          refine z_ldc2 C 32 kw_1501 (by decide) dX10_list_28 ?_
          refine lv_lload_n C.1 C.2.1 dX10_list_31 rfl (lv_at hl 2 rfl) ?_
          refine z_lmul C dX10_list_32 ?_
          refine lv_aload_n C.1 C.2.1 dX10_list_33 rfl (lv_at hl 0 rfl) ?_
          refine z_get C X zk10 (hI.1 101 (by decide)) rfl 52 (by decide) kw_1084 (zR Ω 154) (zfvF (off := 53) X.2.2.2 (hI.1 101 (by decide)) hI.2 rfl rfl (by decide)) dX10_list_34 ?_
          refine lv_iload C.1 C.2.1 dX10_list_37 (lv_at hl 4 rfl) ?_
          obtain ⟨hc39, h⟩ := chk_some h
          have g_39 : Rg (μ_10 154 x_9) := zrg1 X.2.2.2 (hI.1 154 (by decide)) rfl
          refine z_iald C X (hI.1 154 (by decide)) rfl hc39 dX10_list_39 ?_
          refine z_i2l C g_39 dX10_list_40 ?_
          refine z_ladd C dX10_list_41 ?_
          refine z_ldc2 C 15 kw_1502 (by decide) dX10_list_42 ?_
          refine z_ladd C dX10_list_45 ?_
          refine zlet_elim h (fun x_13 ex_13 h => ?_)
          have gx_13 : Rl x_13 := by rw [ex_13]; exact (Rl.w _)
          refine z_lstore_n C ex_13 dX10_list_46 rfl hl (by decide) (lv' := [(2, zJ x_13), (0, zR Ω 101), (1, zI x1), (4, zJ x_8), (6, zI x_9)]) rfl (fun ls hl => ?_)
          clear ex_13
          refine lv_goto (tgt := 71) C.1 C.2.1 dX10_list_47 (by decide) ?_
          refine zlet_elim h (fun x_14 ex_14 h => ?_)
          have gx_14 : Rg x_14 := by rw [ex_14]; exact Rg.w _
          refine z_iinc C ex_14 dX10_list_71 hl (k := 4) rfl (by decide) (lv' := [(6, zI x_14), (2, zJ x_13), (0, zR Ω 101), (1, zI x1), (4, zJ x_8)]) rfl (fun ls hl => ?_)
          clear ex_14
          refine lv_goto (tgt := 12) C.1 C.2.1 dX10_list_74 (by decide) ?_
          exact ih12 x_13 x_8 x_14 μ_10 _ _ _ gx_13 gx_8 gx_14 X (lv_sub hl [2, 3, 1, 4, 0] rfl) h
  exact L12 zfu 0 x_1 0 μ _ _ _ ⟨by decide, by decide⟩ gx_1 ⟨by decide, by decide⟩ X (lv_sub hl [3, 4, 2, 1, 0] rfl) h
theorem zc_X10_list : zcal yX10_list cX10_list 7 none RX10 1 := ⟨⟨kw_1500, kw_1499, kp_95, kw_12⟩, rfl, by decide, by decide, by decide +kernel⟩

def f_X10_putIn_L125 (x1 : Int) : Nat → Int → zMem → Option zMem
  | 0, _, _ => none
  | n + 1, x_6, μ_7 =>
    chk ((0 : Int) ≤ x1 ∧ x1 < 4) <|
    if x_6 < (μ_7 149 x1) then
      chk ((0 : Int) ≤ (zw ((zw (16 * x1)) + x_6)) ∧ (zw ((zw (16 * x1)) + x_6)) < 64) <|
      bnd (f_X10_put (μ_7 152 (zw ((zw (16 * x1)) + x_6))) μ_7) fun μ_8 =>
      zlet (zw (x_6 + 1)) fun x_9 =>
      (f_X10_putIn_L125 x1 n) x_9 μ_8
    else
      some μ_7
def f_X10_putIn_K122 (x1 : Int) (x2 : Int) (μ_5 : zMem) : Option zMem :=
  (f_X10_putIn_L125 x1) zfu x2 μ_5
def f_X10_putIn_J113 (x_10 : Int) (g61 : Int → zMem → Option zMem) (x_12 : Int) (μ_13 : zMem) : Option zMem :=
  bnd (f_X10_put x_12 μ_13) fun μ_14 =>
  zlet (zw (x_10 + 1)) fun x_15 =>
  g61 x_15 μ_14
def f_X10_putIn_L61 (x3 : Int) (x4 : Int) (x5 : Int) (x_1 : Int) (x_2 : Int) (g122 : zMem → Option zMem) : Nat → Int → zMem → Option zMem
  | 0, _, _ => none
  | n + 1, x_10, μ_11 =>
    if x_10 < x_2 then
      if x5 = 0 then
        chk (x_2 ≠ 0) <|
        bnd (f_X10_rimAt x_1 x3 (Int.tmod (zw (x4 + x_10)) x_2) μ_11) fun x_16 =>
        (f_X10_putIn_J113 x_10 (f_X10_putIn_L61 x3 x4 x5 x_1 x_2 g122 n)) x_16 μ_11
      else
        chk (x_2 ≠ 0) <|
        bnd (f_X10_rimAt x_1 x3 (Int.tmod (zw ((zw ((zw (x4 + x_2)) - 1)) - x_10)) x_2) μ_11) fun x_17 =>
        (f_X10_putIn_J113 x_10 (f_X10_putIn_L61 x3 x4 x5 x_1 x_2 g122 n)) (zw (-x_17)) μ_11
    else
      g122 μ_11
def f_X10_putIn_K58 (x1 : Int) (x2 : Int) (x3 : Int) (x4 : Int) (x5 : Int) (x_1 : Int) (x_2 : Int) (μ_4 : zMem) : Option zMem :=
  (f_X10_putIn_L61 x3 x4 x5 x_1 x_2 (f_X10_putIn_K122 x1 x2)) zfu 0 μ_4
def f_X10_putIn_L30 (x1 : Int) (x2 : Int) (g58 : zMem → Option zMem) : Nat → Int → zMem → Option zMem
  | 0, _, _ => none
  | n + 1, x_18, μ_19 =>
    if x_18 < x2 then
      chk ((0 : Int) ≤ (zw ((zw (16 * x1)) + x_18)) ∧ (zw ((zw (16 * x1)) + x_18)) < 64) <|
      bnd (f_X10_put (μ_19 152 (zw ((zw (16 * x1)) + x_18))) μ_19) fun μ_20 =>
      zlet (zw (x_18 + 1)) fun x_21 =>
      (f_X10_putIn_L30 x1 x2 g58 n) x_21 μ_20
    else
      g58 μ_19
def f_X10_putIn (x1 : Int) (x2 : Int) (x3 : Int) (x4 : Int) (x5 : Int) (μ : zMem) : Option zMem :=
  chk ((0 : Int) ≤ x1 ∧ x1 < 4) <|
  zlet ((μ 148 x1)) fun x_1 =>
  chk ((0 : Int) ≤ (zw ((zw (32 * x_1)) + x3)) ∧ (zw ((zw (32 * x_1)) + x3)) < 96) <|
  zlet ((μ 107 (zw ((zw (32 * x_1)) + x3)))) fun x_2 =>
  zlet (zup μ 101 51 0) fun μ_3 =>
  (f_X10_putIn_L30 x1 x2 (f_X10_putIn_K58 x1 x2 x3 x4 x5 x_1 x_2)) zfu 0 μ_3
set_option maxHeartbeats 4000000 in
set_option maxRecDepth 100000 in
theorem M_X10_putIn {l : Launch} {Ω : zO} (hI : zIm Ω) (μ : zMem) (x1 : Int) (x2 : Int) (x3 : Int) (x4 : Int) (x5 : Int) {μ' : zMem} (gx1 : Rg x1) (gx2 : Rg x2) (gx3 : Rg x3) (gx4 : Rg x4) (gx5 : Rg x5) (h : f_X10_putIn x1 x2 x3 x4 x5 μ = some μ') : XMet l yX10_putIn cX10_putIn 9 none 1 Ω [zR Ω 101, zI x1, zI x2, zI x3, zI x4, zI x5] μ none True μ' := by
  refine XMet.ofV (by decide) (Nat.le_of_ble_eq_true rfl) ?_
  intro p e s m args below meth c ls Q C rt X hl
  have C : zC p s m args c cX10_putIn RX10 9 Ω := C
  have hl : lv_has ls 9 [(0, zR Ω 101), (1, zI x1), (2, zI x2), (3, zI x3), (4, zI x4), (5, zI x5)] := hl
  unfold f_X10_putIn at h
  skip
  refine lv_aload_n C.1 C.2.1 dX10_putIn_0 rfl (lv_at hl 0 rfl) ?_
  refine z_get C X zk10 (hI.1 101 (by decide)) rfl 46 (by decide) kw_1078 (zR Ω 148) (zfvF (off := 47) X.2.2.2 (hI.1 101 (by decide)) hI.2 rfl rfl (by decide)) dX10_putIn_1 ?_
  refine lv_iload_n C.1 C.2.1 dX10_putIn_4 rfl (lv_at hl 1 rfl) ?_
  obtain ⟨hc5, h⟩ := chk_some h
  have g_5 : Rg (μ 148 x1) := zrg1 X.2.2.2 (hI.1 148 (by decide)) rfl
  refine z_iald C X (hI.1 148 (by decide)) rfl hc5 dX10_putIn_5 ?_
  refine zlet_elim h (fun x_1 ex_1 h => ?_)
  have gx_1 : Rg x_1 := by rw [ex_1]; exact g_5
  refine z_istore C ex_1 dX10_putIn_6 hl (by decide) (lv' := [(6, zI x_1), (0, zR Ω 101), (1, zI x1), (2, zI x2), (3, zI x3), (4, zI x4), (5, zI x5)]) rfl (fun ls hl => ?_)
  clear ex_1
  refine lv_aload_n C.1 C.2.1 dX10_putIn_8 rfl (lv_at hl 1 rfl) ?_
  refine z_get C X zk10 (hI.1 101 (by decide)) rfl 5 (by decide) kw_1037 (zR Ω 107) (zfvF (off := 6) X.2.2.2 (hI.1 101 (by decide)) hI.2 rfl rfl (by decide)) dX10_putIn_9 ?_
  refine z_bipush C dX10_putIn_12 (by decide) ?_
  refine lv_iload C.1 C.2.1 dX10_putIn_14 (lv_at hl 0 rfl) ?_
  refine z_imul C dX10_putIn_16 ?_
  refine lv_iload_n C.1 C.2.1 dX10_putIn_17 rfl (lv_at hl 4 rfl) ?_
  refine z_iadd C dX10_putIn_18 ?_
  obtain ⟨hc19, h⟩ := chk_some h
  have g_19 : Rg (μ 107 (zw ((zw (32 * x_1)) + x3))) := zrg1 X.2.2.2 (hI.1 107 (by decide)) rfl
  refine z_iald C X (hI.1 107 (by decide)) rfl hc19 dX10_putIn_19 ?_
  refine zlet_elim h (fun x_2 ex_2 h => ?_)
  have gx_2 : Rg x_2 := by rw [ex_2]; exact g_19
  refine z_istore C ex_2 dX10_putIn_20 hl (by decide) (lv' := [(7, zI x_2), (6, zI x_1), (0, zR Ω 101), (1, zI x1), (2, zI x2), (3, zI x3), (4, zI x4), (5, zI x5)]) rfl (fun ls hl => ?_)
  clear ex_2
  refine lv_aload_n C.1 C.2.1 dX10_putIn_22 rfl (lv_at hl 2 rfl) ?_
  refine z_iconst C dX10_putIn_23 ?_
  refine zlet_elim h (fun μ_3 em h => ?_)
  refine z_putI C X zk10 (hI.1 101 (by decide)) rfl 51 (by decide) kw_1083 rfl rfl rfl rfl ⟨by decide, by decide⟩ em dX10_putIn_24 (fun H locs X => ?_)
  clear em
  refine z_iconst C dX10_putIn_27 ?_
  refine lv_istore C.1 C.2.1 (lv' := [(8, zI 0), (7, zI x_2), (6, zI x_1), (0, zR Ω 101), (1, zI x1), (2, zI x2), (3, zI x3), (4, zI x4), (5, zI x5)]) dX10_putIn_28 hl (by decide) rfl (fun ls hl => ?_)
  have K58 : ∀ (μ_4 : zMem) (H : Heap) (locs : List Loc) (ls : Array Slot), zX Ω μ_4 (zfree Ω) s.heap H locs → lv_has ls 9 [(0, zR Ω 101), (1, zI x1), (2, zI x2), (3, zI x3), (4, zI x4), (5, zI x5), (6, zI x_1), (7, zI x_2)] → (f_X10_putIn_K58 x1 x2 x3 x4 x5 x_1 x_2) μ_4 = some μ' → W p l e (zrm 1) s m args below meth c H locs 0 0 Q (F0 m 58 ls []) := by
    intro μ_4 H locs ls  X hl h
    unfold f_X10_putIn_K58 at h
    refine z_iconst C dX10_putIn_58 ?_
    refine lv_istore C.1 C.2.1 (lv' := [(8, zI 0), (0, zR Ω 101), (1, zI x1), (2, zI x2), (3, zI x3), (4, zI x4), (5, zI x5), (6, zI x_1), (7, zI x_2)]) dX10_putIn_59 hl (by decide) rfl (fun ls hl => ?_)
    have K122 : ∀ (μ_5 : zMem) (H : Heap) (locs : List Loc) (ls : Array Slot), zX Ω μ_5 (zfree Ω) s.heap H locs → lv_has ls 9 [(0, zR Ω 101), (1, zI x1), (2, zI x2)] → (f_X10_putIn_K122 x1 x2) μ_5 = some μ' → W p l e (zrm 1) s m args below meth c H locs 0 0 Q (F0 m 122 ls []) := by
      intro μ_5 H locs ls  X hl h
      unfold f_X10_putIn_K122 at h
      refine lv_iload_n C.1 C.2.1 dX10_putIn_122 rfl (lv_at hl 2 rfl) ?_
      refine lv_istore C.1 C.2.1 (lv' := [(8, zI x2), (0, zR Ω 101), (1, zI x1), (2, zI x2)]) dX10_putIn_123 hl (by decide) rfl (fun ls hl => ?_)
      have L125 : ∀ (n125 : Nat) (x_6 : Int) (μ_7 : zMem) (H : Heap) (locs : List Loc) (ls : Array Slot), Rg x_6 → zX Ω μ_7 (zfree Ω) s.heap H locs → lv_has ls 9 [(0, zR Ω 101), (1, zI x1), (8, zI x_6)] → (f_X10_putIn_L125 x1 n125 x_6 μ_7) = some μ' → W p l e (zrm 1) s m args below meth c H locs 0 0 Q (F0 m 125 ls []) := by
        intro n125
        induction n125 with
        | zero =>
          intro x_6 μ_7 H locs ls _ _ _ h
          cases h
        | succ n125 ih125 =>
          intro x_6 μ_7 H locs ls gx_6 X hl h
          unfold f_X10_putIn_L125 at h
          refine lv_iload C.1 C.2.1 dX10_putIn_125 (lv_at hl 2 rfl) ?_
          refine lv_aload_n C.1 C.2.1 dX10_putIn_127 rfl (lv_at hl 0 rfl) ?_
          refine z_get C X zk10 (hI.1 101 (by decide)) rfl 47 (by decide) kw_1079 (zR Ω 149) (zfvF (off := 48) X.2.2.2 (hI.1 101 (by decide)) hI.2 rfl rfl (by decide)) dX10_putIn_128 ?_
          refine lv_iload_n C.1 C.2.1 dX10_putIn_131 rfl (lv_at hl 1 rfl) ?_
          obtain ⟨hc132, h⟩ := chk_some h
          have g_132 : Rg (μ_7 149 x1) := zrg1 X.2.2.2 (hI.1 149 (by decide)) rfl
          refine z_iald C X (hI.1 149 (by decide)) rfl hc132 dX10_putIn_132 ?_
          refine z_icmpge C gx_6 g_132 (tgt := 158) dX10_putIn_133 (by decide) (fun hc133 => ?_) (fun hc133 => ?_)
          · rw [if_neg hc133] at h
            obtain rfl := Option.some.inj h
            exact rt X dX10_putIn_158
          · rw [if_pos hc133] at h
            refine lv_aload_n C.1 C.2.1 dX10_putIn_136 rfl (lv_at hl 0 rfl) ?_
            refine lv_aload_n C.1 C.2.1 dX10_putIn_137 rfl (lv_at hl 0 rfl) ?_
            refine z_get C X zk10 (hI.1 101 (by decide)) rfl 50 (by decide) kw_1082 (zR Ω 152) (zfvF (off := 51) X.2.2.2 (hI.1 101 (by decide)) hI.2 rfl rfl (by decide)) dX10_putIn_138 ?_
            refine z_bipush C dX10_putIn_141 (by decide) ?_
            refine lv_iload_n C.1 C.2.1 dX10_putIn_143 rfl (lv_at hl 1 rfl) ?_
            refine z_imul C dX10_putIn_144 ?_
            refine lv_iload C.1 C.2.1 dX10_putIn_145 (lv_at hl 2 rfl) ?_
            refine z_iadd C dX10_putIn_147 ?_
            obtain ⟨hc148, h⟩ := chk_some h
            have g_148 : Rg (μ_7 152 (zw ((zw (16 * x1)) + x_6))) := zrg1 X.2.2.2 (hI.1 152 (by decide)) rfl
            refine z_iald C X (hI.1 152 (by decide)) rfl hc148 dX10_putIn_148 ?_
            obtain ⟨μ_8, hq149, h⟩ := bnd_some h
            refine z_callV0 C X zk10 (hI.1 101 (by decide)) rfl (As := [zI (μ_7 152 (zw ((zw (16 * x1)) + x_6)))]) (M_X10_put hI μ_7 (μ_7 152 (zw ((zw (16 * x1)) + x_6))) g_148 hq149) zc_X10_put kw_1470 (zroom (by decide) (by decide)) rfl hl.1 rfl (Nat.le_of_ble_eq_true rfl) dX10_putIn_149 ⟨Nat.zero_le _, Nat.zero_le _⟩ (fun H locs g_149 X => ?_)
            refine zlet_elim h (fun x_9 ex_9 h => ?_)
            have gx_9 : Rg x_9 := by rw [ex_9]; exact Rg.w _
            refine z_iinc C ex_9 dX10_putIn_152 hl (k := 2) rfl (by decide) (lv' := [(8, zI x_9), (0, zR Ω 101), (1, zI x1)]) rfl (fun ls hl => ?_)
            clear ex_9
            refine lv_goto (tgt := 125) C.1 C.2.1 dX10_putIn_155 (by decide) ?_
            exact ih125 x_9 μ_8 _ _ _ gx_9 X (lv_sub hl [1, 2, 0] rfl) h
      exact L125 zfu x2 μ_5 _ _ _ gx2 X (lv_sub hl [1, 2, 0] rfl) h
    have L61 : ∀ (n61 : Nat) (x_10 : Int) (μ_11 : zMem) (H : Heap) (locs : List Loc) (ls : Array Slot), Rg x_10 → zX Ω μ_11 (zfree Ω) s.heap H locs → lv_has ls 9 [(0, zR Ω 101), (1, zI x1), (2, zI x2), (3, zI x3), (4, zI x4), (5, zI x5), (6, zI x_1), (7, zI x_2), (8, zI x_10)] → (f_X10_putIn_L61 x3 x4 x5 x_1 x_2 (f_X10_putIn_K122 x1 x2) n61 x_10 μ_11) = some μ' → W p l e (zrm 1) s m args below meth c H locs 0 0 Q (F0 m 61 ls []) := by
      intro n61
      induction n61 with
      | zero =>
        intro x_10 μ_11 H locs ls _ _ _ h
        cases h
      | succ n61 ih61 =>
        intro x_10 μ_11 H locs ls gx_10 X hl h
        unfold f_X10_putIn_L61 at h
        refine lv_iload C.1 C.2.1 dX10_putIn_61 (lv_at hl 8 rfl) ?_
        refine lv_iload C.1 C.2.1 dX10_putIn_63 (lv_at hl 7 rfl) ?_
        refine z_icmpge C gx_10 gx_2 (tgt := 122) dX10_putIn_65 (by decide) (fun hc65 => ?_) (fun hc65 => ?_)
        · rw [if_neg hc65] at h
          exact K122 μ_11 _ _ _ X (lv_sub hl [0, 1, 2] rfl) h
        · rw [if_pos hc65] at h
          refine lv_aload_n C.1 C.2.1 dX10_putIn_68 rfl (lv_at hl 0 rfl) ?_
          refine lv_iload C.1 C.2.1 dX10_putIn_69 (lv_at hl 5 rfl) ?_
          have K113 : ∀ (x_12 : Int) (μ_13 : zMem) (H : Heap) (locs : List Loc) (ls : Array Slot), Rg x_12 → zX Ω μ_13 (zfree Ω) s.heap H locs → lv_has ls 9 [(0, zR Ω 101), (1, zI x1), (2, zI x2), (3, zI x3), (4, zI x4), (5, zI x5), (6, zI x_1), (7, zI x_2), (8, zI x_10)] → (f_X10_putIn_J113 x_10 (f_X10_putIn_L61 x3 x4 x5 x_1 x_2 (f_X10_putIn_K122 x1 x2) n61)) x_12 μ_13 = some μ' → W p l e (zrm 1) s m args below meth c H locs 0 0 Q (F0 m 113 ls [zI x_12, zR Ω 101]) := by
            intro x_12 μ_13 H locs ls gx_12 X hl h
            unfold f_X10_putIn_J113 at h
            obtain ⟨μ_14, hq113, h⟩ := bnd_some h
            refine z_callV0 C X zk10 (hI.1 101 (by decide)) rfl (As := [zI x_12]) (M_X10_put hI μ_13 x_12 gx_12 hq113) zc_X10_put kw_1470 (zroom (by decide) (by decide)) rfl hl.1 rfl (Nat.le_of_ble_eq_true rfl) dX10_putIn_113 ⟨Nat.zero_le _, Nat.zero_le _⟩ (fun H locs g_113 X => ?_)
            refine zlet_elim h (fun x_15 ex_15 h => ?_)
            have gx_15 : Rg x_15 := by rw [ex_15]; exact Rg.w _
            refine z_iinc C ex_15 dX10_putIn_116 hl (k := 8) rfl (by decide) (lv' := [(8, zI x_15), (0, zR Ω 101), (1, zI x1), (2, zI x2), (3, zI x3), (4, zI x4), (5, zI x5), (6, zI x_1), (7, zI x_2)]) rfl (fun ls hl => ?_)
            clear ex_15
            refine lv_goto (tgt := 61) C.1 C.2.1 dX10_putIn_119 (by decide) ?_
            exact ih61 x_15 μ_14 _ _ _ gx_15 X (lv_sub hl [1, 2, 3, 4, 5, 6, 7, 8, 0] rfl) h
          refine z_ifeq C gx5 (tgt := 98) dX10_putIn_71 (by decide) (fun hc71 => ?_) (fun hc71 => ?_)
          · rw [if_pos hc71] at h
            refine lv_aload_n C.1 C.2.1 dX10_putIn_98 rfl (lv_at hl 0 rfl) ?_
            refine lv_iload C.1 C.2.1 dX10_putIn_99 (lv_at hl 6 rfl) ?_
            refine lv_iload_n C.1 C.2.1 dX10_putIn_101 rfl (lv_at hl 3 rfl) ?_
            refine lv_iload C.1 C.2.1 dX10_putIn_102 (lv_at hl 4 rfl) ?_
            refine lv_iload C.1 C.2.1 dX10_putIn_104 (lv_at hl 8 rfl) ?_
            refine z_iadd C dX10_putIn_106 ?_
            refine lv_iload C.1 C.2.1 dX10_putIn_107 (lv_at hl 7 rfl) ?_
            obtain ⟨hc109, h⟩ := chk_some h
            refine z_irem C (Rg.w _) gx_2 hc109 dX10_putIn_109 ?_
            obtain ⟨x_16, hq110, h⟩ := bnd_some h
            refine z_callV1 C X zk10 (hI.1 101 (by decide)) rfl (As := [zI x_1, zI x3, zI (Int.tmod (zw (x4 + x_10)) x_2)]) (M_X10_rimAt hI μ_11 x_1 x3 (Int.tmod (zw (x4 + x_10)) x_2) gx_1 gx3 (Rg.rem (Rg.w _) gx_2) hq110) zc_X10_rimAt kw_1321 (zroom (by decide) (by decide)) rfl hl.1 rfl (Nat.le_of_ble_eq_true rfl) dX10_putIn_110 ⟨Nat.zero_le _, Nat.zero_le _⟩ (fun H locs g_110 X => ?_)
            exact K113 x_16 μ_11 _ _ _ g_110 X (lv_sub hl [0, 1, 2, 3, 4, 5, 6, 7, 8] rfl) h
          · rw [if_neg hc71] at h
            refine lv_aload_n C.1 C.2.1 dX10_putIn_74 rfl (lv_at hl 0 rfl) ?_
            refine lv_iload C.1 C.2.1 dX10_putIn_75 (lv_at hl 6 rfl) ?_
            refine lv_iload_n C.1 C.2.1 dX10_putIn_77 rfl (lv_at hl 3 rfl) ?_
            refine lv_iload C.1 C.2.1 dX10_putIn_78 (lv_at hl 4 rfl) ?_
            refine lv_iload C.1 C.2.1 dX10_putIn_80 (lv_at hl 7 rfl) ?_
            refine z_iadd C dX10_putIn_82 ?_
            refine z_iconst C dX10_putIn_83 ?_
            refine z_isub C dX10_putIn_84 ?_
            refine lv_iload C.1 C.2.1 dX10_putIn_85 (lv_at hl 8 rfl) ?_
            refine z_isub C dX10_putIn_87 ?_
            refine lv_iload C.1 C.2.1 dX10_putIn_88 (lv_at hl 7 rfl) ?_
            obtain ⟨hc90, h⟩ := chk_some h
            refine z_irem C (Rg.w _) gx_2 hc90 dX10_putIn_90 ?_
            obtain ⟨x_17, hq91, h⟩ := bnd_some h
            refine z_callV1 C X zk10 (hI.1 101 (by decide)) rfl (As := [zI x_1, zI x3, zI (Int.tmod (zw ((zw ((zw (x4 + x_2)) - 1)) - x_10)) x_2)]) (M_X10_rimAt hI μ_11 x_1 x3 (Int.tmod (zw ((zw ((zw (x4 + x_2)) - 1)) - x_10)) x_2) gx_1 gx3 (Rg.rem (Rg.w _) gx_2) hq91) zc_X10_rimAt kw_1321 (zroom (by decide) (by decide)) rfl hl.1 rfl (Nat.le_of_ble_eq_true rfl) dX10_putIn_91 ⟨Nat.zero_le _, Nat.zero_le _⟩ (fun H locs g_91 X => ?_)
            refine z_ineg C dX10_putIn_94 ?_
            refine lv_goto (tgt := 113) C.1 C.2.1 dX10_putIn_95 (by decide) ?_
            exact K113 (zw (-x_17)) μ_11 _ _ _ (Rg.w _) X (lv_sub hl [0, 1, 2, 3, 4, 5, 6, 7, 8] rfl) h
    exact L61 zfu 0 μ_4 _ _ _ ⟨by decide, by decide⟩ X (lv_sub hl [1, 2, 3, 4, 5, 6, 7, 8, 0] rfl) h
  have L30 : ∀ (n30 : Nat) (x_18 : Int) (μ_19 : zMem) (H : Heap) (locs : List Loc) (ls : Array Slot), Rg x_18 → zX Ω μ_19 (zfree Ω) s.heap H locs → lv_has ls 9 [(0, zR Ω 101), (1, zI x1), (2, zI x2), (3, zI x3), (4, zI x4), (5, zI x5), (6, zI x_1), (7, zI x_2), (8, zI x_18)] → (f_X10_putIn_L30 x1 x2 (f_X10_putIn_K58 x1 x2 x3 x4 x5 x_1 x_2) n30 x_18 μ_19) = some μ' → W p l e (zrm 1) s m args below meth c H locs 0 0 Q (F0 m 30 ls []) := by
    intro n30
    induction n30 with
    | zero =>
      intro x_18 μ_19 H locs ls _ _ _ h
      cases h
    | succ n30 ih30 =>
      intro x_18 μ_19 H locs ls gx_18 X hl h
      unfold f_X10_putIn_L30 at h
      refine lv_iload C.1 C.2.1 dX10_putIn_30 (lv_at hl 8 rfl) ?_
      refine lv_iload_n C.1 C.2.1 dX10_putIn_32 rfl (lv_at hl 2 rfl) ?_
      refine z_icmpge C gx_18 gx2 (tgt := 58) dX10_putIn_33 (by decide) (fun hc33 => ?_) (fun hc33 => ?_)
      · rw [if_neg hc33] at h
        exact K58 μ_19 _ _ _ X (lv_sub hl [0, 1, 2, 3, 4, 5, 6, 7] rfl) h
      · rw [if_pos hc33] at h
        refine lv_aload_n C.1 C.2.1 dX10_putIn_36 rfl (lv_at hl 0 rfl) ?_
        refine lv_aload_n C.1 C.2.1 dX10_putIn_37 rfl (lv_at hl 0 rfl) ?_
        refine z_get C X zk10 (hI.1 101 (by decide)) rfl 50 (by decide) kw_1082 (zR Ω 152) (zfvF (off := 51) X.2.2.2 (hI.1 101 (by decide)) hI.2 rfl rfl (by decide)) dX10_putIn_38 ?_
        refine z_bipush C dX10_putIn_41 (by decide) ?_
        refine lv_iload_n C.1 C.2.1 dX10_putIn_43 rfl (lv_at hl 1 rfl) ?_
        refine z_imul C dX10_putIn_44 ?_
        refine lv_iload C.1 C.2.1 dX10_putIn_45 (lv_at hl 8 rfl) ?_
        refine z_iadd C dX10_putIn_47 ?_
        obtain ⟨hc48, h⟩ := chk_some h
        have g_48 : Rg (μ_19 152 (zw ((zw (16 * x1)) + x_18))) := zrg1 X.2.2.2 (hI.1 152 (by decide)) rfl
        refine z_iald C X (hI.1 152 (by decide)) rfl hc48 dX10_putIn_48 ?_
        obtain ⟨μ_20, hq49, h⟩ := bnd_some h
        refine z_callV0 C X zk10 (hI.1 101 (by decide)) rfl (As := [zI (μ_19 152 (zw ((zw (16 * x1)) + x_18)))]) (M_X10_put hI μ_19 (μ_19 152 (zw ((zw (16 * x1)) + x_18))) g_48 hq49) zc_X10_put kw_1470 (zroom (by decide) (by decide)) rfl hl.1 rfl (Nat.le_of_ble_eq_true rfl) dX10_putIn_49 ⟨Nat.zero_le _, Nat.zero_le _⟩ (fun H locs g_49 X => ?_)
        refine zlet_elim h (fun x_21 ex_21 h => ?_)
        have gx_21 : Rg x_21 := by rw [ex_21]; exact Rg.w _
        refine z_iinc C ex_21 dX10_putIn_52 hl (k := 8) rfl (by decide) (lv' := [(8, zI x_21), (0, zR Ω 101), (1, zI x1), (2, zI x2), (3, zI x3), (4, zI x4), (5, zI x5), (6, zI x_1), (7, zI x_2)]) rfl (fun ls hl => ?_)
        clear ex_21
        refine lv_goto (tgt := 30) C.1 C.2.1 dX10_putIn_55 (by decide) ?_
        exact ih30 x_21 μ_20 _ _ _ gx_21 X (lv_sub hl [1, 2, 3, 4, 5, 6, 7, 8, 0] rfl) h
  exact L30 zfu 0 μ_3 _ _ _ ⟨by decide, by decide⟩ X (lv_sub hl [3, 4, 5, 6, 7, 8, 2, 1, 0] rfl) h
theorem zc_X10_putIn : zcal yX10_putIn cX10_putIn 9 none RX10 5 := ⟨⟨kw_1514, kw_1513, kp_98, kw_12⟩, rfl, by decide, by decide, by decide +kernel⟩

def f_X10_cornerAt (x1 : Int) (x2 : Int) (μ : zMem) : Option Int :=
  if x2 = 0 then
    chk ((0 : Int) ≤ x1 ∧ x1 < 4) <|
    some (μ 150 x1)
  else
    chk ((0 : Int) ≤ x1 ∧ x1 < 4) <|
    chk ((0 : Int) ≤ (zw ((zw ((zw (16 * x1)) + x2)) - 1)) ∧ (zw ((zw ((zw (16 * x1)) + x2)) - 1)) < 64) <|
    bnd (f_X10_toOf (μ 148 x1) (μ 152 (zw ((zw ((zw (16 * x1)) + x2)) - 1))) μ) fun x_1 =>
    some x_1
set_option maxHeartbeats 4000000 in
set_option maxRecDepth 100000 in
theorem M_X10_cornerAt {l : Launch} {Ω : zO} (hI : zIm Ω) (μ : zMem) (x1 : Int) (x2 : Int) {r : Int} (gx1 : Rg x1) (gx2 : Rg x2) (h : f_X10_cornerAt x1 x2 μ = some r) : XMet l yX10_cornerAt cX10_cornerAt 3 (some Jvm.ClassFile.FieldType.int) 2 Ω [zR Ω 101, zI x1, zI x2] μ (some (zI r)) (Rg r) μ := by
  refine XMet.ofI (by decide) (Nat.le_of_ble_eq_true rfl) ?_
  intro p e s m args below meth c ls Q C rt X hl
  have C : zC p s m args c cX10_cornerAt RX10 3 Ω := C
  have hl : lv_has ls 3 [(0, zR Ω 101), (1, zI x1), (2, zI x2)] := hl
  unfold f_X10_cornerAt at h
  skip
  refine lv_iload_n C.1 C.2.1 dX10_cornerAt_0 rfl (lv_at hl 2 rfl) ?_
  refine z_ifne C gx2 (tgt := 13) dX10_cornerAt_1 (by decide) (fun hc1 => ?_) (fun hc1 => ?_)
  · rw [if_neg hc1] at h
    refine lv_aload_n C.1 C.2.1 dX10_cornerAt_13 rfl (lv_at hl 0 rfl) ?_
    refine lv_aload_n C.1 C.2.1 dX10_cornerAt_14 rfl (lv_at hl 0 rfl) ?_
    refine z_get C X zk10 (hI.1 101 (by decide)) rfl 46 (by decide) kw_1078 (zR Ω 148) (zfvF (off := 47) X.2.2.2 (hI.1 101 (by decide)) hI.2 rfl rfl (by decide)) dX10_cornerAt_15 ?_
    refine lv_iload_n C.1 C.2.1 dX10_cornerAt_18 rfl (lv_at hl 1 rfl) ?_
    obtain ⟨hc19, h⟩ := chk_some h
    have g_19 : Rg (μ 148 x1) := zrg1 X.2.2.2 (hI.1 148 (by decide)) rfl
    refine z_iald C X (hI.1 148 (by decide)) rfl hc19 dX10_cornerAt_19 ?_
    refine lv_aload_n C.1 C.2.1 dX10_cornerAt_20 rfl (lv_at hl 0 rfl) ?_
    refine z_get C X zk10 (hI.1 101 (by decide)) rfl 50 (by decide) kw_1082 (zR Ω 152) (zfvF (off := 51) X.2.2.2 (hI.1 101 (by decide)) hI.2 rfl rfl (by decide)) dX10_cornerAt_21 ?_
    refine z_bipush C dX10_cornerAt_24 (by decide) ?_
    refine lv_iload_n C.1 C.2.1 dX10_cornerAt_26 rfl (lv_at hl 1 rfl) ?_
    refine z_imul C dX10_cornerAt_27 ?_
    refine lv_iload_n C.1 C.2.1 dX10_cornerAt_28 rfl (lv_at hl 2 rfl) ?_
    refine z_iadd C dX10_cornerAt_29 ?_
    refine z_iconst C dX10_cornerAt_30 ?_
    refine z_isub C dX10_cornerAt_31 ?_
    obtain ⟨hc32, h⟩ := chk_some h
    have g_32 : Rg (μ 152 (zw ((zw ((zw (16 * x1)) + x2)) - 1))) := zrg1 X.2.2.2 (hI.1 152 (by decide)) rfl
    refine z_iald C X (hI.1 152 (by decide)) rfl hc32 dX10_cornerAt_32 ?_
    obtain ⟨x_1, hq33, h⟩ := bnd_some h
    refine z_callV1 C X zk10 (hI.1 101 (by decide)) rfl (As := [zI (μ 148 x1), zI (μ 152 (zw ((zw ((zw (16 * x1)) + x2)) - 1)))]) (M_X10_toOf hI μ (μ 148 x1) (μ 152 (zw ((zw ((zw (16 * x1)) + x2)) - 1))) g_19 g_32 hq33) zc_X10_toOf kw_1261 (zroom (by decide) (by decide)) rfl hl.1 rfl (Nat.le_of_ble_eq_true rfl) dX10_cornerAt_33 ⟨Nat.zero_le _, Nat.zero_le _⟩ (fun H locs g_33 X => ?_)
    obtain rfl := Option.some.inj h
    exact rt X g_33 dX10_cornerAt_36
  · rw [if_pos hc1] at h
    refine lv_aload_n C.1 C.2.1 dX10_cornerAt_4 rfl (lv_at hl 0 rfl) ?_
    refine z_get C X zk10 (hI.1 101 (by decide)) rfl 48 (by decide) kw_1080 (zR Ω 150) (zfvF (off := 49) X.2.2.2 (hI.1 101 (by decide)) hI.2 rfl rfl (by decide)) dX10_cornerAt_5 ?_
    refine lv_iload_n C.1 C.2.1 dX10_cornerAt_8 rfl (lv_at hl 1 rfl) ?_
    obtain ⟨hc9, h⟩ := chk_some h
    have g_9 : Rg (μ 150 x1) := zrg1 X.2.2.2 (hI.1 150 (by decide)) rfl
    refine z_iald C X (hI.1 150 (by decide)) rfl hc9 dX10_cornerAt_9 ?_
    refine lv_goto (tgt := 36) C.1 C.2.1 dX10_cornerAt_10 (by decide) ?_
    obtain rfl := Option.some.inj h
    exact rt X g_9 dX10_cornerAt_36
theorem zc_X10_cornerAt : zcal yX10_cornerAt cX10_cornerAt 3 (some Jvm.ClassFile.FieldType.int) RX10 2 := ⟨⟨kw_1510, kw_1509, kp_97, kw_12⟩, rfl, by decide, by decide, by decide +kernel⟩

def f_X10_layNext_K162 (x_3 : Int) (g15 : Int → zMem → Option zMem) (μ_5 : zMem) : Option zMem :=
  zlet (zw (x_3 + 1)) fun x_6 =>
  g15 x_6 μ_5
def f_X10_layNext_K156 (x_7 : Int) (g29 : Int → zMem → Option zMem) (μ_9 : zMem) : Option zMem :=
  zlet (zw (x_7 + 1)) fun x_10 =>
  g29 x_10 μ_9
def f_X10_layNext_K150 (x_11 : Int) (g43 : Int → zMem → Option zMem) (μ_17 : zMem) : Option zMem :=
  zlet (zw (x_11 + 1)) fun x_18 =>
  g43 x_18 μ_17
def f_X10_layNext_J112 (x1 : Int) (x2 : Int) (x_3 : Int) (x_7 : Int) (x_11 : Int) (x_19 : Int) (g87 : Int → zMem → Option zMem) (x_21 : Int) (μ_22 : zMem) : Option zMem :=
  bnd (f_X10_putIn x1 x_3 x_7 x_11 x_21 μ_22) fun μ_23 =>
  if (μ_23 101 51) ≤ 16 then
    bnd (f_X10_list (zw (x2 + (μ_23 101 53))) μ_23) fun μ_25 =>
    zlet (zup μ_25 101 53 (zw ((μ_25 101 53) + 1))) fun μ_26 =>
    zlet (zw (x_19 + 1)) fun x_27 =>
    g87 x_27 μ_26
  else
    zlet (zw (x_19 + 1)) fun x_24 =>
    g87 x_24 μ_23
def f_X10_layNext_L87 (x1 : Int) (x2 : Int) (x_3 : Int) (x_7 : Int) (x_11 : Int) (g150 : zMem → Option zMem) : Nat → Int → zMem → Option zMem
  | 0, _, _ => none
  | n + 1, x_19, μ_20 =>
    if x_19 < 2 then
      (f_X10_layNext_J112 x1 x2 x_3 x_7 x_11 x_19 (f_X10_layNext_L87 x1 x2 x_3 x_7 x_11 g150 n)) (if x_19 = 1 then 1 else 0) μ_20
    else
      g150 μ_20
def f_X10_layNext_L43 (x1 : Int) (x2 : Int) (x_1 : Int) (x_3 : Int) (x_7 : Int) (g156 : zMem → Option zMem) : Nat → Int → zMem → Option zMem
  | 0, _, _ => none
  | n + 1, x_11, μ_12 =>
    chk ((0 : Int) ≤ (zw ((zw (32 * x_1)) + x_7)) ∧ (zw ((zw (32 * x_1)) + x_7)) < 96) <|
    if x_11 < (μ_12 107 (zw ((zw (32 * x_1)) + x_7))) then
      bnd (f_X10_rimAt x_1 x_7 x_11 μ_12) fun x_13 =>
      bnd (f_X10_fromOf x_1 x_13 μ_12) fun x_14 =>
      bnd (f_X10_cornerAt x1 x_3 μ_12) fun x_15 =>
      if x_14 = x_15 then
        (f_X10_layNext_L87 x1 x2 x_3 x_7 x_11 (f_X10_layNext_K150 x_11 (f_X10_layNext_L43 x1 x2 x_1 x_3 x_7 g156 n))) zfu 0 μ_12
      else
        zlet (zw (x_11 + 1)) fun x_16 =>
        (f_X10_layNext_L43 x1 x2 x_1 x_3 x_7 g156 n) x_16 μ_12
    else
      g156 μ_12
def f_X10_layNext_L29 (x1 : Int) (x2 : Int) (x_1 : Int) (x_3 : Int) (g162 : zMem → Option zMem) : Nat → Int → zMem → Option zMem
  | 0, _, _ => none
  | n + 1, x_7, μ_8 =>
    chk ((0 : Int) ≤ x_1 ∧ x_1 < 3) <|
    if x_7 < (μ_8 104 x_1) then
      (f_X10_layNext_L43 x1 x2 x_1 x_3 x_7 (f_X10_layNext_K156 x_7 (f_X10_layNext_L29 x1 x2 x_1 x_3 g162 n))) zfu 0 μ_8
    else
      g162 μ_8
def f_X10_layNext_L15 (x1 : Int) (x2 : Int) (x_1 : Int) : Nat → Int → zMem → Option zMem
  | 0, _, _ => none
  | n + 1, x_3, μ_4 =>
    chk ((0 : Int) ≤ x1 ∧ x1 < 4) <|
    if x_3 ≤ (μ_4 149 x1) then
      (f_X10_layNext_L29 x1 x2 x_1 x_3 (f_X10_layNext_K162 x_3 (f_X10_layNext_L15 x1 x2 x_1 n))) zfu 0 μ_4
    else
      some μ_4
def f_X10_layNext (x1 : Int) (x2 : Int) (μ : zMem) : Option zMem :=
  chk ((0 : Int) ≤ x1 ∧ x1 < 4) <|
  zlet ((μ 148 x1)) fun x_1 =>
  zlet (zup μ 101 53 0) fun μ_2 =>
  (f_X10_layNext_L15 x1 x2 x_1) zfu 0 μ_2
set_option maxHeartbeats 4000000 in
set_option maxRecDepth 100000 in
theorem M_X10_layNext {l : Launch} {Ω : zO} (hI : zIm Ω) (μ : zMem) (x1 : Int) (x2 : Int) {μ' : zMem} (gx1 : Rg x1) (gx2 : Rg x2) (h : f_X10_layNext x1 x2 μ = some μ') : XMet l yX10_layNext cX10_layNext 8 none 3 Ω [zR Ω 101, zI x1, zI x2] μ none True μ' := by
  refine XMet.ofV (by decide) (Nat.le_of_ble_eq_true rfl) ?_
  intro p e s m args below meth c ls Q C rt X hl
  have C : zC p s m args c cX10_layNext RX10 8 Ω := C
  have hl : lv_has ls 8 [(0, zR Ω 101), (1, zI x1), (2, zI x2)] := hl
  unfold f_X10_layNext at h
  skip
  refine lv_aload_n C.1 C.2.1 dX10_layNext_0 rfl (lv_at hl 0 rfl) ?_
  refine z_get C X zk10 (hI.1 101 (by decide)) rfl 46 (by decide) kw_1078 (zR Ω 148) (zfvF (off := 47) X.2.2.2 (hI.1 101 (by decide)) hI.2 rfl rfl (by decide)) dX10_layNext_1 ?_
  refine lv_iload_n C.1 C.2.1 dX10_layNext_4 rfl (lv_at hl 1 rfl) ?_
  obtain ⟨hc5, h⟩ := chk_some h
  have g_5 : Rg (μ 148 x1) := zrg1 X.2.2.2 (hI.1 148 (by decide)) rfl
  refine z_iald C X (hI.1 148 (by decide)) rfl hc5 dX10_layNext_5 ?_
  refine zlet_elim h (fun x_1 ex_1 h => ?_)
  have gx_1 : Rg x_1 := by rw [ex_1]; exact g_5
  refine z_istore_n C ex_1 dX10_layNext_6 rfl hl (by decide) (lv' := [(3, zI x_1), (0, zR Ω 101), (1, zI x1), (2, zI x2)]) rfl (fun ls hl => ?_)
  clear ex_1
  refine lv_aload_n C.1 C.2.1 dX10_layNext_7 rfl (lv_at hl 1 rfl) ?_
  refine z_iconst C dX10_layNext_8 ?_
  refine zlet_elim h (fun μ_2 em h => ?_)
  refine z_putI C X zk10 (hI.1 101 (by decide)) rfl 53 (by decide) kw_1085 rfl rfl rfl rfl ⟨by decide, by decide⟩ em dX10_layNext_9 (fun H locs X => ?_)
  clear em
  refine z_iconst C dX10_layNext_12 ?_
  refine lv_istore C.1 C.2.1 (lv' := [(4, zI 0), (3, zI x_1), (0, zR Ω 101), (1, zI x1), (2, zI x2)]) dX10_layNext_13 hl (by decide) rfl (fun ls hl => ?_)
  have L15 : ∀ (n15 : Nat) (x_3 : Int) (μ_4 : zMem) (H : Heap) (locs : List Loc) (ls : Array Slot), Rg x_3 → zX Ω μ_4 (zfree Ω) s.heap H locs → lv_has ls 8 [(0, zR Ω 101), (1, zI x1), (2, zI x2), (3, zI x_1), (4, zI x_3)] → (f_X10_layNext_L15 x1 x2 x_1 n15 x_3 μ_4) = some μ' → W p l e (zrm 3) s m args below meth c H locs 0 0 Q (F0 m 15 ls []) := by
    intro n15
    induction n15 with
    | zero =>
      intro x_3 μ_4 H locs ls _ _ _ h
      cases h
    | succ n15 ih15 =>
      intro x_3 μ_4 H locs ls gx_3 X hl h
      unfold f_X10_layNext_L15 at h
      refine lv_iload C.1 C.2.1 dX10_layNext_15 (lv_at hl 4 rfl) ?_
      refine lv_aload_n C.1 C.2.1 dX10_layNext_17 rfl (lv_at hl 0 rfl) ?_
      refine z_get C X zk10 (hI.1 101 (by decide)) rfl 47 (by decide) kw_1079 (zR Ω 149) (zfvF (off := 48) X.2.2.2 (hI.1 101 (by decide)) hI.2 rfl rfl (by decide)) dX10_layNext_18 ?_
      refine lv_iload_n C.1 C.2.1 dX10_layNext_21 rfl (lv_at hl 1 rfl) ?_
      obtain ⟨hc22, h⟩ := chk_some h
      have g_22 : Rg (μ_4 149 x1) := zrg1 X.2.2.2 (hI.1 149 (by decide)) rfl
      refine z_iald C X (hI.1 149 (by decide)) rfl hc22 dX10_layNext_22 ?_
      refine z_icmpgt C gx_3 g_22 (tgt := 168) dX10_layNext_23 (by decide) (fun hc23 => ?_) (fun hc23 => ?_)
      · rw [if_neg hc23] at h
        obtain rfl := Option.some.inj h
        exact rt X dX10_layNext_168
      · rw [if_pos hc23] at h
        refine z_iconst C dX10_layNext_26 ?_
        refine lv_istore C.1 C.2.1 (lv' := [(5, zI 0), (0, zR Ω 101), (1, zI x1), (2, zI x2), (3, zI x_1), (4, zI x_3)]) dX10_layNext_27 hl (by decide) rfl (fun ls hl => ?_)
        have K162 : ∀ (μ_5 : zMem) (H : Heap) (locs : List Loc) (ls : Array Slot), zX Ω μ_5 (zfree Ω) s.heap H locs → lv_has ls 8 [(0, zR Ω 101), (1, zI x1), (2, zI x2), (3, zI x_1), (4, zI x_3)] → (f_X10_layNext_K162 x_3 (f_X10_layNext_L15 x1 x2 x_1 n15)) μ_5 = some μ' → W p l e (zrm 3) s m args below meth c H locs 0 0 Q (F0 m 162 ls []) := by
          intro μ_5 H locs ls  X hl h
          unfold f_X10_layNext_K162 at h
          refine zlet_elim h (fun x_6 ex_6 h => ?_)
          have gx_6 : Rg x_6 := by rw [ex_6]; exact Rg.w _
          refine z_iinc C ex_6 dX10_layNext_162 hl (k := 4) rfl (by decide) (lv' := [(4, zI x_6), (0, zR Ω 101), (1, zI x1), (2, zI x2), (3, zI x_1)]) rfl (fun ls hl => ?_)
          clear ex_6
          refine lv_goto (tgt := 15) C.1 C.2.1 dX10_layNext_165 (by decide) ?_
          exact ih15 x_6 μ_5 _ _ _ gx_6 X (lv_sub hl [1, 2, 3, 4, 0] rfl) h
        have L29 : ∀ (n29 : Nat) (x_7 : Int) (μ_8 : zMem) (H : Heap) (locs : List Loc) (ls : Array Slot), Rg x_7 → zX Ω μ_8 (zfree Ω) s.heap H locs → lv_has ls 8 [(0, zR Ω 101), (1, zI x1), (2, zI x2), (3, zI x_1), (4, zI x_3), (5, zI x_7)] → (f_X10_layNext_L29 x1 x2 x_1 x_3 (f_X10_layNext_K162 x_3 (f_X10_layNext_L15 x1 x2 x_1 n15)) n29 x_7 μ_8) = some μ' → W p l e (zrm 3) s m args below meth c H locs 0 0 Q (F0 m 29 ls []) := by
          intro n29
          induction n29 with
          | zero =>
            intro x_7 μ_8 H locs ls _ _ _ h
            cases h
          | succ n29 ih29 =>
            intro x_7 μ_8 H locs ls gx_7 X hl h
            unfold f_X10_layNext_L29 at h
            refine lv_iload C.1 C.2.1 dX10_layNext_29 (lv_at hl 5 rfl) ?_
            refine lv_aload_n C.1 C.2.1 dX10_layNext_31 rfl (lv_at hl 0 rfl) ?_
            refine z_get C X zk10 (hI.1 101 (by decide)) rfl 2 (by decide) kw_1034 (zR Ω 104) (zfvF (off := 3) X.2.2.2 (hI.1 101 (by decide)) hI.2 rfl rfl (by decide)) dX10_layNext_32 ?_
            refine lv_iload_n C.1 C.2.1 dX10_layNext_35 rfl (lv_at hl 3 rfl) ?_
            obtain ⟨hc36, h⟩ := chk_some h
            have g_36 : Rg (μ_8 104 x_1) := zrg1 X.2.2.2 (hI.1 104 (by decide)) rfl
            refine z_iald C X (hI.1 104 (by decide)) rfl hc36 dX10_layNext_36 ?_
            refine z_icmpge C gx_7 g_36 (tgt := 162) dX10_layNext_37 (by decide) (fun hc37 => ?_) (fun hc37 => ?_)
            · rw [if_neg hc37] at h
              exact K162 μ_8 _ _ _ X (lv_sub hl [0, 1, 2, 3, 4] rfl) h
            · rw [if_pos hc37] at h
              refine z_iconst C dX10_layNext_40 ?_
              refine lv_istore C.1 C.2.1 (lv' := [(6, zI 0), (0, zR Ω 101), (1, zI x1), (2, zI x2), (3, zI x_1), (4, zI x_3), (5, zI x_7)]) dX10_layNext_41 hl (by decide) rfl (fun ls hl => ?_)
              have K156 : ∀ (μ_9 : zMem) (H : Heap) (locs : List Loc) (ls : Array Slot), zX Ω μ_9 (zfree Ω) s.heap H locs → lv_has ls 8 [(0, zR Ω 101), (1, zI x1), (2, zI x2), (3, zI x_1), (4, zI x_3), (5, zI x_7)] → (f_X10_layNext_K156 x_7 (f_X10_layNext_L29 x1 x2 x_1 x_3 (f_X10_layNext_K162 x_3 (f_X10_layNext_L15 x1 x2 x_1 n15)) n29)) μ_9 = some μ' → W p l e (zrm 3) s m args below meth c H locs 0 0 Q (F0 m 156 ls []) := by
                intro μ_9 H locs ls  X hl h
                unfold f_X10_layNext_K156 at h
                refine zlet_elim h (fun x_10 ex_10 h => ?_)
                have gx_10 : Rg x_10 := by rw [ex_10]; exact Rg.w _
                refine z_iinc C ex_10 dX10_layNext_156 hl (k := 5) rfl (by decide) (lv' := [(5, zI x_10), (0, zR Ω 101), (1, zI x1), (2, zI x2), (3, zI x_1), (4, zI x_3)]) rfl (fun ls hl => ?_)
                clear ex_10
                refine lv_goto (tgt := 29) C.1 C.2.1 dX10_layNext_159 (by decide) ?_
                exact ih29 x_10 μ_9 _ _ _ gx_10 X (lv_sub hl [1, 2, 3, 4, 5, 0] rfl) h
              have L43 : ∀ (n43 : Nat) (x_11 : Int) (μ_12 : zMem) (H : Heap) (locs : List Loc) (ls : Array Slot), Rg x_11 → zX Ω μ_12 (zfree Ω) s.heap H locs → lv_has ls 8 [(0, zR Ω 101), (1, zI x1), (2, zI x2), (3, zI x_1), (4, zI x_3), (5, zI x_7), (6, zI x_11)] → (f_X10_layNext_L43 x1 x2 x_1 x_3 x_7 (f_X10_layNext_K156 x_7 (f_X10_layNext_L29 x1 x2 x_1 x_3 (f_X10_layNext_K162 x_3 (f_X10_layNext_L15 x1 x2 x_1 n15)) n29)) n43 x_11 μ_12) = some μ' → W p l e (zrm 3) s m args below meth c H locs 0 0 Q (F0 m 43 ls []) := by
                intro n43
                induction n43 with
                | zero =>
                  intro x_11 μ_12 H locs ls _ _ _ h
                  cases h
                | succ n43 ih43 =>
                  intro x_11 μ_12 H locs ls gx_11 X hl h
                  unfold f_X10_layNext_L43 at h
                  refine lv_iload C.1 C.2.1 dX10_layNext_43 (lv_at hl 6 rfl) ?_
                  refine lv_aload_n C.1 C.2.1 dX10_layNext_45 rfl (lv_at hl 0 rfl) ?_
                  refine z_get C X zk10 (hI.1 101 (by decide)) rfl 5 (by decide) kw_1037 (zR Ω 107) (zfvF (off := 6) X.2.2.2 (hI.1 101 (by decide)) hI.2 rfl rfl (by decide)) dX10_layNext_46 ?_
                  refine z_bipush C dX10_layNext_49 (by decide) ?_
                  refine lv_iload_n C.1 C.2.1 dX10_layNext_51 rfl (lv_at hl 3 rfl) ?_
                  refine z_imul C dX10_layNext_52 ?_
                  refine lv_iload C.1 C.2.1 dX10_layNext_53 (lv_at hl 5 rfl) ?_
                  refine z_iadd C dX10_layNext_55 ?_
                  obtain ⟨hc56, h⟩ := chk_some h
                  have g_56 : Rg (μ_12 107 (zw ((zw (32 * x_1)) + x_7))) := zrg1 X.2.2.2 (hI.1 107 (by decide)) rfl
                  refine z_iald C X (hI.1 107 (by decide)) rfl hc56 dX10_layNext_56 ?_
                  refine z_icmpge C gx_11 g_56 (tgt := 156) dX10_layNext_57 (by decide) (fun hc57 => ?_) (fun hc57 => ?_)
                  · rw [if_neg hc57] at h
                    exact K156 μ_12 _ _ _ X (lv_sub hl [0, 1, 2, 3, 4, 5] rfl) h
                  · rw [if_pos hc57] at h
                    refine lv_aload_n C.1 C.2.1 dX10_layNext_60 rfl (lv_at hl 0 rfl) ?_
                    refine lv_iload_n C.1 C.2.1 dX10_layNext_61 rfl (lv_at hl 3 rfl) ?_
                    refine lv_aload_n C.1 C.2.1 dX10_layNext_62 rfl (lv_at hl 0 rfl) ?_
                    refine lv_iload_n C.1 C.2.1 dX10_layNext_63 rfl (lv_at hl 3 rfl) ?_
                    refine lv_iload C.1 C.2.1 dX10_layNext_64 (lv_at hl 5 rfl) ?_
                    refine lv_iload C.1 C.2.1 dX10_layNext_66 (lv_at hl 6 rfl) ?_
                    obtain ⟨x_13, hq68, h⟩ := bnd_some h
                    refine z_callV1 C X zk10 (hI.1 101 (by decide)) rfl (As := [zI x_1, zI x_7, zI x_11]) (M_X10_rimAt hI μ_12 x_1 x_7 x_11 gx_1 gx_7 gx_11 hq68) zc_X10_rimAt kw_1321 (zroom (by decide) (by decide)) rfl hl.1 rfl (Nat.le_of_ble_eq_true rfl) dX10_layNext_68 ⟨Nat.zero_le _, Nat.zero_le _⟩ (fun H locs g_68 X => ?_)
                    obtain ⟨x_14, hq71, h⟩ := bnd_some h
                    refine z_callV1 C X zk10 (hI.1 101 (by decide)) rfl (As := [zI x_1, zI x_13]) (M_X10_fromOf hI μ_12 x_1 x_13 gx_1 g_68 hq71) zc_X10_fromOf kw_1265 (zroom (by decide) (by decide)) rfl hl.1 rfl (Nat.le_of_ble_eq_true rfl) dX10_layNext_71 ⟨Nat.zero_le _, Nat.zero_le _⟩ (fun H locs g_71 X => ?_)
                    refine lv_aload_n C.1 C.2.1 dX10_layNext_74 rfl (lv_at hl 0 rfl) ?_
                    refine lv_iload_n C.1 C.2.1 dX10_layNext_75 rfl (lv_at hl 1 rfl) ?_
                    refine lv_iload C.1 C.2.1 dX10_layNext_76 (lv_at hl 4 rfl) ?_
                    obtain ⟨x_15, hq78, h⟩ := bnd_some h
                    refine z_callV1 C X zk10 (hI.1 101 (by decide)) rfl (As := [zI x1, zI x_3]) (M_X10_cornerAt hI μ_12 x1 x_3 gx1 gx_3 hq78) zc_X10_cornerAt kw_1507 (zroom (by decide) (by decide)) rfl hl.1 rfl (Nat.le_of_ble_eq_true rfl) dX10_layNext_78 ⟨Nat.zero_le _, Nat.zero_le _⟩ (fun H locs g_78 X => ?_)
                    refine z_icmpne C g_71 g_78 (tgt := 150) dX10_layNext_81 (by decide) (fun hc81 => ?_) (fun hc81 => ?_)
                    · rw [if_neg hc81] at h
                      refine zlet_elim h (fun x_16 ex_16 h => ?_)
                      have gx_16 : Rg x_16 := by rw [ex_16]; exact Rg.w _
                      refine z_iinc C ex_16 dX10_layNext_150 hl (k := 6) rfl (by decide) (lv' := [(6, zI x_16), (0, zR Ω 101), (1, zI x1), (2, zI x2), (3, zI x_1), (4, zI x_3), (5, zI x_7)]) rfl (fun ls hl => ?_)
                      clear ex_16
                      refine lv_goto (tgt := 43) C.1 C.2.1 dX10_layNext_153 (by decide) ?_
                      exact ih43 x_16 μ_12 _ _ _ gx_16 X (lv_sub hl [1, 2, 3, 4, 5, 6, 0] rfl) h
                    · rw [if_pos hc81] at h
                      refine z_iconst C dX10_layNext_84 ?_
                      refine lv_istore C.1 C.2.1 (lv' := [(7, zI 0), (0, zR Ω 101), (1, zI x1), (2, zI x2), (3, zI x_1), (4, zI x_3), (5, zI x_7), (6, zI x_11)]) dX10_layNext_85 hl (by decide) rfl (fun ls hl => ?_)
                      have K150 : ∀ (μ_17 : zMem) (H : Heap) (locs : List Loc) (ls : Array Slot), zX Ω μ_17 (zfree Ω) s.heap H locs → lv_has ls 8 [(0, zR Ω 101), (1, zI x1), (2, zI x2), (3, zI x_1), (4, zI x_3), (5, zI x_7), (6, zI x_11)] → (f_X10_layNext_K150 x_11 (f_X10_layNext_L43 x1 x2 x_1 x_3 x_7 (f_X10_layNext_K156 x_7 (f_X10_layNext_L29 x1 x2 x_1 x_3 (f_X10_layNext_K162 x_3 (f_X10_layNext_L15 x1 x2 x_1 n15)) n29)) n43)) μ_17 = some μ' → W p l e (zrm 3) s m args below meth c H locs 0 0 Q (F0 m 150 ls []) := by
                        intro μ_17 H locs ls  X hl h
                        unfold f_X10_layNext_K150 at h
                        refine zlet_elim h (fun x_18 ex_18 h => ?_)
                        have gx_18 : Rg x_18 := by rw [ex_18]; exact Rg.w _
                        refine z_iinc C ex_18 dX10_layNext_150 hl (k := 6) rfl (by decide) (lv' := [(6, zI x_18), (0, zR Ω 101), (1, zI x1), (2, zI x2), (3, zI x_1), (4, zI x_3), (5, zI x_7)]) rfl (fun ls hl => ?_)
                        clear ex_18
                        refine lv_goto (tgt := 43) C.1 C.2.1 dX10_layNext_153 (by decide) ?_
                        exact ih43 x_18 μ_17 _ _ _ gx_18 X (lv_sub hl [1, 2, 3, 4, 5, 6, 0] rfl) h
                      have L87 : ∀ (n87 : Nat) (x_19 : Int) (μ_20 : zMem) (H : Heap) (locs : List Loc) (ls : Array Slot), Rg x_19 → zX Ω μ_20 (zfree Ω) s.heap H locs → lv_has ls 8 [(0, zR Ω 101), (1, zI x1), (2, zI x2), (3, zI x_1), (4, zI x_3), (5, zI x_7), (6, zI x_11), (7, zI x_19)] → (f_X10_layNext_L87 x1 x2 x_3 x_7 x_11 (f_X10_layNext_K150 x_11 (f_X10_layNext_L43 x1 x2 x_1 x_3 x_7 (f_X10_layNext_K156 x_7 (f_X10_layNext_L29 x1 x2 x_1 x_3 (f_X10_layNext_K162 x_3 (f_X10_layNext_L15 x1 x2 x_1 n15)) n29)) n43)) n87 x_19 μ_20) = some μ' → W p l e (zrm 3) s m args below meth c H locs 0 0 Q (F0 m 87 ls []) := by
                        intro n87
                        induction n87 with
                        | zero =>
                          intro x_19 μ_20 H locs ls _ _ _ h
                          cases h
                        | succ n87 ih87 =>
                          intro x_19 μ_20 H locs ls gx_19 X hl h
                          unfold f_X10_layNext_L87 at h
                          refine lv_iload C.1 C.2.1 dX10_layNext_87 (lv_at hl 7 rfl) ?_
                          refine z_iconst C dX10_layNext_89 ?_
                          refine z_icmpge C gx_19 ⟨by decide, by decide⟩ (tgt := 150) dX10_layNext_90 (by decide) (fun hc90 => ?_) (fun hc90 => ?_)
                          · rw [if_neg hc90] at h
                            exact K150 μ_20 _ _ _ X (lv_sub hl [0, 1, 2, 3, 4, 5, 6] rfl) h
                          · rw [if_pos hc90] at h
                            refine lv_aload_n C.1 C.2.1 dX10_layNext_93 rfl (lv_at hl 0 rfl) ?_
                            refine lv_iload_n C.1 C.2.1 dX10_layNext_94 rfl (lv_at hl 1 rfl) ?_
                            refine lv_iload C.1 C.2.1 dX10_layNext_95 (lv_at hl 4 rfl) ?_
                            refine lv_iload C.1 C.2.1 dX10_layNext_97 (lv_at hl 5 rfl) ?_
                            refine lv_iload C.1 C.2.1 dX10_layNext_99 (lv_at hl 6 rfl) ?_
                            refine lv_iload C.1 C.2.1 dX10_layNext_101 (lv_at hl 7 rfl) ?_
                            refine z_iconst C dX10_layNext_103 ?_
                            have K112 : ∀ (x_21 : Int) (μ_22 : zMem) (H : Heap) (locs : List Loc) (ls : Array Slot), Rg x_21 → zX Ω μ_22 (zfree Ω) s.heap H locs → lv_has ls 8 [(0, zR Ω 101), (1, zI x1), (2, zI x2), (3, zI x_1), (4, zI x_3), (5, zI x_7), (6, zI x_11), (7, zI x_19)] → (f_X10_layNext_J112 x1 x2 x_3 x_7 x_11 x_19 (f_X10_layNext_L87 x1 x2 x_3 x_7 x_11 (f_X10_layNext_K150 x_11 (f_X10_layNext_L43 x1 x2 x_1 x_3 x_7 (f_X10_layNext_K156 x_7 (f_X10_layNext_L29 x1 x2 x_1 x_3 (f_X10_layNext_K162 x_3 (f_X10_layNext_L15 x1 x2 x_1 n15)) n29)) n43)) n87)) x_21 μ_22 = some μ' → W p l e (zrm 3) s m args below meth c H locs 0 0 Q (F0 m 112 ls [zI x_21, zI x_11, zI x_7, zI x_3, zI x1, zR Ω 101]) := by
                              intro x_21 μ_22 H locs ls gx_21 X hl h
                              unfold f_X10_layNext_J112 at h
                              obtain ⟨μ_23, hq112, h⟩ := bnd_some h
                              refine z_callV0 C X zk10 (hI.1 101 (by decide)) rfl (As := [zI x1, zI x_3, zI x_7, zI x_11, zI x_21]) (M_X10_putIn hI μ_22 x1 x_3 x_7 x_11 x_21 gx1 gx_3 gx_7 gx_11 gx_21 hq112) zc_X10_putIn kw_1511 (zroom (by decide) (by decide)) rfl hl.1 rfl (Nat.le_of_ble_eq_true rfl) dX10_layNext_112 ⟨Nat.zero_le _, Nat.zero_le _⟩ (fun H locs g_112 X => ?_)
                              refine lv_aload_n C.1 C.2.1 dX10_layNext_115 rfl (lv_at hl 0 rfl) ?_
                              have g_116 : Rg (μ_23 101 51) := zrgf0 (ci := 10) X.2.2.2 (hI.1 101 (by decide)) rfl 51 rfl
                              refine z_get C X zk10 (hI.1 101 (by decide)) rfl 51 (by decide) kw_1083 (zI (μ_23 101 51)) rfl dX10_layNext_116 ?_
                              refine z_bipush C dX10_layNext_119 (by decide) ?_
                              refine z_icmpgt C g_116 ⟨by decide, by decide⟩ (tgt := 144) dX10_layNext_121 (by decide) (fun hc121 => ?_) (fun hc121 => ?_)
                              · rw [if_neg hc121] at h
                                refine zlet_elim h (fun x_24 ex_24 h => ?_)
                                have gx_24 : Rg x_24 := by rw [ex_24]; exact Rg.w _
                                refine z_iinc C ex_24 dX10_layNext_144 hl (k := 7) rfl (by decide) (lv' := [(7, zI x_24), (0, zR Ω 101), (1, zI x1), (2, zI x2), (3, zI x_1), (4, zI x_3), (5, zI x_7), (6, zI x_11)]) rfl (fun ls hl => ?_)
                                clear ex_24
                                refine lv_goto (tgt := 87) C.1 C.2.1 dX10_layNext_147 (by decide) ?_
                                exact ih87 x_24 μ_23 _ _ _ gx_24 X (lv_sub hl [1, 2, 3, 4, 5, 6, 7, 0] rfl) h
                              · rw [if_pos hc121] at h
                                refine lv_aload_n C.1 C.2.1 dX10_layNext_124 rfl (lv_at hl 0 rfl) ?_
                                refine lv_iload_n C.1 C.2.1 dX10_layNext_125 rfl (lv_at hl 2 rfl) ?_
                                refine lv_aload_n C.1 C.2.1 dX10_layNext_126 rfl (lv_at hl 0 rfl) ?_
                                have g_127 : Rg (μ_23 101 53) := zrgf0 (ci := 10) X.2.2.2 (hI.1 101 (by decide)) rfl 53 rfl
                                refine z_get C X zk10 (hI.1 101 (by decide)) rfl 53 (by decide) kw_1085 (zI (μ_23 101 53)) rfl dX10_layNext_127 ?_
                                refine z_iadd C dX10_layNext_130 ?_
                                obtain ⟨μ_25, hq131, h⟩ := bnd_some h
                                refine z_callV0 C X zk10 (hI.1 101 (by decide)) rfl (As := [zI (zw (x2 + (μ_23 101 53)))]) (M_X10_list hI μ_23 (zw (x2 + (μ_23 101 53))) (Rg.w _) hq131) zc_X10_list kw_1497 (zroom (by decide) (by decide)) rfl hl.1 rfl (Nat.le_of_ble_eq_true rfl) dX10_layNext_131 ⟨Nat.zero_le _, Nat.zero_le _⟩ (fun H locs g_131 X => ?_)
                                refine lv_aload_n C.1 C.2.1 dX10_layNext_134 rfl (lv_at hl 0 rfl) ?_
                                refine lv_dup C.1 C.2.1 dX10_layNext_135 rfl ?_
                                have g_136 : Rg (μ_25 101 53) := zrgf0 (ci := 10) X.2.2.2 (hI.1 101 (by decide)) rfl 53 rfl
                                refine z_get C X zk10 (hI.1 101 (by decide)) rfl 53 (by decide) kw_1085 (zI (μ_25 101 53)) rfl dX10_layNext_136 ?_
                                refine z_iconst C dX10_layNext_139 ?_
                                refine z_iadd C dX10_layNext_140 ?_
                                refine zlet_elim h (fun μ_26 em h => ?_)
                                refine z_putI C X zk10 (hI.1 101 (by decide)) rfl 53 (by decide) kw_1085 rfl rfl rfl rfl (Rg.w _) em dX10_layNext_141 (fun H locs X => ?_)
                                clear em
                                refine zlet_elim h (fun x_27 ex_27 h => ?_)
                                have gx_27 : Rg x_27 := by rw [ex_27]; exact Rg.w _
                                refine z_iinc C ex_27 dX10_layNext_144 hl (k := 7) rfl (by decide) (lv' := [(7, zI x_27), (0, zR Ω 101), (1, zI x1), (2, zI x2), (3, zI x_1), (4, zI x_3), (5, zI x_7), (6, zI x_11)]) rfl (fun ls hl => ?_)
                                clear ex_27
                                refine lv_goto (tgt := 87) C.1 C.2.1 dX10_layNext_147 (by decide) ?_
                                exact ih87 x_27 μ_26 _ _ _ gx_27 X (lv_sub hl [1, 2, 3, 4, 5, 6, 7, 0] rfl) h
                            refine z_icmpne C gx_19 ⟨by decide, by decide⟩ (tgt := 111) dX10_layNext_104 (by decide) (fun hc104 => ?_) (fun hc104 => ?_)
                            · rw [if_neg hc104] at h
                              refine z_iconst C dX10_layNext_111 ?_
                              exact K112 0 μ_20 _ _ _ ⟨by decide, by decide⟩ X (lv_sub hl [0, 1, 2, 3, 4, 5, 6, 7] rfl) h
                            · rw [if_pos hc104] at h
                              refine z_iconst C dX10_layNext_107 ?_
                              refine lv_goto (tgt := 112) C.1 C.2.1 dX10_layNext_108 (by decide) ?_
                              exact K112 1 μ_20 _ _ _ ⟨by decide, by decide⟩ X (lv_sub hl [0, 1, 2, 3, 4, 5, 6, 7] rfl) h
                      exact L87 zfu 0 μ_12 _ _ _ ⟨by decide, by decide⟩ X (lv_sub hl [1, 2, 3, 4, 5, 6, 7, 0] rfl) h
              exact L43 zfu 0 μ_8 _ _ _ ⟨by decide, by decide⟩ X (lv_sub hl [1, 2, 3, 4, 5, 6, 0] rfl) h
        exact L29 zfu 0 μ_4 _ _ _ ⟨by decide, by decide⟩ X (lv_sub hl [1, 2, 3, 4, 5, 0] rfl) h
  exact L15 zfu 0 μ_2 _ _ _ ⟨by decide, by decide⟩ X (lv_sub hl [2, 3, 4, 1, 0] rfl) h
theorem zc_X10_layNext : zcal yX10_layNext cX10_layNext 8 none RX10 2 := ⟨⟨kw_1506, kw_1505, kp_96, kw_12⟩, rfl, by decide, by decide, by decide +kernel⟩

