def f_X10_layer_K208 (μ_11 : zMem) : Option (Int × zMem) :=
  bnd (f_X10_layTree 2 μ_11) fun μ_12 =>
  some ((μ_12 101 20), μ_12)
def f_X10_layer_J201 (x_13 : Int) (g124 : Int → zMem → Option (Int × zMem)) (x_18 : Int) (μ_19 : zMem) : Option (Int × zMem) :=
  chk ((0 : Int) ≤ x_13 ∧ x_13 < 12) <|
  zlet (zup μ_19 144 x_13 x_18) fun μ_20 =>
  zlet (zw (x_13 + 1)) fun x_21 =>
  g124 x_21 μ_20
def f_X10_layer_J167 (x_13 : Int) (g124 : Int → zMem → Option (Int × zMem)) (x_15 : Int) (μ_16 : zMem) : Option (Int × zMem) :=
  chk ((0 : Int) ≤ x_13 ∧ x_13 < 12) <|
  zlet (zup μ_16 145 x_13 (zz x_15)) fun μ_17 =>
  if x_15 = 0 then
    (f_X10_layer_J201 x_13 g124) (-4) μ_17
  else
    chk ((0 : Int) ≤ x_13 ∧ x_13 < 48) <|
    (f_X10_layer_J201 x_13 g124) (μ_17 123 x_13) μ_17
def f_X10_layer_J166 (g167 : Int → zMem → Option (Int × zMem)) (μ_22 : zMem) : Option (Int × zMem) :=
  g167 0 μ_22
def f_X10_layer_L124 (x1 : Int) (g208 : zMem → Option (Int × zMem)) : Nat → Int → zMem → Option (Int × zMem)
  | 0, _, _ => none
  | n + 1, x_13, μ_14 =>
    if x_13 < 12 then
      chk ((0 : Int) ≤ x1 ∧ x1 < 3) <|
      if x_13 < (μ_14 103 x1) then
        chk ((0 : Int) ≤ (zw ((zw (48 * x1)) + x_13)) ∧ (zw ((zw (48 * x1)) + x_13)) < 144) <|
        chk ((0 : Int) ≤ (μ_14 105 (zw ((zw (48 * x1)) + x_13))) ∧ (μ_14 105 (zw ((zw (48 * x1)) + x_13))) < 32) <|
        if (μ_14 120 (μ_14 105 (zw ((zw (48 * x1)) + x_13)))) = 0 then
          (f_X10_layer_J166 (f_X10_layer_J167 x_13 (f_X10_layer_L124 x1 g208 n))) μ_14
        else
          (f_X10_layer_J167 x_13 (f_X10_layer_L124 x1 g208 n)) 1 μ_14
      else
        (f_X10_layer_J166 (f_X10_layer_J167 x_13 (f_X10_layer_L124 x1 g208 n))) μ_14
    else
      g208 μ_14
def f_X10_layer_K121 (x1 : Int) (μ_10 : zMem) : Option (Int × zMem) :=
  (f_X10_layer_L124 x1 f_X10_layer_K208) zfu 0 μ_10
def f_X10_layer_L80 (g121 : zMem → Option (Int × zMem)) : Nat → Int → zMem → Option (Int × zMem)
  | 0, _, _ => none
  | n + 1, x_23, μ_24 =>
    if x_23 < 64 then
      chk ((0 : Int) ≤ x_23 ∧ x_23 < 64) <|
      chk ((0 : Int) ≤ x_23 ∧ x_23 < 64) <|
      zlet (zup μ_24 142 x_23 (μ_24 128 x_23)) fun μ_25 =>
      chk ((0 : Int) ≤ x_23 ∧ x_23 < 64) <|
      chk ((0 : Int) ≤ x_23 ∧ x_23 < 64) <|
      zlet (zup μ_25 143 x_23 (μ_25 129 x_23)) fun μ_26 =>
      zlet (zw (x_23 + 1)) fun x_27 =>
      (f_X10_layer_L80 g121 n) x_27 μ_26
    else
      g121 μ_24
def f_X10_layer (x1 : Int) (x2 : Int) (x3 : Int) (μ : zMem) : Option (Int × zMem) :=
  if (f_X10_isSpace x1) = 0 then
    some ((-1), μ)
  else
    if (f_X10_areStoreys x2) = 0 then
      some ((-1), μ)
    else
      if x3 < 0 then
        some ((-1), μ)
      else
        bnd2 (f_X10_isMany x1 x2 μ) fun x_1 μ_2 =>
        if x_1 = 0 then
          bnd2 (f_X10_seek x1 1 (zw (x3 + 1)) μ_2) fun x_3 μ_4 =>
          if x_3 = 0 then
            some ((-1), μ_4)
          else
            bnd (f_X10_layLayer x1 μ_4) fun μ_5 =>
            zlet (zup μ_5 101 7 1) fun μ_6 =>
            zlet (zup μ_6 101 37 x1) fun μ_7 =>
            zlet (zup μ_7 101 38 (μ_7 101 28)) fun μ_8 =>
            zlet (zup μ_8 101 39 (μ_8 101 29)) fun μ_9 =>
            (f_X10_layer_L80 (f_X10_layer_K121 x1)) zfu 0 μ_9
        else
          some ((-2), μ_2)
set_option maxHeartbeats 4000000 in
set_option maxRecDepth 100000 in
theorem M_X10_layer {l : Launch} {Ω : zO} (hI : zIm Ω) (μ : zMem) (x1 : Int) (x2 : Int) (x3 : Int) {r : Int} {μ' : zMem} (gx1 : Rg x1) (gx2 : Rg x2) (gx3 : Rg x3) (h : f_X10_layer x1 x2 x3 μ = some (r, μ')) : XMet l yX10_layer cX10_layer 6 (some Jvm.ClassFile.FieldType.int) 45 Ω [zR Ω 101, zI x1, zI x2, zI x3] μ (some (zI r)) (Rg r) μ' := by
  refine XMet.ofI (by decide) (Nat.le_of_ble_eq_true rfl) ?_
  intro p e s m args below meth c ls Q C rt X hl
  have C : zC p s m args c cX10_layer RX10 6 Ω := C
  have hl : lv_has ls 6 [(0, zR Ω 101), (1, zI x1), (2, zI x2), (3, zI x3)] := hl
  unfold f_X10_layer at h
  skip
  refine lv_iload_n C.1 C.2.1 dX10_layer_0 rfl (lv_at hl 1 rfl) ?_
  refine z_callS1 C X (As := [zI x1]) (M_X10_isSpace hI μ x1 gx1) zc_X10_isSpace kw_1214 (zroom (by decide) (by decide)) rfl hl.1 rfl (Nat.le_of_ble_eq_true rfl) dX10_layer_1 ⟨Nat.zero_le _, Nat.zero_le _⟩ (fun H locs g_1 X => ?_)
  refine z_ifeq C (rgz g_1) (tgt := 18) dX10_layer_4 (by decide) (fun hc4 => ?_) (fun hc4 => ?_)
  · rw [if_pos hc4] at h
    refine z_iconst C dX10_layer_18 ?_
    obtain ⟨rfl, rfl⟩ := Prod.mk.inj (Option.some.inj h)
    exact rt X ⟨by decide, by decide⟩ dX10_layer_19
  · rw [if_neg hc4] at h
    refine lv_iload_n C.1 C.2.1 dX10_layer_7 rfl (lv_at hl 2 rfl) ?_
    refine z_callS1 C X (As := [zI x2]) (M_X10_areStoreys hI μ x2 gx2) zc_X10_areStoreys kw_1380 (zroom (by decide) (by decide)) rfl hl.1 rfl (Nat.le_of_ble_eq_true rfl) dX10_layer_8 ⟨Nat.zero_le _, Nat.zero_le _⟩ (fun H locs g_8 X => ?_)
    refine z_ifeq C (rgz g_8) (tgt := 18) dX10_layer_11 (by decide) (fun hc11 => ?_) (fun hc11 => ?_)
    · rw [if_pos hc11] at h
      refine z_iconst C dX10_layer_18 ?_
      obtain ⟨rfl, rfl⟩ := Prod.mk.inj (Option.some.inj h)
      exact rt X ⟨by decide, by decide⟩ dX10_layer_19
    · rw [if_neg hc11] at h
      refine lv_iload_n C.1 C.2.1 dX10_layer_14 rfl (lv_at hl 3 rfl) ?_
      refine z_ifge C gx3 (tgt := 20) dX10_layer_15 (by decide) (fun hc15 => ?_) (fun hc15 => ?_)
      · rw [if_neg hc15] at h
        refine lv_aload_n C.1 C.2.1 dX10_layer_20 rfl (lv_at hl 0 rfl) ?_
        refine lv_iload_n C.1 C.2.1 dX10_layer_21 rfl (lv_at hl 1 rfl) ?_
        refine lv_iload_n C.1 C.2.1 dX10_layer_22 rfl (lv_at hl 2 rfl) ?_
        obtain ⟨x_1, μ_2, hq23, h⟩ := bnd2_some h
        refine z_callV1 C X zk10 (hI.1 101 (by decide)) rfl (As := [zI x1, zI x2]) (M_X10_isMany hI μ x1 x2 gx1 gx2 hq23) zc_X10_isMany kw_1383 (zroom (by decide) (by decide)) rfl hl.1 rfl (Nat.le_of_ble_eq_true rfl) dX10_layer_23 ⟨Nat.zero_le _, Nat.zero_le _⟩ (fun H locs g_23 X => ?_)
        refine z_ifeq C (rgz g_23) (tgt := 32) dX10_layer_26 (by decide) (fun hc26 => ?_) (fun hc26 => ?_)
        · rw [if_pos hc26] at h
          refine lv_aload_n C.1 C.2.1 dX10_layer_32 rfl (lv_at hl 0 rfl) ?_
          refine lv_iload_n C.1 C.2.1 dX10_layer_33 rfl (lv_at hl 1 rfl) ?_
          refine z_iconst C dX10_layer_34 ?_
          refine lv_iload_n C.1 C.2.1 dX10_layer_35 rfl (lv_at hl 3 rfl) ?_
          refine z_iconst C dX10_layer_36 ?_
          refine z_iadd C dX10_layer_37 ?_
          obtain ⟨x_3, μ_4, hq38, h⟩ := bnd2_some h
          refine z_callV1 C X zk10 (hI.1 101 (by decide)) rfl (As := [zI x1, zI 1, zI (zw (x3 + 1))]) (M_X10_seek hI μ_2 x1 1 (zw (x3 + 1)) gx1 ⟨by decide, by decide⟩ (Rg.w _) hq38) zc_X10_seek kw_1391 (zroom (by decide) (by decide)) rfl hl.1 rfl (Nat.le_of_ble_eq_true rfl) dX10_layer_38 ⟨Nat.zero_le _, Nat.zero_le _⟩ (fun H locs g_38 X => ?_)
          refine z_ifne C (rgz g_38) (tgt := 46) dX10_layer_41 (by decide) (fun hc41 => ?_) (fun hc41 => ?_)
          · rw [if_neg hc41] at h
            refine lv_aload_n C.1 C.2.1 dX10_layer_46 rfl (lv_at hl 0 rfl) ?_
            refine lv_iload_n C.1 C.2.1 dX10_layer_47 rfl (lv_at hl 1 rfl) ?_
            obtain ⟨μ_5, hq48, h⟩ := bnd_some h
            refine z_callV0 C X zk10 (hI.1 101 (by decide)) rfl (As := [zI x1]) (M_X10_layLayer hI μ_4 x1 gx1 hq48) zc_X10_layLayer kw_1435 (zroom (by decide) (by decide)) rfl hl.1 rfl (Nat.le_of_ble_eq_true rfl) dX10_layer_48 ⟨Nat.zero_le _, Nat.zero_le _⟩ (fun H locs g_48 X => ?_)
            refine lv_aload_n C.1 C.2.1 dX10_layer_51 rfl (lv_at hl 0 rfl) ?_
            refine z_iconst C dX10_layer_52 ?_
            refine zlet_elim h (fun μ_6 em h => ?_)
            refine z_putZ C X zk10 (hI.1 101 (by decide)) rfl 7 (by decide) kw_1039 rfl rfl rfl rfl ⟨by decide, by decide⟩ em dX10_layer_53 (fun H locs X => ?_)
            clear em
            refine lv_aload_n C.1 C.2.1 dX10_layer_56 rfl (lv_at hl 0 rfl) ?_
            refine lv_iload_n C.1 C.2.1 dX10_layer_57 rfl (lv_at hl 1 rfl) ?_
            refine zlet_elim h (fun μ_7 em h => ?_)
            refine z_putI C X zk10 (hI.1 101 (by decide)) rfl 37 (by decide) kw_1069 rfl rfl rfl rfl gx1 em dX10_layer_58 (fun H locs X => ?_)
            clear em
            refine lv_aload_n C.1 C.2.1 dX10_layer_61 rfl (lv_at hl 0 rfl) ?_
            refine lv_aload_n C.1 C.2.1 dX10_layer_62 rfl (lv_at hl 0 rfl) ?_
            have g_63 : Rg (μ_7 101 28) := zrgf0 (ci := 10) X.2.2.2 (hI.1 101 (by decide)) rfl 28 rfl
            refine z_get C X zk10 (hI.1 101 (by decide)) rfl 28 (by decide) kw_1060 (zI (μ_7 101 28)) rfl dX10_layer_63 ?_
            refine zlet_elim h (fun μ_8 em h => ?_)
            refine z_putI C X zk10 (hI.1 101 (by decide)) rfl 38 (by decide) kw_1070 rfl rfl rfl rfl g_63 em dX10_layer_66 (fun H locs X => ?_)
            clear em
            refine lv_aload_n C.1 C.2.1 dX10_layer_69 rfl (lv_at hl 0 rfl) ?_
            refine lv_aload_n C.1 C.2.1 dX10_layer_70 rfl (lv_at hl 0 rfl) ?_
            have g_71 : Rg (μ_8 101 29) := zrgf0 (ci := 10) X.2.2.2 (hI.1 101 (by decide)) rfl 29 rfl
            refine z_get C X zk10 (hI.1 101 (by decide)) rfl 29 (by decide) kw_1061 (zI (μ_8 101 29)) rfl dX10_layer_71 ?_
            refine zlet_elim h (fun μ_9 em h => ?_)
            refine z_putI C X zk10 (hI.1 101 (by decide)) rfl 39 (by decide) kw_1071 rfl rfl rfl rfl g_71 em dX10_layer_74 (fun H locs X => ?_)
            clear em
            refine z_iconst C dX10_layer_77 ?_
            refine lv_istore C.1 C.2.1 (lv' := [(4, zI 0), (0, zR Ω 101), (1, zI x1), (2, zI x2), (3, zI x3)]) dX10_layer_78 hl (by decide) rfl (fun ls hl => ?_)
            have K121 : ∀ (μ_10 : zMem) (H : Heap) (locs : List Loc) (ls : Array Slot), zX Ω μ_10 (zfree Ω) s.heap H locs → lv_has ls 6 [(0, zR Ω 101), (1, zI x1)] → (f_X10_layer_K121 x1) μ_10 = some (r, μ') → W p l e (zrm 45) s m args below meth c H locs 0 0 Q (F0 m 121 ls []) := by
              intro μ_10 H locs ls  X hl h
              unfold f_X10_layer_K121 at h
              refine z_iconst C dX10_layer_121 ?_
              refine lv_istore C.1 C.2.1 (lv' := [(4, zI 0), (0, zR Ω 101), (1, zI x1)]) dX10_layer_122 hl (by decide) rfl (fun ls hl => ?_)
              have K208 : ∀ (μ_11 : zMem) (H : Heap) (locs : List Loc) (ls : Array Slot), zX Ω μ_11 (zfree Ω) s.heap H locs → lv_has ls 6 [(0, zR Ω 101)] → f_X10_layer_K208 μ_11 = some (r, μ') → W p l e (zrm 45) s m args below meth c H locs 0 0 Q (F0 m 208 ls []) := by
                intro μ_11 H locs ls  X hl h
                unfold f_X10_layer_K208 at h
                refine lv_aload_n C.1 C.2.1 dX10_layer_208 rfl (lv_at hl 0 rfl) ?_
                refine z_iconst C dX10_layer_209 ?_
                obtain ⟨μ_12, hq210, h⟩ := bnd_some h
                refine z_callV0 C X zk10 (hI.1 101 (by decide)) rfl (As := [zI 2]) (M_X10_layTree hI μ_11 2 ⟨by decide, by decide⟩ hq210) zc_X10_layTree kw_1309 (zroom (by decide) (by decide)) rfl hl.1 rfl (Nat.le_of_ble_eq_true rfl) dX10_layer_210 ⟨Nat.zero_le _, Nat.zero_le _⟩ (fun H locs g_210 X => ?_)
                refine lv_aload_n C.1 C.2.1 dX10_layer_213 rfl (lv_at hl 0 rfl) ?_
                have g_214 : Rg (μ_12 101 20) := zrgf0 (ci := 10) X.2.2.2 (hI.1 101 (by decide)) rfl 20 rfl
                refine z_get C X zk10 (hI.1 101 (by decide)) rfl 20 (by decide) kw_1052 (zI (μ_12 101 20)) rfl dX10_layer_214 ?_
                obtain ⟨rfl, rfl⟩ := Prod.mk.inj (Option.some.inj h)
                exact rt X g_214 dX10_layer_217
              have L124 : ∀ (n124 : Nat) (x_13 : Int) (μ_14 : zMem) (H : Heap) (locs : List Loc) (ls : Array Slot), Rg x_13 → zX Ω μ_14 (zfree Ω) s.heap H locs → lv_has ls 6 [(0, zR Ω 101), (1, zI x1), (4, zI x_13)] → (f_X10_layer_L124 x1 f_X10_layer_K208 n124 x_13 μ_14) = some (r, μ') → W p l e (zrm 45) s m args below meth c H locs 0 0 Q (F0 m 124 ls []) := by
                intro n124
                induction n124 with
                | zero =>
                  intro x_13 μ_14 H locs ls _ _ _ h
                  cases h
                | succ n124 ih124 =>
                  intro x_13 μ_14 H locs ls gx_13 X hl h
                  unfold f_X10_layer_L124 at h
                  refine lv_iload C.1 C.2.1 dX10_layer_124 (lv_at hl 2 rfl) ?_
                  refine z_bipush C dX10_layer_126 (by decide) ?_
                  refine z_icmpge C gx_13 ⟨by decide, by decide⟩ (tgt := 208) dX10_layer_128 (by decide) (fun hc128 => ?_) (fun hc128 => ?_)
                  · rw [if_neg hc128] at h
                    exact K208 μ_14 _ _ _ X (lv_sub hl [0] rfl) h
                  · rw [if_pos hc128] at h
                    refine lv_iload C.1 C.2.1 dX10_layer_131 (lv_at hl 2 rfl) ?_
                    refine lv_aload_n C.1 C.2.1 dX10_layer_133 rfl (lv_at hl 0 rfl) ?_
                    refine z_get C X zk10 (hI.1 101 (by decide)) rfl 1 (by decide) kw_1033 (zR Ω 103) (zfvF (off := 2) X.2.2.2 (hI.1 101 (by decide)) hI.2 rfl rfl (by decide)) dX10_layer_134 ?_
                    refine lv_iload_n C.1 C.2.1 dX10_layer_137 rfl (lv_at hl 1 rfl) ?_
                    obtain ⟨hc138, h⟩ := chk_some h
                    have g_138 : Rg (μ_14 103 x1) := zrg1 X.2.2.2 (hI.1 103 (by decide)) rfl
                    refine z_iald C X (hI.1 103 (by decide)) rfl hc138 dX10_layer_138 ?_
                    have K167 : ∀ (x_15 : Int) (μ_16 : zMem) (H : Heap) (locs : List Loc) (ls : Array Slot), Rg x_15 → zX Ω μ_16 (zfree Ω) s.heap H locs → lv_has ls 6 [(0, zR Ω 101), (1, zI x1), (4, zI x_13)] → (f_X10_layer_J167 x_13 (f_X10_layer_L124 x1 f_X10_layer_K208 n124)) x_15 μ_16 = some (r, μ') → W p l e (zrm 45) s m args below meth c H locs 0 0 Q (F0 m 167 ls [zI x_15]) := by
                      intro x_15 μ_16 H locs ls gx_15 X hl h
                      unfold f_X10_layer_J167 at h
                      refine lv_istore C.1 C.2.1 (lv' := [(5, zI x_15), (0, zR Ω 101), (1, zI x1), (4, zI x_13)]) dX10_layer_167 hl (by decide) rfl (fun ls hl => ?_)
                      refine lv_aload_n C.1 C.2.1 dX10_layer_169 rfl (lv_at hl 1 rfl) ?_
                      refine z_get C X zk10 (hI.1 101 (by decide)) rfl 43 (by decide) kw_1075 (zR Ω 145) (zfvF (off := 44) X.2.2.2 (hI.1 101 (by decide)) hI.2 rfl rfl (by decide)) dX10_layer_170 ?_
                      refine lv_iload C.1 C.2.1 dX10_layer_173 (lv_at hl 3 rfl) ?_
                      refine lv_iload C.1 C.2.1 dX10_layer_175 (lv_at hl 0 rfl) ?_
                      obtain ⟨hc177, h⟩ := chk_some h
                      refine zlet_elim h (fun μ_17 em h => ?_)
                      refine z_zast C X (hI.1 145 (by decide)) rfl hc177 (zok3 rfl) em dX10_layer_177 (fun H locs X => ?_)
                      clear em
                      refine lv_aload_n C.1 C.2.1 dX10_layer_178 rfl (lv_at hl 1 rfl) ?_
                      refine z_get C X zk10 (hI.1 101 (by decide)) rfl 42 (by decide) kw_1074 (zR Ω 144) (zfvF (off := 43) X.2.2.2 (hI.1 101 (by decide)) hI.2 rfl rfl (by decide)) dX10_layer_179 ?_
                      refine lv_iload C.1 C.2.1 dX10_layer_182 (lv_at hl 3 rfl) ?_
                      refine lv_iload C.1 C.2.1 dX10_layer_184 (lv_at hl 0 rfl) ?_
                      have K201 : ∀ (x_18 : Int) (μ_19 : zMem) (H : Heap) (locs : List Loc) (ls : Array Slot), Rg x_18 → zX Ω μ_19 (zfree Ω) s.heap H locs → lv_has ls 6 [(0, zR Ω 101), (1, zI x1), (4, zI x_13)] → (f_X10_layer_J201 x_13 (f_X10_layer_L124 x1 f_X10_layer_K208 n124)) x_18 μ_19 = some (r, μ') → W p l e (zrm 45) s m args below meth c H locs 0 0 Q (F0 m 201 ls [zI x_18, zI x_13, zR Ω 144]) := by
                        intro x_18 μ_19 H locs ls gx_18 X hl h
                        unfold f_X10_layer_J201 at h
                        obtain ⟨hc201, h⟩ := chk_some h
                        refine zlet_elim h (fun μ_20 em h => ?_)
                        refine z_iast C X (hI.1 144 (by decide)) rfl hc201 (zok1 rfl gx_18) em dX10_layer_201 (fun H locs X => ?_)
                        clear em
                        refine zlet_elim h (fun x_21 ex_21 h => ?_)
                        have gx_21 : Rg x_21 := by rw [ex_21]; exact Rg.w _
                        refine z_iinc C ex_21 dX10_layer_202 hl (k := 2) rfl (by decide) (lv' := [(4, zI x_21), (0, zR Ω 101), (1, zI x1)]) rfl (fun ls hl => ?_)
                        clear ex_21
                        refine lv_goto (tgt := 124) C.1 C.2.1 dX10_layer_205 (by decide) ?_
                        exact ih124 x_21 μ_20 _ _ _ gx_21 X (lv_sub hl [1, 2, 0] rfl) h
                      refine z_ifeq C gx_15 (tgt := 199) dX10_layer_186 (by decide) (fun hc186 => ?_) (fun hc186 => ?_)
                      · rw [if_pos hc186] at h
                        refine z_bipush C dX10_layer_199 (by decide) ?_
                        exact K201 (-4) μ_17 _ _ _ ⟨by decide, by decide⟩ X (lv_sub hl [1, 2, 3] rfl) h
                      · rw [if_neg hc186] at h
                        refine lv_aload_n C.1 C.2.1 dX10_layer_189 rfl (lv_at hl 1 rfl) ?_
                        refine z_get C X zk10 (hI.1 101 (by decide)) rfl 21 (by decide) kw_1053 (zR Ω 123) (zfvF (off := 22) X.2.2.2 (hI.1 101 (by decide)) hI.2 rfl rfl (by decide)) dX10_layer_190 ?_
                        refine lv_iload C.1 C.2.1 dX10_layer_193 (lv_at hl 3 rfl) ?_
                        obtain ⟨hc195, h⟩ := chk_some h
                        have g_195 : Rg (μ_17 123 x_13) := zrg1 X.2.2.2 (hI.1 123 (by decide)) rfl
                        refine z_iald C X (hI.1 123 (by decide)) rfl hc195 dX10_layer_195 ?_
                        refine lv_goto (tgt := 201) C.1 C.2.1 dX10_layer_196 (by decide) ?_
                        exact K201 (μ_17 123 x_13) μ_17 _ _ _ g_195 X (lv_sub hl [1, 2, 3] rfl) h
                    have K166 : ∀ (μ_22 : zMem) (H : Heap) (locs : List Loc) (ls : Array Slot), zX Ω μ_22 (zfree Ω) s.heap H locs → lv_has ls 6 [(0, zR Ω 101), (1, zI x1), (4, zI x_13)] → (f_X10_layer_J166 (f_X10_layer_J167 x_13 (f_X10_layer_L124 x1 f_X10_layer_K208 n124))) μ_22 = some (r, μ') → W p l e (zrm 45) s m args below meth c H locs 0 0 Q (F0 m 166 ls []) := by
                      intro μ_22 H locs ls  X hl h
                      unfold f_X10_layer_J166 at h
                      refine z_iconst C dX10_layer_166 ?_
                      exact K167 0 μ_22 _ _ _ ⟨by decide, by decide⟩ X (lv_sub hl [0, 1, 2] rfl) h
                    refine z_icmpge C gx_13 g_138 (tgt := 166) dX10_layer_139 (by decide) (fun hc139 => ?_) (fun hc139 => ?_)
                    · rw [if_neg hc139] at h
                      exact K166 μ_14 _ _ _ X (lv_sub hl [0, 1, 2] rfl) h
                    · rw [if_pos hc139] at h
                      refine lv_aload_n C.1 C.2.1 dX10_layer_142 rfl (lv_at hl 0 rfl) ?_
                      refine z_get C X zk10 (hI.1 101 (by decide)) rfl 18 (by decide) kw_1050 (zR Ω 120) (zfvF (off := 19) X.2.2.2 (hI.1 101 (by decide)) hI.2 rfl rfl (by decide)) dX10_layer_143 ?_
                      refine lv_aload_n C.1 C.2.1 dX10_layer_146 rfl (lv_at hl 0 rfl) ?_
                      refine z_get C X zk10 (hI.1 101 (by decide)) rfl 3 (by decide) kw_1035 (zR Ω 105) (zfvF (off := 4) X.2.2.2 (hI.1 101 (by decide)) hI.2 rfl rfl (by decide)) dX10_layer_147 ?_
                      refine z_bipush C dX10_layer_150 (by decide) ?_
                      refine lv_iload_n C.1 C.2.1 dX10_layer_152 rfl (lv_at hl 1 rfl) ?_
                      refine z_imul C dX10_layer_153 ?_
                      refine lv_iload C.1 C.2.1 dX10_layer_154 (lv_at hl 2 rfl) ?_
                      refine z_iadd C dX10_layer_156 ?_
                      obtain ⟨hc157, h⟩ := chk_some h
                      have g_157 : Rg (μ_14 105 (zw ((zw (48 * x1)) + x_13))) := zrg1 X.2.2.2 (hI.1 105 (by decide)) rfl
                      refine z_iald C X (hI.1 105 (by decide)) rfl hc157 dX10_layer_157 ?_
                      obtain ⟨hc158, h⟩ := chk_some h
                      have g_158 : 0 ≤ (μ_14 120 (μ_14 105 (zw ((zw (48 * x1)) + x_13)))) ∧ (μ_14 120 (μ_14 105 (zw ((zw (48 * x1)) + x_13)))) ≤ 1 := zrg3 X.2.2.2 (hI.1 120 (by decide)) rfl
                      refine z_zald C X (hI.1 120 (by decide)) rfl hc158 dX10_layer_158 ?_
                      refine z_ifeq C (rgz g_158) (tgt := 166) dX10_layer_159 (by decide) (fun hc159 => ?_) (fun hc159 => ?_)
                      · rw [if_pos hc159] at h
                        exact K166 μ_14 _ _ _ X (lv_sub hl [0, 1, 2] rfl) h
                      · rw [if_neg hc159] at h
                        refine z_iconst C dX10_layer_162 ?_
                        refine lv_goto (tgt := 167) C.1 C.2.1 dX10_layer_163 (by decide) ?_
                        exact K167 1 μ_14 _ _ _ ⟨by decide, by decide⟩ X (lv_sub hl [0, 1, 2] rfl) h
              exact L124 zfu 0 μ_10 _ _ _ ⟨by decide, by decide⟩ X (lv_sub hl [1, 2, 0] rfl) h
            have L80 : ∀ (n80 : Nat) (x_23 : Int) (μ_24 : zMem) (H : Heap) (locs : List Loc) (ls : Array Slot), Rg x_23 → zX Ω μ_24 (zfree Ω) s.heap H locs → lv_has ls 6 [(0, zR Ω 101), (1, zI x1), (4, zI x_23)] → (f_X10_layer_L80 (f_X10_layer_K121 x1) n80 x_23 μ_24) = some (r, μ') → W p l e (zrm 45) s m args below meth c H locs 0 0 Q (F0 m 80 ls []) := by
              intro n80
              induction n80 with
              | zero =>
                intro x_23 μ_24 H locs ls _ _ _ h
                cases h
              | succ n80 ih80 =>
                intro x_23 μ_24 H locs ls gx_23 X hl h
                unfold f_X10_layer_L80 at h
                refine lv_iload C.1 C.2.1 dX10_layer_80 (lv_at hl 2 rfl) ?_
                refine z_bipush C dX10_layer_82 (by decide) ?_
                refine z_icmpge C gx_23 ⟨by decide, by decide⟩ (tgt := 121) dX10_layer_84 (by decide) (fun hc84 => ?_) (fun hc84 => ?_)
                · rw [if_neg hc84] at h
                  exact K121 μ_24 _ _ _ X (lv_sub hl [0, 1] rfl) h
                · rw [if_pos hc84] at h
                  refine lv_aload_n C.1 C.2.1 dX10_layer_87 rfl (lv_at hl 0 rfl) ?_
                  refine z_get C X zk10 (hI.1 101 (by decide)) rfl 40 (by decide) kw_1072 (zR Ω 142) (zfvF (off := 41) X.2.2.2 (hI.1 101 (by decide)) hI.2 rfl rfl (by decide)) dX10_layer_88 ?_
                  refine lv_iload C.1 C.2.1 dX10_layer_91 (lv_at hl 2 rfl) ?_
                  refine lv_aload_n C.1 C.2.1 dX10_layer_93 rfl (lv_at hl 0 rfl) ?_
                  refine z_get C X zk10 (hI.1 101 (by decide)) rfl 26 (by decide) kw_1058 (zR Ω 128) (zfvF (off := 27) X.2.2.2 (hI.1 101 (by decide)) hI.2 rfl rfl (by decide)) dX10_layer_94 ?_
                  refine lv_iload C.1 C.2.1 dX10_layer_97 (lv_at hl 2 rfl) ?_
                  obtain ⟨hc99, h⟩ := chk_some h
                  have g_99 : Rg (μ_24 128 x_23) := zrg1 X.2.2.2 (hI.1 128 (by decide)) rfl
                  refine z_iald C X (hI.1 128 (by decide)) rfl hc99 dX10_layer_99 ?_
                  obtain ⟨hc100, h⟩ := chk_some h
                  refine zlet_elim h (fun μ_25 em h => ?_)
                  refine z_iast C X (hI.1 142 (by decide)) rfl hc100 (zok1 rfl g_99) em dX10_layer_100 (fun H locs X => ?_)
                  clear em
                  refine lv_aload_n C.1 C.2.1 dX10_layer_101 rfl (lv_at hl 0 rfl) ?_
                  refine z_get C X zk10 (hI.1 101 (by decide)) rfl 41 (by decide) kw_1073 (zR Ω 143) (zfvF (off := 42) X.2.2.2 (hI.1 101 (by decide)) hI.2 rfl rfl (by decide)) dX10_layer_102 ?_
                  refine lv_iload C.1 C.2.1 dX10_layer_105 (lv_at hl 2 rfl) ?_
                  refine lv_aload_n C.1 C.2.1 dX10_layer_107 rfl (lv_at hl 0 rfl) ?_
                  refine z_get C X zk10 (hI.1 101 (by decide)) rfl 27 (by decide) kw_1059 (zR Ω 129) (zfvF (off := 28) X.2.2.2 (hI.1 101 (by decide)) hI.2 rfl rfl (by decide)) dX10_layer_108 ?_
                  refine lv_iload C.1 C.2.1 dX10_layer_111 (lv_at hl 2 rfl) ?_
                  obtain ⟨hc113, h⟩ := chk_some h
                  have g_113 : Rg (μ_25 129 x_23) := zrg1 X.2.2.2 (hI.1 129 (by decide)) rfl
                  refine z_iald C X (hI.1 129 (by decide)) rfl hc113 dX10_layer_113 ?_
                  obtain ⟨hc114, h⟩ := chk_some h
                  refine zlet_elim h (fun μ_26 em h => ?_)
                  refine z_iast C X (hI.1 143 (by decide)) rfl hc114 (zok1 rfl g_113) em dX10_layer_114 (fun H locs X => ?_)
                  clear em
                  refine zlet_elim h (fun x_27 ex_27 h => ?_)
                  have gx_27 : Rg x_27 := by rw [ex_27]; exact Rg.w _
                  refine z_iinc C ex_27 dX10_layer_115 hl (k := 2) rfl (by decide) (lv' := [(4, zI x_27), (0, zR Ω 101), (1, zI x1)]) rfl (fun ls hl => ?_)
                  clear ex_27
                  refine lv_goto (tgt := 80) C.1 C.2.1 dX10_layer_118 (by decide) ?_
                  exact ih80 x_27 μ_26 _ _ _ gx_27 X (lv_sub hl [1, 2, 0] rfl) h
            exact L80 zfu 0 μ_9 _ _ _ ⟨by decide, by decide⟩ X (lv_sub hl [1, 2, 0] rfl) h
          · rw [if_pos hc41] at h
            refine z_iconst C dX10_layer_44 ?_
            obtain ⟨rfl, rfl⟩ := Prod.mk.inj (Option.some.inj h)
            exact rt X ⟨by decide, by decide⟩ dX10_layer_45
        · rw [if_neg hc26] at h
          refine z_bipush C dX10_layer_29 (by decide) ?_
          obtain ⟨rfl, rfl⟩ := Prod.mk.inj (Option.some.inj h)
          exact rt X ⟨by decide, by decide⟩ dX10_layer_31
      · rw [if_pos hc15] at h
        refine z_iconst C dX10_layer_18 ?_
        obtain ⟨rfl, rfl⟩ := Prod.mk.inj (Option.some.inj h)
        exact rt X ⟨by decide, by decide⟩ dX10_layer_19
theorem zc_X10_layer : zcal yX10_layer cX10_layer 6 (some Jvm.ClassFile.FieldType.int) RX10 3 := ⟨⟨kw_1434, kw_1432, kw_1433, kw_12⟩, rfl, by decide, by decide, by decide +kernel⟩

def f_X10_storeys (x1 : Int) (μ : zMem) : Int :=
  if (f_X10_isAny x1 μ) = 0 then
    (-1)
  else
    if x1 < 2 then
      (-12)
    else
      (μ 101 38)
set_option maxHeartbeats 4000000 in
set_option maxRecDepth 100000 in
theorem M_X10_storeys {l : Launch} {Ω : zO} (hI : zIm Ω) (μ : zMem) (x1 : Int) (gx1 : Rg x1) : XMet l yX10_storeys cX10_storeys 2 (some Jvm.ClassFile.FieldType.int) 3 Ω [zR Ω 101, zI x1] μ (some (zI (f_X10_storeys x1 μ))) (Rg (f_X10_storeys x1 μ)) μ := by
  obtain ⟨r, h⟩ : ∃ r, f_X10_storeys x1 μ = r := ⟨_, rfl⟩
  rw [h]
  refine XMet.ofI (by decide) (Nat.le_of_ble_eq_true rfl) ?_
  intro p e s m args below meth c ls Q C rt X hl
  have C : zC p s m args c cX10_storeys RX10 2 Ω := C
  have hl : lv_has ls 2 [(0, zR Ω 101), (1, zI x1)] := hl
  unfold f_X10_storeys at h
  skip
  refine lv_aload_n C.1 C.2.1 dX10_storeys_0 rfl (lv_at hl 0 rfl) ?_
  refine lv_iload_n C.1 C.2.1 dX10_storeys_1 rfl (lv_at hl 1 rfl) ?_
  refine z_callV1 C X zk10 (hI.1 101 (by decide)) rfl (As := [zI x1]) (M_X10_isAny hI μ x1 gx1) zc_X10_isAny kw_1305 (zroom (by decide) (by decide)) rfl hl.1 rfl (Nat.le_of_ble_eq_true rfl) dX10_storeys_2 ⟨Nat.zero_le _, Nat.zero_le _⟩ (fun H locs g_2 X => ?_)
  refine z_ifne C (rgz g_2) (tgt := 12) dX10_storeys_5 (by decide) (fun hc5 => ?_) (fun hc5 => ?_)
  · rw [if_neg hc5] at h
    refine lv_iload_n C.1 C.2.1 dX10_storeys_12 rfl (lv_at hl 1 rfl) ?_
    refine z_iconst C dX10_storeys_13 ?_
    refine z_icmpge C gx1 ⟨by decide, by decide⟩ (tgt := 22) dX10_storeys_14 (by decide) (fun hc14 => ?_) (fun hc14 => ?_)
    · rw [if_neg hc14] at h
      refine lv_aload_n C.1 C.2.1 dX10_storeys_22 rfl (lv_at hl 0 rfl) ?_
      have g_23 : Rg (μ 101 38) := zrgf0 (ci := 10) X.2.2.2 (hI.1 101 (by decide)) rfl 38 rfl
      refine z_get C X zk10 (hI.1 101 (by decide)) rfl 38 (by decide) kw_1070 (zI (μ 101 38)) rfl dX10_storeys_23 ?_
      subst h
      exact rt X g_23 dX10_storeys_26
    · rw [if_pos hc14] at h
      refine z_bipush C dX10_storeys_17 (by decide) ?_
      refine lv_goto (tgt := 26) C.1 C.2.1 dX10_storeys_19 (by decide) ?_
      subst h
      exact rt X ⟨by decide, by decide⟩ dX10_storeys_26
  · rw [if_pos hc5] at h
    refine z_iconst C dX10_storeys_8 ?_
    refine lv_goto (tgt := 26) C.1 C.2.1 dX10_storeys_9 (by decide) ?_
    subst h
    exact rt X ⟨by decide, by decide⟩ dX10_storeys_26
theorem zc_X10_storeys : zcal yX10_storeys cX10_storeys 2 (some Jvm.ClassFile.FieldType.int) RX10 1 := ⟨⟨kw_1446, kw_1444, kw_1445, kw_12⟩, rfl, by decide, by decide, by decide +kernel⟩

def f_X10_moves (x1 : Int) (x2 : Int) (μ : zMem) : Option Int :=
  if (μ 101 7) = 0 then
    some (-4)
  else
    if (f_X10_in x1 0 (zw ((μ 101 39) - 1))) = 0 then
      some (-1)
    else
      if (f_X10_in x2 0 (zw ((μ 101 38) - 1))) = 0 then
        some (-1)
      else
        chk ((0 : Int) ≤ (zw ((zw (4 * x1)) + x2)) ∧ (zw ((zw (4 * x1)) + x2)) < 64) <|
        some (μ 142 (zw ((zw (4 * x1)) + x2)))
set_option maxHeartbeats 4000000 in
set_option maxRecDepth 100000 in
theorem M_X10_moves {l : Launch} {Ω : zO} (hI : zIm Ω) (μ : zMem) (x1 : Int) (x2 : Int) {r : Int} (gx1 : Rg x1) (gx2 : Rg x2) (h : f_X10_moves x1 x2 μ = some r) : XMet l yX10_moves cX10_moves 3 (some Jvm.ClassFile.FieldType.int) 1 Ω [zR Ω 101, zI x1, zI x2] μ (some (zI r)) (Rg r) μ := by
  refine XMet.ofI (by decide) (Nat.le_of_ble_eq_true rfl) ?_
  intro p e s m args below meth c ls Q C rt X hl
  have C : zC p s m args c cX10_moves RX10 3 Ω := C
  have hl : lv_has ls 3 [(0, zR Ω 101), (1, zI x1), (2, zI x2)] := hl
  unfold f_X10_moves at h
  skip
  refine lv_aload_n C.1 C.2.1 dX10_moves_0 rfl (lv_at hl 0 rfl) ?_
  have g_1 : 0 ≤ (μ 101 7) ∧ (μ 101 7) ≤ 1 := zrgf2 (ci := 10) X.2.2.2 (hI.1 101 (by decide)) rfl 7 rfl
  refine z_get C X zk10 (hI.1 101 (by decide)) rfl 7 (by decide) kw_1039 (zI (μ 101 7)) rfl dX10_moves_1 ?_
  refine z_ifne C (rgz g_1) (tgt := 10) dX10_moves_4 (by decide) (fun hc4 => ?_) (fun hc4 => ?_)
  · rw [if_neg hc4] at h
    refine lv_iload_n C.1 C.2.1 dX10_moves_10 rfl (lv_at hl 1 rfl) ?_
    refine z_iconst C dX10_moves_11 ?_
    refine lv_aload_n C.1 C.2.1 dX10_moves_12 rfl (lv_at hl 0 rfl) ?_
    have g_13 : Rg (μ 101 39) := zrgf0 (ci := 10) X.2.2.2 (hI.1 101 (by decide)) rfl 39 rfl
    refine z_get C X zk10 (hI.1 101 (by decide)) rfl 39 (by decide) kw_1071 (zI (μ 101 39)) rfl dX10_moves_13 ?_
    refine z_iconst C dX10_moves_16 ?_
    refine z_isub C dX10_moves_17 ?_
    refine z_callS1 C X (As := [zI x1, zI 0, zI (zw ((μ 101 39) - 1))]) (M_X10_in hI μ x1 0 (zw ((μ 101 39) - 1)) gx1 ⟨by decide, by decide⟩ (Rg.w _)) zc_X10_in kw_1217 (zroom (by decide) (by decide)) rfl hl.1 rfl (Nat.le_of_ble_eq_true rfl) dX10_moves_18 ⟨Nat.zero_le _, Nat.zero_le _⟩ (fun H locs g_18 X => ?_)
    refine z_ifeq C (rgz g_18) (tgt := 51) dX10_moves_21 (by decide) (fun hc21 => ?_) (fun hc21 => ?_)
    · rw [if_pos hc21] at h
      refine z_iconst C dX10_moves_51 ?_
      obtain rfl := Option.some.inj h
      exact rt X ⟨by decide, by decide⟩ dX10_moves_52
    · rw [if_neg hc21] at h
      refine lv_iload_n C.1 C.2.1 dX10_moves_24 rfl (lv_at hl 2 rfl) ?_
      refine z_iconst C dX10_moves_25 ?_
      refine lv_aload_n C.1 C.2.1 dX10_moves_26 rfl (lv_at hl 0 rfl) ?_
      have g_27 : Rg (μ 101 38) := zrgf0 (ci := 10) X.2.2.2 (hI.1 101 (by decide)) rfl 38 rfl
      refine z_get C X zk10 (hI.1 101 (by decide)) rfl 38 (by decide) kw_1070 (zI (μ 101 38)) rfl dX10_moves_27 ?_
      refine z_iconst C dX10_moves_30 ?_
      refine z_isub C dX10_moves_31 ?_
      refine z_callS1 C X (As := [zI x2, zI 0, zI (zw ((μ 101 38) - 1))]) (M_X10_in hI μ x2 0 (zw ((μ 101 38) - 1)) gx2 ⟨by decide, by decide⟩ (Rg.w _)) zc_X10_in kw_1217 (zroom (by decide) (by decide)) rfl hl.1 rfl (Nat.le_of_ble_eq_true rfl) dX10_moves_32 ⟨Nat.zero_le _, Nat.zero_le _⟩ (fun H locs g_32 X => ?_)
      refine z_ifeq C (rgz g_32) (tgt := 51) dX10_moves_35 (by decide) (fun hc35 => ?_) (fun hc35 => ?_)
      · rw [if_pos hc35] at h
        refine z_iconst C dX10_moves_51 ?_
        obtain rfl := Option.some.inj h
        exact rt X ⟨by decide, by decide⟩ dX10_moves_52
      · rw [if_neg hc35] at h
        refine lv_aload_n C.1 C.2.1 dX10_moves_38 rfl (lv_at hl 0 rfl) ?_
        refine z_get C X zk10 (hI.1 101 (by decide)) rfl 40 (by decide) kw_1072 (zR Ω 142) (zfvF (off := 41) X.2.2.2 (hI.1 101 (by decide)) hI.2 rfl rfl (by decide)) dX10_moves_39 ?_
        refine z_iconst C dX10_moves_42 ?_
        refine lv_iload_n C.1 C.2.1 dX10_moves_43 rfl (lv_at hl 1 rfl) ?_
        refine z_imul C dX10_moves_44 ?_
        refine lv_iload_n C.1 C.2.1 dX10_moves_45 rfl (lv_at hl 2 rfl) ?_
        refine z_iadd C dX10_moves_46 ?_
        obtain ⟨hc47, h⟩ := chk_some h
        have g_47 : Rg (μ 142 (zw ((zw (4 * x1)) + x2))) := zrg1 X.2.2.2 (hI.1 142 (by decide)) rfl
        refine z_iald C X (hI.1 142 (by decide)) rfl hc47 dX10_moves_47 ?_
        refine lv_goto (tgt := 52) C.1 C.2.1 dX10_moves_48 (by decide) ?_
        obtain rfl := Option.some.inj h
        exact rt X g_47 dX10_moves_52
  · rw [if_pos hc4] at h
    refine z_bipush C dX10_moves_7 (by decide) ?_
    obtain rfl := Option.some.inj h
    exact rt X ⟨by decide, by decide⟩ dX10_moves_9
theorem zc_X10_moves : zcal yX10_moves cX10_moves 3 (some Jvm.ClassFile.FieldType.int) RX10 2 := ⟨⟨kw_1450, kw_1448, kw_1449, kw_12⟩, rfl, by decide, by decide, by decide +kernel⟩

def f_X10_isSlot (x0 : Int) : Int :=
  (f_X10_in x0 0 3)
set_option maxHeartbeats 4000000 in
set_option maxRecDepth 100000 in
theorem M_X10_isSlot {l : Launch} {Ω : zO} (hI : zIm Ω) (μ : zMem) (x0 : Int) (gx0 : Rg x0) : XMet l yX10_isSlot cX10_isSlot 1 (some Jvm.ClassFile.FieldType.boolean) 1 Ω [zI x0] μ (some (zI (f_X10_isSlot x0))) (0 ≤ (f_X10_isSlot x0) ∧ (f_X10_isSlot x0) ≤ 1) μ := by
  obtain ⟨r, h⟩ : ∃ r, f_X10_isSlot x0 = r := ⟨_, rfl⟩
  rw [h]
  refine XMet.ofZ (by decide) (Nat.le_of_ble_eq_true rfl) ?_
  intro p e s m args below meth c ls Q C rt X hl
  have C : zC p s m args c cX10_isSlot RX10 1 Ω := C
  have hl : lv_has ls 1 [(0, zI x0)] := hl
  unfold f_X10_isSlot at h
  skip
  refine lv_iload_n C.1 C.2.1 dX10_isSlot_0 rfl (lv_at hl 0 rfl) ?_
  refine z_iconst C dX10_isSlot_1 ?_
  refine z_iconst C dX10_isSlot_2 ?_
  refine z_callS1 C X (As := [zI x0, zI 0, zI 3]) (M_X10_in hI μ x0 0 3 gx0 ⟨by decide, by decide⟩ ⟨by decide, by decide⟩) zc_X10_in kw_1217 (zroom (by decide) (by decide)) rfl hl.1 rfl (Nat.le_of_ble_eq_true rfl) dX10_isSlot_3 ⟨Nat.zero_le _, Nat.zero_le _⟩ (fun H locs g_3 X => ?_)
  subst h
  exact rt X g_3 dX10_isSlot_6
theorem zc_X10_isSlot : zcas yX10_isSlot cX10_isSlot 1 (some Jvm.ClassFile.FieldType.boolean) 1 := ⟨⟨kw_1457, kw_1456, kw_12⟩, by decide, by decide, by decide +kernel⟩

def f_X10_lift_J168 (x_2 : Int) (g63 : Int → Int → Option Int) (x_6 : Int) : Option Int :=
  zlet (zw (x_2 + 1)) fun x_7 =>
  g63 x_6 x_7
def f_X10_lift_J105 (μ : zMem) (x_1 : Int) (x_2 : Int) (x_3 : Int) (g63 : Int → Int → Option Int) (x_4 : Int) : Option Int :=
  chk ((0 : Int) ≤ x_4 ∧ x_4 < 12) <|
  if (μ 145 x_4) = 0 then
    some (-2)
  else
    chk ((0 : Int) ≤ x_4 ∧ x_4 < 12) <|
    zlet ((μ 144 x_4)) fun x_5 =>
    if x_5 < 0 then
      (f_X10_lift_J168 x_2 g63) x_1
    else
      if x_3 ≤ 0 then
        chk ((0 : Int) ≤ (zw ((zw (4 * x_5)) + x_1)) ∧ (zw ((zw (4 * x_5)) + x_1)) < 64) <|
        (f_X10_lift_J168 x_2 g63) (μ 143 (zw ((zw (4 * x_5)) + x_1)))
      else
        chk ((0 : Int) ≤ (zw ((zw (4 * x_5)) + x_1)) ∧ (zw ((zw (4 * x_5)) + x_1)) < 64) <|
        (f_X10_lift_J168 x_2 g63) (μ 142 (zw ((zw (4 * x_5)) + x_1)))
def f_X10_lift_L63 (x1 : Int) (μ : zMem) : Nat → Int → Int → Option Int
  | 0, _, _ => none
  | n + 1, x_1, x_2 =>
    chk ((0 : Int) ≤ x1 ∧ x1 < 4) <|
    if x_2 < (μ 149 x1) then
      chk ((0 : Int) ≤ (zw ((zw (16 * x1)) + x_2)) ∧ (zw ((zw (16 * x1)) + x_2)) < 64) <|
      zlet ((μ 152 (zw ((zw (16 * x1)) + x_2)))) fun x_3 =>
      (f_X10_lift_J105 μ x_1 x_2 x_3 (f_X10_lift_L63 x1 μ n)) (if x_3 ≤ 0 then (zw ((zw (-x_3)) - 1)) else (zw (x_3 - 1)))
    else
      some x_1
def f_X10_lift (x1 : Int) (x2 : Int) (μ : zMem) : Option Int :=
  if (μ 101 7) = 0 then
    some (-4)
  else
    if (f_X10_isSlot x1) = 0 then
      some (-1)
    else
      if (f_X10_in x2 0 (zw ((μ 101 38) - 1))) = 0 then
        some (-1)
      else
        chk ((0 : Int) ≤ x1 ∧ x1 < 4) <|
        if (μ 148 x1) = (μ 101 37) then
          chk ((0 : Int) ≤ x1 ∧ x1 < 4) <|
          if (μ 150 x1) = 0 then
            (f_X10_lift_L63 x1 μ) zfu x2 0
          else
            some (-2)
        else
          some (-2)
set_option maxHeartbeats 4000000 in
set_option maxRecDepth 100000 in
theorem M_X10_lift {l : Launch} {Ω : zO} (hI : zIm Ω) (μ : zMem) (x1 : Int) (x2 : Int) {r : Int} (gx1 : Rg x1) (gx2 : Rg x2) (h : f_X10_lift x1 x2 μ = some r) : XMet l yX10_lift cX10_lift 8 (some Jvm.ClassFile.FieldType.int) 2 Ω [zR Ω 101, zI x1, zI x2] μ (some (zI r)) (Rg r) μ := by
  refine XMet.ofI (by decide) (Nat.le_of_ble_eq_true rfl) ?_
  intro p e s m args below meth c ls Q C rt X hl
  have C : zC p s m args c cX10_lift RX10 8 Ω := C
  have hl : lv_has ls 8 [(0, zR Ω 101), (1, zI x1), (2, zI x2)] := hl
  unfold f_X10_lift at h
  skip
  refine lv_aload_n C.1 C.2.1 dX10_lift_0 rfl (lv_at hl 0 rfl) ?_
  have g_1 : 0 ≤ (μ 101 7) ∧ (μ 101 7) ≤ 1 := zrgf2 (ci := 10) X.2.2.2 (hI.1 101 (by decide)) rfl 7 rfl
  refine z_get C X zk10 (hI.1 101 (by decide)) rfl 7 (by decide) kw_1039 (zI (μ 101 7)) rfl dX10_lift_1 ?_
  refine z_ifne C (rgz g_1) (tgt := 10) dX10_lift_4 (by decide) (fun hc4 => ?_) (fun hc4 => ?_)
  · rw [if_neg hc4] at h
    refine lv_iload_n C.1 C.2.1 dX10_lift_10 rfl (lv_at hl 1 rfl) ?_
    refine z_callS1 C X (As := [zI x1]) (M_X10_isSlot hI μ x1 gx1) zc_X10_isSlot kw_1455 (zroom (by decide) (by decide)) rfl hl.1 rfl (Nat.le_of_ble_eq_true rfl) dX10_lift_11 ⟨Nat.zero_le _, Nat.zero_le _⟩ (fun H locs g_11 X => ?_)
    refine z_ifeq C (rgz g_11) (tgt := 31) dX10_lift_14 (by decide) (fun hc14 => ?_) (fun hc14 => ?_)
    · rw [if_pos hc14] at h
      refine z_iconst C dX10_lift_31 ?_
      obtain rfl := Option.some.inj h
      exact rt X ⟨by decide, by decide⟩ dX10_lift_32
    · rw [if_neg hc14] at h
      refine lv_iload_n C.1 C.2.1 dX10_lift_17 rfl (lv_at hl 2 rfl) ?_
      refine z_iconst C dX10_lift_18 ?_
      refine lv_aload_n C.1 C.2.1 dX10_lift_19 rfl (lv_at hl 0 rfl) ?_
      have g_20 : Rg (μ 101 38) := zrgf0 (ci := 10) X.2.2.2 (hI.1 101 (by decide)) rfl 38 rfl
      refine z_get C X zk10 (hI.1 101 (by decide)) rfl 38 (by decide) kw_1070 (zI (μ 101 38)) rfl dX10_lift_20 ?_
      refine z_iconst C dX10_lift_23 ?_
      refine z_isub C dX10_lift_24 ?_
      refine z_callS1 C X (As := [zI x2, zI 0, zI (zw ((μ 101 38) - 1))]) (M_X10_in hI μ x2 0 (zw ((μ 101 38) - 1)) gx2 ⟨by decide, by decide⟩ (Rg.w _)) zc_X10_in kw_1217 (zroom (by decide) (by decide)) rfl hl.1 rfl (Nat.le_of_ble_eq_true rfl) dX10_lift_25 ⟨Nat.zero_le _, Nat.zero_le _⟩ (fun H locs g_25 X => ?_)
      refine z_ifne C (rgz g_25) (tgt := 33) dX10_lift_28 (by decide) (fun hc28 => ?_) (fun hc28 => ?_)
      · rw [if_neg hc28] at h
        refine lv_aload_n C.1 C.2.1 dX10_lift_33 rfl (lv_at hl 0 rfl) ?_
        refine z_get C X zk10 (hI.1 101 (by decide)) rfl 46 (by decide) kw_1078 (zR Ω 148) (zfvF (off := 47) X.2.2.2 (hI.1 101 (by decide)) hI.2 rfl rfl (by decide)) dX10_lift_34 ?_
        refine lv_iload_n C.1 C.2.1 dX10_lift_37 rfl (lv_at hl 1 rfl) ?_
        obtain ⟨hc38, h⟩ := chk_some h
        have g_38 : Rg (μ 148 x1) := zrg1 X.2.2.2 (hI.1 148 (by decide)) rfl
        refine z_iald C X (hI.1 148 (by decide)) rfl hc38 dX10_lift_38 ?_
        refine lv_aload_n C.1 C.2.1 dX10_lift_39 rfl (lv_at hl 0 rfl) ?_
        have g_40 : Rg (μ 101 37) := zrgf0 (ci := 10) X.2.2.2 (hI.1 101 (by decide)) rfl 37 rfl
        refine z_get C X zk10 (hI.1 101 (by decide)) rfl 37 (by decide) kw_1069 (zI (μ 101 37)) rfl dX10_lift_40 ?_
        refine z_icmpne C g_38 g_40 (tgt := 55) dX10_lift_43 (by decide) (fun hc43 => ?_) (fun hc43 => ?_)
        · rw [if_neg hc43] at h
          refine z_bipush C dX10_lift_55 (by decide) ?_
          obtain rfl := Option.some.inj h
          exact rt X ⟨by decide, by decide⟩ dX10_lift_57
        · rw [if_pos hc43] at h
          refine lv_aload_n C.1 C.2.1 dX10_lift_46 rfl (lv_at hl 0 rfl) ?_
          refine z_get C X zk10 (hI.1 101 (by decide)) rfl 48 (by decide) kw_1080 (zR Ω 150) (zfvF (off := 49) X.2.2.2 (hI.1 101 (by decide)) hI.2 rfl rfl (by decide)) dX10_lift_47 ?_
          refine lv_iload_n C.1 C.2.1 dX10_lift_50 rfl (lv_at hl 1 rfl) ?_
          obtain ⟨hc51, h⟩ := chk_some h
          have g_51 : Rg (μ 150 x1) := zrg1 X.2.2.2 (hI.1 150 (by decide)) rfl
          refine z_iald C X (hI.1 150 (by decide)) rfl hc51 dX10_lift_51 ?_
          refine z_ifeq C g_51 (tgt := 58) dX10_lift_52 (by decide) (fun hc52 => ?_) (fun hc52 => ?_)
          · rw [if_pos hc52] at h
            refine lv_iload_n C.1 C.2.1 dX10_lift_58 rfl (lv_at hl 2 rfl) ?_
            refine lv_istore_n C.1 C.2.1 (lv' := [(3, zI x2), (0, zR Ω 101), (1, zI x1), (2, zI x2)]) dX10_lift_59 rfl hl (by decide) rfl (fun ls hl => ?_)
            refine z_iconst C dX10_lift_60 ?_
            refine lv_istore C.1 C.2.1 (lv' := [(4, zI 0), (3, zI x2), (0, zR Ω 101), (1, zI x1), (2, zI x2)]) dX10_lift_61 hl (by decide) rfl (fun ls hl => ?_)
            have L63 : ∀ (n63 : Nat) (x_1 : Int) (x_2 : Int) (H : Heap) (locs : List Loc) (ls : Array Slot), Rg x_1 → Rg x_2 → zX Ω μ (zfree Ω) s.heap H locs → lv_has ls 8 [(0, zR Ω 101), (1, zI x1), (3, zI x_1), (4, zI x_2)] → (f_X10_lift_L63 x1 μ n63 x_1 x_2) = some r → W p l e (zrm 2) s m args below meth c H locs 0 0 Q (F0 m 63 ls []) := by
              intro n63
              induction n63 with
              | zero =>
                intro x_1 x_2 H locs ls _ _ _ _ h
                cases h
              | succ n63 ih63 =>
                intro x_1 x_2 H locs ls gx_1 gx_2 X hl h
                unfold f_X10_lift_L63 at h
                refine lv_iload C.1 C.2.1 dX10_lift_63 (lv_at hl 3 rfl) ?_
                refine lv_aload_n C.1 C.2.1 dX10_lift_65 rfl (lv_at hl 0 rfl) ?_
                refine z_get C X zk10 (hI.1 101 (by decide)) rfl 47 (by decide) kw_1079 (zR Ω 149) (zfvF (off := 48) X.2.2.2 (hI.1 101 (by decide)) hI.2 rfl rfl (by decide)) dX10_lift_66 ?_
                refine lv_iload_n C.1 C.2.1 dX10_lift_69 rfl (lv_at hl 1 rfl) ?_
                obtain ⟨hc70, h⟩ := chk_some h
                have g_70 : Rg (μ 149 x1) := zrg1 X.2.2.2 (hI.1 149 (by decide)) rfl
                refine z_iald C X (hI.1 149 (by decide)) rfl hc70 dX10_lift_70 ?_
                refine z_icmpge C gx_2 g_70 (tgt := 175) dX10_lift_71 (by decide) (fun hc71 => ?_) (fun hc71 => ?_)
                · rw [if_neg hc71] at h
                  refine lv_iload_n C.1 C.2.1 dX10_lift_175 rfl (lv_at hl 2 rfl) ?_
                  obtain rfl := Option.some.inj h
                  exact rt X gx_1 dX10_lift_176
                · rw [if_pos hc71] at h
                  refine lv_aload_n C.1 C.2.1 dX10_lift_74 rfl (lv_at hl 0 rfl) ?_
                  refine z_get C X zk10 (hI.1 101 (by decide)) rfl 50 (by decide) kw_1082 (zR Ω 152) (zfvF (off := 51) X.2.2.2 (hI.1 101 (by decide)) hI.2 rfl rfl (by decide)) dX10_lift_75 ?_
                  refine z_bipush C dX10_lift_78 (by decide) ?_
                  refine lv_iload_n C.1 C.2.1 dX10_lift_80 rfl (lv_at hl 1 rfl) ?_
                  refine z_imul C dX10_lift_81 ?_
                  refine lv_iload C.1 C.2.1 dX10_lift_82 (lv_at hl 3 rfl) ?_
                  refine z_iadd C dX10_lift_84 ?_
                  obtain ⟨hc85, h⟩ := chk_some h
                  have g_85 : Rg (μ 152 (zw ((zw (16 * x1)) + x_2))) := zrg1 X.2.2.2 (hI.1 152 (by decide)) rfl
                  refine z_iald C X (hI.1 152 (by decide)) rfl hc85 dX10_lift_85 ?_
                  refine zlet_elim h (fun x_3 ex_3 h => ?_)
                  have gx_3 : Rg x_3 := by rw [ex_3]; exact g_85
                  refine z_istore C ex_3 dX10_lift_86 hl (by decide) (lv' := [(5, zI x_3), (0, zR Ω 101), (1, zI x1), (3, zI x_1), (4, zI x_2)]) rfl (fun ls hl => ?_)
                  clear ex_3
                  refine lv_iload C.1 C.2.1 dX10_lift_88 (lv_at hl 0 rfl) ?_
                  have K105 : ∀ (x_4 : Int) (H : Heap) (locs : List Loc) (ls : Array Slot), Rg x_4 → zX Ω μ (zfree Ω) s.heap H locs → lv_has ls 8 [(0, zR Ω 101), (1, zI x1), (3, zI x_1), (4, zI x_2), (5, zI x_3)] → (f_X10_lift_J105 μ x_1 x_2 x_3 (f_X10_lift_L63 x1 μ n63)) x_4 = some r → W p l e (zrm 2) s m args below meth c H locs 0 0 Q (F0 m 105 ls [zI x_4]) := by
                    intro x_4 H locs ls gx_4 X hl h
                    unfold f_X10_lift_J105 at h
                    refine lv_istore C.1 C.2.1 (lv' := [(6, zI x_4), (0, zR Ω 101), (1, zI x1), (3, zI x_1), (4, zI x_2), (5, zI x_3)]) dX10_lift_105 hl (by decide) rfl (fun ls hl => ?_)
                    refine lv_aload_n C.1 C.2.1 dX10_lift_107 rfl (lv_at hl 1 rfl) ?_
                    refine z_get C X zk10 (hI.1 101 (by decide)) rfl 43 (by decide) kw_1075 (zR Ω 145) (zfvF (off := 44) X.2.2.2 (hI.1 101 (by decide)) hI.2 rfl rfl (by decide)) dX10_lift_108 ?_
                    refine lv_iload C.1 C.2.1 dX10_lift_111 (lv_at hl 0 rfl) ?_
                    obtain ⟨hc113, h⟩ := chk_some h
                    have g_113 : 0 ≤ (μ 145 x_4) ∧ (μ 145 x_4) ≤ 1 := zrg3 X.2.2.2 (hI.1 145 (by decide)) rfl
                    refine z_zald C X (hI.1 145 (by decide)) rfl hc113 dX10_lift_113 ?_
                    refine z_ifne C (rgz g_113) (tgt := 120) dX10_lift_114 (by decide) (fun hc114 => ?_) (fun hc114 => ?_)
                    · rw [if_neg hc114] at h
                      refine lv_aload_n C.1 C.2.1 dX10_lift_120 rfl (lv_at hl 1 rfl) ?_
                      refine z_get C X zk10 (hI.1 101 (by decide)) rfl 42 (by decide) kw_1074 (zR Ω 144) (zfvF (off := 43) X.2.2.2 (hI.1 101 (by decide)) hI.2 rfl rfl (by decide)) dX10_lift_121 ?_
                      refine lv_iload C.1 C.2.1 dX10_lift_124 (lv_at hl 0 rfl) ?_
                      obtain ⟨hc126, h⟩ := chk_some h
                      have g_126 : Rg (μ 144 x_4) := zrg1 X.2.2.2 (hI.1 144 (by decide)) rfl
                      refine z_iald C X (hI.1 144 (by decide)) rfl hc126 dX10_lift_126 ?_
                      refine zlet_elim h (fun x_5 ex_5 h => ?_)
                      have gx_5 : Rg x_5 := by rw [ex_5]; exact g_126
                      refine z_istore C ex_5 dX10_lift_127 hl (by decide) (lv' := [(7, zI x_5), (6, zI x_4), (0, zR Ω 101), (1, zI x1), (3, zI x_1), (4, zI x_2), (5, zI x_3)]) rfl (fun ls hl => ?_)
                      clear ex_5
                      refine lv_iload C.1 C.2.1 dX10_lift_129 (lv_at hl 0 rfl) ?_
                      have K168 : ∀ (x_6 : Int) (H : Heap) (locs : List Loc) (ls : Array Slot), Rg x_6 → zX Ω μ (zfree Ω) s.heap H locs → lv_has ls 8 [(0, zR Ω 101), (1, zI x1), (4, zI x_2)] → (f_X10_lift_J168 x_2 (f_X10_lift_L63 x1 μ n63)) x_6 = some r → W p l e (zrm 2) s m args below meth c H locs 0 0 Q (F0 m 168 ls [zI x_6]) := by
                        intro x_6 H locs ls gx_6 X hl h
                        unfold f_X10_lift_J168 at h
                        refine lv_istore_n C.1 C.2.1 (lv' := [(3, zI x_6), (0, zR Ω 101), (1, zI x1), (4, zI x_2)]) dX10_lift_168 rfl hl (by decide) rfl (fun ls hl => ?_)
                        refine zlet_elim h (fun x_7 ex_7 h => ?_)
                        have gx_7 : Rg x_7 := by rw [ex_7]; exact Rg.w _
                        refine z_iinc C ex_7 dX10_lift_169 hl (k := 3) rfl (by decide) (lv' := [(4, zI x_7), (3, zI x_6), (0, zR Ω 101), (1, zI x1)]) rfl (fun ls hl => ?_)
                        clear ex_7
                        refine lv_goto (tgt := 63) C.1 C.2.1 dX10_lift_172 (by decide) ?_
                        exact ih63 x_6 x_7 _ _ _ gx_6 gx_7 X (lv_sub hl [2, 3, 1, 0] rfl) h
                      refine z_ifge C gx_5 (tgt := 138) dX10_lift_131 (by decide) (fun hc131 => ?_) (fun hc131 => ?_)
                      · rw [if_neg hc131] at h
                        refine lv_iload C.1 C.2.1 dX10_lift_138 (lv_at hl 6 rfl) ?_
                        refine z_ifle C gx_3 (tgt := 157) dX10_lift_140 (by decide) (fun hc140 => ?_) (fun hc140 => ?_)
                        · rw [if_pos hc140] at h
                          refine lv_aload_n C.1 C.2.1 dX10_lift_157 rfl (lv_at hl 2 rfl) ?_
                          refine z_get C X zk10 (hI.1 101 (by decide)) rfl 41 (by decide) kw_1073 (zR Ω 143) (zfvF (off := 42) X.2.2.2 (hI.1 101 (by decide)) hI.2 rfl rfl (by decide)) dX10_lift_158 ?_
                          refine z_iconst C dX10_lift_161 ?_
                          refine lv_iload C.1 C.2.1 dX10_lift_162 (lv_at hl 0 rfl) ?_
                          refine z_imul C dX10_lift_164 ?_
                          refine lv_iload_n C.1 C.2.1 dX10_lift_165 rfl (lv_at hl 4 rfl) ?_
                          refine z_iadd C dX10_lift_166 ?_
                          obtain ⟨hc167, h⟩ := chk_some h
                          have g_167 : Rg (μ 143 (zw ((zw (4 * x_5)) + x_1))) := zrg1 X.2.2.2 (hI.1 143 (by decide)) rfl
                          refine z_iald C X (hI.1 143 (by decide)) rfl hc167 dX10_lift_167 ?_
                          exact K168 (μ 143 (zw ((zw (4 * x_5)) + x_1))) _ _ _ g_167 X (lv_sub hl [2, 3, 5] rfl) h
                        · rw [if_neg hc140] at h
                          refine lv_aload_n C.1 C.2.1 dX10_lift_143 rfl (lv_at hl 2 rfl) ?_
                          refine z_get C X zk10 (hI.1 101 (by decide)) rfl 40 (by decide) kw_1072 (zR Ω 142) (zfvF (off := 41) X.2.2.2 (hI.1 101 (by decide)) hI.2 rfl rfl (by decide)) dX10_lift_144 ?_
                          refine z_iconst C dX10_lift_147 ?_
                          refine lv_iload C.1 C.2.1 dX10_lift_148 (lv_at hl 0 rfl) ?_
                          refine z_imul C dX10_lift_150 ?_
                          refine lv_iload_n C.1 C.2.1 dX10_lift_151 rfl (lv_at hl 4 rfl) ?_
                          refine z_iadd C dX10_lift_152 ?_
                          obtain ⟨hc153, h⟩ := chk_some h
                          have g_153 : Rg (μ 142 (zw ((zw (4 * x_5)) + x_1))) := zrg1 X.2.2.2 (hI.1 142 (by decide)) rfl
                          refine z_iald C X (hI.1 142 (by decide)) rfl hc153 dX10_lift_153 ?_
                          refine lv_goto (tgt := 168) C.1 C.2.1 dX10_lift_154 (by decide) ?_
                          exact K168 (μ 142 (zw ((zw (4 * x_5)) + x_1))) _ _ _ g_153 X (lv_sub hl [2, 3, 5] rfl) h
                      · rw [if_pos hc131] at h
                        refine lv_iload_n C.1 C.2.1 dX10_lift_134 rfl (lv_at hl 4 rfl) ?_
                        refine lv_goto (tgt := 168) C.1 C.2.1 dX10_lift_135 (by decide) ?_
                        exact K168 x_1 _ _ _ gx_1 X (lv_sub hl [2, 3, 5] rfl) h
                    · rw [if_pos hc114] at h
                      refine z_bipush C dX10_lift_117 (by decide) ?_
                      obtain rfl := Option.some.inj h
                      exact rt X ⟨by decide, by decide⟩ dX10_lift_119
                  refine z_ifle C gx_3 (tgt := 100) dX10_lift_90 (by decide) (fun hc90 => ?_) (fun hc90 => ?_)
                  · rw [if_pos hc90] at h
                    refine lv_iload C.1 C.2.1 dX10_lift_100 (lv_at hl 0 rfl) ?_
                    refine z_ineg C dX10_lift_102 ?_
                    refine z_iconst C dX10_lift_103 ?_
                    refine z_isub C dX10_lift_104 ?_
                    exact K105 (zw ((zw (-x_3)) - 1)) _ _ _ (Rg.w _) X (lv_sub hl [1, 2, 3, 4, 0] rfl) h
                  · rw [if_neg hc90] at h
                    refine lv_iload C.1 C.2.1 dX10_lift_93 (lv_at hl 0 rfl) ?_
                    refine z_iconst C dX10_lift_95 ?_
                    refine z_isub C dX10_lift_96 ?_
                    refine lv_goto (tgt := 105) C.1 C.2.1 dX10_lift_97 (by decide) ?_
                    exact K105 (zw (x_3 - 1)) _ _ _ (Rg.w _) X (lv_sub hl [1, 2, 3, 4, 0] rfl) h
            exact L63 zfu x2 0 _ _ _ gx2 ⟨by decide, by decide⟩ X (lv_sub hl [2, 3, 1, 0] rfl) h
          · rw [if_neg hc52] at h
            refine z_bipush C dX10_lift_55 (by decide) ?_
            obtain rfl := Option.some.inj h
            exact rt X ⟨by decide, by decide⟩ dX10_lift_57
      · rw [if_pos hc28] at h
        refine z_iconst C dX10_lift_31 ?_
        obtain rfl := Option.some.inj h
        exact rt X ⟨by decide, by decide⟩ dX10_lift_32
  · rw [if_pos hc4] at h
    refine z_bipush C dX10_lift_7 (by decide) ?_
    obtain rfl := Option.some.inj h
    exact rt X ⟨by decide, by decide⟩ dX10_lift_9
theorem zc_X10_lift : zcal yX10_lift cX10_lift 8 (some Jvm.ClassFile.FieldType.int) RX10 2 := ⟨⟨kw_1454, kw_1452, kw_1453, kw_12⟩, rfl, by decide, by decide, by decide +kernel⟩

def f_X10_moved_L46 (x1 : Int) : Nat → Int → zMem → Option (Int × zMem)
  | 0, _, _ => none
  | n + 1, x_2, μ_3 =>
    if x_2 ≤ 4 then
      chk ((0 : Int) ≤ x1 ∧ x1 < 4) <|
      bnd2 (f_X10_isMany (μ_3 148 x1) x_2 μ_3) fun x_4 μ_5 =>
      if x_4 = 0 then
        chk ((0 : Int) ≤ x1 ∧ x1 < 4) <|
        bnd2 (f_X10_seek (μ_5 148 x1) 2 (-1) μ_5) fun x_7 μ_8 =>
        if x_7 = 0 then
          zlet (zw (x_2 + 1)) fun x_9 =>
          (f_X10_moved_L46 x1 n) x_9 μ_8
        else
          some (x_2, μ_8)
      else
        zlet (zw (x_2 + 1)) fun x_6 =>
        (f_X10_moved_L46 x1 n) x_6 μ_5
    else
      some ((-4), μ_3)
def f_X10_moved (x1 : Int) (μ : zMem) : Option (Int × zMem) :=
  if (f_X10_isSlot x1) = 0 then
    some ((-1), μ)
  else
    chk ((0 : Int) ≤ x1 ∧ x1 < 4) <|
    if (μ 148 x1) < 0 then
      some ((-2), μ)
    else
      chk ((0 : Int) ≤ x1 ∧ x1 < 4) <|
      if (μ 150 x1) = 0 then
        chk ((0 : Int) ≤ x1 ∧ x1 < 4) <|
        if (μ 151 x1) = 0 then
          zlet (zup μ 101 36 x1) fun μ_1 =>
          (f_X10_moved_L46 x1) zfu 2 μ_1
        else
          some ((-2), μ)
      else
        some ((-2), μ)
set_option maxHeartbeats 4000000 in
set_option maxRecDepth 100000 in
theorem M_X10_moved {l : Launch} {Ω : zO} (hI : zIm Ω) (μ : zMem) (x1 : Int) {r : Int} {μ' : zMem} (gx1 : Rg x1) (h : f_X10_moved x1 μ = some (r, μ')) : XMet l yX10_moved cX10_moved 3 (some Jvm.ClassFile.FieldType.int) 45 Ω [zR Ω 101, zI x1] μ (some (zI r)) (Rg r) μ' := by
  refine XMet.ofI (by decide) (Nat.le_of_ble_eq_true rfl) ?_
  intro p e s m args below meth c ls Q C rt X hl
  have C : zC p s m args c cX10_moved RX10 3 Ω := C
  have hl : lv_has ls 3 [(0, zR Ω 101), (1, zI x1)] := hl
  unfold f_X10_moved at h
  skip
  refine lv_iload_n C.1 C.2.1 dX10_moved_0 rfl (lv_at hl 1 rfl) ?_
  refine z_callS1 C X (As := [zI x1]) (M_X10_isSlot hI μ x1 gx1) zc_X10_isSlot kw_1455 (zroom (by decide) (by decide)) rfl hl.1 rfl (Nat.le_of_ble_eq_true rfl) dX10_moved_1 ⟨Nat.zero_le _, Nat.zero_le _⟩ (fun H locs g_1 X => ?_)
  refine z_ifne C (rgz g_1) (tgt := 9) dX10_moved_4 (by decide) (fun hc4 => ?_) (fun hc4 => ?_)
  · rw [if_neg hc4] at h
    refine lv_aload_n C.1 C.2.1 dX10_moved_9 rfl (lv_at hl 0 rfl) ?_
    refine z_get C X zk10 (hI.1 101 (by decide)) rfl 46 (by decide) kw_1078 (zR Ω 148) (zfvF (off := 47) X.2.2.2 (hI.1 101 (by decide)) hI.2 rfl rfl (by decide)) dX10_moved_10 ?_
    refine lv_iload_n C.1 C.2.1 dX10_moved_13 rfl (lv_at hl 1 rfl) ?_
    obtain ⟨hc14, h⟩ := chk_some h
    have g_14 : Rg (μ 148 x1) := zrg1 X.2.2.2 (hI.1 148 (by decide)) rfl
    refine z_iald C X (hI.1 148 (by decide)) rfl hc14 dX10_moved_14 ?_
    refine z_iflt C g_14 (tgt := 36) dX10_moved_15 (by decide) (fun hc15 => ?_) (fun hc15 => ?_)
    · rw [if_pos hc15] at h
      refine z_bipush C dX10_moved_36 (by decide) ?_
      obtain ⟨rfl, rfl⟩ := Prod.mk.inj (Option.some.inj h)
      exact rt X ⟨by decide, by decide⟩ dX10_moved_38
    · rw [if_neg hc15] at h
      refine lv_aload_n C.1 C.2.1 dX10_moved_18 rfl (lv_at hl 0 rfl) ?_
      refine z_get C X zk10 (hI.1 101 (by decide)) rfl 48 (by decide) kw_1080 (zR Ω 150) (zfvF (off := 49) X.2.2.2 (hI.1 101 (by decide)) hI.2 rfl rfl (by decide)) dX10_moved_19 ?_
      refine lv_iload_n C.1 C.2.1 dX10_moved_22 rfl (lv_at hl 1 rfl) ?_
      obtain ⟨hc23, h⟩ := chk_some h
      have g_23 : Rg (μ 150 x1) := zrg1 X.2.2.2 (hI.1 150 (by decide)) rfl
      refine z_iald C X (hI.1 150 (by decide)) rfl hc23 dX10_moved_23 ?_
      refine z_ifne C g_23 (tgt := 36) dX10_moved_24 (by decide) (fun hc24 => ?_) (fun hc24 => ?_)
      · rw [if_neg hc24] at h
        refine z_bipush C dX10_moved_36 (by decide) ?_
        obtain ⟨rfl, rfl⟩ := Prod.mk.inj (Option.some.inj h)
        exact rt X ⟨by decide, by decide⟩ dX10_moved_38
      · rw [if_pos hc24] at h
        refine lv_aload_n C.1 C.2.1 dX10_moved_27 rfl (lv_at hl 0 rfl) ?_
        refine z_get C X zk10 (hI.1 101 (by decide)) rfl 49 (by decide) kw_1081 (zR Ω 151) (zfvF (off := 50) X.2.2.2 (hI.1 101 (by decide)) hI.2 rfl rfl (by decide)) dX10_moved_28 ?_
        refine lv_iload_n C.1 C.2.1 dX10_moved_31 rfl (lv_at hl 1 rfl) ?_
        obtain ⟨hc32, h⟩ := chk_some h
        have g_32 : Rg (μ 151 x1) := zrg1 X.2.2.2 (hI.1 151 (by decide)) rfl
        refine z_iald C X (hI.1 151 (by decide)) rfl hc32 dX10_moved_32 ?_
        refine z_ifeq C g_32 (tgt := 39) dX10_moved_33 (by decide) (fun hc33 => ?_) (fun hc33 => ?_)
        · rw [if_pos hc33] at h
          refine lv_aload_n C.1 C.2.1 dX10_moved_39 rfl (lv_at hl 0 rfl) ?_
          refine lv_iload_n C.1 C.2.1 dX10_moved_40 rfl (lv_at hl 1 rfl) ?_
          refine zlet_elim h (fun μ_1 em h => ?_)
          refine z_putI C X zk10 (hI.1 101 (by decide)) rfl 36 (by decide) kw_1068 rfl rfl rfl rfl gx1 em dX10_moved_41 (fun H locs X => ?_)
          clear em
          refine z_iconst C dX10_moved_44 ?_
          refine lv_istore_n C.1 C.2.1 (lv' := [(2, zI 2), (0, zR Ω 101), (1, zI x1)]) dX10_moved_45 rfl hl (by decide) rfl (fun ls hl => ?_)
          have L46 : ∀ (n46 : Nat) (x_2 : Int) (μ_3 : zMem) (H : Heap) (locs : List Loc) (ls : Array Slot), Rg x_2 → zX Ω μ_3 (zfree Ω) s.heap H locs → lv_has ls 3 [(0, zR Ω 101), (1, zI x1), (2, zI x_2)] → (f_X10_moved_L46 x1 n46 x_2 μ_3) = some (r, μ') → W p l e (zrm 45) s m args below meth c H locs 0 0 Q (F0 m 46 ls []) := by
            intro n46
            induction n46 with
            | zero =>
              intro x_2 μ_3 H locs ls _ _ _ h
              cases h
            | succ n46 ih46 =>
              intro x_2 μ_3 H locs ls gx_2 X hl h
              unfold f_X10_moved_L46 at h
              refine lv_iload_n C.1 C.2.1 dX10_moved_46 rfl (lv_at hl 2 rfl) ?_
              refine z_iconst C dX10_moved_47 ?_
              refine z_icmpgt C gx_2 ⟨by decide, by decide⟩ (tgt := 88) dX10_moved_48 (by decide) (fun hc48 => ?_) (fun hc48 => ?_)
              · rw [if_neg hc48] at h
                refine z_bipush C dX10_moved_88 (by decide) ?_
                obtain ⟨rfl, rfl⟩ := Prod.mk.inj (Option.some.inj h)
                exact rt X ⟨by decide, by decide⟩ dX10_moved_90
              · rw [if_pos hc48] at h
                refine lv_aload_n C.1 C.2.1 dX10_moved_51 rfl (lv_at hl 0 rfl) ?_
                refine lv_aload_n C.1 C.2.1 dX10_moved_52 rfl (lv_at hl 0 rfl) ?_
                refine z_get C X zk10 (hI.1 101 (by decide)) rfl 46 (by decide) kw_1078 (zR Ω 148) (zfvF (off := 47) X.2.2.2 (hI.1 101 (by decide)) hI.2 rfl rfl (by decide)) dX10_moved_53 ?_
                refine lv_iload_n C.1 C.2.1 dX10_moved_56 rfl (lv_at hl 1 rfl) ?_
                obtain ⟨hc57, h⟩ := chk_some h
                have g_57 : Rg (μ_3 148 x1) := zrg1 X.2.2.2 (hI.1 148 (by decide)) rfl
                refine z_iald C X (hI.1 148 (by decide)) rfl hc57 dX10_moved_57 ?_
                refine lv_iload_n C.1 C.2.1 dX10_moved_58 rfl (lv_at hl 2 rfl) ?_
                obtain ⟨x_4, μ_5, hq59, h⟩ := bnd2_some h
                refine z_callV1 C X zk10 (hI.1 101 (by decide)) rfl (As := [zI (μ_3 148 x1), zI x_2]) (M_X10_isMany hI μ_3 (μ_3 148 x1) x_2 g_57 gx_2 hq59) zc_X10_isMany kw_1383 (zroom (by decide) (by decide)) rfl hl.1 rfl (Nat.le_of_ble_eq_true rfl) dX10_moved_59 ⟨Nat.zero_le _, Nat.zero_le _⟩ (fun H locs g_59 X => ?_)
                refine z_ifne C (rgz g_59) (tgt := 82) dX10_moved_62 (by decide) (fun hc62 => ?_) (fun hc62 => ?_)
                · rw [if_neg hc62] at h
                  refine zlet_elim h (fun x_6 ex_6 h => ?_)
                  have gx_6 : Rg x_6 := by rw [ex_6]; exact Rg.w _
                  refine z_iinc C ex_6 dX10_moved_82 hl (k := 2) rfl (by decide) (lv' := [(2, zI x_6), (0, zR Ω 101), (1, zI x1)]) rfl (fun ls hl => ?_)
                  clear ex_6
                  refine lv_goto (tgt := 46) C.1 C.2.1 dX10_moved_85 (by decide) ?_
                  exact ih46 x_6 μ_5 _ _ _ gx_6 X (lv_sub hl [1, 2, 0] rfl) h
                · rw [if_pos hc62] at h
                  refine lv_aload_n C.1 C.2.1 dX10_moved_65 rfl (lv_at hl 0 rfl) ?_
                  refine lv_aload_n C.1 C.2.1 dX10_moved_66 rfl (lv_at hl 0 rfl) ?_
                  refine z_get C X zk10 (hI.1 101 (by decide)) rfl 46 (by decide) kw_1078 (zR Ω 148) (zfvF (off := 47) X.2.2.2 (hI.1 101 (by decide)) hI.2 rfl rfl (by decide)) dX10_moved_67 ?_
                  refine lv_iload_n C.1 C.2.1 dX10_moved_70 rfl (lv_at hl 1 rfl) ?_
                  obtain ⟨hc71, h⟩ := chk_some h
                  have g_71 : Rg (μ_5 148 x1) := zrg1 X.2.2.2 (hI.1 148 (by decide)) rfl
                  refine z_iald C X (hI.1 148 (by decide)) rfl hc71 dX10_moved_71 ?_
                  refine z_iconst C dX10_moved_72 ?_
                  refine z_iconst C dX10_moved_73 ?_
                  obtain ⟨x_7, μ_8, hq74, h⟩ := bnd2_some h
                  refine z_callV1 C X zk10 (hI.1 101 (by decide)) rfl (As := [zI (μ_5 148 x1), zI 2, zI (-1)]) (M_X10_seek hI μ_5 (μ_5 148 x1) 2 (-1) g_71 ⟨by decide, by decide⟩ ⟨by decide, by decide⟩ hq74) zc_X10_seek kw_1391 (zroom (by decide) (by decide)) rfl hl.1 rfl (Nat.le_of_ble_eq_true rfl) dX10_moved_74 ⟨Nat.zero_le _, Nat.zero_le _⟩ (fun H locs g_74 X => ?_)
                  refine z_ifeq C (rgz g_74) (tgt := 82) dX10_moved_77 (by decide) (fun hc77 => ?_) (fun hc77 => ?_)
                  · rw [if_pos hc77] at h
                    refine zlet_elim h (fun x_9 ex_9 h => ?_)
                    have gx_9 : Rg x_9 := by rw [ex_9]; exact Rg.w _
                    refine z_iinc C ex_9 dX10_moved_82 hl (k := 2) rfl (by decide) (lv' := [(2, zI x_9), (0, zR Ω 101), (1, zI x1)]) rfl (fun ls hl => ?_)
                    clear ex_9
                    refine lv_goto (tgt := 46) C.1 C.2.1 dX10_moved_85 (by decide) ?_
                    exact ih46 x_9 μ_8 _ _ _ gx_9 X (lv_sub hl [1, 2, 0] rfl) h
                  · rw [if_neg hc77] at h
                    refine lv_iload_n C.1 C.2.1 dX10_moved_80 rfl (lv_at hl 2 rfl) ?_
                    obtain ⟨rfl, rfl⟩ := Prod.mk.inj (Option.some.inj h)
                    exact rt X gx_2 dX10_moved_81
          exact L46 zfu 2 μ_1 _ _ _ ⟨by decide, by decide⟩ X (lv_sub hl [1, 2, 0] rfl) h
        · rw [if_neg hc33] at h
          refine z_bipush C dX10_moved_36 (by decide) ?_
          obtain ⟨rfl, rfl⟩ := Prod.mk.inj (Option.some.inj h)
          exact rt X ⟨by decide, by decide⟩ dX10_moved_38
  · rw [if_pos hc4] at h
    refine z_iconst C dX10_moved_7 ?_
    obtain ⟨rfl, rfl⟩ := Prod.mk.inj (Option.some.inj h)
    exact rt X ⟨by decide, by decide⟩ dX10_moved_8
theorem zc_X10_moved : zcal yX10_moved cX10_moved 3 (some Jvm.ClassFile.FieldType.int) RX10 1 := ⟨⟨kw_1461, kw_1459, kw_1460, kw_12⟩, rfl, by decide, by decide, by decide +kernel⟩

