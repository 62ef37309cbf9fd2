def f_X10_type_L90 (x1 : Int) : Nat → Int → zMem → Option (Int × zMem)
  | 0, _, _ => none
  | n + 1, x_4, μ_5 =>
    if x_4 < 0 then
      some ((μ_5 101 9), μ_5)
    else
      chk ((0 : Int) ≤ (μ_5 101 9) ∧ (μ_5 101 9) < 120) <|
      zlet (zup μ_5 110 (μ_5 101 9) (zw (zland (zlshr x1 (zw (8 * x_4))) 255))) fun μ_6 =>
      zlet (zup μ_6 101 9 (zw ((μ_6 101 9) + 1))) fun μ_7 =>
      zlet (zw (x_4 + (-1))) fun x_8 =>
      (f_X10_type_L90 x1 n) x_8 μ_7
def f_X10_type_K64 (x1 : Int) (x3 : Int) (x_1 : Int) (μ_2 : zMem) : Option (Int × zMem) :=
  if x_1 = 0 then
    some ((-1), μ_2)
  else
    if (zw ((μ_2 101 9) + x3)) ≤ 120 then
      zlet ((zw (x3 - 1))) fun x_3 =>
      (f_X10_type_L90 x1) zfu x_3 μ_2
    else
      some ((-3), μ_2)
def f_X10_type_J56 (x_10 : Int) (g18 : Int → Int → zMem → Option (Int × zMem)) (x_12 : Int) (μ_13 : zMem) : Option (Int × zMem) :=
  zlet (zw (x_10 + 1)) fun x_14 =>
  g18 x_12 x_14 μ_13
def f_X10_type_J55 (g56 : Int → zMem → Option (Int × zMem)) (μ_15 : zMem) : Option (Int × zMem) :=
  g56 0 μ_15
def f_X10_type_L18 (x1 : Int) (x3 : Int) (g64 : Int → zMem → Option (Int × zMem)) : Nat → Int → Int → zMem → Option (Int × zMem)
  | 0, _, _, _ => none
  | n + 1, x_9, x_10, μ_11 =>
    if x_10 < x3 then
      if x_9 = 0 then
        (f_X10_type_J55 (f_X10_type_J56 x_10 (f_X10_type_L18 x1 x3 g64 n))) μ_11
      else
        if (f_X10_in (zw (zland (zlshr x1 (zw (8 * x_10))) 255)) 32 126) = 0 then
          (f_X10_type_J55 (f_X10_type_J56 x_10 (f_X10_type_L18 x1 x3 g64 n))) μ_11
        else
          (f_X10_type_J56 x_10 (f_X10_type_L18 x1 x3 g64 n)) 1 μ_11
    else
      g64 x_9 μ_11
def f_X10_type (x1 : Int) (x3 : Int) (μ : zMem) : Option (Int × zMem) :=
  if (f_X10_in x3 1 8) = 0 then
    some ((-1), μ)
  else
    (f_X10_type_L18 x1 x3 (f_X10_type_K64 x1 x3)) zfu 1 0 μ
set_option maxHeartbeats 4000000 in
set_option maxRecDepth 100000 in
theorem M_X10_type {l : Launch} {Ω : zO} (hI : zIm Ω) (μ : zMem) (x1 : Int) (x3 : Int) {r : Int} {μ' : zMem} (gx1 : Rl x1) (gx3 : Rg x3) (h : f_X10_type x1 x3 μ = some (r, μ')) : XMet l yX10_type cX10_type 6 (some Jvm.ClassFile.FieldType.int) 1 Ω [zR Ω 101, zJ x1, zI x3] μ (some (zI r)) (Rg r) μ' := by
  refine XMet.ofI (by decide) (Nat.le_of_ble_eq_true rfl) ?_
  intro p e s m args below meth c ls Q C rt X hl
  have C : zC p s m args c cX10_type RX10 6 Ω := C
  have hl : lv_has ls 6 [(0, zR Ω 101), (1, zJ x1), (3, zI x3)] := hl
  unfold f_X10_type at h
  skip
  refine lv_iload_n C.1 C.2.1 dX10_type_0 rfl (lv_at hl 2 rfl) ?_
  refine z_iconst C dX10_type_1 ?_
  refine z_bipush C dX10_type_2 (by decide) ?_
  refine z_callS1 C X (As := [zI x3, zI 1, zI 8]) (M_X10_in hI μ x3 1 8 gx3 ⟨by decide, by decide⟩ ⟨by decide, by decide⟩) zc_X10_in kw_1217 (zroom (by decide) (by decide)) rfl hl.1 rfl (Nat.le_of_ble_eq_true rfl) dX10_type_4 ⟨Nat.zero_le _, Nat.zero_le _⟩ (fun H locs g_4 X => ?_)
  refine z_ifne C (rgz g_4) (tgt := 12) dX10_type_7 (by decide) (fun hc7 => ?_) (fun hc7 => ?_)
  · rw [if_neg hc7] at h
    refine z_iconst C dX10_type_12 ?_
    refine lv_istore C.1 C.2.1 (lv' := [(4, zI 1), (0, zR Ω 101), (1, zJ x1), (3, zI x3)]) dX10_type_13 hl (by decide) rfl (fun ls hl => ?_)
    refine z_iconst C dX10_type_15 ?_
    refine lv_istore C.1 C.2.1 (lv' := [(5, zI 0), (4, zI 1), (0, zR Ω 101), (1, zJ x1), (3, zI x3)]) dX10_type_16 hl (by decide) rfl (fun ls hl => ?_)
    have K64 : ∀ (x_1 : Int) (μ_2 : zMem) (H : Heap) (locs : List Loc) (ls : Array Slot), Rg x_1 → zX Ω μ_2 (zfree Ω) s.heap H locs → lv_has ls 6 [(0, zR Ω 101), (1, zJ x1), (3, zI x3), (4, zI x_1)] → (f_X10_type_K64 x1 x3) x_1 μ_2 = some (r, μ') → W p l e (zrm 1) s m args below meth c H locs 0 0 Q (F0 m 64 ls []) := by
      intro x_1 μ_2 H locs ls gx_1 X hl h
      unfold f_X10_type_K64 at h
      refine lv_iload C.1 C.2.1 dX10_type_64 (lv_at hl 3 rfl) ?_
      refine z_ifne C gx_1 (tgt := 71) dX10_type_66 (by decide) (fun hc66 => ?_) (fun hc66 => ?_)
      · rw [if_neg hc66] at h
        refine lv_aload_n C.1 C.2.1 dX10_type_71 rfl (lv_at hl 0 rfl) ?_
        have g_72 : Rg (μ_2 101 9) := zrgf0 (ci := 10) X.2.2.2 (hI.1 101 (by decide)) rfl 9 rfl
        refine z_get C X zk10 (hI.1 101 (by decide)) rfl 9 (by decide) kw_1041 (zI (μ_2 101 9)) rfl dX10_type_72 ?_
        refine lv_iload_n C.1 C.2.1 dX10_type_75 rfl (lv_at hl 2 rfl) ?_
        refine z_iadd C dX10_type_76 ?_
        refine z_bipush C dX10_type_77 (by decide) ?_
        refine z_icmple C (Rg.w _) ⟨by decide, by decide⟩ (tgt := 85) dX10_type_79 (by decide) (fun hc79 => ?_) (fun hc79 => ?_)
        · rw [if_pos hc79] at h
          refine lv_iload_n C.1 C.2.1 dX10_type_85 rfl (lv_at hl 2 rfl) ?_
          refine z_iconst C dX10_type_86 ?_
          refine z_isub C dX10_type_87 ?_
          refine zlet_elim h (fun x_3 ex_3 h => ?_)
          have gx_3 : Rg x_3 := by rw [ex_3]; exact (Rg.w _)
          refine z_istore C ex_3 dX10_type_88 hl (by decide) (lv' := [(5, zI x_3), (0, zR Ω 101), (1, zJ x1), (3, zI x3), (4, zI x_1)]) rfl (fun ls hl => ?_)
          clear ex_3
          have L90 : ∀ (n90 : Nat) (x_4 : Int) (μ_5 : zMem) (H : Heap) (locs : List Loc) (ls : Array Slot), Rg x_4 → zX Ω μ_5 (zfree Ω) s.heap H locs → lv_has ls 6 [(0, zR Ω 101), (1, zJ x1), (5, zI x_4)] → (f_X10_type_L90 x1 n90 x_4 μ_5) = some (r, μ') → W p l e (zrm 1) s m args below meth c H locs 0 0 Q (F0 m 90 ls []) := by
            intro n90
            induction n90 with
            | zero =>
              intro x_4 μ_5 H locs ls _ _ _ h
              cases h
            | succ n90 ih90 =>
              intro x_4 μ_5 H locs ls gx_4 X hl h
              unfold f_X10_type_L90 at h
              refine lv_iload C.1 C.2.1 dX10_type_90 (lv_at hl 2 rfl) ?_
              refine z_iflt C gx_4 (tgt := 132) dX10_type_92 (by decide) (fun hc92 => ?_) (fun hc92 => ?_)
              · rw [if_pos hc92] at h
                refine lv_aload_n C.1 C.2.1 dX10_type_132 rfl (lv_at hl 0 rfl) ?_
                have g_133 : Rg (μ_5 101 9) := zrgf0 (ci := 10) X.2.2.2 (hI.1 101 (by decide)) rfl 9 rfl
                refine z_get C X zk10 (hI.1 101 (by decide)) rfl 9 (by decide) kw_1041 (zI (μ_5 101 9)) rfl dX10_type_133 ?_
                obtain ⟨rfl, rfl⟩ := Prod.mk.inj (Option.some.inj h)
                exact rt X g_133 dX10_type_136
              · rw [if_neg hc92] at h
                refine lv_aload_n C.1 C.2.1 dX10_type_95 rfl (lv_at hl 0 rfl) ?_
                refine z_get C X zk10 (hI.1 101 (by decide)) rfl 8 (by decide) kw_1040 (zR Ω 110) (zfvF (off := 9) X.2.2.2 (hI.1 101 (by decide)) hI.2 rfl rfl (by decide)) dX10_type_96 ?_
                refine lv_aload_n C.1 C.2.1 dX10_type_99 rfl (lv_at hl 0 rfl) ?_
                have g_100 : Rg (μ_5 101 9) := zrgf0 (ci := 10) X.2.2.2 (hI.1 101 (by decide)) rfl 9 rfl
                refine z_get C X zk10 (hI.1 101 (by decide)) rfl 9 (by decide) kw_1041 (zI (μ_5 101 9)) rfl dX10_type_100 ?_
                refine lv_lload_n C.1 C.2.1 dX10_type_103 rfl (lv_at hl 1 rfl) ?_
                refine z_bipush C dX10_type_104 (by decide) ?_
                refine lv_iload C.1 C.2.1 dX10_type_106 (lv_at hl 2 rfl) ?_
                refine z_imul C dX10_type_108 ?_
                refine z_lshr C dX10_type_109 ?_
                refine z_ldc2 C 255 kw_1240 (by decide) dX10_type_110 ?_
                refine z_land C dX10_type_113 ?_
                refine z_l2i C dX10_type_114 ?_
                obtain ⟨hc115, h⟩ := chk_some h
                refine zlet_elim h (fun μ_6 em h => ?_)
                refine z_iast C X (hI.1 110 (by decide)) rfl hc115 (zok1 rfl (Rg.w _)) em dX10_type_115 (fun H locs X => ?_)
                clear em
                refine lv_aload_n C.1 C.2.1 dX10_type_116 rfl (lv_at hl 0 rfl) ?_
                refine lv_dup C.1 C.2.1 dX10_type_117 rfl ?_
                have g_118 : Rg (μ_6 101 9) := zrgf0 (ci := 10) X.2.2.2 (hI.1 101 (by decide)) rfl 9 rfl
                refine z_get C X zk10 (hI.1 101 (by decide)) rfl 9 (by decide) kw_1041 (zI (μ_6 101 9)) rfl dX10_type_118 ?_
                refine z_iconst C dX10_type_121 ?_
                refine z_iadd C dX10_type_122 ?_
                refine zlet_elim h (fun μ_7 em h => ?_)
                refine z_putI C X zk10 (hI.1 101 (by decide)) rfl 9 (by decide) kw_1041 rfl rfl rfl rfl (Rg.w _) em dX10_type_123 (fun H locs X => ?_)
                clear em
                refine zlet_elim h (fun x_8 ex_8 h => ?_)
                have gx_8 : Rg x_8 := by rw [ex_8]; exact Rg.w _
                refine z_iinc C ex_8 dX10_type_126 hl (k := 2) rfl (by decide) (lv' := [(5, zI x_8), (0, zR Ω 101), (1, zJ x1)]) rfl (fun ls hl => ?_)
                clear ex_8
                refine lv_goto (tgt := 90) C.1 C.2.1 dX10_type_129 (by decide) ?_
                exact ih90 x_8 μ_7 _ _ _ gx_8 X (lv_sub hl [1, 2, 0] rfl) h
          exact L90 zfu x_3 μ_2 _ _ _ gx_3 X (lv_sub hl [1, 2, 0] rfl) h
        · rw [if_neg hc79] at h
          refine z_bipush C dX10_type_82 (by decide) ?_
          obtain ⟨rfl, rfl⟩ := Prod.mk.inj (Option.some.inj h)
          exact rt X ⟨by decide, by decide⟩ dX10_type_84
      · rw [if_pos hc66] at h
        refine z_iconst C dX10_type_69 ?_
        obtain ⟨rfl, rfl⟩ := Prod.mk.inj (Option.some.inj h)
        exact rt X ⟨by decide, by decide⟩ dX10_type_70
    have L18 : ∀ (n18 : Nat) (x_9 : Int) (x_10 : Int) (μ_11 : zMem) (H : Heap) (locs : List Loc) (ls : Array Slot), Rg x_9 → Rg x_10 → zX Ω μ_11 (zfree Ω) s.heap H locs → lv_has ls 6 [(0, zR Ω 101), (1, zJ x1), (3, zI x3), (4, zI x_9), (5, zI x_10)] → (f_X10_type_L18 x1 x3 (f_X10_type_K64 x1 x3) n18 x_9 x_10 μ_11) = some (r, μ') → W p l e (zrm 1) s m args below meth c H locs 0 0 Q (F0 m 18 ls []) := by
      intro n18
      induction n18 with
      | zero =>
        intro x_9 x_10 μ_11 H locs ls _ _ _ _ h
        cases h
      | succ n18 ih18 =>
        intro x_9 x_10 μ_11 H locs ls gx_9 gx_10 X hl h
        unfold f_X10_type_L18 at h
        refine lv_iload C.1 C.2.1 dX10_type_18 (lv_at hl 4 rfl) ?_
        refine lv_iload_n C.1 C.2.1 dX10_type_20 rfl (lv_at hl 2 rfl) ?_
        refine z_icmpge C gx_10 gx3 (tgt := 64) dX10_type_21 (by decide) (fun hc21 => ?_) (fun hc21 => ?_)
        · rw [if_neg hc21] at h
          exact K64 x_9 μ_11 _ _ _ gx_9 X (lv_sub hl [0, 1, 2, 3] rfl) h
        · rw [if_pos hc21] at h
          refine lv_iload C.1 C.2.1 dX10_type_24 (lv_at hl 3 rfl) ?_
          have K56 : ∀ (x_12 : Int) (μ_13 : zMem) (H : Heap) (locs : List Loc) (ls : Array Slot), Rg x_12 → zX Ω μ_13 (zfree Ω) s.heap H locs → lv_has ls 6 [(0, zR Ω 101), (1, zJ x1), (3, zI x3), (5, zI x_10)] → (f_X10_type_J56 x_10 (f_X10_type_L18 x1 x3 (f_X10_type_K64 x1 x3) n18)) x_12 μ_13 = some (r, μ') → W p l e (zrm 1) s m args below meth c H locs 0 0 Q (F0 m 56 ls [zI x_12]) := by
            intro x_12 μ_13 H locs ls gx_12 X hl h
            unfold f_X10_type_J56 at h
            refine lv_istore C.1 C.2.1 (lv' := [(4, zI x_12), (0, zR Ω 101), (1, zJ x1), (3, zI x3), (5, zI x_10)]) dX10_type_56 hl (by decide) rfl (fun ls hl => ?_)
            refine zlet_elim h (fun x_14 ex_14 h => ?_)
            have gx_14 : Rg x_14 := by rw [ex_14]; exact Rg.w _
            refine z_iinc C ex_14 dX10_type_58 hl (k := 4) rfl (by decide) (lv' := [(5, zI x_14), (4, zI x_12), (0, zR Ω 101), (1, zJ x1), (3, zI x3)]) rfl (fun ls hl => ?_)
            clear ex_14
            refine lv_goto (tgt := 18) C.1 C.2.1 dX10_type_61 (by decide) ?_
            exact ih18 x_12 x_14 μ_13 _ _ _ gx_12 gx_14 X (lv_sub hl [2, 3, 4, 1, 0] rfl) h
          have K55 : ∀ (μ_15 : zMem) (H : Heap) (locs : List Loc) (ls : Array Slot), zX Ω μ_15 (zfree Ω) s.heap H locs → lv_has ls 6 [(0, zR Ω 101), (1, zJ x1), (3, zI x3), (5, zI x_10)] → (f_X10_type_J55 (f_X10_type_J56 x_10 (f_X10_type_L18 x1 x3 (f_X10_type_K64 x1 x3) n18))) μ_15 = some (r, μ') → W p l e (zrm 1) s m args below meth c H locs 0 0 Q (F0 m 55 ls []) := by
            intro μ_15 H locs ls  X hl h
            unfold f_X10_type_J55 at h
            refine z_iconst C dX10_type_55 ?_
            exact K56 0 μ_15 _ _ _ ⟨by decide, by decide⟩ X (lv_sub hl [0, 1, 2, 3] rfl) h
          refine z_ifeq C gx_9 (tgt := 55) dX10_type_26 (by decide) (fun hc26 => ?_) (fun hc26 => ?_)
          · rw [if_pos hc26] at h
            exact K55 μ_11 _ _ _ X (lv_sub hl [0, 1, 2, 4] rfl) h
          · rw [if_neg hc26] at h
            refine lv_lload_n C.1 C.2.1 dX10_type_29 rfl (lv_at hl 1 rfl) ?_
            refine z_bipush C dX10_type_30 (by decide) ?_
            refine lv_iload C.1 C.2.1 dX10_type_32 (lv_at hl 4 rfl) ?_
            refine z_imul C dX10_type_34 ?_
            refine z_lshr C dX10_type_35 ?_
            refine z_ldc2 C 255 kw_1240 (by decide) dX10_type_36 ?_
            refine z_land C dX10_type_39 ?_
            refine z_l2i C dX10_type_40 ?_
            refine z_bipush C dX10_type_41 (by decide) ?_
            refine z_bipush C dX10_type_43 (by decide) ?_
            refine z_callS1 C X (As := [zI (zw (zland (zlshr x1 (zw (8 * x_10))) 255)), zI 32, zI 126]) (M_X10_in hI μ_11 (zw (zland (zlshr x1 (zw (8 * x_10))) 255)) 32 126 (Rg.w _) ⟨by decide, by decide⟩ ⟨by decide, by decide⟩) zc_X10_in kw_1217 (zroom (by decide) (by decide)) rfl hl.1 rfl (Nat.le_of_ble_eq_true rfl) dX10_type_45 ⟨Nat.zero_le _, Nat.zero_le _⟩ (fun H locs g_45 X => ?_)
            refine z_ifeq C (rgz g_45) (tgt := 55) dX10_type_48 (by decide) (fun hc48 => ?_) (fun hc48 => ?_)
            · rw [if_pos hc48] at h
              exact K55 μ_11 _ _ _ X (lv_sub hl [0, 1, 2, 4] rfl) h
            · rw [if_neg hc48] at h
              refine z_iconst C dX10_type_51 ?_
              refine lv_goto (tgt := 56) C.1 C.2.1 dX10_type_52 (by decide) ?_
              exact K56 1 μ_11 _ _ _ ⟨by decide, by decide⟩ X (lv_sub hl [0, 1, 2, 4] rfl) h
    exact L18 zfu 1 0 μ _ _ _ ⟨by decide, by decide⟩ ⟨by decide, by decide⟩ X (lv_sub hl [2, 3, 4, 1, 0] rfl) h
  · rw [if_pos hc7] at h
    refine z_iconst C dX10_type_10 ?_
    obtain ⟨rfl, rfl⟩ := Prod.mk.inj (Option.some.inj h)
    exact rt X ⟨by decide, by decide⟩ dX10_type_11
theorem zc_X10_type : zcal yX10_type cX10_type 6 (some Jvm.ClassFile.FieldType.int) RX10 2 := ⟨⟨kw_1239, kw_1237, kw_1238, kw_12⟩, rfl, by decide, by decide, by decide +kernel⟩

def f_X10_pass_L0 : Nat → zMem → Option zMem
  | 0, _ => none
  | n + 1, μ_1 =>
    if (μ_1 101 10) < (μ_1 101 9) then
      chk ((0 : Int) ≤ (μ_1 101 10) ∧ (μ_1 101 10) < 120) <|
      if (μ_1 110 (μ_1 101 10)) = 32 then
        zlet (zup μ_1 101 10 (zw ((μ_1 101 10) + 1))) fun μ_2 =>
        (f_X10_pass_L0 n) μ_2
      else
        some μ_1
    else
      some μ_1
def f_X10_pass (μ : zMem) : Option zMem :=
  (f_X10_pass_L0) zfu μ
set_option maxHeartbeats 4000000 in
set_option maxRecDepth 100000 in
theorem M_X10_pass {l : Launch} {Ω : zO} (hI : zIm Ω) (μ : zMem) {μ' : zMem} (h : f_X10_pass μ = some μ') : XMet l yX10_pass cX10_pass 1 none 0 Ω [zR Ω 101] μ none True μ' := by
  refine XMet.ofV (by decide) (Nat.le_of_ble_eq_true rfl) ?_
  intro p e s m args below meth c ls Q C rt X hl
  have C : zC p s m args c cX10_pass RX10 1 Ω := C
  have hl : lv_has ls 1 [(0, zR Ω 101)] := hl
  unfold f_X10_pass at h
  skip
  have L0 : ∀ (n0 : Nat) (μ_1 : zMem) (H : Heap) (locs : List Loc) (ls : Array Slot), zX Ω μ_1 (zfree Ω) s.heap H locs → lv_has ls 1 [(0, zR Ω 101)] → (f_X10_pass_L0 n0 μ_1) = some μ' → W p l e (zrm 0) s m args below meth c H locs 0 0 Q (F0 m 0 ls []) := by
    intro n0
    induction n0 with
    | zero =>
      intro μ_1 H locs ls _ _ h
      cases h
    | succ n0 ih0 =>
      intro μ_1 H locs ls  X hl h
      unfold f_X10_pass_L0 at h
      refine lv_aload_n C.1 C.2.1 dX10_pass_0 rfl (lv_at hl 0 rfl) ?_
      have g_1 : Rg (μ_1 101 10) := zrgf0 (ci := 10) X.2.2.2 (hI.1 101 (by decide)) rfl 10 rfl
      refine z_get C X zk10 (hI.1 101 (by decide)) rfl 10 (by decide) kw_1042 (zI (μ_1 101 10)) rfl dX10_pass_1 ?_
      refine lv_aload_n C.1 C.2.1 dX10_pass_4 rfl (lv_at hl 0 rfl) ?_
      have g_5 : Rg (μ_1 101 9) := zrgf0 (ci := 10) X.2.2.2 (hI.1 101 (by decide)) rfl 9 rfl
      refine z_get C X zk10 (hI.1 101 (by decide)) rfl 9 (by decide) kw_1041 (zI (μ_1 101 9)) rfl dX10_pass_5 ?_
      refine z_icmpge C g_1 g_5 (tgt := 38) dX10_pass_8 (by decide) (fun hc8 => ?_) (fun hc8 => ?_)
      · rw [if_neg hc8] at h
        obtain rfl := Option.some.inj h
        exact rt X dX10_pass_38
      · rw [if_pos hc8] at h
        refine lv_aload_n C.1 C.2.1 dX10_pass_11 rfl (lv_at hl 0 rfl) ?_
        refine z_get C X zk10 (hI.1 101 (by decide)) rfl 8 (by decide) kw_1040 (zR Ω 110) (zfvF (off := 9) X.2.2.2 (hI.1 101 (by decide)) hI.2 rfl rfl (by decide)) dX10_pass_12 ?_
        refine lv_aload_n C.1 C.2.1 dX10_pass_15 rfl (lv_at hl 0 rfl) ?_
        have g_16 : Rg (μ_1 101 10) := zrgf0 (ci := 10) X.2.2.2 (hI.1 101 (by decide)) rfl 10 rfl
        refine z_get C X zk10 (hI.1 101 (by decide)) rfl 10 (by decide) kw_1042 (zI (μ_1 101 10)) rfl dX10_pass_16 ?_
        obtain ⟨hc19, h⟩ := chk_some h
        have g_19 : Rg (μ_1 110 (μ_1 101 10)) := zrg1 X.2.2.2 (hI.1 110 (by decide)) rfl
        refine z_iald C X (hI.1 110 (by decide)) rfl hc19 dX10_pass_19 ?_
        refine z_bipush C dX10_pass_20 (by decide) ?_
        refine z_icmpne C g_19 ⟨by decide, by decide⟩ (tgt := 38) dX10_pass_22 (by decide) (fun hc22 => ?_) (fun hc22 => ?_)
        · rw [if_neg hc22] at h
          obtain rfl := Option.some.inj h
          exact rt X dX10_pass_38
        · rw [if_pos hc22] at h
          refine lv_aload_n C.1 C.2.1 dX10_pass_25 rfl (lv_at hl 0 rfl) ?_
          refine lv_dup C.1 C.2.1 dX10_pass_26 rfl ?_
          have g_27 : Rg (μ_1 101 10) := zrgf0 (ci := 10) X.2.2.2 (hI.1 101 (by decide)) rfl 10 rfl
          refine z_get C X zk10 (hI.1 101 (by decide)) rfl 10 (by decide) kw_1042 (zI (μ_1 101 10)) rfl dX10_pass_27 ?_
          refine z_iconst C dX10_pass_30 ?_
          refine z_iadd C dX10_pass_31 ?_
          refine zlet_elim h (fun μ_2 em h => ?_)
          refine z_putI C X zk10 (hI.1 101 (by decide)) rfl 10 (by decide) kw_1042 rfl rfl rfl rfl (Rg.w _) em dX10_pass_32 (fun H locs X => ?_)
          clear em
          refine lv_goto (tgt := 0) C.1 C.2.1 dX10_pass_35 (by decide) ?_
          exact ih0 μ_2 _ _ _ X (lv_sub hl [0] rfl) h
  exact L0 zfu μ _ _ _ X (lv_sub hl [0] rfl) h
theorem zc_X10_pass : zcal yX10_pass cX10_pass 1 none RX10 0 := ⟨⟨kw_1256, kw_1255, kp_57, kw_12⟩, rfl, by decide, by decide, by decide +kernel⟩

def f_X10_now (μ : zMem) : Option Int :=
  if (μ 101 10) < (μ 101 9) then
    chk ((0 : Int) ≤ (μ 101 10) ∧ (μ 101 10) < 120) <|
    some (μ 110 (μ 101 10))
  else
    some 0
set_option maxHeartbeats 4000000 in
set_option maxRecDepth 100000 in
theorem M_X10_now {l : Launch} {Ω : zO} (hI : zIm Ω) (μ : zMem) {r : Int} (h : f_X10_now μ = some r) : XMet l yX10_now cX10_now 1 (some Jvm.ClassFile.FieldType.int) 0 Ω [zR Ω 101] μ (some (zI r)) (Rg r) μ := by
  refine XMet.ofI (by decide) (Nat.le_of_ble_eq_true rfl) ?_
  intro p e s m args below meth c ls Q C rt X hl
  have C : zC p s m args c cX10_now RX10 1 Ω := C
  have hl : lv_has ls 1 [(0, zR Ω 101)] := hl
  unfold f_X10_now at h
  skip
  refine lv_aload_n C.1 C.2.1 dX10_now_0 rfl (lv_at hl 0 rfl) ?_
  have g_1 : Rg (μ 101 10) := zrgf0 (ci := 10) X.2.2.2 (hI.1 101 (by decide)) rfl 10 rfl
  refine z_get C X zk10 (hI.1 101 (by decide)) rfl 10 (by decide) kw_1042 (zI (μ 101 10)) rfl dX10_now_1 ?_
  refine lv_aload_n C.1 C.2.1 dX10_now_4 rfl (lv_at hl 0 rfl) ?_
  have g_5 : Rg (μ 101 9) := zrgf0 (ci := 10) X.2.2.2 (hI.1 101 (by decide)) rfl 9 rfl
  refine z_get C X zk10 (hI.1 101 (by decide)) rfl 9 (by decide) kw_1041 (zI (μ 101 9)) rfl dX10_now_5 ?_
  refine z_icmpge C g_1 g_5 (tgt := 23) dX10_now_8 (by decide) (fun hc8 => ?_) (fun hc8 => ?_)
  · rw [if_neg hc8] at h
    refine z_iconst C dX10_now_23 ?_
    obtain rfl := Option.some.inj h
    exact rt X ⟨by decide, by decide⟩ dX10_now_24
  · rw [if_pos hc8] at h
    refine lv_aload_n C.1 C.2.1 dX10_now_11 rfl (lv_at hl 0 rfl) ?_
    refine z_get C X zk10 (hI.1 101 (by decide)) rfl 8 (by decide) kw_1040 (zR Ω 110) (zfvF (off := 9) X.2.2.2 (hI.1 101 (by decide)) hI.2 rfl rfl (by decide)) dX10_now_12 ?_
    refine lv_aload_n C.1 C.2.1 dX10_now_15 rfl (lv_at hl 0 rfl) ?_
    have g_16 : Rg (μ 101 10) := zrgf0 (ci := 10) X.2.2.2 (hI.1 101 (by decide)) rfl 10 rfl
    refine z_get C X zk10 (hI.1 101 (by decide)) rfl 10 (by decide) kw_1042 (zI (μ 101 10)) rfl dX10_now_16 ?_
    obtain ⟨hc19, h⟩ := chk_some h
    have g_19 : Rg (μ 110 (μ 101 10)) := zrg1 X.2.2.2 (hI.1 110 (by decide)) rfl
    refine z_iald C X (hI.1 110 (by decide)) rfl hc19 dX10_now_19 ?_
    refine lv_goto (tgt := 24) C.1 C.2.1 dX10_now_20 (by decide) ?_
    obtain rfl := Option.some.inj h
    exact rt X g_19 dX10_now_24
theorem zc_X10_now : zcal yX10_now cX10_now 1 (some Jvm.ClassFile.FieldType.int) RX10 0 := ⟨⟨kw_1260, kw_1259, kp_58, kw_12⟩, rfl, by decide, by decide, by decide +kernel⟩

def f_X10_fails (x1 : Int) (μ : zMem) : Option (Int × zMem) :=
  zlet (zup μ 101 11 (zw ((-20) - x1))) fun μ_1 =>
  some (0, μ_1)
set_option maxHeartbeats 4000000 in
set_option maxRecDepth 100000 in
theorem M_X10_fails {l : Launch} {Ω : zO} (hI : zIm Ω) (μ : zMem) (x1 : Int) {r : Int} {μ' : zMem} (gx1 : Rg x1) (h : f_X10_fails x1 μ = some (r, μ')) : XMet l yX10_fails cX10_fails 2 (some Jvm.ClassFile.FieldType.boolean) 0 Ω [zR Ω 101, zI x1] μ (some (zI r)) (0 ≤ r ∧ r ≤ 1) μ' := by
  refine XMet.ofZ (by decide) (Nat.le_of_ble_eq_true rfl) ?_
  intro p e s m args below meth c ls Q C rt X hl
  have C : zC p s m args c cX10_fails RX10 2 Ω := C
  have hl : lv_has ls 2 [(0, zR Ω 101), (1, zI x1)] := hl
  unfold f_X10_fails at h
  skip
  refine lv_aload_n C.1 C.2.1 dX10_fails_0 rfl (lv_at hl 0 rfl) ?_
  refine z_bipush C dX10_fails_1 (by decide) ?_
  refine lv_iload_n C.1 C.2.1 dX10_fails_3 rfl (lv_at hl 1 rfl) ?_
  refine z_isub C dX10_fails_4 ?_
  refine zlet_elim h (fun μ_1 em h => ?_)
  refine z_putI C X zk10 (hI.1 101 (by decide)) rfl 11 (by decide) kw_1043 rfl rfl rfl rfl (Rg.w _) em dX10_fails_5 (fun H locs X => ?_)
  clear em
  refine z_iconst C dX10_fails_8 ?_
  obtain ⟨rfl, rfl⟩ := Prod.mk.inj (Option.some.inj h)
  exact rt X ⟨by decide, by decide⟩ dX10_fails_9
theorem zc_X10_fails : zcal yX10_fails cX10_fails 2 (some Jvm.ClassFile.FieldType.boolean) RX10 1 := ⟨⟨kw_1272, kw_1271, kp_61, kw_12⟩, rfl, by decide, by decide, by decide +kernel⟩

def f_X10_readNumber_J97 (x_2 : Int) (μ_5 : zMem) : Option (Int × zMem) :=
  bnd2 (f_X10_fails x_2 μ_5) fun x_6 μ_7 =>
  if x_6 = 0 then
    some (0, μ_7)
  else
    some (1, μ_7)
def f_X10_readNumber_K77 (x1 : Int) (x2 : Int) (x_2 : Int) (μ_4 : zMem) : Option (Int × zMem) :=
  if (μ_4 101 10) ≤ x_2 then
    (f_X10_readNumber_J97 x_2) μ_4
  else
    if (f_X10_in (μ_4 101 12) x1 x2) = 0 then
      (f_X10_readNumber_J97 x_2) μ_4
    else
      some (1, μ_4)
def f_X10_readNumber_J61 (g14 : zMem → Option (Int × zMem)) (x_10 : Int) (μ_11 : zMem) : Option (Int × zMem) :=
  zlet (zup μ_11 101 12 x_10) fun μ_12 =>
  zlet (zup μ_12 101 10 (zw ((μ_12 101 10) + 1))) fun μ_13 =>
  g14 μ_13
def f_X10_readNumber_L14 (g77 : zMem → Option (Int × zMem)) : Nat → zMem → Option (Int × zMem)
  | 0, _ => none
  | n + 1, μ_8 =>
    bnd (f_X10_now μ_8) fun x_9 =>
    if (f_X10_in x_9 48 57) = 0 then
      g77 μ_8
    else
      if (μ_8 101 12) ≤ 1000 then
        bnd (f_X10_now μ_8) fun x_14 =>
        (f_X10_readNumber_J61 (f_X10_readNumber_L14 g77 n)) (zw ((zw ((zw (10 * (μ_8 101 12))) + x_14)) - 48)) μ_8
      else
        (f_X10_readNumber_J61 (f_X10_readNumber_L14 g77 n)) (μ_8 101 12) μ_8
def f_X10_readNumber (x1 : Int) (x2 : Int) (μ : zMem) : Option (Int × zMem) :=
  bnd (f_X10_pass μ) fun μ_1 =>
  zlet ((μ_1 101 10)) fun x_2 =>
  zlet (zup μ_1 101 12 0) fun μ_3 =>
  (f_X10_readNumber_L14 (f_X10_readNumber_K77 x1 x2 x_2)) zfu μ_3
set_option maxHeartbeats 4000000 in
set_option maxRecDepth 100000 in
theorem M_X10_readNumber {l : Launch} {Ω : zO} (hI : zIm Ω) (μ : zMem) (x1 : Int) (x2 : Int) {r : Int} {μ' : zMem} (gx1 : Rg x1) (gx2 : Rg x2) (h : f_X10_readNumber x1 x2 μ = some (r, μ')) : XMet l yX10_readNumber cX10_readNumber 4 (some Jvm.ClassFile.FieldType.boolean) 1 Ω [zR Ω 101, zI x1, zI x2] μ (some (zI r)) (0 ≤ r ∧ r ≤ 1) μ' := by
  refine XMet.ofZ (by decide) (Nat.le_of_ble_eq_true rfl) ?_
  intro p e s m args below meth c ls Q C rt X hl
  have C : zC p s m args c cX10_readNumber RX10 4 Ω := C
  have hl : lv_has ls 4 [(0, zR Ω 101), (1, zI x1), (2, zI x2)] := hl
  unfold f_X10_readNumber at h
  skip
  refine lv_aload_n C.1 C.2.1 dX10_readNumber_0 rfl (lv_at hl 0 rfl) ?_
  obtain ⟨μ_1, hq1, h⟩ := bnd_some h
  refine z_callV0 C X zk10 (hI.1 101 (by decide)) rfl (As := []) (M_X10_pass hI μ hq1) zc_X10_pass kw_1253 (zroom (by decide) (by decide)) rfl hl.1 rfl (Nat.le_of_ble_eq_true rfl) dX10_readNumber_1 ⟨Nat.zero_le _, Nat.zero_le _⟩ (fun H locs g_1 X => ?_)
  refine lv_aload_n C.1 C.2.1 dX10_readNumber_4 rfl (lv_at hl 0 rfl) ?_
  have g_5 : Rg (μ_1 101 10) := zrgf0 (ci := 10) X.2.2.2 (hI.1 101 (by decide)) rfl 10 rfl
  refine z_get C X zk10 (hI.1 101 (by decide)) rfl 10 (by decide) kw_1042 (zI (μ_1 101 10)) rfl dX10_readNumber_5 ?_
  refine zlet_elim h (fun x_2 ex_2 h => ?_)
  have gx_2 : Rg x_2 := by rw [ex_2]; exact g_5
  refine z_istore_n C ex_2 dX10_readNumber_8 rfl hl (by decide) (lv' := [(3, zI x_2), (0, zR Ω 101), (1, zI x1), (2, zI x2)]) rfl (fun ls hl => ?_)
  clear ex_2
  refine lv_aload_n C.1 C.2.1 dX10_readNumber_9 rfl (lv_at hl 1 rfl) ?_
  refine z_iconst C dX10_readNumber_10 ?_
  refine zlet_elim h (fun μ_3 em h => ?_)
  refine z_putI C X zk10 (hI.1 101 (by decide)) rfl 12 (by decide) kw_1044 rfl rfl rfl rfl ⟨by decide, by decide⟩ em dX10_readNumber_11 (fun H locs X => ?_)
  clear em
  have K77 : ∀ (μ_4 : zMem) (H : Heap) (locs : List Loc) (ls : Array Slot), zX Ω μ_4 (zfree Ω) s.heap H locs → lv_has ls 4 [(0, zR Ω 101), (1, zI x1), (2, zI x2), (3, zI x_2)] → (f_X10_readNumber_K77 x1 x2 x_2) μ_4 = some (r, μ') → W p l e (zrm 1) s m args below meth c H locs 0 0 Q (F0 m 77 ls []) := by
    intro μ_4 H locs ls  X hl h
    unfold f_X10_readNumber_K77 at h
    refine lv_aload_n C.1 C.2.1 dX10_readNumber_77 rfl (lv_at hl 0 rfl) ?_
    have g_78 : Rg (μ_4 101 10) := zrgf0 (ci := 10) X.2.2.2 (hI.1 101 (by decide)) rfl 10 rfl
    refine z_get C X zk10 (hI.1 101 (by decide)) rfl 10 (by decide) kw_1042 (zI (μ_4 101 10)) rfl dX10_readNumber_78 ?_
    refine lv_iload_n C.1 C.2.1 dX10_readNumber_81 rfl (lv_at hl 3 rfl) ?_
    have K97 : ∀ (μ_5 : zMem) (H : Heap) (locs : List Loc) (ls : Array Slot), zX Ω μ_5 (zfree Ω) s.heap H locs → lv_has ls 4 [(0, zR Ω 101), (3, zI x_2)] → (f_X10_readNumber_J97 x_2) μ_5 = some (r, μ') → W p l e (zrm 1) s m args below meth c H locs 0 0 Q (F0 m 97 ls []) := by
      intro μ_5 H locs ls  X hl h
      unfold f_X10_readNumber_J97 at h
      refine lv_aload_n C.1 C.2.1 dX10_readNumber_97 rfl (lv_at hl 0 rfl) ?_
      refine lv_iload_n C.1 C.2.1 dX10_readNumber_98 rfl (lv_at hl 1 rfl) ?_
      obtain ⟨x_6, μ_7, hq99, h⟩ := bnd2_some h
      refine z_callV1 C X zk10 (hI.1 101 (by decide)) rfl (As := [zI x_2]) (M_X10_fails hI μ_5 x_2 gx_2 hq99) zc_X10_fails kw_1269 (zroom (by decide) (by decide)) rfl hl.1 rfl (Nat.le_of_ble_eq_true rfl) dX10_readNumber_99 ⟨Nat.zero_le _, Nat.zero_le _⟩ (fun H locs g_99 X => ?_)
      refine z_ifeq C (rgz g_99) (tgt := 109) dX10_readNumber_102 (by decide) (fun hc102 => ?_) (fun hc102 => ?_)
      · rw [if_pos hc102] at h
        refine z_iconst C dX10_readNumber_109 ?_
        obtain ⟨rfl, rfl⟩ := Prod.mk.inj (Option.some.inj h)
        exact rt X ⟨by decide, by decide⟩ dX10_readNumber_110
      · rw [if_neg hc102] at h
        refine z_iconst C dX10_readNumber_105 ?_
        refine lv_goto (tgt := 110) C.1 C.2.1 dX10_readNumber_106 (by decide) ?_
        obtain ⟨rfl, rfl⟩ := Prod.mk.inj (Option.some.inj h)
        exact rt X ⟨by decide, by decide⟩ dX10_readNumber_110
    refine z_icmple C g_78 gx_2 (tgt := 97) dX10_readNumber_82 (by decide) (fun hc82 => ?_) (fun hc82 => ?_)
    · rw [if_pos hc82] at h
      exact K97 μ_4 _ _ _ X (lv_sub hl [0, 3] rfl) h
    · rw [if_neg hc82] at h
      refine lv_aload_n C.1 C.2.1 dX10_readNumber_85 rfl (lv_at hl 0 rfl) ?_
      have g_86 : Rg (μ_4 101 12) := zrgf0 (ci := 10) X.2.2.2 (hI.1 101 (by decide)) rfl 12 rfl
      refine z_get C X zk10 (hI.1 101 (by decide)) rfl 12 (by decide) kw_1044 (zI (μ_4 101 12)) rfl dX10_readNumber_86 ?_
      refine lv_iload_n C.1 C.2.1 dX10_readNumber_89 rfl (lv_at hl 1 rfl) ?_
      refine lv_iload_n C.1 C.2.1 dX10_readNumber_90 rfl (lv_at hl 2 rfl) ?_
      refine z_callS1 C X (As := [zI (μ_4 101 12), zI x1, zI x2]) (M_X10_in hI μ_4 (μ_4 101 12) x1 x2 g_86 gx1 gx2) zc_X10_in kw_1217 (zroom (by decide) (by decide)) rfl hl.1 rfl (Nat.le_of_ble_eq_true rfl) dX10_readNumber_91 ⟨Nat.zero_le _, Nat.zero_le _⟩ (fun H locs g_91 X => ?_)
      refine z_ifne C (rgz g_91) (tgt := 105) dX10_readNumber_94 (by decide) (fun hc94 => ?_) (fun hc94 => ?_)
      · rw [if_neg hc94] at h
        refine z_iconst C dX10_readNumber_105 ?_
        refine lv_goto (tgt := 110) C.1 C.2.1 dX10_readNumber_106 (by decide) ?_
        obtain ⟨rfl, rfl⟩ := Prod.mk.inj (Option.some.inj h)
        exact rt X ⟨by decide, by decide⟩ dX10_readNumber_110
      · rw [if_pos hc94] at h
        exact K97 μ_4 _ _ _ X (lv_sub hl [0, 3] rfl) h
  have L14 : ∀ (n14 : Nat) (μ_8 : zMem) (H : Heap) (locs : List Loc) (ls : Array Slot), zX Ω μ_8 (zfree Ω) s.heap H locs → lv_has ls 4 [(0, zR Ω 101), (1, zI x1), (2, zI x2), (3, zI x_2)] → (f_X10_readNumber_L14 (f_X10_readNumber_K77 x1 x2 x_2) n14 μ_8) = some (r, μ') → W p l e (zrm 1) s m args below meth c H locs 0 0 Q (F0 m 14 ls []) := by
    intro n14
    induction n14 with
    | zero =>
      intro μ_8 H locs ls _ _ h
      cases h
    | succ n14 ih14 =>
      intro μ_8 H locs ls  X hl h
      unfold f_X10_readNumber_L14 at h
      refine lv_aload_n C.1 C.2.1 dX10_readNumber_14 rfl (lv_at hl 0 rfl) ?_
      obtain ⟨x_9, hq15, h⟩ := bnd_some h
      refine z_callV1 C X zk10 (hI.1 101 (by decide)) rfl (As := []) (M_X10_now hI μ_8 hq15) zc_X10_now kw_1257 (zroom (by decide) (by decide)) rfl hl.1 rfl (Nat.le_of_ble_eq_true rfl) dX10_readNumber_15 ⟨Nat.zero_le _, Nat.zero_le _⟩ (fun H locs g_15 X => ?_)
      refine z_bipush C dX10_readNumber_18 (by decide) ?_
      refine z_bipush C dX10_readNumber_20 (by decide) ?_
      refine z_callS1 C X (As := [zI x_9, zI 48, zI 57]) (M_X10_in hI μ_8 x_9 48 57 g_15 ⟨by decide, by decide⟩ ⟨by decide, by decide⟩) zc_X10_in kw_1217 (zroom (by decide) (by decide)) rfl hl.1 rfl (Nat.le_of_ble_eq_true rfl) dX10_readNumber_22 ⟨Nat.zero_le _, Nat.zero_le _⟩ (fun H locs g_22 X => ?_)
      refine z_ifeq C (rgz g_22) (tgt := 77) dX10_readNumber_25 (by decide) (fun hc25 => ?_) (fun hc25 => ?_)
      · rw [if_pos hc25] at h
        exact K77 μ_8 _ _ _ X (lv_sub hl [0, 1, 2, 3] rfl) h
      · rw [if_neg hc25] at h
        refine lv_aload_n C.1 C.2.1 dX10_readNumber_28 rfl (lv_at hl 0 rfl) ?_
        refine lv_aload_n C.1 C.2.1 dX10_readNumber_29 rfl (lv_at hl 0 rfl) ?_
        have g_30 : Rg (μ_8 101 12) := zrgf0 (ci := 10) X.2.2.2 (hI.1 101 (by decide)) rfl 12 rfl
        refine z_get C X zk10 (hI.1 101 (by decide)) rfl 12 (by decide) kw_1044 (zI (μ_8 101 12)) rfl dX10_readNumber_30 ?_
        refine z_sipush C dX10_readNumber_33 (by decide) ?_
        have K61 : ∀ (x_10 : Int) (μ_11 : zMem) (H : Heap) (locs : List Loc) (ls : Array Slot), Rg x_10 → zX Ω μ_11 (zfree Ω) s.heap H locs → lv_has ls 4 [(0, zR Ω 101), (1, zI x1), (2, zI x2), (3, zI x_2)] → (f_X10_readNumber_J61 (f_X10_readNumber_L14 (f_X10_readNumber_K77 x1 x2 x_2) n14)) x_10 μ_11 = some (r, μ') → W p l e (zrm 1) s m args below meth c H locs 0 0 Q (F0 m 61 ls [zI x_10, zR Ω 101]) := by
          intro x_10 μ_11 H locs ls gx_10 X hl h
          unfold f_X10_readNumber_J61 at h
          refine zlet_elim h (fun μ_12 em h => ?_)
          refine z_putI C X zk10 (hI.1 101 (by decide)) rfl 12 (by decide) kw_1044 rfl rfl rfl rfl gx_10 em dX10_readNumber_61 (fun H locs X => ?_)
          clear em
          refine lv_aload_n C.1 C.2.1 dX10_readNumber_64 rfl (lv_at hl 0 rfl) ?_
          refine lv_dup C.1 C.2.1 dX10_readNumber_65 rfl ?_
          have g_66 : Rg (μ_12 101 10) := zrgf0 (ci := 10) X.2.2.2 (hI.1 101 (by decide)) rfl 10 rfl
          refine z_get C X zk10 (hI.1 101 (by decide)) rfl 10 (by decide) kw_1042 (zI (μ_12 101 10)) rfl dX10_readNumber_66 ?_
          refine z_iconst C dX10_readNumber_69 ?_
          refine z_iadd C dX10_readNumber_70 ?_
          refine zlet_elim h (fun μ_13 em h => ?_)
          refine z_putI C X zk10 (hI.1 101 (by decide)) rfl 10 (by decide) kw_1042 rfl rfl rfl rfl (Rg.w _) em dX10_readNumber_71 (fun H locs X => ?_)
          clear em
          refine lv_goto (tgt := 14) C.1 C.2.1 dX10_readNumber_74 (by decide) ?_
          exact ih14 μ_13 _ _ _ X (lv_sub hl [0, 1, 2, 3] rfl) h
        refine z_icmple C g_30 ⟨by decide, by decide⟩ (tgt := 46) dX10_readNumber_36 (by decide) (fun hc36 => ?_) (fun hc36 => ?_)
        · rw [if_pos hc36] at h
          refine z_bipush C dX10_readNumber_46 (by decide) ?_
          refine lv_aload_n C.1 C.2.1 dX10_readNumber_48 rfl (lv_at hl 0 rfl) ?_
          have g_49 : Rg (μ_8 101 12) := zrgf0 (ci := 10) X.2.2.2 (hI.1 101 (by decide)) rfl 12 rfl
          refine z_get C X zk10 (hI.1 101 (by decide)) rfl 12 (by decide) kw_1044 (zI (μ_8 101 12)) rfl dX10_readNumber_49 ?_
          refine z_imul C dX10_readNumber_52 ?_
          refine lv_aload_n C.1 C.2.1 dX10_readNumber_53 rfl (lv_at hl 0 rfl) ?_
          obtain ⟨x_14, hq54, h⟩ := bnd_some h
          refine z_callV1 C X zk10 (hI.1 101 (by decide)) rfl (As := []) (M_X10_now hI μ_8 hq54) zc_X10_now kw_1257 (zroom (by decide) (by decide)) rfl hl.1 rfl (Nat.le_of_ble_eq_true rfl) dX10_readNumber_54 ⟨Nat.zero_le _, Nat.zero_le _⟩ (fun H locs g_54 X => ?_)
          refine z_iadd C dX10_readNumber_57 ?_
          refine z_bipush C dX10_readNumber_58 (by decide) ?_
          refine z_isub C dX10_readNumber_60 ?_
          exact K61 (zw ((zw ((zw (10 * (μ_8 101 12))) + x_14)) - 48)) μ_8 _ _ _ (Rg.w _) X (lv_sub hl [0, 1, 2, 3] rfl) h
        · rw [if_neg hc36] at h
          refine lv_aload_n C.1 C.2.1 dX10_readNumber_39 rfl (lv_at hl 0 rfl) ?_
          have g_40 : Rg (μ_8 101 12) := zrgf0 (ci := 10) X.2.2.2 (hI.1 101 (by decide)) rfl 12 rfl
          refine z_get C X zk10 (hI.1 101 (by decide)) rfl 12 (by decide) kw_1044 (zI (μ_8 101 12)) rfl dX10_readNumber_40 ?_
          refine lv_goto (tgt := 61) C.1 C.2.1 dX10_readNumber_43 (by decide) ?_
          exact K61 (μ_8 101 12) μ_8 _ _ _ g_40 X (lv_sub hl [0, 1, 2, 3] rfl) h
  exact L14 zfu μ_3 _ _ _ X (lv_sub hl [1, 2, 3, 0] rfl) h
theorem zc_X10_readNumber : zcal yX10_readNumber cX10_readNumber 4 (some Jvm.ClassFile.FieldType.boolean) RX10 2 := ⟨⟨kw_1292, kw_1291, kp_65, kw_12⟩, rfl, by decide, by decide, by decide +kernel⟩

def f_X10_readWord_K157 (μ_3 : zMem) : Option (Int × zMem) :=
  bnd2 (f_X10_fails (μ_3 101 10) μ_3) fun x_4 μ_5 =>
  some (x_4, μ_5)
def f_X10_readWord_J166 (x_14 : Int) (g9 : zMem → Option (Int × zMem)) (μ_18 : zMem) : Option (Int × zMem) :=
  chk ((0 : Int) ≤ (μ_18 101 13) ∧ (μ_18 101 13) < 17) <|
  zlet (zup μ_18 116 (μ_18 101 13) x_14) fun μ_19 =>
  zlet (zup μ_19 101 13 (zw ((μ_19 101 13) + 1))) fun μ_20 =>
  zlet (zup μ_20 101 10 (zw ((μ_20 101 10) + 1))) fun μ_21 =>
  bnd (f_X10_pass μ_21) fun μ_22 =>
  g9 μ_22
def f_X10_readWord_J117 (x1 : Int) (x_14 : Int) (g157 : zMem → Option (Int × zMem)) (g9 : zMem → Option (Int × zMem)) (x_16 : Int) (μ_17 : zMem) : Option (Int × zMem) :=
  if x_16 = 0 then
    g157 μ_17
  else
    if (μ_17 101 13) ≤ 0 then
      (f_X10_readWord_J166 x_14 g9) μ_17
    else
      chk ((0 : Int) ≤ (zw ((μ_17 101 13) - 1)) ∧ (zw ((μ_17 101 13) - 1)) < 17) <|
      bnd (f_X10_toOf x1 (μ_17 116 (zw ((μ_17 101 13) - 1))) μ_17) fun x_23 =>
      bnd (f_X10_fromOf x1 x_14 μ_17) fun x_24 =>
      if x_23 = x_24 then
        (f_X10_readWord_J166 x_14 g9) μ_17
      else
        g157 μ_17
def f_X10_readWord_J116 (g117 : Int → zMem → Option (Int × zMem)) (μ_25 : zMem) : Option (Int × zMem) :=
  g117 0 μ_25
def f_X10_readWord_J91 (x1 : Int) (x2 : Int) (x_12 : Int) (g157 : zMem → Option (Int × zMem)) (g9 : zMem → Option (Int × zMem)) (x_14 : Int) (μ_15 : zMem) : Option (Int × zMem) :=
  chk ((0 : Int) ≤ x1 ∧ x1 < 3) <|
  if x_12 < (μ_15 103 x1) then
    if (μ_15 101 13) < x2 then
      (f_X10_readWord_J117 x1 x_14 g157 g9) 1 μ_15
    else
      (f_X10_readWord_J116 (f_X10_readWord_J117 x1 x_14 g157 g9)) μ_15
  else
    (f_X10_readWord_J116 (f_X10_readWord_J117 x1 x_14 g157 g9)) μ_15
def f_X10_readWord_J73 (x1 : Int) (x2 : Int) (x_10 : Int) (g157 : zMem → Option (Int × zMem)) (g9 : zMem → Option (Int × zMem)) (x_12 : Int) (μ_13 : zMem) : Option (Int × zMem) :=
  (f_X10_readWord_J91 x1 x2 x_12 g157 g9) (if x_10 = 0 then (zw ((zw (-x_12)) - 1)) else (zw (x_12 + 1))) μ_13
def f_X10_readWord_J51 (x1 : Int) (x2 : Int) (g157 : zMem → Option (Int × zMem)) (g9 : zMem → Option (Int × zMem)) (x_10 : Int) (μ_11 : zMem) : Option (Int × zMem) :=
  if x_10 = 0 then
    bnd (f_X10_now μ_11) fun x_26 =>
    (f_X10_readWord_J73 x1 x2 x_10 g157 g9) (zw (x_26 - 65)) μ_11
  else
    bnd (f_X10_now μ_11) fun x_27 =>
    (f_X10_readWord_J73 x1 x2 x_10 g157 g9) (zw (x_27 - 97)) μ_11
def f_X10_readWord_J37 (x1 : Int) (x2 : Int) (g157 : zMem → Option (Int × zMem)) (g9 : zMem → Option (Int × zMem)) (μ_8 : zMem) : Option (Int × zMem) :=
  bnd (f_X10_now μ_8) fun x_9 =>
  (f_X10_readWord_J51 x1 x2 g157 g9) (if x_9 < 97 then 0 else 1) μ_8
def f_X10_readWord_L9 (x1 : Int) (x2 : Int) (g157 : zMem → Option (Int × zMem)) : Nat → zMem → Option (Int × zMem)
  | 0, _ => none
  | n + 1, μ_6 =>
    bnd (f_X10_now μ_6) fun x_7 =>
    if (f_X10_in x_7 97 122) = 0 then
      bnd (f_X10_now μ_6) fun x_28 =>
      if (f_X10_in x_28 65 90) = 0 then
        some (1, μ_6)
      else
        (f_X10_readWord_J37 x1 x2 g157 (f_X10_readWord_L9 x1 x2 g157 n)) μ_6
    else
      (f_X10_readWord_J37 x1 x2 g157 (f_X10_readWord_L9 x1 x2 g157 n)) μ_6
def f_X10_readWord (x1 : Int) (x2 : Int) (μ : zMem) : Option (Int × zMem) :=
  zlet (zup μ 101 13 0) fun μ_1 =>
  bnd (f_X10_pass μ_1) fun μ_2 =>
  (f_X10_readWord_L9 x1 x2 f_X10_readWord_K157) zfu μ_2
set_option maxHeartbeats 4000000 in
set_option maxRecDepth 100000 in
theorem M_X10_readWord {l : Launch} {Ω : zO} (hI : zIm Ω) (μ : zMem) (x1 : Int) (x2 : Int) {r : Int} {μ' : zMem} (gx1 : Rg x1) (gx2 : Rg x2) (h : f_X10_readWord x1 x2 μ = some (r, μ')) : XMet l yX10_readWord cX10_readWord 7 (some Jvm.ClassFile.FieldType.boolean) 2 Ω [zR Ω 101, zI x1, zI x2] μ (some (zI r)) (0 ≤ r ∧ r ≤ 1) μ' := by
  refine XMet.ofZ (by decide) (Nat.le_of_ble_eq_true rfl) ?_
  intro p e s m args below meth c ls Q C rt X hl
  have C : zC p s m args c cX10_readWord RX10 7 Ω := C
  have hl : lv_has ls 7 [(0, zR Ω 101), (1, zI x1), (2, zI x2)] := hl
  unfold f_X10_readWord at h
  skip
  refine lv_aload_n C.1 C.2.1 dX10_readWord_0 rfl (lv_at hl 0 rfl) ?_
  refine z_iconst C dX10_readWord_1 ?_
  refine zlet_elim h (fun μ_1 em h => ?_)
  refine z_putI C X zk10 (hI.1 101 (by decide)) rfl 13 (by decide) kw_1045 rfl rfl rfl rfl ⟨by decide, by decide⟩ em dX10_readWord_2 (fun H locs X => ?_)
  clear em
  refine lv_aload_n C.1 C.2.1 dX10_readWord_5 rfl (lv_at hl 0 rfl) ?_
  obtain ⟨μ_2, hq6, h⟩ := bnd_some h
  refine z_callV0 C X zk10 (hI.1 101 (by decide)) rfl (As := []) (M_X10_pass hI μ_1 hq6) zc_X10_pass kw_1253 (zroom (by decide) (by decide)) rfl hl.1 rfl (Nat.le_of_ble_eq_true rfl) dX10_readWord_6 ⟨Nat.zero_le _, Nat.zero_le _⟩ (fun H locs g_6 X => ?_)
  have K157 : ∀ (μ_3 : zMem) (H : Heap) (locs : List Loc) (ls : Array Slot), zX Ω μ_3 (zfree Ω) s.heap H locs → lv_has ls 7 [(0, zR Ω 101)] → f_X10_readWord_K157 μ_3 = some (r, μ') → W p l e (zrm 2) s m args below meth c H locs 0 0 Q (F0 m 157 ls []) := by
    intro μ_3 H locs ls  X hl h
    unfold f_X10_readWord_K157 at h
    refine lv_aload_n C.1 C.2.1 dX10_readWord_157 rfl (lv_at hl 0 rfl) ?_
    refine lv_aload_n C.1 C.2.1 dX10_readWord_158 rfl (lv_at hl 0 rfl) ?_
    have g_159 : Rg (μ_3 101 10) := zrgf0 (ci := 10) X.2.2.2 (hI.1 101 (by decide)) rfl 10 rfl
    refine z_get C X zk10 (hI.1 101 (by decide)) rfl 10 (by decide) kw_1042 (zI (μ_3 101 10)) rfl dX10_readWord_159 ?_
    obtain ⟨x_4, μ_5, hq162, h⟩ := bnd2_some h
    refine z_callV1 C X zk10 (hI.1 101 (by decide)) rfl (As := [zI (μ_3 101 10)]) (M_X10_fails hI μ_3 (μ_3 101 10) g_159 hq162) zc_X10_fails kw_1269 (zroom (by decide) (by decide)) rfl hl.1 rfl (Nat.le_of_ble_eq_true rfl) dX10_readWord_162 ⟨Nat.zero_le _, Nat.zero_le _⟩ (fun H locs g_162 X => ?_)
    obtain ⟨rfl, rfl⟩ := Prod.mk.inj (Option.some.inj h)
    exact rt X g_162 dX10_readWord_165
  have L9 : ∀ (n9 : Nat) (μ_6 : zMem) (H : Heap) (locs : List Loc) (ls : Array Slot), zX Ω μ_6 (zfree Ω) s.heap H locs → lv_has ls 7 [(0, zR Ω 101), (1, zI x1), (2, zI x2)] → (f_X10_readWord_L9 x1 x2 f_X10_readWord_K157 n9 μ_6) = some (r, μ') → W p l e (zrm 2) s m args below meth c H locs 0 0 Q (F0 m 9 ls []) := by
    intro n9
    induction n9 with
    | zero =>
      intro μ_6 H locs ls _ _ h
      cases h
    | succ n9 ih9 =>
      intro μ_6 H locs ls  X hl h
      unfold f_X10_readWord_L9 at h
      refine lv_aload_n C.1 C.2.1 dX10_readWord_9 rfl (lv_at hl 0 rfl) ?_
      obtain ⟨x_7, hq10, h⟩ := bnd_some h
      refine z_callV1 C X zk10 (hI.1 101 (by decide)) rfl (As := []) (M_X10_now hI μ_6 hq10) zc_X10_now kw_1257 (zroom (by decide) (by decide)) rfl hl.1 rfl (Nat.le_of_ble_eq_true rfl) dX10_readWord_10 ⟨Nat.zero_le _, Nat.zero_le _⟩ (fun H locs g_10 X => ?_)
      refine z_bipush C dX10_readWord_13 (by decide) ?_
      refine z_bipush C dX10_readWord_15 (by decide) ?_
      refine z_callS1 C X (As := [zI x_7, zI 97, zI 122]) (M_X10_in hI μ_6 x_7 97 122 g_10 ⟨by decide, by decide⟩ ⟨by decide, by decide⟩) zc_X10_in kw_1217 (zroom (by decide) (by decide)) rfl hl.1 rfl (Nat.le_of_ble_eq_true rfl) dX10_readWord_17 ⟨Nat.zero_le _, Nat.zero_le _⟩ (fun H locs g_17 X => ?_)
      have K37 : ∀ (μ_8 : zMem) (H : Heap) (locs : List Loc) (ls : Array Slot), zX Ω μ_8 (zfree Ω) s.heap H locs → lv_has ls 7 [(0, zR Ω 101), (1, zI x1), (2, zI x2)] → (f_X10_readWord_J37 x1 x2 f_X10_readWord_K157 (f_X10_readWord_L9 x1 x2 f_X10_readWord_K157 n9)) μ_8 = some (r, μ') → W p l e (zrm 2) s m args below meth c H locs 0 0 Q (F0 m 37 ls []) := by
        intro μ_8 H locs ls  X hl h
        unfold f_X10_readWord_J37 at h
        refine lv_aload_n C.1 C.2.1 dX10_readWord_37 rfl (lv_at hl 0 rfl) ?_
        obtain ⟨x_9, hq38, h⟩ := bnd_some h
        refine z_callV1 C X zk10 (hI.1 101 (by decide)) rfl (As := []) (M_X10_now hI μ_8 hq38) zc_X10_now kw_1257 (zroom (by decide) (by decide)) rfl hl.1 rfl (Nat.le_of_ble_eq_true rfl) dX10_readWord_38 ⟨Nat.zero_le _, Nat.zero_le _⟩ (fun H locs g_38 X => ?_)
        refine z_bipush C dX10_readWord_41 (by decide) ?_
        have K51 : ∀ (x_10 : Int) (μ_11 : zMem) (H : Heap) (locs : List Loc) (ls : Array Slot), Rg x_10 → zX Ω μ_11 (zfree Ω) s.heap H locs → lv_has ls 7 [(0, zR Ω 101), (1, zI x1), (2, zI x2)] → (f_X10_readWord_J51 x1 x2 f_X10_readWord_K157 (f_X10_readWord_L9 x1 x2 f_X10_readWord_K157 n9)) x_10 μ_11 = some (r, μ') → W p l e (zrm 2) s m args below meth c H locs 0 0 Q (F0 m 51 ls [zI x_10]) := by
          intro x_10 μ_11 H locs ls gx_10 X hl h
          unfold f_X10_readWord_J51 at h
          refine lv_istore_n C.1 C.2.1 (lv' := [(3, zI x_10), (0, zR Ω 101), (1, zI x1), (2, zI x2)]) dX10_readWord_51 rfl hl (by decide) rfl (fun ls hl => ?_)
          refine lv_iload_n C.1 C.2.1 dX10_readWord_52 rfl (lv_at hl 0 rfl) ?_
          have K73 : ∀ (x_12 : Int) (μ_13 : zMem) (H : Heap) (locs : List Loc) (ls : Array Slot), Rg x_12 → zX Ω μ_13 (zfree Ω) s.heap H locs → lv_has ls 7 [(0, zR Ω 101), (1, zI x1), (2, zI x2), (3, zI x_10)] → (f_X10_readWord_J73 x1 x2 x_10 f_X10_readWord_K157 (f_X10_readWord_L9 x1 x2 f_X10_readWord_K157 n9)) x_12 μ_13 = some (r, μ') → W p l e (zrm 2) s m args below meth c H locs 0 0 Q (F0 m 73 ls [zI x_12]) := by
            intro x_12 μ_13 H locs ls gx_12 X hl h
            unfold f_X10_readWord_J73 at h
            refine lv_istore C.1 C.2.1 (lv' := [(4, zI x_12), (0, zR Ω 101), (1, zI x1), (2, zI x2), (3, zI x_10)]) dX10_readWord_73 hl (by decide) rfl (fun ls hl => ?_)
            refine lv_iload_n C.1 C.2.1 dX10_readWord_75 rfl (lv_at hl 4 rfl) ?_
            have K91 : ∀ (x_14 : Int) (μ_15 : zMem) (H : Heap) (locs : List Loc) (ls : Array Slot), Rg x_14 → zX Ω μ_15 (zfree Ω) s.heap H locs → lv_has ls 7 [(0, zR Ω 101), (1, zI x1), (2, zI x2), (4, zI x_12)] → (f_X10_readWord_J91 x1 x2 x_12 f_X10_readWord_K157 (f_X10_readWord_L9 x1 x2 f_X10_readWord_K157 n9)) x_14 μ_15 = some (r, μ') → W p l e (zrm 2) s m args below meth c H locs 0 0 Q (F0 m 91 ls [zI x_14]) := by
              intro x_14 μ_15 H locs ls gx_14 X hl h
              unfold f_X10_readWord_J91 at h
              refine lv_istore C.1 C.2.1 (lv' := [(5, zI x_14), (0, zR Ω 101), (1, zI x1), (2, zI x2), (4, zI x_12)]) dX10_readWord_91 hl (by decide) rfl (fun ls hl => ?_)
              refine lv_iload C.1 C.2.1 dX10_readWord_93 (lv_at hl 4 rfl) ?_
              refine lv_aload_n C.1 C.2.1 dX10_readWord_95 rfl (lv_at hl 1 rfl) ?_
              refine z_get C X zk10 (hI.1 101 (by decide)) rfl 1 (by decide) kw_1033 (zR Ω 103) (zfvF (off := 2) X.2.2.2 (hI.1 101 (by decide)) hI.2 rfl rfl (by decide)) dX10_readWord_96 ?_
              refine lv_iload_n C.1 C.2.1 dX10_readWord_99 rfl (lv_at hl 2 rfl) ?_
              obtain ⟨hc100, h⟩ := chk_some h
              have g_100 : Rg (μ_15 103 x1) := zrg1 X.2.2.2 (hI.1 103 (by decide)) rfl
              refine z_iald C X (hI.1 103 (by decide)) rfl hc100 dX10_readWord_100 ?_
              have K117 : ∀ (x_16 : Int) (μ_17 : zMem) (H : Heap) (locs : List Loc) (ls : Array Slot), Rg x_16 → zX Ω μ_17 (zfree Ω) s.heap H locs → lv_has ls 7 [(0, zR Ω 101), (1, zI x1), (2, zI x2), (5, zI x_14)] → (f_X10_readWord_J117 x1 x_14 f_X10_readWord_K157 (f_X10_readWord_L9 x1 x2 f_X10_readWord_K157 n9)) x_16 μ_17 = some (r, μ') → W p l e (zrm 2) s m args below meth c H locs 0 0 Q (F0 m 117 ls [zI x_16]) := by
                intro x_16 μ_17 H locs ls gx_16 X hl h
                unfold f_X10_readWord_J117 at h
                refine lv_istore C.1 C.2.1 (lv' := [(6, zI x_16), (0, zR Ω 101), (1, zI x1), (2, zI x2), (5, zI x_14)]) dX10_readWord_117 hl (by decide) rfl (fun ls hl => ?_)
                refine lv_iload C.1 C.2.1 dX10_readWord_119 (lv_at hl 0 rfl) ?_
                refine z_ifeq C gx_16 (tgt := 157) dX10_readWord_121 (by decide) (fun hc121 => ?_) (fun hc121 => ?_)
                · rw [if_pos hc121] at h
                  exact K157 μ_17 _ _ _ X (lv_sub hl [1] rfl) h
                · rw [if_neg hc121] at h
                  refine lv_aload_n C.1 C.2.1 dX10_readWord_124 rfl (lv_at hl 1 rfl) ?_
                  have g_125 : Rg (μ_17 101 13) := zrgf0 (ci := 10) X.2.2.2 (hI.1 101 (by decide)) rfl 13 rfl
                  refine z_get C X zk10 (hI.1 101 (by decide)) rfl 13 (by decide) kw_1045 (zI (μ_17 101 13)) rfl dX10_readWord_125 ?_
                  have K166 : ∀ (μ_18 : zMem) (H : Heap) (locs : List Loc) (ls : Array Slot), zX Ω μ_18 (zfree Ω) s.heap H locs → lv_has ls 7 [(0, zR Ω 101), (1, zI x1), (2, zI x2), (5, zI x_14)] → (f_X10_readWord_J166 x_14 (f_X10_readWord_L9 x1 x2 f_X10_readWord_K157 n9)) μ_18 = some (r, μ') → W p l e (zrm 2) s m args below meth c H locs 0 0 Q (F0 m 166 ls []) := by
                    intro μ_18 H locs ls  X hl h
                    unfold f_X10_readWord_J166 at h
                    refine lv_aload_n C.1 C.2.1 dX10_readWord_166 rfl (lv_at hl 0 rfl) ?_
                    refine z_get C X zk10 (hI.1 101 (by decide)) rfl 14 (by decide) kw_1046 (zR Ω 116) (zfvF (off := 15) X.2.2.2 (hI.1 101 (by decide)) hI.2 rfl rfl (by decide)) dX10_readWord_167 ?_
                    refine lv_aload_n C.1 C.2.1 dX10_readWord_170 rfl (lv_at hl 0 rfl) ?_
                    have g_171 : Rg (μ_18 101 13) := zrgf0 (ci := 10) X.2.2.2 (hI.1 101 (by decide)) rfl 13 rfl
                    refine z_get C X zk10 (hI.1 101 (by decide)) rfl 13 (by decide) kw_1045 (zI (μ_18 101 13)) rfl dX10_readWord_171 ?_
                    refine lv_iload C.1 C.2.1 dX10_readWord_174 (lv_at hl 3 rfl) ?_
                    obtain ⟨hc176, h⟩ := chk_some h
                    refine zlet_elim h (fun μ_19 em h => ?_)
                    refine z_iast C X (hI.1 116 (by decide)) rfl hc176 (zok1 rfl gx_14) em dX10_readWord_176 (fun H locs X => ?_)
                    clear em
                    refine lv_aload_n C.1 C.2.1 dX10_readWord_177 rfl (lv_at hl 0 rfl) ?_
                    refine lv_dup C.1 C.2.1 dX10_readWord_178 rfl ?_
                    have g_179 : Rg (μ_19 101 13) := zrgf0 (ci := 10) X.2.2.2 (hI.1 101 (by decide)) rfl 13 rfl
                    refine z_get C X zk10 (hI.1 101 (by decide)) rfl 13 (by decide) kw_1045 (zI (μ_19 101 13)) rfl dX10_readWord_179 ?_
                    refine z_iconst C dX10_readWord_182 ?_
                    refine z_iadd C dX10_readWord_183 ?_
                    refine zlet_elim h (fun μ_20 em h => ?_)
                    refine z_putI C X zk10 (hI.1 101 (by decide)) rfl 13 (by decide) kw_1045 rfl rfl rfl rfl (Rg.w _) em dX10_readWord_184 (fun H locs X => ?_)
                    clear em
                    refine lv_aload_n C.1 C.2.1 dX10_readWord_187 rfl (lv_at hl 0 rfl) ?_
                    refine lv_dup C.1 C.2.1 dX10_readWord_188 rfl ?_
                    have g_189 : Rg (μ_20 101 10) := zrgf0 (ci := 10) X.2.2.2 (hI.1 101 (by decide)) rfl 10 rfl
                    refine z_get C X zk10 (hI.1 101 (by decide)) rfl 10 (by decide) kw_1042 (zI (μ_20 101 10)) rfl dX10_readWord_189 ?_
                    refine z_iconst C dX10_readWord_192 ?_
                    refine z_iadd C dX10_readWord_193 ?_
                    refine zlet_elim h (fun μ_21 em h => ?_)
                    refine z_putI C X zk10 (hI.1 101 (by decide)) rfl 10 (by decide) kw_1042 rfl rfl rfl rfl (Rg.w _) em dX10_readWord_194 (fun H locs X => ?_)
                    clear em
                    refine lv_aload_n C.1 C.2.1 dX10_readWord_197 rfl (lv_at hl 0 rfl) ?_
                    obtain ⟨μ_22, hq198, h⟩ := bnd_some h
                    refine z_callV0 C X zk10 (hI.1 101 (by decide)) rfl (As := []) (M_X10_pass hI μ_21 hq198) zc_X10_pass kw_1253 (zroom (by decide) (by decide)) rfl hl.1 rfl (Nat.le_of_ble_eq_true rfl) dX10_readWord_198 ⟨Nat.zero_le _, Nat.zero_le _⟩ (fun H locs g_198 X => ?_)
                    refine lv_goto (tgt := 9) C.1 C.2.1 dX10_readWord_201 (by decide) ?_
                    exact ih9 μ_22 _ _ _ X (lv_sub hl [0, 1, 2] rfl) h
                  refine z_ifle C g_125 (tgt := 166) dX10_readWord_128 (by decide) (fun hc128 => ?_) (fun hc128 => ?_)
                  · rw [if_pos hc128] at h
                    exact K166 μ_17 _ _ _ X (lv_sub hl [1, 2, 3, 4] rfl) h
                  · rw [if_neg hc128] at h
                    refine lv_aload_n C.1 C.2.1 dX10_readWord_131 rfl (lv_at hl 1 rfl) ?_
                    refine lv_iload_n C.1 C.2.1 dX10_readWord_132 rfl (lv_at hl 2 rfl) ?_
                    refine lv_aload_n C.1 C.2.1 dX10_readWord_133 rfl (lv_at hl 1 rfl) ?_
                    refine z_get C X zk10 (hI.1 101 (by decide)) rfl 14 (by decide) kw_1046 (zR Ω 116) (zfvF (off := 15) X.2.2.2 (hI.1 101 (by decide)) hI.2 rfl rfl (by decide)) dX10_readWord_134 ?_
                    refine lv_aload_n C.1 C.2.1 dX10_readWord_137 rfl (lv_at hl 1 rfl) ?_
                    have g_138 : Rg (μ_17 101 13) := zrgf0 (ci := 10) X.2.2.2 (hI.1 101 (by decide)) rfl 13 rfl
                    refine z_get C X zk10 (hI.1 101 (by decide)) rfl 13 (by decide) kw_1045 (zI (μ_17 101 13)) rfl dX10_readWord_138 ?_
                    refine z_iconst C dX10_readWord_141 ?_
                    refine z_isub C dX10_readWord_142 ?_
                    obtain ⟨hc143, h⟩ := chk_some h
                    have g_143 : Rg (μ_17 116 (zw ((μ_17 101 13) - 1))) := zrg1 X.2.2.2 (hI.1 116 (by decide)) rfl
                    refine z_iald C X (hI.1 116 (by decide)) rfl hc143 dX10_readWord_143 ?_
                    obtain ⟨x_23, hq144, h⟩ := bnd_some h
                    refine z_callV1 C X zk10 (hI.1 101 (by decide)) rfl (As := [zI x1, zI (μ_17 116 (zw ((μ_17 101 13) - 1)))]) (M_X10_toOf hI μ_17 x1 (μ_17 116 (zw ((μ_17 101 13) - 1))) gx1 g_143 hq144) zc_X10_toOf kw_1261 (zroom (by decide) (by decide)) rfl hl.1 rfl (Nat.le_of_ble_eq_true rfl) dX10_readWord_144 ⟨Nat.zero_le _, Nat.zero_le _⟩ (fun H locs g_144 X => ?_)
                    refine lv_aload_n C.1 C.2.1 dX10_readWord_147 rfl (lv_at hl 1 rfl) ?_
                    refine lv_iload_n C.1 C.2.1 dX10_readWord_148 rfl (lv_at hl 2 rfl) ?_
                    refine lv_iload C.1 C.2.1 dX10_readWord_149 (lv_at hl 4 rfl) ?_
                    obtain ⟨x_24, hq151, h⟩ := bnd_some h
                    refine z_callV1 C X zk10 (hI.1 101 (by decide)) rfl (As := [zI x1, zI x_14]) (M_X10_fromOf hI μ_17 x1 x_14 gx1 gx_14 hq151) zc_X10_fromOf kw_1265 (zroom (by decide) (by decide)) rfl hl.1 rfl (Nat.le_of_ble_eq_true rfl) dX10_readWord_151 ⟨Nat.zero_le _, Nat.zero_le _⟩ (fun H locs g_151 X => ?_)
                    refine z_icmpeq C g_144 g_151 (tgt := 166) dX10_readWord_154 (by decide) (fun hc154 => ?_) (fun hc154 => ?_)
                    · rw [if_pos hc154] at h
                      exact K166 μ_17 _ _ _ X (lv_sub hl [1, 2, 3, 4] rfl) h
                    · rw [if_neg hc154] at h
                      exact K157 μ_17 _ _ _ X (lv_sub hl [1] rfl) h
              have K116 : ∀ (μ_25 : zMem) (H : Heap) (locs : List Loc) (ls : Array Slot), zX Ω μ_25 (zfree Ω) s.heap H locs → lv_has ls 7 [(0, zR Ω 101), (1, zI x1), (2, zI x2), (5, zI x_14)] → (f_X10_readWord_J116 (f_X10_readWord_J117 x1 x_14 f_X10_readWord_K157 (f_X10_readWord_L9 x1 x2 f_X10_readWord_K157 n9))) μ_25 = some (r, μ') → W p l e (zrm 2) s m args below meth c H locs 0 0 Q (F0 m 116 ls []) := by
                intro μ_25 H locs ls  X hl h
                unfold f_X10_readWord_J116 at h
                refine z_iconst C dX10_readWord_116 ?_
                exact K117 0 μ_25 _ _ _ ⟨by decide, by decide⟩ X (lv_sub hl [0, 1, 2, 3] rfl) h
              refine z_icmpge C gx_12 g_100 (tgt := 116) dX10_readWord_101 (by decide) (fun hc101 => ?_) (fun hc101 => ?_)
              · rw [if_neg hc101] at h
                exact K116 μ_15 _ _ _ X (lv_sub hl [1, 2, 3, 0] rfl) h
              · rw [if_pos hc101] at h
                refine lv_aload_n C.1 C.2.1 dX10_readWord_104 rfl (lv_at hl 1 rfl) ?_
                have g_105 : Rg (μ_15 101 13) := zrgf0 (ci := 10) X.2.2.2 (hI.1 101 (by decide)) rfl 13 rfl
                refine z_get C X zk10 (hI.1 101 (by decide)) rfl 13 (by decide) kw_1045 (zI (μ_15 101 13)) rfl dX10_readWord_105 ?_
                refine lv_iload_n C.1 C.2.1 dX10_readWord_108 rfl (lv_at hl 3 rfl) ?_
                refine z_icmpge C g_105 gx2 (tgt := 116) dX10_readWord_109 (by decide) (fun hc109 => ?_) (fun hc109 => ?_)
                · rw [if_neg hc109] at h
                  exact K116 μ_15 _ _ _ X (lv_sub hl [1, 2, 3, 0] rfl) h
                · rw [if_pos hc109] at h
                  refine z_iconst C dX10_readWord_112 ?_
                  refine lv_goto (tgt := 117) C.1 C.2.1 dX10_readWord_113 (by decide) ?_
                  exact K117 1 μ_15 _ _ _ ⟨by decide, by decide⟩ X (lv_sub hl [1, 2, 3, 0] rfl) h
            refine z_ifeq C gx_10 (tgt := 86) dX10_readWord_76 (by decide) (fun hc76 => ?_) (fun hc76 => ?_)
            · rw [if_pos hc76] at h
              refine lv_iload C.1 C.2.1 dX10_readWord_86 (lv_at hl 0 rfl) ?_
              refine z_ineg C dX10_readWord_88 ?_
              refine z_iconst C dX10_readWord_89 ?_
              refine z_isub C dX10_readWord_90 ?_
              exact K91 (zw ((zw (-x_12)) - 1)) μ_13 _ _ _ (Rg.w _) X (lv_sub hl [1, 2, 3, 0] rfl) h
            · rw [if_neg hc76] at h
              refine lv_iload C.1 C.2.1 dX10_readWord_79 (lv_at hl 0 rfl) ?_
              refine z_iconst C dX10_readWord_81 ?_
              refine z_iadd C dX10_readWord_82 ?_
              refine lv_goto (tgt := 91) C.1 C.2.1 dX10_readWord_83 (by decide) ?_
              exact K91 (zw (x_12 + 1)) μ_13 _ _ _ (Rg.w _) X (lv_sub hl [1, 2, 3, 0] rfl) h
          refine z_ifeq C gx_10 (tgt := 66) dX10_readWord_53 (by decide) (fun hc53 => ?_) (fun hc53 => ?_)
          · rw [if_pos hc53] at h
            refine lv_aload_n C.1 C.2.1 dX10_readWord_66 rfl (lv_at hl 1 rfl) ?_
            obtain ⟨x_26, hq67, h⟩ := bnd_some h
            refine z_callV1 C X zk10 (hI.1 101 (by decide)) rfl (As := []) (M_X10_now hI μ_11 hq67) zc_X10_now kw_1257 (zroom (by decide) (by decide)) rfl hl.1 rfl (Nat.le_of_ble_eq_true rfl) dX10_readWord_67 ⟨Nat.zero_le _, Nat.zero_le _⟩ (fun H locs g_67 X => ?_)
            refine z_bipush C dX10_readWord_70 (by decide) ?_
            refine z_isub C dX10_readWord_72 ?_
            exact K73 (zw (x_26 - 65)) μ_11 _ _ _ (Rg.w _) X (lv_sub hl [1, 2, 3, 0] rfl) h
          · rw [if_neg hc53] at h
            refine lv_aload_n C.1 C.2.1 dX10_readWord_56 rfl (lv_at hl 1 rfl) ?_
            obtain ⟨x_27, hq57, h⟩ := bnd_some h
            refine z_callV1 C X zk10 (hI.1 101 (by decide)) rfl (As := []) (M_X10_now hI μ_11 hq57) zc_X10_now kw_1257 (zroom (by decide) (by decide)) rfl hl.1 rfl (Nat.le_of_ble_eq_true rfl) dX10_readWord_57 ⟨Nat.zero_le _, Nat.zero_le _⟩ (fun H locs g_57 X => ?_)
            refine z_bipush C dX10_readWord_60 (by decide) ?_
            refine z_isub C dX10_readWord_62 ?_
            refine lv_goto (tgt := 73) C.1 C.2.1 dX10_readWord_63 (by decide) ?_
            exact K73 (zw (x_27 - 97)) μ_11 _ _ _ (Rg.w _) X (lv_sub hl [1, 2, 3, 0] rfl) h
        refine z_icmplt C g_38 ⟨by decide, by decide⟩ (tgt := 50) dX10_readWord_43 (by decide) (fun hc43 => ?_) (fun hc43 => ?_)
        · rw [if_pos hc43] at h
          refine z_iconst C dX10_readWord_50 ?_
          exact K51 0 μ_8 _ _ _ ⟨by decide, by decide⟩ X (lv_sub hl [0, 1, 2] rfl) h
        · rw [if_neg hc43] at h
          refine z_iconst C dX10_readWord_46 ?_
          refine lv_goto (tgt := 51) C.1 C.2.1 dX10_readWord_47 (by decide) ?_
          exact K51 1 μ_8 _ _ _ ⟨by decide, by decide⟩ X (lv_sub hl [0, 1, 2] rfl) h
      refine z_ifne C (rgz g_17) (tgt := 37) dX10_readWord_20 (by decide) (fun hc20 => ?_) (fun hc20 => ?_)
      · rw [if_neg hc20] at h
        exact K37 μ_6 _ _ _ X (lv_sub hl [0, 1, 2] rfl) h
      · rw [if_pos hc20] at h
        refine lv_aload_n C.1 C.2.1 dX10_readWord_23 rfl (lv_at hl 0 rfl) ?_
        obtain ⟨x_28, hq24, h⟩ := bnd_some h
        refine z_callV1 C X zk10 (hI.1 101 (by decide)) rfl (As := []) (M_X10_now hI μ_6 hq24) zc_X10_now kw_1257 (zroom (by decide) (by decide)) rfl hl.1 rfl (Nat.le_of_ble_eq_true rfl) dX10_readWord_24 ⟨Nat.zero_le _, Nat.zero_le _⟩ (fun H locs g_24 X => ?_)
        refine z_bipush C dX10_readWord_27 (by decide) ?_
        refine z_bipush C dX10_readWord_29 (by decide) ?_
        refine z_callS1 C X (As := [zI x_28, zI 65, zI 90]) (M_X10_in hI μ_6 x_28 65 90 g_24 ⟨by decide, by decide⟩ ⟨by decide, by decide⟩) zc_X10_in kw_1217 (zroom (by decide) (by decide)) rfl hl.1 rfl (Nat.le_of_ble_eq_true rfl) dX10_readWord_31 ⟨Nat.zero_le _, Nat.zero_le _⟩ (fun H locs g_31 X => ?_)
        refine z_ifeq C (rgz g_31) (tgt := 204) dX10_readWord_34 (by decide) (fun hc34 => ?_) (fun hc34 => ?_)
        · rw [if_pos hc34] at h
          refine z_iconst C dX10_readWord_204 ?_
          obtain ⟨rfl, rfl⟩ := Prod.mk.inj (Option.some.inj h)
          exact rt X ⟨by decide, by decide⟩ dX10_readWord_205
        · rw [if_neg hc34] at h
          exact K37 μ_6 _ _ _ X (lv_sub hl [0, 1, 2] rfl) h
  exact L9 zfu μ_2 _ _ _ X (lv_sub hl [0, 1, 2] rfl) h
theorem zc_X10_readWord : zcal yX10_readWord cX10_readWord 7 (some Jvm.ClassFile.FieldType.boolean) RX10 2 := ⟨⟨kw_1252, kw_1251, kp_56, kw_12⟩, rfl, by decide, by decide, by decide +kernel⟩

def f_X10_readRim_J54 (x_3 : Int) (μ_4 : zMem) : Option (Int × zMem) :=
  if x_3 = 0 then
    bnd2 (f_X10_fails (μ_4 101 10) μ_4) fun x_5 μ_6 =>
    if x_5 = 0 then
      some (0, μ_6)
    else
      some (1, μ_6)
  else
    some (1, μ_4)
def f_X10_readRim_J53 (g54 : Int → zMem → Option (Int × zMem)) (μ_7 : zMem) : Option (Int × zMem) :=
  g54 0 μ_7
def f_X10_readRim (x1 : Int) (μ : zMem) : Option (Int × zMem) :=
  bnd2 (f_X10_readWord x1 8 μ) fun x_1 μ_2 =>
  if x_1 = 0 then
    some (0, μ_2)
  else
    if (μ_2 101 13) ≤ 0 then
      (f_X10_readRim_J53 f_X10_readRim_J54) μ_2
    else
      chk ((0 : Int) ≤ (zw ((μ_2 101 13) - 1)) ∧ (zw ((μ_2 101 13) - 1)) < 17) <|
      bnd (f_X10_toOf x1 (μ_2 116 (zw ((μ_2 101 13) - 1))) μ_2) fun x_8 =>
      bnd (f_X10_fromOf x1 (μ_2 116 0) μ_2) fun x_9 =>
      if x_8 = x_9 then
        f_X10_readRim_J54 1 μ_2
      else
        (f_X10_readRim_J53 f_X10_readRim_J54) μ_2
set_option maxHeartbeats 4000000 in
set_option maxRecDepth 100000 in
theorem M_X10_readRim {l : Launch} {Ω : zO} (hI : zIm Ω) (μ : zMem) (x1 : Int) {r : Int} {μ' : zMem} (gx1 : Rg x1) (h : f_X10_readRim x1 μ = some (r, μ')) : XMet l yX10_readRim cX10_readRim 3 (some Jvm.ClassFile.FieldType.boolean) 3 Ω [zR Ω 101, zI x1] μ (some (zI r)) (0 ≤ r ∧ r ≤ 1) μ' := by
  refine XMet.ofZ (by decide) (Nat.le_of_ble_eq_true rfl) ?_
  intro p e s m args below meth c ls Q C rt X hl
  have C : zC p s m args c cX10_readRim RX10 3 Ω := C
  have hl : lv_has ls 3 [(0, zR Ω 101), (1, zI x1)] := hl
  unfold f_X10_readRim at h
  skip
  refine lv_aload_n C.1 C.2.1 dX10_readRim_0 rfl (lv_at hl 0 rfl) ?_
  refine lv_iload_n C.1 C.2.1 dX10_readRim_1 rfl (lv_at hl 1 rfl) ?_
  refine z_bipush C dX10_readRim_2 (by decide) ?_
  obtain ⟨x_1, μ_2, hq4, h⟩ := bnd2_some h
  refine z_callV1 C X zk10 (hI.1 101 (by decide)) rfl (As := [zI x1, zI 8]) (M_X10_readWord hI μ x1 8 gx1 ⟨by decide, by decide⟩ hq4) zc_X10_readWord kw_1249 (zroom (by decide) (by decide)) rfl hl.1 rfl (Nat.le_of_ble_eq_true rfl) dX10_readRim_4 ⟨Nat.zero_le _, Nat.zero_le _⟩ (fun H locs g_4 X => ?_)
  refine z_ifne C (rgz g_4) (tgt := 12) dX10_readRim_7 (by decide) (fun hc7 => ?_) (fun hc7 => ?_)
  · rw [if_neg hc7] at h
    refine lv_aload_n C.1 C.2.1 dX10_readRim_12 rfl (lv_at hl 0 rfl) ?_
    have g_13 : Rg (μ_2 101 13) := zrgf0 (ci := 10) X.2.2.2 (hI.1 101 (by decide)) rfl 13 rfl
    refine z_get C X zk10 (hI.1 101 (by decide)) rfl 13 (by decide) kw_1045 (zI (μ_2 101 13)) rfl dX10_readRim_13 ?_
    have K54 : ∀ (x_3 : Int) (μ_4 : zMem) (H : Heap) (locs : List Loc) (ls : Array Slot), Rg x_3 → zX Ω μ_4 (zfree Ω) s.heap H locs → lv_has ls 3 [(0, zR Ω 101)] → f_X10_readRim_J54 x_3 μ_4 = some (r, μ') → W p l e (zrm 3) s m args below meth c H locs 0 0 Q (F0 m 54 ls [zI x_3]) := by
      intro x_3 μ_4 H locs ls gx_3 X hl h
      unfold f_X10_readRim_J54 at h
      refine lv_istore_n C.1 C.2.1 (lv' := [(2, zI x_3), (0, zR Ω 101)]) dX10_readRim_54 rfl hl (by decide) rfl (fun ls hl => ?_)
      refine lv_iload_n C.1 C.2.1 dX10_readRim_55 rfl (lv_at hl 0 rfl) ?_
      refine z_ifne C gx_3 (tgt := 70) dX10_readRim_56 (by decide) (fun hc56 => ?_) (fun hc56 => ?_)
      · rw [if_neg hc56] at h
        refine z_iconst C dX10_readRim_70 ?_
        refine lv_goto (tgt := 75) C.1 C.2.1 dX10_readRim_71 (by decide) ?_
        obtain ⟨rfl, rfl⟩ := Prod.mk.inj (Option.some.inj h)
        exact rt X ⟨by decide, by decide⟩ dX10_readRim_75
      · rw [if_pos hc56] at h
        refine lv_aload_n C.1 C.2.1 dX10_readRim_59 rfl (lv_at hl 1 rfl) ?_
        refine lv_aload_n C.1 C.2.1 dX10_readRim_60 rfl (lv_at hl 1 rfl) ?_
        have g_61 : Rg (μ_4 101 10) := zrgf0 (ci := 10) X.2.2.2 (hI.1 101 (by decide)) rfl 10 rfl
        refine z_get C X zk10 (hI.1 101 (by decide)) rfl 10 (by decide) kw_1042 (zI (μ_4 101 10)) rfl dX10_readRim_61 ?_
        obtain ⟨x_5, μ_6, hq64, h⟩ := bnd2_some h
        refine z_callV1 C X zk10 (hI.1 101 (by decide)) rfl (As := [zI (μ_4 101 10)]) (M_X10_fails hI μ_4 (μ_4 101 10) g_61 hq64) zc_X10_fails kw_1269 (zroom (by decide) (by decide)) rfl hl.1 rfl (Nat.le_of_ble_eq_true rfl) dX10_readRim_64 ⟨Nat.zero_le _, Nat.zero_le _⟩ (fun H locs g_64 X => ?_)
        refine z_ifeq C (rgz g_64) (tgt := 74) dX10_readRim_67 (by decide) (fun hc67 => ?_) (fun hc67 => ?_)
        · rw [if_pos hc67] at h
          refine z_iconst C dX10_readRim_74 ?_
          obtain ⟨rfl, rfl⟩ := Prod.mk.inj (Option.some.inj h)
          exact rt X ⟨by decide, by decide⟩ dX10_readRim_75
        · rw [if_neg hc67] at h
          refine z_iconst C dX10_readRim_70 ?_
          refine lv_goto (tgt := 75) C.1 C.2.1 dX10_readRim_71 (by decide) ?_
          obtain ⟨rfl, rfl⟩ := Prod.mk.inj (Option.some.inj h)
          exact rt X ⟨by decide, by decide⟩ dX10_readRim_75
    have K53 : ∀ (μ_7 : zMem) (H : Heap) (locs : List Loc) (ls : Array Slot), zX Ω μ_7 (zfree Ω) s.heap H locs → lv_has ls 3 [(0, zR Ω 101)] → (f_X10_readRim_J53 f_X10_readRim_J54) μ_7 = some (r, μ') → W p l e (zrm 3) s m args below meth c H locs 0 0 Q (F0 m 53 ls []) := by
      intro μ_7 H locs ls  X hl h
      unfold f_X10_readRim_J53 at h
      refine z_iconst C dX10_readRim_53 ?_
      exact K54 0 μ_7 _ _ _ ⟨by decide, by decide⟩ X (lv_sub hl [0] rfl) h
    refine z_ifle C g_13 (tgt := 53) dX10_readRim_16 (by decide) (fun hc16 => ?_) (fun hc16 => ?_)
    · rw [if_pos hc16] at h
      exact K53 μ_2 _ _ _ X (lv_sub hl [0] rfl) h
    · rw [if_neg hc16] at h
      refine lv_aload_n C.1 C.2.1 dX10_readRim_19 rfl (lv_at hl 0 rfl) ?_
      refine lv_iload_n C.1 C.2.1 dX10_readRim_20 rfl (lv_at hl 1 rfl) ?_
      refine lv_aload_n C.1 C.2.1 dX10_readRim_21 rfl (lv_at hl 0 rfl) ?_
      refine z_get C X zk10 (hI.1 101 (by decide)) rfl 14 (by decide) kw_1046 (zR Ω 116) (zfvF (off := 15) X.2.2.2 (hI.1 101 (by decide)) hI.2 rfl rfl (by decide)) dX10_readRim_22 ?_
      refine lv_aload_n C.1 C.2.1 dX10_readRim_25 rfl (lv_at hl 0 rfl) ?_
      have g_26 : Rg (μ_2 101 13) := zrgf0 (ci := 10) X.2.2.2 (hI.1 101 (by decide)) rfl 13 rfl
      refine z_get C X zk10 (hI.1 101 (by decide)) rfl 13 (by decide) kw_1045 (zI (μ_2 101 13)) rfl dX10_readRim_26 ?_
      refine z_iconst C dX10_readRim_29 ?_
      refine z_isub C dX10_readRim_30 ?_
      obtain ⟨hc31, h⟩ := chk_some h
      have g_31 : Rg (μ_2 116 (zw ((μ_2 101 13) - 1))) := zrg1 X.2.2.2 (hI.1 116 (by decide)) rfl
      refine z_iald C X (hI.1 116 (by decide)) rfl hc31 dX10_readRim_31 ?_
      obtain ⟨x_8, hq32, h⟩ := bnd_some h
      refine z_callV1 C X zk10 (hI.1 101 (by decide)) rfl (As := [zI x1, zI (μ_2 116 (zw ((μ_2 101 13) - 1)))]) (M_X10_toOf hI μ_2 x1 (μ_2 116 (zw ((μ_2 101 13) - 1))) gx1 g_31 hq32) zc_X10_toOf kw_1261 (zroom (by decide) (by decide)) rfl hl.1 rfl (Nat.le_of_ble_eq_true rfl) dX10_readRim_32 ⟨Nat.zero_le _, Nat.zero_le _⟩ (fun H locs g_32 X => ?_)
      refine lv_aload_n C.1 C.2.1 dX10_readRim_35 rfl (lv_at hl 0 rfl) ?_
      refine lv_iload_n C.1 C.2.1 dX10_readRim_36 rfl (lv_at hl 1 rfl) ?_
      refine lv_aload_n C.1 C.2.1 dX10_readRim_37 rfl (lv_at hl 0 rfl) ?_
      refine z_get C X zk10 (hI.1 101 (by decide)) rfl 14 (by decide) kw_1046 (zR Ω 116) (zfvF (off := 15) X.2.2.2 (hI.1 101 (by decide)) hI.2 rfl rfl (by decide)) dX10_readRim_38 ?_
      refine z_iconst C dX10_readRim_41 ?_
      have g_42 : Rg (μ_2 116 0) := zrg1 X.2.2.2 (hI.1 116 (by decide)) rfl
      refine z_iald C X (hI.1 116 (by decide)) rfl (by decide) dX10_readRim_42 ?_
      obtain ⟨x_9, hq43, h⟩ := bnd_some h
      refine z_callV1 C X zk10 (hI.1 101 (by decide)) rfl (As := [zI x1, zI (μ_2 116 0)]) (M_X10_fromOf hI μ_2 x1 (μ_2 116 0) gx1 g_42 hq43) zc_X10_fromOf kw_1265 (zroom (by decide) (by decide)) rfl hl.1 rfl (Nat.le_of_ble_eq_true rfl) dX10_readRim_43 ⟨Nat.zero_le _, Nat.zero_le _⟩ (fun H locs g_43 X => ?_)
      refine z_icmpne C g_32 g_43 (tgt := 53) dX10_readRim_46 (by decide) (fun hc46 => ?_) (fun hc46 => ?_)
      · rw [if_neg hc46] at h
        exact K53 μ_2 _ _ _ X (lv_sub hl [0] rfl) h
      · rw [if_pos hc46] at h
        refine z_iconst C dX10_readRim_49 ?_
        refine lv_goto (tgt := 54) C.1 C.2.1 dX10_readRim_50 (by decide) ?_
        exact K54 1 μ_2 _ _ _ ⟨by decide, by decide⟩ X (lv_sub hl [0] rfl) h
  · rw [if_pos hc7] at h
    refine z_iconst C dX10_readRim_10 ?_
    obtain ⟨rfl, rfl⟩ := Prod.mk.inj (Option.some.inj h)
    exact rt X ⟨by decide, by decide⟩ dX10_readRim_11
theorem zc_X10_readRim : zcal yX10_readRim cX10_readRim 3 (some Jvm.ClassFile.FieldType.boolean) RX10 1 := ⟨⟨kw_1248, kw_1247, kp_55, kw_12⟩, rfl, by decide, by decide, by decide +kernel⟩

