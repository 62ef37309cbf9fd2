def f_X10_layCommon_K139 (x1 : Int) (μ_3 : zMem) : Option zMem :=
  bnd (f_X10_goRows 40 x1 0 0 μ_3) fun μ_4 =>
  some μ_4
def f_X10_layCommon_K133 (x_5 : Int) (g87 : Int → zMem → Option zMem) (μ_7 : zMem) : Option zMem :=
  zlet (zw (x_5 + 1)) fun x_8 =>
  g87 x_8 μ_7
def f_X10_layCommon_L99 (x1 : Int) (x_5 : Int) (g133 : zMem → Option zMem) : Nat → Int → zMem → Option zMem
  | 0, _, _ => none
  | n + 1, x_9, μ_10 =>
    chk ((0 : Int) ≤ x1 ∧ x1 < 3) <|
    if x_9 < (μ_10 103 x1) then
      bnd (f_X10_goes x1 x_5 x_9 μ_10) fun x_11 =>
      chk ((0 : Int) ≤ (zw ((zw (48 * x_5)) + x_9)) ∧ (zw ((zw (48 * x_5)) + x_9)) < 2304) <|
      zlet (zup μ_10 124 (zw ((zw (48 * x_5)) + x_9)) x_11) fun μ_12 =>
      zlet (zw (x_9 + 1)) fun x_13 =>
      (f_X10_layCommon_L99 x1 x_5 g133 n) x_13 μ_12
    else
      g133 μ_10
def f_X10_layCommon_L87 (x1 : Int) (g139 : zMem → Option zMem) : Nat → Int → zMem → Option zMem
  | 0, _, _ => none
  | n + 1, x_5, μ_6 =>
    chk ((0 : Int) ≤ x1 ∧ x1 < 3) <|
    if x_5 < (μ_6 104 x1) then
      (f_X10_layCommon_L99 x1 x_5 (f_X10_layCommon_K133 x_5 (f_X10_layCommon_L87 x1 g139 n))) zfu 0 μ_6
    else
      g139 μ_6
def f_X10_layCommon_K85 (x1 : Int) (μ_2 : zMem) : Option zMem :=
  (f_X10_layCommon_L87 x1 (f_X10_layCommon_K139 x1)) zfu 0 μ_2
def f_X10_layCommon_J78 (x_14 : Int) (g31 : Int → zMem → Option zMem) (x_19 : Int) (μ_20 : zMem) : Option zMem :=
  chk ((0 : Int) ≤ x_14 ∧ x_14 < 4096) <|
  zlet (zup μ_20 127 x_14 x_19) fun μ_21 =>
  zlet (zw (x_14 + 1)) fun x_22 =>
  g31 x_22 μ_21
def f_X10_layCommon_J52 (x_14 : Int) (g31 : Int → zMem → Option zMem) (x_16 : Int) (μ_17 : zMem) : Option zMem :=
  chk ((0 : Int) ≤ x_14 ∧ x_14 < 36864) <|
  zlet (zup μ_17 126 x_14 x_16) fun μ_18 =>
  if x_14 = 0 then
    (f_X10_layCommon_J78 x_14 g31) 0 μ_18
  else
    chk ((0 : Int) ≤ (zshr x_14 1) ∧ (zshr x_14 1) < 4096) <|
    (f_X10_layCommon_J78 x_14 g31) (zw ((μ_18 127 (zshr x_14 1)) + (zand x_14 1))) μ_18
def f_X10_layCommon_L31 (g85 : zMem → Option zMem) : Nat → Int → zMem → Option zMem
  | 0, _, _ => none
  | n + 1, x_14, μ_15 =>
    if x_14 < 4096 then
      (f_X10_layCommon_J52 x_14 (f_X10_layCommon_L31 g85 n)) (if x_14 = 0 then 1 else 0) μ_15
    else
      g85 μ_15
def f_X10_layCommon_K29 (x1 : Int) (μ_1 : zMem) : Option zMem :=
  (f_X10_layCommon_L31 (f_X10_layCommon_K85 x1)) zfu 0 μ_1
def f_X10_layCommon_J22 (x_23 : Int) (g2 : Int → zMem → Option zMem) (x_25 : Int) (μ_26 : zMem) : Option zMem :=
  chk ((0 : Int) ≤ x_23 ∧ x_23 < 9) <|
  zlet (zup μ_26 125 x_23 x_25) fun μ_27 =>
  zlet (zw (x_23 + 1)) fun x_28 =>
  g2 x_28 μ_27
def f_X10_layCommon_L2 (g29 : zMem → Option zMem) : Nat → Int → zMem → Option zMem
  | 0, _, _ => none
  | n + 1, x_23, μ_24 =>
    if x_23 < 9 then
      (f_X10_layCommon_J22 x_23 (f_X10_layCommon_L2 g29 n)) (if x_23 = 0 then 1 else 0) μ_24
    else
      g29 μ_24
def f_X10_layCommon (x1 : Int) (μ : zMem) : Option zMem :=
  (f_X10_layCommon_L2 (f_X10_layCommon_K29 x1)) zfu 0 μ
set_option maxHeartbeats 4000000 in
set_option maxRecDepth 100000 in
theorem M_X10_layCommon {l : Launch} {Ω : zO} (hI : zIm Ω) (μ : zMem) (x1 : Int) {μ' : zMem} (gx1 : Rg x1) (h : f_X10_layCommon x1 μ = some μ') : XMet l yX10_layCommon cX10_layCommon 4 none 42 Ω [zR Ω 101, zI x1] μ none True μ' := by
  refine XMet.ofV (by decide) (Nat.le_of_ble_eq_true rfl) ?_
  intro p e s m args below meth c ls Q C rt X hl
  have C : zC p s m args c cX10_layCommon RX10 4 Ω := C
  have hl : lv_has ls 4 [(0, zR Ω 101), (1, zI x1)] := hl
  unfold f_X10_layCommon at h
  skip
  refine z_iconst C dX10_layCommon_0 ?_
  refine lv_istore_n C.1 C.2.1 (lv' := [(2, zI 0), (0, zR Ω 101), (1, zI x1)]) dX10_layCommon_1 rfl hl (by decide) rfl (fun ls hl => ?_)
  have K29 : ∀ (μ_1 : zMem) (H : Heap) (locs : List Loc) (ls : Array Slot), zX Ω μ_1 (zfree Ω) s.heap H locs → lv_has ls 4 [(0, zR Ω 101), (1, zI x1)] → (f_X10_layCommon_K29 x1) μ_1 = some μ' → W p l e (zrm 42) s m args below meth c H locs 0 0 Q (F0 m 29 ls []) := by
    intro μ_1 H locs ls  X hl h
    unfold f_X10_layCommon_K29 at h
    refine z_iconst C dX10_layCommon_29 ?_
    refine lv_istore_n C.1 C.2.1 (lv' := [(2, zI 0), (0, zR Ω 101), (1, zI x1)]) dX10_layCommon_30 rfl hl (by decide) rfl (fun ls hl => ?_)
    have K85 : ∀ (μ_2 : zMem) (H : Heap) (locs : List Loc) (ls : Array Slot), zX Ω μ_2 (zfree Ω) s.heap H locs → lv_has ls 4 [(0, zR Ω 101), (1, zI x1)] → (f_X10_layCommon_K85 x1) μ_2 = some μ' → W p l e (zrm 42) s m args below meth c H locs 0 0 Q (F0 m 85 ls []) := by
      intro μ_2 H locs ls  X hl h
      unfold f_X10_layCommon_K85 at h
      refine z_iconst C dX10_layCommon_85 ?_
      refine lv_istore_n C.1 C.2.1 (lv' := [(2, zI 0), (0, zR Ω 101), (1, zI x1)]) dX10_layCommon_86 rfl hl (by decide) rfl (fun ls hl => ?_)
      have K139 : ∀ (μ_3 : zMem) (H : Heap) (locs : List Loc) (ls : Array Slot), zX Ω μ_3 (zfree Ω) s.heap H locs → lv_has ls 4 [(0, zR Ω 101), (1, zI x1)] → (f_X10_layCommon_K139 x1) μ_3 = some μ' → W p l e (zrm 42) s m args below meth c H locs 0 0 Q (F0 m 139 ls []) := by
        intro μ_3 H locs ls  X hl h
        unfold f_X10_layCommon_K139 at h
        refine lv_aload_n C.1 C.2.1 dX10_layCommon_139 rfl (lv_at hl 0 rfl) ?_
        refine lv_iload_n C.1 C.2.1 dX10_layCommon_140 rfl (lv_at hl 1 rfl) ?_
        refine z_iconst C dX10_layCommon_141 ?_
        refine z_iconst C dX10_layCommon_142 ?_
        obtain ⟨μ_4, hq143, h⟩ := bnd_some h
        refine z_callV0 C X zk10 (hI.1 101 (by decide)) rfl (As := [zI x1, zI 0, zI 0]) (M_X10_goRows hI 40 μ_3 x1 0 0 gx1 ⟨by decide, by decide⟩ ⟨by decide, by decide⟩ hq143) zc_X10_goRows kw_1347 (zroom (by decide) (by decide)) rfl hl.1 rfl (Nat.le_of_ble_eq_true rfl) dX10_layCommon_143 ⟨Nat.zero_le _, Nat.zero_le _⟩ (fun H locs g_143 X => ?_)
        obtain rfl := Option.some.inj h
        exact rt X dX10_layCommon_146
      have L87 : ∀ (n87 : Nat) (x_5 : Int) (μ_6 : zMem) (H : Heap) (locs : List Loc) (ls : Array Slot), Rg x_5 → zX Ω μ_6 (zfree Ω) s.heap H locs → lv_has ls 4 [(0, zR Ω 101), (1, zI x1), (2, zI x_5)] → (f_X10_layCommon_L87 x1 (f_X10_layCommon_K139 x1) n87 x_5 μ_6) = some μ' → W p l e (zrm 42) s m args below meth c H locs 0 0 Q (F0 m 87 ls []) := by
        intro n87
        induction n87 with
        | zero =>
          intro x_5 μ_6 H locs ls _ _ _ h
          cases h
        | succ n87 ih87 =>
          intro x_5 μ_6 H locs ls gx_5 X hl h
          unfold f_X10_layCommon_L87 at h
          refine lv_iload_n C.1 C.2.1 dX10_layCommon_87 rfl (lv_at hl 2 rfl) ?_
          refine lv_aload_n C.1 C.2.1 dX10_layCommon_88 rfl (lv_at hl 0 rfl) ?_
          refine z_get C X zk10 (hI.1 101 (by decide)) rfl 2 (by decide) kw_1034 (zR Ω 104) (zfvF (off := 3) X.2.2.2 (hI.1 101 (by decide)) hI.2 rfl rfl (by decide)) dX10_layCommon_89 ?_
          refine lv_iload_n C.1 C.2.1 dX10_layCommon_92 rfl (lv_at hl 1 rfl) ?_
          obtain ⟨hc93, h⟩ := chk_some h
          have g_93 : Rg (μ_6 104 x1) := zrg1 X.2.2.2 (hI.1 104 (by decide)) rfl
          refine z_iald C X (hI.1 104 (by decide)) rfl hc93 dX10_layCommon_93 ?_
          refine z_icmpge C gx_5 g_93 (tgt := 139) dX10_layCommon_94 (by decide) (fun hc94 => ?_) (fun hc94 => ?_)
          · rw [if_neg hc94] at h
            exact K139 μ_6 _ _ _ X (lv_sub hl [0, 1] rfl) h
          · rw [if_pos hc94] at h
            refine z_iconst C dX10_layCommon_97 ?_
            refine lv_istore_n C.1 C.2.1 (lv' := [(3, zI 0), (0, zR Ω 101), (1, zI x1), (2, zI x_5)]) dX10_layCommon_98 rfl hl (by decide) rfl (fun ls hl => ?_)
            have K133 : ∀ (μ_7 : zMem) (H : Heap) (locs : List Loc) (ls : Array Slot), zX Ω μ_7 (zfree Ω) s.heap H locs → lv_has ls 4 [(0, zR Ω 101), (1, zI x1), (2, zI x_5)] → (f_X10_layCommon_K133 x_5 (f_X10_layCommon_L87 x1 (f_X10_layCommon_K139 x1) n87)) μ_7 = some μ' → W p l e (zrm 42) s m args below meth c H locs 0 0 Q (F0 m 133 ls []) := by
              intro μ_7 H locs ls  X hl h
              unfold f_X10_layCommon_K133 at h
              refine zlet_elim h (fun x_8 ex_8 h => ?_)
              have gx_8 : Rg x_8 := by rw [ex_8]; exact Rg.w _
              refine z_iinc C ex_8 dX10_layCommon_133 hl (k := 2) rfl (by decide) (lv' := [(2, zI x_8), (0, zR Ω 101), (1, zI x1)]) rfl (fun ls hl => ?_)
              clear ex_8
              refine lv_goto (tgt := 87) C.1 C.2.1 dX10_layCommon_136 (by decide) ?_
              exact ih87 x_8 μ_7 _ _ _ gx_8 X (lv_sub hl [1, 2, 0] rfl) h
            have L99 : ∀ (n99 : Nat) (x_9 : Int) (μ_10 : zMem) (H : Heap) (locs : List Loc) (ls : Array Slot), Rg x_9 → zX Ω μ_10 (zfree Ω) s.heap H locs → lv_has ls 4 [(0, zR Ω 101), (1, zI x1), (2, zI x_5), (3, zI x_9)] → (f_X10_layCommon_L99 x1 x_5 (f_X10_layCommon_K133 x_5 (f_X10_layCommon_L87 x1 (f_X10_layCommon_K139 x1) n87)) n99 x_9 μ_10) = some μ' → W p l e (zrm 42) s m args below meth c H locs 0 0 Q (F0 m 99 ls []) := by
              intro n99
              induction n99 with
              | zero =>
                intro x_9 μ_10 H locs ls _ _ _ h
                cases h
              | succ n99 ih99 =>
                intro x_9 μ_10 H locs ls gx_9 X hl h
                unfold f_X10_layCommon_L99 at h
                refine lv_iload_n C.1 C.2.1 dX10_layCommon_99 rfl (lv_at hl 3 rfl) ?_
                refine lv_aload_n C.1 C.2.1 dX10_layCommon_100 rfl (lv_at hl 0 rfl) ?_
                refine z_get C X zk10 (hI.1 101 (by decide)) rfl 1 (by decide) kw_1033 (zR Ω 103) (zfvF (off := 2) X.2.2.2 (hI.1 101 (by decide)) hI.2 rfl rfl (by decide)) dX10_layCommon_101 ?_
                refine lv_iload_n C.1 C.2.1 dX10_layCommon_104 rfl (lv_at hl 1 rfl) ?_
                obtain ⟨hc105, h⟩ := chk_some h
                have g_105 : Rg (μ_10 103 x1) := zrg1 X.2.2.2 (hI.1 103 (by decide)) rfl
                refine z_iald C X (hI.1 103 (by decide)) rfl hc105 dX10_layCommon_105 ?_
                refine z_icmpge C gx_9 g_105 (tgt := 133) dX10_layCommon_106 (by decide) (fun hc106 => ?_) (fun hc106 => ?_)
                · rw [if_neg hc106] at h
                  exact K133 μ_10 _ _ _ X (lv_sub hl [0, 1, 2] rfl) h
                · rw [if_pos hc106] at h
                  refine lv_aload_n C.1 C.2.1 dX10_layCommon_109 rfl (lv_at hl 0 rfl) ?_
                  refine z_get C X zk10 (hI.1 101 (by decide)) rfl 22 (by decide) kw_1054 (zR Ω 124) (zfvF (off := 23) X.2.2.2 (hI.1 101 (by decide)) hI.2 rfl rfl (by decide)) dX10_layCommon_110 ?_
                  refine z_bipush C dX10_layCommon_113 (by decide) ?_
                  refine lv_iload_n C.1 C.2.1 dX10_layCommon_115 rfl (lv_at hl 2 rfl) ?_
                  refine z_imul C dX10_layCommon_116 ?_
                  refine lv_iload_n C.1 C.2.1 dX10_layCommon_117 rfl (lv_at hl 3 rfl) ?_
                  refine z_iadd C dX10_layCommon_118 ?_
                  refine lv_aload_n C.1 C.2.1 dX10_layCommon_119 rfl (lv_at hl 0 rfl) ?_
                  refine lv_iload_n C.1 C.2.1 dX10_layCommon_120 rfl (lv_at hl 1 rfl) ?_
                  refine lv_iload_n C.1 C.2.1 dX10_layCommon_121 rfl (lv_at hl 2 rfl) ?_
                  refine lv_iload_n C.1 C.2.1 dX10_layCommon_122 rfl (lv_at hl 3 rfl) ?_
                  obtain ⟨x_11, hq123, h⟩ := bnd_some h
                  refine z_callV1 C X zk10 (hI.1 101 (by decide)) rfl (As := [zI x1, zI x_5, zI x_9]) (M_X10_goes hI μ_10 x1 x_5 x_9 gx1 gx_5 gx_9 hq123) zc_X10_goes kw_1343 (zroom (by decide) (by decide)) rfl hl.1 rfl (Nat.le_of_ble_eq_true rfl) dX10_layCommon_123 ⟨Nat.zero_le _, Nat.zero_le _⟩ (fun H locs g_123 X => ?_)
                  obtain ⟨hc126, h⟩ := chk_some h
                  refine zlet_elim h (fun μ_12 em h => ?_)
                  refine z_iast C X (hI.1 124 (by decide)) rfl hc126 (zok1 rfl g_123) em dX10_layCommon_126 (fun H locs X => ?_)
                  clear em
                  refine zlet_elim h (fun x_13 ex_13 h => ?_)
                  have gx_13 : Rg x_13 := by rw [ex_13]; exact Rg.w _
                  refine z_iinc C ex_13 dX10_layCommon_127 hl (k := 3) rfl (by decide) (lv' := [(3, zI x_13), (0, zR Ω 101), (1, zI x1), (2, zI x_5)]) rfl (fun ls hl => ?_)
                  clear ex_13
                  refine lv_goto (tgt := 99) C.1 C.2.1 dX10_layCommon_130 (by decide) ?_
                  exact ih99 x_13 μ_12 _ _ _ gx_13 X (lv_sub hl [1, 2, 3, 0] rfl) h
            exact L99 zfu 0 μ_6 _ _ _ ⟨by decide, by decide⟩ X (lv_sub hl [1, 2, 3, 0] rfl) h
      exact L87 zfu 0 μ_2 _ _ _ ⟨by decide, by decide⟩ X (lv_sub hl [1, 2, 0] rfl) h
    have L31 : ∀ (n31 : Nat) (x_14 : Int) (μ_15 : zMem) (H : Heap) (locs : List Loc) (ls : Array Slot), Rg x_14 → zX Ω μ_15 (zfree Ω) s.heap H locs → lv_has ls 4 [(0, zR Ω 101), (1, zI x1), (2, zI x_14)] → (f_X10_layCommon_L31 (f_X10_layCommon_K85 x1) n31 x_14 μ_15) = some μ' → W p l e (zrm 42) s m args below meth c H locs 0 0 Q (F0 m 31 ls []) := by
      intro n31
      induction n31 with
      | zero =>
        intro x_14 μ_15 H locs ls _ _ _ h
        cases h
      | succ n31 ih31 =>
        intro x_14 μ_15 H locs ls gx_14 X hl h
        unfold f_X10_layCommon_L31 at h
        refine lv_iload_n C.1 C.2.1 dX10_layCommon_31 rfl (lv_at hl 2 rfl) ?_
        refine z_sipush C dX10_layCommon_32 (by decide) ?_
        refine z_icmpge C gx_14 ⟨by decide, by decide⟩ (tgt := 85) dX10_layCommon_35 (by decide) (fun hc35 => ?_) (fun hc35 => ?_)
        · rw [if_neg hc35] at h
          exact K85 μ_15 _ _ _ X (lv_sub hl [0, 1] rfl) h
        · rw [if_pos hc35] at h
          refine lv_aload_n C.1 C.2.1 dX10_layCommon_38 rfl (lv_at hl 0 rfl) ?_
          refine z_get C X zk10 (hI.1 101 (by decide)) rfl 24 (by decide) kw_1056 (zR Ω 126) (zfvF (off := 25) X.2.2.2 (hI.1 101 (by decide)) hI.2 rfl rfl (by decide)) dX10_layCommon_39 ?_
          refine lv_iload_n C.1 C.2.1 dX10_layCommon_42 rfl (lv_at hl 2 rfl) ?_
          refine lv_iload_n C.1 C.2.1 dX10_layCommon_43 rfl (lv_at hl 2 rfl) ?_
          have K52 : ∀ (x_16 : Int) (μ_17 : zMem) (H : Heap) (locs : List Loc) (ls : Array Slot), Rl x_16 → zX Ω μ_17 (zfree Ω) s.heap H locs → lv_has ls 4 [(0, zR Ω 101), (1, zI x1), (2, zI x_14)] → (f_X10_layCommon_J52 x_14 (f_X10_layCommon_L31 (f_X10_layCommon_K85 x1) n31)) x_16 μ_17 = some μ' → W p l e (zrm 42) s m args below meth c H locs 0 0 Q (F0 m 52 ls [zJ x_16, zI x_14, zR Ω 126]) := by
            intro x_16 μ_17 H locs ls gx_16 X hl h
            unfold f_X10_layCommon_J52 at h
            obtain ⟨hc52, h⟩ := chk_some h
            refine zlet_elim h (fun μ_18 em h => ?_)
            refine z_last C X (hI.1 126 (by decide)) rfl hc52 (zok2 rfl gx_16) em dX10_layCommon_52 (fun H locs X => ?_)
            clear em
            refine lv_aload_n C.1 C.2.1 dX10_layCommon_53 rfl (lv_at hl 0 rfl) ?_
            refine z_get C X zk10 (hI.1 101 (by decide)) rfl 25 (by decide) kw_1057 (zR Ω 127) (zfvF (off := 26) X.2.2.2 (hI.1 101 (by decide)) hI.2 rfl rfl (by decide)) dX10_layCommon_54 ?_
            refine lv_iload_n C.1 C.2.1 dX10_layCommon_57 rfl (lv_at hl 2 rfl) ?_
            refine lv_iload_n C.1 C.2.1 dX10_layCommon_58 rfl (lv_at hl 2 rfl) ?_
            have K78 : ∀ (x_19 : Int) (μ_20 : zMem) (H : Heap) (locs : List Loc) (ls : Array Slot), Rg x_19 → zX Ω μ_20 (zfree Ω) s.heap H locs → lv_has ls 4 [(0, zR Ω 101), (1, zI x1), (2, zI x_14)] → (f_X10_layCommon_J78 x_14 (f_X10_layCommon_L31 (f_X10_layCommon_K85 x1) n31)) x_19 μ_20 = some μ' → W p l e (zrm 42) s m args below meth c H locs 0 0 Q (F0 m 78 ls [zI x_19, zI x_14, zR Ω 127]) := by
              intro x_19 μ_20 H locs ls gx_19 X hl h
              unfold f_X10_layCommon_J78 at h
              obtain ⟨hc78, h⟩ := chk_some h
              refine zlet_elim h (fun μ_21 em h => ?_)
              refine z_iast C X (hI.1 127 (by decide)) rfl hc78 (zok1 rfl gx_19) em dX10_layCommon_78 (fun H locs X => ?_)
              clear em
              refine zlet_elim h (fun x_22 ex_22 h => ?_)
              have gx_22 : Rg x_22 := by rw [ex_22]; exact Rg.w _
              refine z_iinc C ex_22 dX10_layCommon_79 hl (k := 2) rfl (by decide) (lv' := [(2, zI x_22), (0, zR Ω 101), (1, zI x1)]) rfl (fun ls hl => ?_)
              clear ex_22
              refine lv_goto (tgt := 31) C.1 C.2.1 dX10_layCommon_82 (by decide) ?_
              exact ih31 x_22 μ_21 _ _ _ gx_22 X (lv_sub hl [1, 2, 0] rfl) h
            refine z_ifne C gx_14 (tgt := 66) dX10_layCommon_59 (by decide) (fun hc59 => ?_) (fun hc59 => ?_)
            · rw [if_neg hc59] at h
              refine lv_aload_n C.1 C.2.1 dX10_layCommon_66 rfl (lv_at hl 0 rfl) ?_
              refine z_get C X zk10 (hI.1 101 (by decide)) rfl 25 (by decide) kw_1057 (zR Ω 127) (zfvF (off := 26) X.2.2.2 (hI.1 101 (by decide)) hI.2 rfl rfl (by decide)) dX10_layCommon_67 ?_
              refine lv_iload_n C.1 C.2.1 dX10_layCommon_70 rfl (lv_at hl 2 rfl) ?_
              refine z_iconst C dX10_layCommon_71 ?_
              refine z_ishr C dX10_layCommon_72 ?_
              obtain ⟨hc73, h⟩ := chk_some h
              have g_73 : Rg (μ_18 127 (zshr x_14 1)) := zrg1 X.2.2.2 (hI.1 127 (by decide)) rfl
              refine z_iald C X (hI.1 127 (by decide)) rfl hc73 dX10_layCommon_73 ?_
              refine lv_iload_n C.1 C.2.1 dX10_layCommon_74 rfl (lv_at hl 2 rfl) ?_
              refine z_iconst C dX10_layCommon_75 ?_
              refine z_iand C dX10_layCommon_76 ?_
              refine z_iadd C dX10_layCommon_77 ?_
              exact K78 (zw ((μ_18 127 (zshr x_14 1)) + (zand x_14 1))) μ_18 _ _ _ (Rg.w _) X (lv_sub hl [0, 1, 2] rfl) h
            · rw [if_pos hc59] at h
              refine z_iconst C dX10_layCommon_62 ?_
              refine lv_goto (tgt := 78) C.1 C.2.1 dX10_layCommon_63 (by decide) ?_
              exact K78 0 μ_18 _ _ _ ⟨by decide, by decide⟩ X (lv_sub hl [0, 1, 2] rfl) h
          refine z_ifne C gx_14 (tgt := 51) dX10_layCommon_44 (by decide) (fun hc44 => ?_) (fun hc44 => ?_)
          · rw [if_neg hc44] at h
            refine z_lconst C 0 rfl dX10_layCommon_51 ?_
            exact K52 0 μ_15 _ _ _ ⟨by decide, by decide⟩ X (lv_sub hl [0, 1, 2] rfl) h
          · rw [if_pos hc44] at h
            refine z_lconst C 1 rfl dX10_layCommon_47 ?_
            refine lv_goto (tgt := 52) C.1 C.2.1 dX10_layCommon_48 (by decide) ?_
            exact K52 1 μ_15 _ _ _ ⟨by decide, by decide⟩ X (lv_sub hl [0, 1, 2] rfl) h
    exact L31 zfu 0 μ_1 _ _ _ ⟨by decide, by decide⟩ X (lv_sub hl [1, 2, 0] rfl) h
  have L2 : ∀ (n2 : Nat) (x_23 : Int) (μ_24 : zMem) (H : Heap) (locs : List Loc) (ls : Array Slot), Rg x_23 → zX Ω μ_24 (zfree Ω) s.heap H locs → lv_has ls 4 [(0, zR Ω 101), (1, zI x1), (2, zI x_23)] → (f_X10_layCommon_L2 (f_X10_layCommon_K29 x1) n2 x_23 μ_24) = some μ' → W p l e (zrm 42) s m args below meth c H locs 0 0 Q (F0 m 2 ls []) := by
    intro n2
    induction n2 with
    | zero =>
      intro x_23 μ_24 H locs ls _ _ _ h
      cases h
    | succ n2 ih2 =>
      intro x_23 μ_24 H locs ls gx_23 X hl h
      unfold f_X10_layCommon_L2 at h
      refine lv_iload_n C.1 C.2.1 dX10_layCommon_2 rfl (lv_at hl 2 rfl) ?_
      refine z_bipush C dX10_layCommon_3 (by decide) ?_
      refine z_icmpge C gx_23 ⟨by decide, by decide⟩ (tgt := 29) dX10_layCommon_5 (by decide) (fun hc5 => ?_) (fun hc5 => ?_)
      · rw [if_neg hc5] at h
        exact K29 μ_24 _ _ _ X (lv_sub hl [0, 1] rfl) h
      · rw [if_pos hc5] at h
        refine lv_aload_n C.1 C.2.1 dX10_layCommon_8 rfl (lv_at hl 0 rfl) ?_
        refine z_get C X zk10 (hI.1 101 (by decide)) rfl 23 (by decide) kw_1055 (zR Ω 125) (zfvF (off := 24) X.2.2.2 (hI.1 101 (by decide)) hI.2 rfl rfl (by decide)) dX10_layCommon_9 ?_
        refine lv_iload_n C.1 C.2.1 dX10_layCommon_12 rfl (lv_at hl 2 rfl) ?_
        refine lv_iload_n C.1 C.2.1 dX10_layCommon_13 rfl (lv_at hl 2 rfl) ?_
        have K22 : ∀ (x_25 : Int) (μ_26 : zMem) (H : Heap) (locs : List Loc) (ls : Array Slot), Rl x_25 → zX Ω μ_26 (zfree Ω) s.heap H locs → lv_has ls 4 [(0, zR Ω 101), (1, zI x1), (2, zI x_23)] → (f_X10_layCommon_J22 x_23 (f_X10_layCommon_L2 (f_X10_layCommon_K29 x1) n2)) x_25 μ_26 = some μ' → W p l e (zrm 42) s m args below meth c H locs 0 0 Q (F0 m 22 ls [zJ x_25, zI x_23, zR Ω 125]) := by
          intro x_25 μ_26 H locs ls gx_25 X hl h
          unfold f_X10_layCommon_J22 at h
          obtain ⟨hc22, h⟩ := chk_some h
          refine zlet_elim h (fun μ_27 em h => ?_)
          refine z_last C X (hI.1 125 (by decide)) rfl hc22 (zok2 rfl gx_25) em dX10_layCommon_22 (fun H locs X => ?_)
          clear em
          refine zlet_elim h (fun x_28 ex_28 h => ?_)
          have gx_28 : Rg x_28 := by rw [ex_28]; exact Rg.w _
          refine z_iinc C ex_28 dX10_layCommon_23 hl (k := 2) rfl (by decide) (lv' := [(2, zI x_28), (0, zR Ω 101), (1, zI x1)]) rfl (fun ls hl => ?_)
          clear ex_28
          refine lv_goto (tgt := 2) C.1 C.2.1 dX10_layCommon_26 (by decide) ?_
          exact ih2 x_28 μ_27 _ _ _ gx_28 X (lv_sub hl [1, 2, 0] rfl) h
        refine z_ifne C gx_23 (tgt := 21) dX10_layCommon_14 (by decide) (fun hc14 => ?_) (fun hc14 => ?_)
        · rw [if_neg hc14] at h
          refine z_lconst C 0 rfl dX10_layCommon_21 ?_
          exact K22 0 μ_24 _ _ _ ⟨by decide, by decide⟩ X (lv_sub hl [0, 1, 2] rfl) h
        · rw [if_pos hc14] at h
          refine z_lconst C 1 rfl dX10_layCommon_17 ?_
          refine lv_goto (tgt := 22) C.1 C.2.1 dX10_layCommon_18 (by decide) ?_
          exact K22 1 μ_24 _ _ _ ⟨by decide, by decide⟩ X (lv_sub hl [0, 1, 2] rfl) h
  exact L2 zfu 0 μ _ _ _ ⟨by decide, by decide⟩ X (lv_sub hl [1, 2, 0] rfl) h
theorem zc_X10_layCommon : zcal yX10_layCommon cX10_layCommon 4 none RX10 1 := ⟨⟨kw_1342, kw_1341, kp_72, kw_12⟩, rfl, by decide, by decide, by decide +kernel⟩

def f_X10_wholeRank_L2 (μ : zMem) : Nat → Int → Option Int
  | 0, _ => none
  | n + 1, x_1 =>
    if x_1 < 8 then
      chk ((0 : Int) ≤ (zw (x_1 + 1)) ∧ (zw (x_1 + 1)) < 9) <|
      if (μ 125 (zw (x_1 + 1))) = 0 then
        some x_1
      else
        zlet (zw (x_1 + 1)) fun x_2 =>
        (f_X10_wholeRank_L2 μ n) x_2
    else
      some x_1
def f_X10_wholeRank (μ : zMem) : Option Int :=
  (f_X10_wholeRank_L2 μ) zfu 0
set_option maxHeartbeats 4000000 in
set_option maxRecDepth 100000 in
theorem M_X10_wholeRank {l : Launch} {Ω : zO} (hI : zIm Ω) (μ : zMem) {r : Int} (h : f_X10_wholeRank μ = some r) : XMet l yX10_wholeRank cX10_wholeRank 2 (some Jvm.ClassFile.FieldType.int) 0 Ω [zR Ω 101] μ (some (zI r)) (Rg r) μ := by
  refine XMet.ofI (by decide) (Nat.le_of_ble_eq_true rfl) ?_
  intro p e s m args below meth c ls Q C rt X hl
  have C : zC p s m args c cX10_wholeRank RX10 2 Ω := C
  have hl : lv_has ls 2 [(0, zR Ω 101)] := hl
  unfold f_X10_wholeRank at h
  skip
  refine z_iconst C dX10_wholeRank_0 ?_
  refine lv_istore_n C.1 C.2.1 (lv' := [(1, zI 0), (0, zR Ω 101)]) dX10_wholeRank_1 rfl hl (by decide) rfl (fun ls hl => ?_)
  have L2 : ∀ (n2 : Nat) (x_1 : Int) (H : Heap) (locs : List Loc) (ls : Array Slot), Rg x_1 → zX Ω μ (zfree Ω) s.heap H locs → lv_has ls 2 [(0, zR Ω 101), (1, zI x_1)] → (f_X10_wholeRank_L2 μ n2 x_1) = some r → W p l e (zrm 0) s m args below meth c H locs 0 0 Q (F0 m 2 ls []) := by
    intro n2
    induction n2 with
    | zero =>
      intro x_1 H locs ls _ _ _ h
      cases h
    | succ n2 ih2 =>
      intro x_1 H locs ls gx_1 X hl h
      unfold f_X10_wholeRank_L2 at h
      refine lv_iload_n C.1 C.2.1 dX10_wholeRank_2 rfl (lv_at hl 1 rfl) ?_
      refine z_bipush C dX10_wholeRank_3 (by decide) ?_
      refine z_icmpge C gx_1 ⟨by decide, by decide⟩ (tgt := 27) dX10_wholeRank_5 (by decide) (fun hc5 => ?_) (fun hc5 => ?_)
      · rw [if_neg hc5] at h
        refine lv_iload_n C.1 C.2.1 dX10_wholeRank_27 rfl (lv_at hl 1 rfl) ?_
        obtain rfl := Option.some.inj h
        exact rt X gx_1 dX10_wholeRank_28
      · rw [if_pos hc5] at h
        refine lv_aload_n C.1 C.2.1 dX10_wholeRank_8 rfl (lv_at hl 0 rfl) ?_
        refine z_get C X zk10 (hI.1 101 (by decide)) rfl 23 (by decide) kw_1055 (zR Ω 125) (zfvF (off := 24) X.2.2.2 (hI.1 101 (by decide)) hI.2 rfl rfl (by decide)) dX10_wholeRank_9 ?_
        refine lv_iload_n C.1 C.2.1 dX10_wholeRank_12 rfl (lv_at hl 1 rfl) ?_
        refine z_iconst C dX10_wholeRank_13 ?_
        refine z_iadd C dX10_wholeRank_14 ?_
        obtain ⟨hc15, h⟩ := chk_some h
        have g_15 : Rl (μ 125 (zw (x_1 + 1))) := zrg2 X.2.2.2 (hI.1 125 (by decide)) rfl
        refine z_lald C X (hI.1 125 (by decide)) rfl hc15 dX10_wholeRank_15 ?_
        refine z_lconst C 0 rfl dX10_wholeRank_16 ?_
        refine z_leq C g_15 ⟨by decide, by decide⟩ (tgt := 27) dX10_wholeRank_17 dX10_wholeRank_18 (by decide) (fun hc17 => ?_) (fun hc17 => ?_)
        · rw [if_pos hc17] at h
          refine lv_iload_n C.1 C.2.1 dX10_wholeRank_27 rfl (lv_at hl 1 rfl) ?_
          obtain rfl := Option.some.inj h
          exact rt X gx_1 dX10_wholeRank_28
        · rw [if_neg hc17] at h
          refine zlet_elim h (fun x_2 ex_2 h => ?_)
          have gx_2 : Rg x_2 := by rw [ex_2]; exact Rg.w _
          refine z_iinc C ex_2 dX10_wholeRank_21 hl (k := 1) rfl (by decide) (lv' := [(1, zI x_2), (0, zR Ω 101)]) rfl (fun ls hl => ?_)
          clear ex_2
          refine lv_goto (tgt := 2) C.1 C.2.1 dX10_wholeRank_24 (by decide) ?_
          exact ih2 x_2 _ _ _ gx_2 X (lv_sub hl [1, 0] rfl) h
  exact L2 zfu 0 _ _ _ ⟨by decide, by decide⟩ X (lv_sub hl [1, 0] rfl) h
theorem zc_X10_wholeRank : zcal yX10_wholeRank cX10_wholeRank 2 (some Jvm.ClassFile.FieldType.int) RX10 0 := ⟨⟨kw_1361, kw_1360, kp_76, kw_12⟩, rfl, by decide, by decide, by decide +kernel⟩

def f_X10_isPrime (x0 : Int) : Int :=
  if x0 = 2 then
    1
  else
    if x0 = 3 then
      1
    else
      if x0 = 5 then
        1
      else
        if x0 = 7 then
          1
        else
          0
set_option maxHeartbeats 4000000 in
set_option maxRecDepth 100000 in
theorem M_X10_isPrime {l : Launch} {Ω : zO} (hI : zIm Ω) (μ : zMem) (x0 : Int) (gx0 : Rg x0) : XMet l yX10_isPrime cX10_isPrime 1 (some Jvm.ClassFile.FieldType.boolean) 0 Ω [zI x0] μ (some (zI (f_X10_isPrime x0))) (0 ≤ (f_X10_isPrime x0) ∧ (f_X10_isPrime x0) ≤ 1) μ := by
  obtain ⟨r, h⟩ : ∃ r, f_X10_isPrime x0 = r := ⟨_, rfl⟩
  rw [h]
  refine XMet.ofZ (by decide) (Nat.le_of_ble_eq_true rfl) ?_
  intro p e s m args below meth c ls Q C rt X hl
  have C : zC p s m args c cX10_isPrime RX10 1 Ω := C
  have hl : lv_has ls 1 [(0, zI x0)] := hl
  unfold f_X10_isPrime at h
  skip
  refine lv_iload_n C.1 C.2.1 dX10_isPrime_0 rfl (lv_at hl 0 rfl) ?_
  refine z_iconst C dX10_isPrime_1 ?_
  refine z_icmpeq C gx0 ⟨by decide, by decide⟩ (tgt := 21) dX10_isPrime_2 (by decide) (fun hc2 => ?_) (fun hc2 => ?_)
  · rw [if_pos hc2] at h
    refine z_iconst C dX10_isPrime_21 ?_
    refine lv_goto (tgt := 26) C.1 C.2.1 dX10_isPrime_22 (by decide) ?_
    subst h
    exact rt X ⟨by decide, by decide⟩ dX10_isPrime_26
  · rw [if_neg hc2] at h
    refine lv_iload_n C.1 C.2.1 dX10_isPrime_5 rfl (lv_at hl 0 rfl) ?_
    refine z_iconst C dX10_isPrime_6 ?_
    refine z_icmpeq C gx0 ⟨by decide, by decide⟩ (tgt := 21) dX10_isPrime_7 (by decide) (fun hc7 => ?_) (fun hc7 => ?_)
    · rw [if_pos hc7] at h
      refine z_iconst C dX10_isPrime_21 ?_
      refine lv_goto (tgt := 26) C.1 C.2.1 dX10_isPrime_22 (by decide) ?_
      subst h
      exact rt X ⟨by decide, by decide⟩ dX10_isPrime_26
    · rw [if_neg hc7] at h
      refine lv_iload_n C.1 C.2.1 dX10_isPrime_10 rfl (lv_at hl 0 rfl) ?_
      refine z_iconst C dX10_isPrime_11 ?_
      refine z_icmpeq C gx0 ⟨by decide, by decide⟩ (tgt := 21) dX10_isPrime_12 (by decide) (fun hc12 => ?_) (fun hc12 => ?_)
      · rw [if_pos hc12] at h
        refine z_iconst C dX10_isPrime_21 ?_
        refine lv_goto (tgt := 26) C.1 C.2.1 dX10_isPrime_22 (by decide) ?_
        subst h
        exact rt X ⟨by decide, by decide⟩ dX10_isPrime_26
      · rw [if_neg hc12] at h
        refine lv_iload_n C.1 C.2.1 dX10_isPrime_15 rfl (lv_at hl 0 rfl) ?_
        refine z_bipush C dX10_isPrime_16 (by decide) ?_
        refine z_icmpne C gx0 ⟨by decide, by decide⟩ (tgt := 25) dX10_isPrime_18 (by decide) (fun hc18 => ?_) (fun hc18 => ?_)
        · rw [if_neg hc18] at h
          refine z_iconst C dX10_isPrime_25 ?_
          subst h
          exact rt X ⟨by decide, by decide⟩ dX10_isPrime_26
        · rw [if_pos hc18] at h
          refine z_iconst C dX10_isPrime_21 ?_
          refine lv_goto (tgt := 26) C.1 C.2.1 dX10_isPrime_22 (by decide) ?_
          subst h
          exact rt X ⟨by decide, by decide⟩ dX10_isPrime_26
theorem zc_X10_isPrime : zcas yX10_isPrime cX10_isPrime 1 (some Jvm.ClassFile.FieldType.boolean) 1 := ⟨⟨kw_1334, kw_1333, kw_12⟩, by decide, by decide, by decide +kernel⟩

def f_X10_holes_J82 (x1 : Int) (x2 : Int) (x_2 : Int) (x_4 : Int) (μ_5 : zMem) : Option (Int × zMem) :=
  if x2 = 1 then
    chk ((0 : Int) ≤ x1 ∧ x1 < 3) <|
    some ((zw ((zw ((μ_5 103 x1) - x_2)) - x_4)), μ_5)
  else
    chk ((0 : Int) ≤ x1 ∧ x1 < 3) <|
    some ((zw ((μ_5 104 x1) - x_4)), μ_5)
def f_X10_holes_J35 (x1 : Int) (x2 : Int) (x3 : Int) (μ_1 : zMem) : Option (Int × zMem) :=
  bnd2 (f_X10_edgeRank x1 μ_1) fun x_2 μ_3 =>
  if x2 = 0 then
    chk ((0 : Int) ≤ x1 ∧ x1 < 3) <|
    some ((zw ((μ_3 102 x1) - x_2)), μ_3)
  else
    if x3 = 0 then
      bnd (f_X10_layCommon x1 μ_3) fun μ_8 =>
      bnd (f_X10_wholeRank μ_8) fun x_9 =>
      (f_X10_holes_J82 x1 x2 x_2) x_9 μ_8
    else
      bnd2 (f_X10_faceRank x1 x3 μ_3) fun x_6 μ_7 =>
      (f_X10_holes_J82 x1 x2 x_2) x_6 μ_7
def f_X10_holes (x1 : Int) (x2 : Int) (x3 : Int) (μ : zMem) : Option (Int × zMem) :=
  if (f_X10_isAny x1 μ) = 0 then
    some ((-1), μ)
  else
    if (f_X10_in x2 0 2) = 0 then
      some ((-1), μ)
    else
      if (f_X10_isPrime x3) = 0 then
        if x3 = 0 then
          if x1 = 2 then
            some ((-1), μ)
          else
            (f_X10_holes_J35 x1 x2 x3) μ
        else
          some ((-1), μ)
      else
        (f_X10_holes_J35 x1 x2 x3) μ
set_option maxHeartbeats 4000000 in
set_option maxRecDepth 100000 in
theorem M_X10_holes {l : Launch} {Ω : zO} (hI : zIm Ω) (μ : zMem) (x1 : Int) (x2 : Int) (x3 : Int) {r : Int} {μ' : zMem} (gx1 : Rg x1) (gx2 : Rg x2) (gx3 : Rg x3) (h : f_X10_holes x1 x2 x3 μ = some (r, μ')) : XMet l yX10_holes cX10_holes 6 (some Jvm.ClassFile.FieldType.int) 43 Ω [zR Ω 101, zI x1, zI x2, zI x3] μ (some (zI r)) (Rg r) μ' := by
  refine XMet.ofI (by decide) (Nat.le_of_ble_eq_true rfl) ?_
  intro p e s m args below meth c ls Q C rt X hl
  have C : zC p s m args c cX10_holes RX10 6 Ω := C
  have hl : lv_has ls 6 [(0, zR Ω 101), (1, zI x1), (2, zI x2), (3, zI x3)] := hl
  unfold f_X10_holes at h
  skip
  refine lv_aload_n C.1 C.2.1 dX10_holes_0 rfl (lv_at hl 0 rfl) ?_
  refine lv_iload_n C.1 C.2.1 dX10_holes_1 rfl (lv_at hl 1 rfl) ?_
  refine z_callV1 C X zk10 (hI.1 101 (by decide)) rfl (As := [zI x1]) (M_X10_isAny hI μ x1 gx1) zc_X10_isAny kw_1305 (zroom (by decide) (by decide)) rfl hl.1 rfl (Nat.le_of_ble_eq_true rfl) dX10_holes_2 ⟨Nat.zero_le _, Nat.zero_le _⟩ (fun H locs g_2 X => ?_)
  refine z_ifeq C (rgz g_2) (tgt := 33) dX10_holes_5 (by decide) (fun hc5 => ?_) (fun hc5 => ?_)
  · rw [if_pos hc5] at h
    refine z_iconst C dX10_holes_33 ?_
    obtain ⟨rfl, rfl⟩ := Prod.mk.inj (Option.some.inj h)
    exact rt X ⟨by decide, by decide⟩ dX10_holes_34
  · rw [if_neg hc5] at h
    refine lv_iload_n C.1 C.2.1 dX10_holes_8 rfl (lv_at hl 2 rfl) ?_
    refine z_iconst C dX10_holes_9 ?_
    refine z_iconst C dX10_holes_10 ?_
    refine z_callS1 C X (As := [zI x2, zI 0, zI 2]) (M_X10_in hI μ x2 0 2 gx2 ⟨by decide, by decide⟩ ⟨by decide, by decide⟩) zc_X10_in kw_1217 (zroom (by decide) (by decide)) rfl hl.1 rfl (Nat.le_of_ble_eq_true rfl) dX10_holes_11 ⟨Nat.zero_le _, Nat.zero_le _⟩ (fun H locs g_11 X => ?_)
    refine z_ifeq C (rgz g_11) (tgt := 33) dX10_holes_14 (by decide) (fun hc14 => ?_) (fun hc14 => ?_)
    · rw [if_pos hc14] at h
      refine z_iconst C dX10_holes_33 ?_
      obtain ⟨rfl, rfl⟩ := Prod.mk.inj (Option.some.inj h)
      exact rt X ⟨by decide, by decide⟩ dX10_holes_34
    · rw [if_neg hc14] at h
      refine lv_iload_n C.1 C.2.1 dX10_holes_17 rfl (lv_at hl 3 rfl) ?_
      refine z_callS1 C X (As := [zI x3]) (M_X10_isPrime hI μ x3 gx3) zc_X10_isPrime kw_1332 (zroom (by decide) (by decide)) rfl hl.1 rfl (Nat.le_of_ble_eq_true rfl) dX10_holes_18 ⟨Nat.zero_le _, Nat.zero_le _⟩ (fun H locs g_18 X => ?_)
      have K35 : ∀ (μ_1 : zMem) (H : Heap) (locs : List Loc) (ls : Array Slot), zX Ω μ_1 (zfree Ω) s.heap H locs → lv_has ls 6 [(0, zR Ω 101), (1, zI x1), (2, zI x2), (3, zI x3)] → (f_X10_holes_J35 x1 x2 x3) μ_1 = some (r, μ') → W p l e (zrm 43) s m args below meth c H locs 0 0 Q (F0 m 35 ls []) := by
        intro μ_1 H locs ls  X hl h
        unfold f_X10_holes_J35 at h
        refine lv_aload_n C.1 C.2.1 dX10_holes_35 rfl (lv_at hl 0 rfl) ?_
        refine lv_iload_n C.1 C.2.1 dX10_holes_36 rfl (lv_at hl 1 rfl) ?_
        obtain ⟨x_2, μ_3, hq37, h⟩ := bnd2_some h
        refine z_callV1 C X zk10 (hI.1 101 (by decide)) rfl (As := [zI x1]) (M_X10_edgeRank hI μ_1 x1 gx1 hq37) zc_X10_edgeRank kw_1335 (zroom (by decide) (by decide)) rfl hl.1 rfl (Nat.le_of_ble_eq_true rfl) dX10_holes_37 ⟨Nat.zero_le _, Nat.zero_le _⟩ (fun H locs g_37 X => ?_)
        refine lv_istore C.1 C.2.1 (lv' := [(4, zI x_2), (0, zR Ω 101), (1, zI x1), (2, zI x2), (3, zI x3)]) dX10_holes_40 hl (by decide) rfl (fun ls hl => ?_)
        refine lv_iload_n C.1 C.2.1 dX10_holes_42 rfl (lv_at hl 3 rfl) ?_
        refine z_ifne C gx2 (tgt := 56) dX10_holes_43 (by decide) (fun hc43 => ?_) (fun hc43 => ?_)
        · rw [if_neg hc43] at h
          refine lv_iload_n C.1 C.2.1 dX10_holes_56 rfl (lv_at hl 4 rfl) ?_
          have K82 : ∀ (x_4 : Int) (μ_5 : zMem) (H : Heap) (locs : List Loc) (ls : Array Slot), Rg x_4 → zX Ω μ_5 (zfree Ω) s.heap H locs → lv_has ls 6 [(0, zR Ω 101), (1, zI x1), (2, zI x2), (4, zI x_2), (5, zI x_4)] → (f_X10_holes_J82 x1 x2 x_2) x_4 μ_5 = some (r, μ') → W p l e (zrm 43) s m args below meth c H locs 0 0 Q (F0 m 82 ls []) := by
            intro x_4 μ_5 H locs ls gx_4 X hl h
            unfold f_X10_holes_J82 at h
            refine lv_iload_n C.1 C.2.1 dX10_holes_82 rfl (lv_at hl 2 rfl) ?_
            refine z_iconst C dX10_holes_83 ?_
            refine z_icmpne C gx2 ⟨by decide, by decide⟩ (tgt := 102) dX10_holes_84 (by decide) (fun hc84 => ?_) (fun hc84 => ?_)
            · rw [if_neg hc84] at h
              refine lv_aload_n C.1 C.2.1 dX10_holes_102 rfl (lv_at hl 0 rfl) ?_
              refine z_get C X zk10 (hI.1 101 (by decide)) rfl 2 (by decide) kw_1034 (zR Ω 104) (zfvF (off := 3) X.2.2.2 (hI.1 101 (by decide)) hI.2 rfl rfl (by decide)) dX10_holes_103 ?_
              refine lv_iload_n C.1 C.2.1 dX10_holes_106 rfl (lv_at hl 1 rfl) ?_
              obtain ⟨hc107, h⟩ := chk_some h
              have g_107 : Rg (μ_5 104 x1) := zrg1 X.2.2.2 (hI.1 104 (by decide)) rfl
              refine z_iald C X (hI.1 104 (by decide)) rfl hc107 dX10_holes_107 ?_
              refine lv_iload C.1 C.2.1 dX10_holes_108 (lv_at hl 4 rfl) ?_
              refine z_isub C dX10_holes_110 ?_
              obtain ⟨rfl, rfl⟩ := Prod.mk.inj (Option.some.inj h)
              exact rt X (Rg.w _) dX10_holes_111
            · rw [if_pos hc84] at h
              refine lv_aload_n C.1 C.2.1 dX10_holes_87 rfl (lv_at hl 0 rfl) ?_
              refine z_get C X zk10 (hI.1 101 (by decide)) rfl 1 (by decide) kw_1033 (zR Ω 103) (zfvF (off := 2) X.2.2.2 (hI.1 101 (by decide)) hI.2 rfl rfl (by decide)) dX10_holes_88 ?_
              refine lv_iload_n C.1 C.2.1 dX10_holes_91 rfl (lv_at hl 1 rfl) ?_
              obtain ⟨hc92, h⟩ := chk_some h
              have g_92 : Rg (μ_5 103 x1) := zrg1 X.2.2.2 (hI.1 103 (by decide)) rfl
              refine z_iald C X (hI.1 103 (by decide)) rfl hc92 dX10_holes_92 ?_
              refine lv_iload C.1 C.2.1 dX10_holes_93 (lv_at hl 3 rfl) ?_
              refine z_isub C dX10_holes_95 ?_
              refine lv_iload C.1 C.2.1 dX10_holes_96 (lv_at hl 4 rfl) ?_
              refine z_isub C dX10_holes_98 ?_
              refine lv_goto (tgt := 111) C.1 C.2.1 dX10_holes_99 (by decide) ?_
              obtain ⟨rfl, rfl⟩ := Prod.mk.inj (Option.some.inj h)
              exact rt X (Rg.w _) dX10_holes_111
          refine z_ifne C gx3 (tgt := 74) dX10_holes_57 (by decide) (fun hc57 => ?_) (fun hc57 => ?_)
          · rw [if_neg hc57] at h
            refine lv_aload_n C.1 C.2.1 dX10_holes_74 rfl (lv_at hl 1 rfl) ?_
            refine lv_iload_n C.1 C.2.1 dX10_holes_75 rfl (lv_at hl 2 rfl) ?_
            refine lv_iload_n C.1 C.2.1 dX10_holes_76 rfl (lv_at hl 4 rfl) ?_
            obtain ⟨x_6, μ_7, hq77, h⟩ := bnd2_some h
            refine z_callV1 C X zk10 (hI.1 101 (by decide)) rfl (As := [zI x1, zI x3]) (M_X10_faceRank hI μ_3 x1 x3 gx1 gx3 hq77) zc_X10_faceRank kw_1362 (zroom (by decide) (by decide)) rfl hl.1 rfl (Nat.le_of_ble_eq_true rfl) dX10_holes_77 ⟨Nat.zero_le _, Nat.zero_le _⟩ (fun H locs g_77 X => ?_)
            refine lv_istore C.1 C.2.1 (lv' := [(5, zI x_6), (4, zI x_2), (0, zR Ω 101), (1, zI x1), (2, zI x2), (3, zI x3)]) dX10_holes_80 hl (by decide) rfl (fun ls hl => ?_)
            exact K82 x_6 μ_7 _ _ _ g_77 X (lv_sub hl [2, 3, 4, 1, 0] rfl) h
          · rw [if_pos hc57] at h
            refine lv_aload_n C.1 C.2.1 dX10_holes_60 rfl (lv_at hl 1 rfl) ?_
            refine lv_iload_n C.1 C.2.1 dX10_holes_61 rfl (lv_at hl 2 rfl) ?_
            obtain ⟨μ_8, hq62, h⟩ := bnd_some h
            refine z_callV0 C X zk10 (hI.1 101 (by decide)) rfl (As := [zI x1]) (M_X10_layCommon hI μ_3 x1 gx1 hq62) zc_X10_layCommon kw_1339 (zroom (by decide) (by decide)) rfl hl.1 rfl (Nat.le_of_ble_eq_true rfl) dX10_holes_62 ⟨Nat.zero_le _, Nat.zero_le _⟩ (fun H locs g_62 X => ?_)
            refine lv_aload_n C.1 C.2.1 dX10_holes_65 rfl (lv_at hl 1 rfl) ?_
            obtain ⟨x_9, hq66, h⟩ := bnd_some h
            refine z_callV1 C X zk10 (hI.1 101 (by decide)) rfl (As := []) (M_X10_wholeRank hI μ_8 hq66) zc_X10_wholeRank kw_1358 (zroom (by decide) (by decide)) rfl hl.1 rfl (Nat.le_of_ble_eq_true rfl) dX10_holes_66 ⟨Nat.zero_le _, Nat.zero_le _⟩ (fun H locs g_66 X => ?_)
            refine lv_istore C.1 C.2.1 (lv' := [(5, zI x_9), (4, zI x_2), (0, zR Ω 101), (1, zI x1), (2, zI x2), (3, zI x3)]) dX10_holes_69 hl (by decide) rfl (fun ls hl => ?_)
            refine lv_goto (tgt := 82) C.1 C.2.1 dX10_holes_71 (by decide) ?_
            exact K82 x_9 μ_8 _ _ _ g_66 X (lv_sub hl [2, 3, 4, 1, 0] rfl) h
        · rw [if_pos hc43] at h
          refine lv_aload_n C.1 C.2.1 dX10_holes_46 rfl (lv_at hl 1 rfl) ?_
          refine z_get C X zk10 (hI.1 101 (by decide)) rfl 0 (by decide) kw_1032 (zR Ω 102) (zfvF (off := 1) X.2.2.2 (hI.1 101 (by decide)) hI.2 rfl rfl (by decide)) dX10_holes_47 ?_
          refine lv_iload_n C.1 C.2.1 dX10_holes_50 rfl (lv_at hl 2 rfl) ?_
          obtain ⟨hc51, h⟩ := chk_some h
          have g_51 : Rg (μ_3 102 x1) := zrg1 X.2.2.2 (hI.1 102 (by decide)) rfl
          refine z_iald C X (hI.1 102 (by decide)) rfl hc51 dX10_holes_51 ?_
          refine lv_iload C.1 C.2.1 dX10_holes_52 (lv_at hl 0 rfl) ?_
          refine z_isub C dX10_holes_54 ?_
          obtain ⟨rfl, rfl⟩ := Prod.mk.inj (Option.some.inj h)
          exact rt X (Rg.w _) dX10_holes_55
      refine z_ifne C (rgz g_18) (tgt := 35) dX10_holes_21 (by decide) (fun hc21 => ?_) (fun hc21 => ?_)
      · rw [if_neg hc21] at h
        exact K35 μ _ _ _ X (lv_sub hl [0, 1, 2, 3] rfl) h
      · rw [if_pos hc21] at h
        refine lv_iload_n C.1 C.2.1 dX10_holes_24 rfl (lv_at hl 3 rfl) ?_
        refine z_ifne C gx3 (tgt := 33) dX10_holes_25 (by decide) (fun hc25 => ?_) (fun hc25 => ?_)
        · rw [if_neg hc25] at h
          refine z_iconst C dX10_holes_33 ?_
          obtain ⟨rfl, rfl⟩ := Prod.mk.inj (Option.some.inj h)
          exact rt X ⟨by decide, by decide⟩ dX10_holes_34
        · rw [if_pos hc25] at h
          refine lv_iload_n C.1 C.2.1 dX10_holes_28 rfl (lv_at hl 1 rfl) ?_
          refine z_iconst C dX10_holes_29 ?_
          refine z_icmpne C gx1 ⟨by decide, by decide⟩ (tgt := 35) dX10_holes_30 (by decide) (fun hc30 => ?_) (fun hc30 => ?_)
          · rw [if_neg hc30] at h
            exact K35 μ _ _ _ X (lv_sub hl [0, 1, 2, 3] rfl) h
          · rw [if_pos hc30] at h
            refine z_iconst C dX10_holes_33 ?_
            obtain ⟨rfl, rfl⟩ := Prod.mk.inj (Option.some.inj h)
            exact rt X ⟨by decide, by decide⟩ dX10_holes_34
theorem zc_X10_holes : zcal yX10_holes cX10_holes 6 (some Jvm.ClassFile.FieldType.int) RX10 3 := ⟨⟨kw_1331, kw_1329, kw_1330, kw_12⟩, rfl, by decide, by decide, by decide +kernel⟩

def f_X10_bend_J11 (μ_1 : zMem) : Option (Int × zMem) :=
  some ((-1), μ_1)
def f_X10_bend_K77 (μ_3 : zMem) : Option (Int × zMem) :=
  some ((-4), μ_3)
def f_X10_bend_L25 (x2 : Int) (g77 : zMem → Option (Int × zMem)) : Nat → Int → Int → zMem → Option (Int × zMem)
  | 0, _, _, _ => none
  | n + 1, x_4, x_5, μ_6 =>
    bnd (f_X10_wholeRank μ_6) fun x_7 =>
    if x_5 ≤ x_7 then
      chk ((0 : Int) ≤ x_5 ∧ x_5 < 9) <|
      chk ((0 : Int) ≤ (zw (x_5 - 1)) ∧ (zw (x_5 - 1)) < 9) <|
      chk ((μ_6 125 (zw (x_5 - 1))) ≠ 0) <|
      zlet ((zl (Int.tdiv (μ_6 125 x_5) (μ_6 125 (zw (x_5 - 1)))))) fun x_8 =>
      if x_8 ≤ 1 then
        zlet (zw (x_5 + 1)) fun x_9 =>
        (f_X10_bend_L25 x2 g77 n) x_4 x_9 μ_6
      else
        if x_4 = x2 then
          some (x_8, μ_6)
        else
          zlet (zw (x_4 + 1)) fun x_10 =>
          zlet (zw (x_5 + 1)) fun x_11 =>
          (f_X10_bend_L25 x2 g77 n) x_10 x_11 μ_6
    else
      g77 μ_6
def f_X10_bend (x1 : Int) (x2 : Int) (μ : zMem) : Option (Int × zMem) :=
  if (f_X10_isSpace x1) = 0 then
    f_X10_bend_J11 μ
  else
    if x2 < 0 then
      f_X10_bend_J11 μ
    else
      bnd (f_X10_layCommon x1 μ) fun μ_2 =>
      (f_X10_bend_L25 x2 f_X10_bend_K77) zfu 0 1 μ_2
set_option maxHeartbeats 4000000 in
set_option maxRecDepth 100000 in
theorem M_X10_bend {l : Launch} {Ω : zO} (hI : zIm Ω) (μ : zMem) (x1 : Int) (x2 : Int) {r : Int} {μ' : zMem} (gx1 : Rg x1) (gx2 : Rg x2) (h : f_X10_bend x1 x2 μ = some (r, μ')) : XMet l yX10_bend cX10_bend 7 (some Jvm.ClassFile.FieldType.long) 43 Ω [zR Ω 101, zI x1, zI x2] μ (some (zJ r)) (Rl r) μ' := by
  refine XMet.ofJ (by decide) (Nat.le_of_ble_eq_true rfl) ?_
  intro p e s m args below meth c ls Q C rt X hl
  have C : zC p s m args c cX10_bend RX10 7 Ω := C
  have hl : lv_has ls 7 [(0, zR Ω 101), (1, zI x1), (2, zI x2)] := hl
  unfold f_X10_bend at h
  skip
  refine lv_iload_n C.1 C.2.1 dX10_bend_0 rfl (lv_at hl 1 rfl) ?_
  refine z_callS1 C X (As := [zI x1]) (M_X10_isSpace hI μ x1 gx1) zc_X10_isSpace kw_1214 (zroom (by decide) (by decide)) rfl hl.1 rfl (Nat.le_of_ble_eq_true rfl) dX10_bend_1 ⟨Nat.zero_le _, Nat.zero_le _⟩ (fun H locs g_1 X => ?_)
  have K11 : ∀ (μ_1 : zMem) (H : Heap) (locs : List Loc) (ls : Array Slot), zX Ω μ_1 (zfree Ω) s.heap H locs → lv_has ls 7 [] → f_X10_bend_J11 μ_1 = some (r, μ') → W p l e (zrm 43) s m args below meth c H locs 0 0 Q (F0 m 11 ls []) := by
    intro μ_1 H locs ls  X hl h
    unfold f_X10_bend_J11 at h
    refine z_ldc2 C (-1) kw_1374 (by decide) dX10_bend_11 ?_
    obtain ⟨rfl, rfl⟩ := Prod.mk.inj (Option.some.inj h)
    exact rt X ⟨by decide, by decide⟩ dX10_bend_14
  refine z_ifeq C (rgz g_1) (tgt := 11) dX10_bend_4 (by decide) (fun hc4 => ?_) (fun hc4 => ?_)
  · rw [if_pos hc4] at h
    exact K11 μ _ _ _ X (lv_sub hl [] rfl) h
  · rw [if_neg hc4] at h
    refine lv_iload_n C.1 C.2.1 dX10_bend_7 rfl (lv_at hl 2 rfl) ?_
    refine z_ifge C gx2 (tgt := 15) dX10_bend_8 (by decide) (fun hc8 => ?_) (fun hc8 => ?_)
    · rw [if_neg hc8] at h
      refine lv_aload_n C.1 C.2.1 dX10_bend_15 rfl (lv_at hl 0 rfl) ?_
      refine lv_iload_n C.1 C.2.1 dX10_bend_16 rfl (lv_at hl 1 rfl) ?_
      obtain ⟨μ_2, hq17, h⟩ := bnd_some h
      refine z_callV0 C X zk10 (hI.1 101 (by decide)) rfl (As := [zI x1]) (M_X10_layCommon hI μ x1 gx1 hq17) zc_X10_layCommon kw_1339 (zroom (by decide) (by decide)) rfl hl.1 rfl (Nat.le_of_ble_eq_true rfl) dX10_bend_17 ⟨Nat.zero_le _, Nat.zero_le _⟩ (fun H locs g_17 X => ?_)
      refine z_iconst C dX10_bend_20 ?_
      refine lv_istore_n C.1 C.2.1 (lv' := [(3, zI 0), (0, zR Ω 101), (1, zI x1), (2, zI x2)]) dX10_bend_21 rfl hl (by decide) rfl (fun ls hl => ?_)
      refine z_iconst C dX10_bend_22 ?_
      refine lv_istore C.1 C.2.1 (lv' := [(4, zI 1), (3, zI 0), (0, zR Ω 101), (1, zI x1), (2, zI x2)]) dX10_bend_23 hl (by decide) rfl (fun ls hl => ?_)
      have K77 : ∀ (μ_3 : zMem) (H : Heap) (locs : List Loc) (ls : Array Slot), zX Ω μ_3 (zfree Ω) s.heap H locs → lv_has ls 7 [] → f_X10_bend_K77 μ_3 = some (r, μ') → W p l e (zrm 43) s m args below meth c H locs 0 0 Q (F0 m 77 ls []) := by
        intro μ_3 H locs ls  X hl h
        unfold f_X10_bend_K77 at h
        refine z_ldc2 C (-4) kw_1375 (by decide) dX10_bend_77 ?_
        obtain ⟨rfl, rfl⟩ := Prod.mk.inj (Option.some.inj h)
        exact rt X ⟨by decide, by decide⟩ dX10_bend_80
      have L25 : ∀ (n25 : Nat) (x_4 : Int) (x_5 : Int) (μ_6 : zMem) (H : Heap) (locs : List Loc) (ls : Array Slot), Rg x_4 → Rg x_5 → zX Ω μ_6 (zfree Ω) s.heap H locs → lv_has ls 7 [(0, zR Ω 101), (2, zI x2), (3, zI x_4), (4, zI x_5)] → (f_X10_bend_L25 x2 f_X10_bend_K77 n25 x_4 x_5 μ_6) = some (r, μ') → W p l e (zrm 43) s m args below meth c H locs 0 0 Q (F0 m 25 ls []) := by
        intro n25
        induction n25 with
        | zero =>
          intro x_4 x_5 μ_6 H locs ls _ _ _ _ h
          cases h
        | succ n25 ih25 =>
          intro x_4 x_5 μ_6 H locs ls gx_4 gx_5 X hl h
          unfold f_X10_bend_L25 at h
          refine lv_iload C.1 C.2.1 dX10_bend_25 (lv_at hl 3 rfl) ?_
          refine lv_aload_n C.1 C.2.1 dX10_bend_27 rfl (lv_at hl 0 rfl) ?_
          obtain ⟨x_7, hq28, h⟩ := bnd_some h
          refine z_callV1 C X zk10 (hI.1 101 (by decide)) rfl (As := []) (M_X10_wholeRank hI μ_6 hq28) zc_X10_wholeRank kw_1358 (zroom (by decide) (by decide)) rfl hl.1 rfl (Nat.le_of_ble_eq_true rfl) dX10_bend_28 ⟨Nat.zero_le _, Nat.zero_le _⟩ (fun H locs g_28 X => ?_)
          refine z_icmpgt C gx_5 g_28 (tgt := 77) dX10_bend_31 (by decide) (fun hc31 => ?_) (fun hc31 => ?_)
          · rw [if_neg hc31] at h
            exact K77 μ_6 _ _ _ X (lv_sub hl [] rfl) h
          · rw [if_pos hc31] at h
            refine lv_aload_n C.1 C.2.1 dX10_bend_34 rfl (lv_at hl 0 rfl) ?_
            refine z_get C X zk10 (hI.1 101 (by decide)) rfl 23 (by decide) kw_1055 (zR Ω 125) (zfvF (off := 24) X.2.2.2 (hI.1 101 (by decide)) hI.2 rfl rfl (by decide)) dX10_bend_35 ?_
            refine lv_iload C.1 C.2.1 dX10_bend_38 (lv_at hl 3 rfl) ?_
            obtain ⟨hc40, h⟩ := chk_some h
            have g_40 : Rl (μ_6 125 x_5) := zrg2 X.2.2.2 (hI.1 125 (by decide)) rfl
            refine z_lald C X (hI.1 125 (by decide)) rfl hc40 dX10_bend_40 ?_
            refine lv_aload_n C.1 C.2.1 dX10_bend_41 rfl (lv_at hl 0 rfl) ?_
            refine z_get C X zk10 (hI.1 101 (by decide)) rfl 23 (by decide) kw_1055 (zR Ω 125) (zfvF (off := 24) X.2.2.2 (hI.1 101 (by decide)) hI.2 rfl rfl (by decide)) dX10_bend_42 ?_
            refine lv_iload C.1 C.2.1 dX10_bend_45 (lv_at hl 3 rfl) ?_
            refine z_iconst C dX10_bend_47 ?_
            refine z_isub C dX10_bend_48 ?_
            obtain ⟨hc49, h⟩ := chk_some h
            have g_49 : Rl (μ_6 125 (zw (x_5 - 1))) := zrg2 X.2.2.2 (hI.1 125 (by decide)) rfl
            refine z_lald C X (hI.1 125 (by decide)) rfl hc49 dX10_bend_49 ?_
            obtain ⟨hc50, h⟩ := chk_some h
            refine z_ldiv C g_40 g_49 hc50 dX10_bend_50 ?_
            refine zlet_elim h (fun x_8 ex_8 h => ?_)
            have gx_8 : Rl x_8 := by rw [ex_8]; exact (Rl.w _)
            refine z_lstore C ex_8 dX10_bend_51 hl (by decide) (lv' := [(5, zJ x_8), (0, zR Ω 101), (2, zI x2), (3, zI x_4), (4, zI x_5)]) rfl (fun ls hl => ?_)
            clear ex_8
            refine lv_lload C.1 C.2.1 dX10_bend_53 (lv_at hl 0 rfl) ?_
            refine z_lconst C 1 rfl dX10_bend_55 ?_
            refine z_lle C gx_8 ⟨by decide, by decide⟩ (tgt := 71) dX10_bend_56 dX10_bend_57 (by decide) (fun hc56 => ?_) (fun hc56 => ?_)
            · rw [if_pos hc56] at h
              refine zlet_elim h (fun x_9 ex_9 h => ?_)
              have gx_9 : Rg x_9 := by rw [ex_9]; exact Rg.w _
              refine z_iinc C ex_9 dX10_bend_71 hl (k := 4) rfl (by decide) (lv' := [(4, zI x_9), (5, zJ x_8), (0, zR Ω 101), (2, zI x2), (3, zI x_4)]) rfl (fun ls hl => ?_)
              clear ex_9
              refine lv_goto (tgt := 25) C.1 C.2.1 dX10_bend_74 (by decide) ?_
              exact ih25 x_4 x_9 μ_6 _ _ _ gx_4 gx_9 X (lv_sub hl [2, 3, 4, 0] rfl) h
            · rw [if_neg hc56] at h
              refine lv_iload_n C.1 C.2.1 dX10_bend_60 rfl (lv_at hl 3 rfl) ?_
              refine lv_iload_n C.1 C.2.1 dX10_bend_61 rfl (lv_at hl 2 rfl) ?_
              refine z_icmpne C gx_4 gx2 (tgt := 68) dX10_bend_62 (by decide) (fun hc62 => ?_) (fun hc62 => ?_)
              · rw [if_neg hc62] at h
                refine zlet_elim h (fun x_10 ex_10 h => ?_)
                have gx_10 : Rg x_10 := by rw [ex_10]; exact Rg.w _
                refine z_iinc C ex_10 dX10_bend_68 hl (k := 3) rfl (by decide) (lv' := [(3, zI x_10), (5, zJ x_8), (0, zR Ω 101), (2, zI x2), (4, zI x_5)]) rfl (fun ls hl => ?_)
                clear ex_10
                refine zlet_elim h (fun x_11 ex_11 h => ?_)
                have gx_11 : Rg x_11 := by rw [ex_11]; exact Rg.w _
                refine z_iinc C ex_11 dX10_bend_71 hl (k := 4) rfl (by decide) (lv' := [(4, zI x_11), (3, zI x_10), (5, zJ x_8), (0, zR Ω 101), (2, zI x2)]) rfl (fun ls hl => ?_)
                clear ex_11
                refine lv_goto (tgt := 25) C.1 C.2.1 dX10_bend_74 (by decide) ?_
                exact ih25 x_10 x_11 μ_6 _ _ _ gx_10 gx_11 X (lv_sub hl [3, 4, 1, 0] rfl) h
              · rw [if_pos hc62] at h
                refine lv_lload C.1 C.2.1 dX10_bend_65 (lv_at hl 0 rfl) ?_
                obtain ⟨rfl, rfl⟩ := Prod.mk.inj (Option.some.inj h)
                exact rt X gx_8 dX10_bend_67
      exact L25 zfu 0 1 μ_2 _ _ _ ⟨by decide, by decide⟩ ⟨by decide, by decide⟩ X (lv_sub hl [2, 4, 1, 0] rfl) h
    · rw [if_pos hc8] at h
      exact K11 μ _ _ _ X (lv_sub hl [] rfl) h
theorem zc_X10_bend : zcal yX10_bend cX10_bend 7 (some Jvm.ClassFile.FieldType.long) RX10 2 := ⟨⟨kw_1373, kw_1371, kw_1372, kw_12⟩, rfl, by decide, by decide, by decide +kernel⟩

def f_X10_goOrders_L56 (x1 : Int) (x2 : Int) (gself : Int → Int → zMem → Option zMem) : Nat → Int → zMem → Option zMem
  | 0, _, _ => none
  | n + 1, x_1, μ_2 =>
    if x_1 < (μ_2 101 28) then
      if (zand (zshr x2 x_1) 1) = 0 then
        chk ((0 : Int) ≤ x1 ∧ x1 < 4) <|
        zlet (zup μ_2 134 x1 x_1) fun μ_4 =>
        bnd (gself (zw (x1 + 1)) (zor x2 (zshl 1 x_1)) μ_4) fun μ_5 =>
        zlet (zw (x_1 + 1)) fun x_6 =>
        (f_X10_goOrders_L56 x1 x2 gself n) x_6 μ_5
      else
        zlet (zw (x_1 + 1)) fun x_3 =>
        (f_X10_goOrders_L56 x1 x2 gself n) x_3 μ_2
    else
      some μ_2
def f_X10_goOrders_K43 (μ_7 : zMem) : Option zMem :=
  zlet (zup μ_7 101 30 (zw ((μ_7 101 30) + 1))) fun μ_8 =>
  some μ_8
def f_X10_goOrders_L10 (g43 : zMem → Option zMem) : Nat → Int → zMem → Option zMem
  | 0, _, _ => none
  | n + 1, x_9, μ_10 =>
    if x_9 < (μ_10 101 28) then
      chk ((0 : Int) ≤ x_9 ∧ x_9 < 4) <|
      chk ((0 : Int) ≤ (zw ((zw (4 * (μ_10 101 30))) + x_9)) ∧ (zw ((zw (4 * (μ_10 101 30))) + x_9)) < 96) <|
      zlet (zup μ_10 133 (zw ((zw (4 * (μ_10 101 30))) + x_9)) (μ_10 134 x_9)) fun μ_11 =>
      zlet (zw (x_9 + 1)) fun x_12 =>
      (f_X10_goOrders_L10 g43 n) x_12 μ_11
    else
      g43 μ_10
def f_X10_goOrders : Nat → Int → Int → zMem → Option zMem
  | 0, _, _, _ => none
  | n + 1, x1, x2, μ =>
    if x1 = (μ 101 28) then
      (f_X10_goOrders_L10 f_X10_goOrders_K43) zfu 0 μ
    else
      (f_X10_goOrders_L56 x1 x2 (f_X10_goOrders n)) zfu 0 μ
theorem zc_X10_goOrders : zcal yX10_goOrders cX10_goOrders 4 none RX10 2 := ⟨⟨kw_1390, kw_1389, kp_80, kw_12⟩, rfl, by decide, by decide, by decide +kernel⟩
set_option maxHeartbeats 4000000 in
set_option maxRecDepth 100000 in
theorem M_X10_goOrders {l : Launch} {Ω : zO} (hI : zIm Ω) : ∀ (nS : Nat) (μ : zMem) (x1 : Int) (x2 : Int) {μ' : zMem} (gx1 : Rg x1) (gx2 : Rg x2), f_X10_goOrders nS x1 x2 μ = some μ' → XMet l yX10_goOrders cX10_goOrders 4 none (nS + 0) Ω [zR Ω 101, zI x1, zI x2] μ none True μ' := by
  intro nS
  induction nS with
  | zero =>
    intro μ x1 x2 μ' gx1 gx2 h
    cases h
  | succ nS ihs =>
    intro μ x1 x2 μ' gx1 gx2 h
    refine XMet.ofV (by decide) (Nat.le_of_ble_eq_true rfl) ?_
    intro p e s m args below meth c ls Q C rt X hl
    have C : zC p s m args c cX10_goOrders RX10 4 Ω := C
    have hl : lv_has ls 4 [(0, zR Ω 101), (1, zI x1), (2, zI x2)] := hl
    unfold f_X10_goOrders at h
    skip
    refine lv_iload_n C.1 C.2.1 dX10_goOrders_0 rfl (lv_at hl 1 rfl) ?_
    refine lv_aload_n C.1 C.2.1 dX10_goOrders_1 rfl (lv_at hl 0 rfl) ?_
    have g_2 : Rg (μ 101 28) := zrgf0 (ci := 10) X.2.2.2 (hI.1 101 (by decide)) rfl 28 rfl
    refine z_get C X zk10 (hI.1 101 (by decide)) rfl 28 (by decide) kw_1060 (zI (μ 101 28)) rfl dX10_goOrders_2 ?_
    refine z_icmpne C gx1 g_2 (tgt := 54) dX10_goOrders_5 (by decide) (fun hc5 => ?_) (fun hc5 => ?_)
    · rw [if_neg hc5] at h
      refine z_iconst C dX10_goOrders_54 ?_
      refine lv_istore_n C.1 C.2.1 (lv' := [(3, zI 0), (0, zR Ω 101), (1, zI x1), (2, zI x2)]) dX10_goOrders_55 rfl hl (by decide) rfl (fun ls hl => ?_)
      have L56 : ∀ (n56 : Nat) (x_1 : Int) (μ_2 : zMem) (H : Heap) (locs : List Loc) (ls : Array Slot), Rg x_1 → zX Ω μ_2 (zfree Ω) s.heap H locs → lv_has ls 4 [(0, zR Ω 101), (1, zI x1), (2, zI x2), (3, zI x_1)] → (f_X10_goOrders_L56 x1 x2 (f_X10_goOrders nS) n56 x_1 μ_2) = some μ' → W p l e (zrm (nS + 1 + 0)) s m args below meth c H locs 0 0 Q (F0 m 56 ls []) := by
        intro n56
        induction n56 with
        | zero =>
          intro x_1 μ_2 H locs ls _ _ _ h
          cases h
        | succ n56 ih56 =>
          intro x_1 μ_2 H locs ls gx_1 X hl h
          unfold f_X10_goOrders_L56 at h
          refine lv_iload_n C.1 C.2.1 dX10_goOrders_56 rfl (lv_at hl 3 rfl) ?_
          refine lv_aload_n C.1 C.2.1 dX10_goOrders_57 rfl (lv_at hl 0 rfl) ?_
          have g_58 : Rg (μ_2 101 28) := zrgf0 (ci := 10) X.2.2.2 (hI.1 101 (by decide)) rfl 28 rfl
          refine z_get C X zk10 (hI.1 101 (by decide)) rfl 28 (by decide) kw_1060 (zI (μ_2 101 28)) rfl dX10_goOrders_58 ?_
          refine z_icmpge C gx_1 g_58 (tgt := 97) dX10_goOrders_61 (by decide) (fun hc61 => ?_) (fun hc61 => ?_)
          · rw [if_neg hc61] at h
            obtain rfl := Option.some.inj h
            exact rt X dX10_goOrders_97
          · rw [if_pos hc61] at h
            refine lv_iload_n C.1 C.2.1 dX10_goOrders_64 rfl (lv_at hl 2 rfl) ?_
            refine lv_iload_n C.1 C.2.1 dX10_goOrders_65 rfl (lv_at hl 3 rfl) ?_
            refine z_ishr C dX10_goOrders_66 ?_
            refine z_iconst C dX10_goOrders_67 ?_
            refine z_iand C dX10_goOrders_68 ?_
            refine z_ifne C (Rg.t _) (tgt := 91) dX10_goOrders_69 (by decide) (fun hc69 => ?_) (fun hc69 => ?_)
            · rw [if_neg hc69] at h
              refine zlet_elim h (fun x_3 ex_3 h => ?_)
              have gx_3 : Rg x_3 := by rw [ex_3]; exact Rg.w _
              refine z_iinc C ex_3 dX10_goOrders_91 hl (k := 3) rfl (by decide) (lv' := [(3, zI x_3), (0, zR Ω 101), (1, zI x1), (2, zI x2)]) rfl (fun ls hl => ?_)
              clear ex_3
              refine lv_goto (tgt := 56) C.1 C.2.1 dX10_goOrders_94 (by decide) ?_
              exact ih56 x_3 μ_2 _ _ _ gx_3 X (lv_sub hl [1, 2, 3, 0] rfl) h
            · rw [if_pos hc69] at h
              refine lv_aload_n C.1 C.2.1 dX10_goOrders_72 rfl (lv_at hl 0 rfl) ?_
              refine z_get C X zk10 (hI.1 101 (by decide)) rfl 32 (by decide) kw_1064 (zR Ω 134) (zfvF (off := 33) X.2.2.2 (hI.1 101 (by decide)) hI.2 rfl rfl (by decide)) dX10_goOrders_73 ?_
              refine lv_iload_n C.1 C.2.1 dX10_goOrders_76 rfl (lv_at hl 1 rfl) ?_
              refine lv_iload_n C.1 C.2.1 dX10_goOrders_77 rfl (lv_at hl 3 rfl) ?_
              obtain ⟨hc78, h⟩ := chk_some h
              refine zlet_elim h (fun μ_4 em h => ?_)
              refine z_iast C X (hI.1 134 (by decide)) rfl hc78 (zok1 rfl gx_1) em dX10_goOrders_78 (fun H locs X => ?_)
              clear em
              refine lv_aload_n C.1 C.2.1 dX10_goOrders_79 rfl (lv_at hl 0 rfl) ?_
              refine lv_iload_n C.1 C.2.1 dX10_goOrders_80 rfl (lv_at hl 1 rfl) ?_
              refine z_iconst C dX10_goOrders_81 ?_
              refine z_iadd C dX10_goOrders_82 ?_
              refine lv_iload_n C.1 C.2.1 dX10_goOrders_83 rfl (lv_at hl 2 rfl) ?_
              refine z_iconst C dX10_goOrders_84 ?_
              refine lv_iload_n C.1 C.2.1 dX10_goOrders_85 rfl (lv_at hl 3 rfl) ?_
              refine z_ishl C dX10_goOrders_86 ?_
              refine z_ior C dX10_goOrders_87 ?_
              obtain ⟨μ_5, hq88, h⟩ := bnd_some h
              refine z_callV0 C X zk10 (hI.1 101 (by decide)) rfl (As := [zI (zw (x1 + 1)), zI (zor x2 (zshl 1 x_1))]) (ihs μ_4 (zw (x1 + 1)) (zor x2 (zshl 1 x_1)) (Rg.w _) (Rg.t _) hq88) zc_X10_goOrders kw_1387 (zroom (by omega) (by decide)) rfl hl.1 rfl (Nat.le_of_ble_eq_true rfl) dX10_goOrders_88 ⟨Nat.zero_le _, Nat.zero_le _⟩ (fun H locs g_88 X => ?_)
              refine zlet_elim h (fun x_6 ex_6 h => ?_)
              have gx_6 : Rg x_6 := by rw [ex_6]; exact Rg.w _
              refine z_iinc C ex_6 dX10_goOrders_91 hl (k := 3) rfl (by decide) (lv' := [(3, zI x_6), (0, zR Ω 101), (1, zI x1), (2, zI x2)]) rfl (fun ls hl => ?_)
              clear ex_6
              refine lv_goto (tgt := 56) C.1 C.2.1 dX10_goOrders_94 (by decide) ?_
              exact ih56 x_6 μ_5 _ _ _ gx_6 X (lv_sub hl [1, 2, 3, 0] rfl) h
      exact L56 zfu 0 μ _ _ _ ⟨by decide, by decide⟩ X (lv_sub hl [1, 2, 3, 0] rfl) h
    · rw [if_pos hc5] at h
      refine z_iconst C dX10_goOrders_8 ?_
      refine lv_istore_n C.1 C.2.1 (lv' := [(3, zI 0), (0, zR Ω 101), (1, zI x1), (2, zI x2)]) dX10_goOrders_9 rfl hl (by decide) rfl (fun ls hl => ?_)
      have K43 : ∀ (μ_7 : zMem) (H : Heap) (locs : List Loc) (ls : Array Slot), zX Ω μ_7 (zfree Ω) s.heap H locs → lv_has ls 4 [(0, zR Ω 101)] → f_X10_goOrders_K43 μ_7 = some μ' → W p l e (zrm (nS + 1 + 0)) s m args below meth c H locs 0 0 Q (F0 m 43 ls []) := by
        intro μ_7 H locs ls  X hl h
        unfold f_X10_goOrders_K43 at h
        refine lv_aload_n C.1 C.2.1 dX10_goOrders_43 rfl (lv_at hl 0 rfl) ?_
        refine lv_dup C.1 C.2.1 dX10_goOrders_44 rfl ?_
        have g_45 : Rg (μ_7 101 30) := zrgf0 (ci := 10) X.2.2.2 (hI.1 101 (by decide)) rfl 30 rfl
        refine z_get C X zk10 (hI.1 101 (by decide)) rfl 30 (by decide) kw_1062 (zI (μ_7 101 30)) rfl dX10_goOrders_45 ?_
        refine z_iconst C dX10_goOrders_48 ?_
        refine z_iadd C dX10_goOrders_49 ?_
        refine zlet_elim h (fun μ_8 em h => ?_)
        refine z_putI C X zk10 (hI.1 101 (by decide)) rfl 30 (by decide) kw_1062 rfl rfl rfl rfl (Rg.w _) em dX10_goOrders_50 (fun H locs X => ?_)
        clear em
        obtain rfl := Option.some.inj h
        exact rt X dX10_goOrders_53
      have L10 : ∀ (n10 : Nat) (x_9 : Int) (μ_10 : zMem) (H : Heap) (locs : List Loc) (ls : Array Slot), Rg x_9 → zX Ω μ_10 (zfree Ω) s.heap H locs → lv_has ls 4 [(0, zR Ω 101), (3, zI x_9)] → (f_X10_goOrders_L10 f_X10_goOrders_K43 n10 x_9 μ_10) = some μ' → W p l e (zrm (nS + 1 + 0)) s m args below meth c H locs 0 0 Q (F0 m 10 ls []) := by
        intro n10
        induction n10 with
        | zero =>
          intro x_9 μ_10 H locs ls _ _ _ h
          cases h
        | succ n10 ih10 =>
          intro x_9 μ_10 H locs ls gx_9 X hl h
          unfold f_X10_goOrders_L10 at h
          refine lv_iload_n C.1 C.2.1 dX10_goOrders_10 rfl (lv_at hl 1 rfl) ?_
          refine lv_aload_n C.1 C.2.1 dX10_goOrders_11 rfl (lv_at hl 0 rfl) ?_
          have g_12 : Rg (μ_10 101 28) := zrgf0 (ci := 10) X.2.2.2 (hI.1 101 (by decide)) rfl 28 rfl
          refine z_get C X zk10 (hI.1 101 (by decide)) rfl 28 (by decide) kw_1060 (zI (μ_10 101 28)) rfl dX10_goOrders_12 ?_
          refine z_icmpge C gx_9 g_12 (tgt := 43) dX10_goOrders_15 (by decide) (fun hc15 => ?_) (fun hc15 => ?_)
          · rw [if_neg hc15] at h
            exact K43 μ_10 _ _ _ X (lv_sub hl [0] rfl) h
          · rw [if_pos hc15] at h
            refine lv_aload_n C.1 C.2.1 dX10_goOrders_18 rfl (lv_at hl 0 rfl) ?_
            refine z_get C X zk10 (hI.1 101 (by decide)) rfl 31 (by decide) kw_1063 (zR Ω 133) (zfvF (off := 32) X.2.2.2 (hI.1 101 (by decide)) hI.2 rfl rfl (by decide)) dX10_goOrders_19 ?_
            refine z_iconst C dX10_goOrders_22 ?_
            refine lv_aload_n C.1 C.2.1 dX10_goOrders_23 rfl (lv_at hl 0 rfl) ?_
            have g_24 : Rg (μ_10 101 30) := zrgf0 (ci := 10) X.2.2.2 (hI.1 101 (by decide)) rfl 30 rfl
            refine z_get C X zk10 (hI.1 101 (by decide)) rfl 30 (by decide) kw_1062 (zI (μ_10 101 30)) rfl dX10_goOrders_24 ?_
            refine z_imul C dX10_goOrders_27 ?_
            refine lv_iload_n C.1 C.2.1 dX10_goOrders_28 rfl (lv_at hl 1 rfl) ?_
            refine z_iadd C dX10_goOrders_29 ?_
            refine lv_aload_n C.1 C.2.1 dX10_goOrders_30 rfl (lv_at hl 0 rfl) ?_
            refine z_get C X zk10 (hI.1 101 (by decide)) rfl 32 (by decide) kw_1064 (zR Ω 134) (zfvF (off := 33) X.2.2.2 (hI.1 101 (by decide)) hI.2 rfl rfl (by decide)) dX10_goOrders_31 ?_
            refine lv_iload_n C.1 C.2.1 dX10_goOrders_34 rfl (lv_at hl 1 rfl) ?_
            obtain ⟨hc35, h⟩ := chk_some h
            have g_35 : Rg (μ_10 134 x_9) := zrg1 X.2.2.2 (hI.1 134 (by decide)) rfl
            refine z_iald C X (hI.1 134 (by decide)) rfl hc35 dX10_goOrders_35 ?_
            obtain ⟨hc36, h⟩ := chk_some h
            refine zlet_elim h (fun μ_11 em h => ?_)
            refine z_iast C X (hI.1 133 (by decide)) rfl hc36 (zok1 rfl g_35) em dX10_goOrders_36 (fun H locs X => ?_)
            clear em
            refine zlet_elim h (fun x_12 ex_12 h => ?_)
            have gx_12 : Rg x_12 := by rw [ex_12]; exact Rg.w _
            refine z_iinc C ex_12 dX10_goOrders_37 hl (k := 1) rfl (by decide) (lv' := [(3, zI x_12), (0, zR Ω 101)]) rfl (fun ls hl => ?_)
            clear ex_12
            refine lv_goto (tgt := 10) C.1 C.2.1 dX10_goOrders_40 (by decide) ?_
            exact ih10 x_12 μ_11 _ _ _ gx_12 X (lv_sub hl [1, 0] rfl) h
      exact L10 zfu 0 μ _ _ _ ⟨by decide, by decide⟩ X (lv_sub hl [1, 0] rfl) h

