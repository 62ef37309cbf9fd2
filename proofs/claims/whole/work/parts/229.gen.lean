def f_X10_nought_L24 (x1 : Int) (x2 : Int) (μ : zMem) : Nat → Int → Option Int
  | 0, _ => none
  | n + 1, x_1 =>
    chk ((0 : Int) ≤ x1 ∧ x1 < 3) <|
    if x_1 < (zshl 1 (μ 103 x1)) then
      bnd (f_X10_oddFaces x1 x_1 μ) fun x_2 =>
      if x_2 = x2 then
        some 1
      else
        zlet (zw (x_1 + 1)) fun x_3 =>
        (f_X10_nought_L24 x1 x2 μ n) x_3
    else
      some 0
def f_X10_nought (x1 : Int) (x2 : Int) (μ : zMem) : Option Int :=
  if (f_X10_isSpace x1) = 0 then
    some (-1)
  else
    chk ((0 : Int) ≤ x1 ∧ x1 < 3) <|
    if (f_X10_areBits x2 (μ 104 x1)) = 0 then
      some (-1)
    else
      (f_X10_nought_L24 x1 x2 μ) zfu 0
set_option maxHeartbeats 4000000 in
set_option maxRecDepth 100000 in
theorem M_X10_nought {l : Launch} {Ω : zO} (hI : zIm Ω) (μ : zMem) (x1 : Int) (x2 : Int) {r : Int} (gx1 : Rg x1) (gx2 : Rg x2) (h : f_X10_nought x1 x2 μ = some r) : XMet l yX10_nought cX10_nought 4 (some Jvm.ClassFile.FieldType.int) 2 Ω [zR Ω 101, zI x1, zI x2] μ (some (zI r)) (Rg r) μ := by
  refine XMet.ofI (by decide) (Nat.le_of_ble_eq_true rfl) ?_
  intro p e s m args below meth c ls Q C rt X hl
  have C : zC p s m args c cX10_nought RX10 4 Ω := C
  have hl : lv_has ls 4 [(0, zR Ω 101), (1, zI x1), (2, zI x2)] := hl
  unfold f_X10_nought at h
  skip
  refine lv_iload_n C.1 C.2.1 dX10_nought_0 rfl (lv_at hl 1 rfl) ?_
  refine z_callS1 C X (As := [zI x1]) (M_X10_isSpace hI μ x1 gx1) zc_X10_isSpace kw_1214 (zroom (by decide) (by decide)) rfl hl.1 rfl (Nat.le_of_ble_eq_true rfl) dX10_nought_1 ⟨Nat.zero_le _, Nat.zero_le _⟩ (fun H locs g_1 X => ?_)
  refine z_ifeq C (rgz g_1) (tgt := 20) dX10_nought_4 (by decide) (fun hc4 => ?_) (fun hc4 => ?_)
  · rw [if_pos hc4] at h
    refine z_iconst C dX10_nought_20 ?_
    obtain rfl := Option.some.inj h
    exact rt X ⟨by decide, by decide⟩ dX10_nought_21
  · rw [if_neg hc4] at h
    refine lv_iload_n C.1 C.2.1 dX10_nought_7 rfl (lv_at hl 2 rfl) ?_
    refine lv_aload_n C.1 C.2.1 dX10_nought_8 rfl (lv_at hl 0 rfl) ?_
    refine z_get C X zk10 (hI.1 101 (by decide)) rfl 2 (by decide) kw_1034 (zR Ω 104) (zfvF (off := 3) X.2.2.2 (hI.1 101 (by decide)) hI.2 rfl rfl (by decide)) dX10_nought_9 ?_
    refine lv_iload_n C.1 C.2.1 dX10_nought_12 rfl (lv_at hl 1 rfl) ?_
    obtain ⟨hc13, h⟩ := chk_some h
    have g_13 : Rg (μ 104 x1) := zrg1 X.2.2.2 (hI.1 104 (by decide)) rfl
    refine z_iald C X (hI.1 104 (by decide)) rfl hc13 dX10_nought_13 ?_
    refine z_callS1 C X (As := [zI x2, zI (μ 104 x1)]) (M_X10_areBits hI μ x2 (μ 104 x1) gx2 g_13) zc_X10_areBits kw_1523 (zroom (by decide) (by decide)) rfl hl.1 rfl (Nat.le_of_ble_eq_true rfl) dX10_nought_14 ⟨Nat.zero_le _, Nat.zero_le _⟩ (fun H locs g_14 X => ?_)
    refine z_ifne C (rgz g_14) (tgt := 22) dX10_nought_17 (by decide) (fun hc17 => ?_) (fun hc17 => ?_)
    · rw [if_neg hc17] at h
      refine z_iconst C dX10_nought_22 ?_
      refine lv_istore_n C.1 C.2.1 (lv' := [(3, zI 0), (0, zR Ω 101), (1, zI x1), (2, zI x2)]) dX10_nought_23 rfl hl (by decide) rfl (fun ls hl => ?_)
      have L24 : ∀ (n24 : Nat) (x_1 : Int) (H : Heap) (locs : List Loc) (ls : Array Slot), Rg x_1 → zX Ω μ (zfree Ω) s.heap H locs → lv_has ls 4 [(0, zR Ω 101), (1, zI x1), (2, zI x2), (3, zI x_1)] → (f_X10_nought_L24 x1 x2 μ n24 x_1) = some r → W p l e (zrm 2) s m args below meth c H locs 0 0 Q (F0 m 24 ls []) := by
        intro n24
        induction n24 with
        | zero =>
          intro x_1 H locs ls _ _ _ h
          cases h
        | succ n24 ih24 =>
          intro x_1 H locs ls gx_1 X hl h
          unfold f_X10_nought_L24 at h
          refine lv_iload_n C.1 C.2.1 dX10_nought_24 rfl (lv_at hl 3 rfl) ?_
          refine z_iconst C dX10_nought_25 ?_
          refine lv_aload_n C.1 C.2.1 dX10_nought_26 rfl (lv_at hl 0 rfl) ?_
          refine z_get C X zk10 (hI.1 101 (by decide)) rfl 1 (by decide) kw_1033 (zR Ω 103) (zfvF (off := 2) X.2.2.2 (hI.1 101 (by decide)) hI.2 rfl rfl (by decide)) dX10_nought_27 ?_
          refine lv_iload_n C.1 C.2.1 dX10_nought_30 rfl (lv_at hl 1 rfl) ?_
          obtain ⟨hc31, h⟩ := chk_some h
          have g_31 : Rg (μ 103 x1) := zrg1 X.2.2.2 (hI.1 103 (by decide)) rfl
          refine z_iald C X (hI.1 103 (by decide)) rfl hc31 dX10_nought_31 ?_
          refine z_ishl C dX10_nought_32 ?_
          refine z_icmpge C gx_1 (Rg.t _) (tgt := 54) dX10_nought_33 (by decide) (fun hc33 => ?_) (fun hc33 => ?_)
          · rw [if_neg hc33] at h
            refine z_iconst C dX10_nought_54 ?_
            obtain rfl := Option.some.inj h
            exact rt X ⟨by decide, by decide⟩ dX10_nought_55
          · rw [if_pos hc33] at h
            refine lv_aload_n C.1 C.2.1 dX10_nought_36 rfl (lv_at hl 0 rfl) ?_
            refine lv_iload_n C.1 C.2.1 dX10_nought_37 rfl (lv_at hl 1 rfl) ?_
            refine lv_iload_n C.1 C.2.1 dX10_nought_38 rfl (lv_at hl 3 rfl) ?_
            obtain ⟨x_2, hq39, h⟩ := bnd_some h
            refine z_callV1 C X zk10 (hI.1 101 (by decide)) rfl (As := [zI x1, zI x_1]) (M_X10_oddFaces hI μ x1 x_1 gx1 gx_1 hq39) zc_X10_oddFaces kw_1526 (zroom (by decide) (by decide)) rfl hl.1 rfl (Nat.le_of_ble_eq_true rfl) dX10_nought_39 ⟨Nat.zero_le _, Nat.zero_le _⟩ (fun H locs g_39 X => ?_)
            refine lv_iload_n C.1 C.2.1 dX10_nought_42 rfl (lv_at hl 2 rfl) ?_
            refine z_icmpne C g_39 gx2 (tgt := 48) dX10_nought_43 (by decide) (fun hc43 => ?_) (fun hc43 => ?_)
            · rw [if_neg hc43] at h
              refine zlet_elim h (fun x_3 ex_3 h => ?_)
              have gx_3 : Rg x_3 := by rw [ex_3]; exact Rg.w _
              refine z_iinc C ex_3 dX10_nought_48 hl (k := 3) rfl (by decide) (lv' := [(3, zI x_3), (0, zR Ω 101), (1, zI x1), (2, zI x2)]) rfl (fun ls hl => ?_)
              clear ex_3
              refine lv_goto (tgt := 24) C.1 C.2.1 dX10_nought_51 (by decide) ?_
              exact ih24 x_3 _ _ _ gx_3 X (lv_sub hl [1, 2, 3, 0] rfl) h
            · rw [if_pos hc43] at h
              refine z_iconst C dX10_nought_46 ?_
              obtain rfl := Option.some.inj h
              exact rt X ⟨by decide, by decide⟩ dX10_nought_47
      exact L24 zfu 0 _ _ _ ⟨by decide, by decide⟩ X (lv_sub hl [1, 2, 3, 0] rfl) h
    · rw [if_pos hc17] at h
      refine z_iconst C dX10_nought_20 ?_
      obtain rfl := Option.some.inj h
      exact rt X ⟨by decide, by decide⟩ dX10_nought_21
theorem zc_X10_nought : zcal yX10_nought cX10_nought 4 (some Jvm.ClassFile.FieldType.int) RX10 2 := ⟨⟨kw_1536, kw_1534, kw_1535, kw_12⟩, rfl, by decide, by decide, by decide +kernel⟩

def f_X10_lonely_K84 (x_1 : Int) (g2 : Int → Option Int) (x_2 : Int) : Option Int :=
  if x_2 = 1 then
    some x_1
  else
    zlet (zw (x_1 + 1)) fun x_3 =>
    g2 x_3
def f_X10_lonely_K78 (x_5 : Int) (g17 : Int → Int → Option Int) (x_6 : Int) : Option Int :=
  zlet (zw (x_5 + 1)) fun x_7 =>
  g17 x_6 x_7
def f_X10_lonely_J70 (x_8 : Int) (x_9 : Int) (g31 : Int → Int → Option Int) (x_11 : Int) : Option Int :=
  zlet ((zw (x_8 + x_11))) fun x_12 =>
  zlet (zw (x_9 + 1)) fun x_13 =>
  g31 x_12 x_13
def f_X10_lonely_L31 (x1 : Int) (μ : zMem) (x_1 : Int) (x_5 : Int) (g78 : Int → Option Int) : Nat → Int → Int → Option Int
  | 0, _, _ => none
  | n + 1, x_8, x_9 =>
    chk ((0 : Int) ≤ (zw ((zw (32 * x1)) + x_5)) ∧ (zw ((zw (32 * x1)) + x_5)) < 96) <|
    if x_9 < (μ 107 (zw ((zw (32 * x1)) + x_5))) then
      bnd (f_X10_rimAt x1 x_5 x_9 μ) fun x_10 =>
      (f_X10_lonely_J70 x_8 x_9 (f_X10_lonely_L31 x1 μ x_1 x_5 g78 n)) (if (f_X10_edgeOf x_10) = x_1 then 1 else 0)
    else
      g78 x_8
def f_X10_lonely_L17 (x1 : Int) (μ : zMem) (x_1 : Int) (g84 : Int → Option Int) : Nat → Int → Int → Option Int
  | 0, _, _ => none
  | n + 1, x_4, x_5 =>
    chk ((0 : Int) ≤ x1 ∧ x1 < 3) <|
    if x_5 < (μ 104 x1) then
      (f_X10_lonely_L31 x1 μ x_1 x_5 (f_X10_lonely_K78 x_5 (f_X10_lonely_L17 x1 μ x_1 g84 n))) zfu x_4 0
    else
      g84 x_4
def f_X10_lonely_L2 (x1 : Int) (μ : zMem) : Nat → Int → Option Int
  | 0, _ => none
  | n + 1, x_1 =>
    chk ((0 : Int) ≤ x1 ∧ x1 < 3) <|
    if x_1 < (μ 103 x1) then
      (f_X10_lonely_L17 x1 μ x_1 (f_X10_lonely_K84 x_1 (f_X10_lonely_L2 x1 μ n))) zfu 0 0
    else
      some (-4)
def f_X10_lonely (x1 : Int) (μ : zMem) : Option Int :=
  (f_X10_lonely_L2 x1 μ) zfu 0
set_option maxHeartbeats 4000000 in
set_option maxRecDepth 100000 in
theorem M_X10_lonely {l : Launch} {Ω : zO} (hI : zIm Ω) (μ : zMem) (x1 : Int) {r : Int} (gx1 : Rg x1) (h : f_X10_lonely x1 μ = some r) : XMet l yX10_lonely cX10_lonely 6 (some Jvm.ClassFile.FieldType.int) 1 Ω [zR Ω 101, zI x1] μ (some (zI r)) (Rg r) μ := by
  refine XMet.ofI (by decide) (Nat.le_of_ble_eq_true rfl) ?_
  intro p e s m args below meth c ls Q C rt X hl
  have C : zC p s m args c cX10_lonely RX10 6 Ω := C
  have hl : lv_has ls 6 [(0, zR Ω 101), (1, zI x1)] := hl
  unfold f_X10_lonely at h
  skip
  refine z_iconst C dX10_lonely_0 ?_
  refine lv_istore_n C.1 C.2.1 (lv' := [(2, zI 0), (0, zR Ω 101), (1, zI x1)]) dX10_lonely_1 rfl hl (by decide) rfl (fun ls hl => ?_)
  have L2 : ∀ (n2 : Nat) (x_1 : Int) (H : Heap) (locs : List Loc) (ls : Array Slot), Rg x_1 → zX Ω μ (zfree Ω) s.heap H locs → lv_has ls 6 [(0, zR Ω 101), (1, zI x1), (2, zI x_1)] → (f_X10_lonely_L2 x1 μ n2 x_1) = some r → W p l e (zrm 1) s m args below meth c H locs 0 0 Q (F0 m 2 ls []) := by
    intro n2
    induction n2 with
    | zero =>
      intro x_1 H locs ls _ _ _ h
      cases h
    | succ n2 ih2 =>
      intro x_1 H locs ls gx_1 X hl h
      unfold f_X10_lonely_L2 at h
      refine lv_iload_n C.1 C.2.1 dX10_lonely_2 rfl (lv_at hl 2 rfl) ?_
      refine lv_aload_n C.1 C.2.1 dX10_lonely_3 rfl (lv_at hl 0 rfl) ?_
      refine z_get C X zk10 (hI.1 101 (by decide)) rfl 1 (by decide) kw_1033 (zR Ω 103) (zfvF (off := 2) X.2.2.2 (hI.1 101 (by decide)) hI.2 rfl rfl (by decide)) dX10_lonely_4 ?_
      refine lv_iload_n C.1 C.2.1 dX10_lonely_7 rfl (lv_at hl 1 rfl) ?_
      obtain ⟨hc8, h⟩ := chk_some h
      have g_8 : Rg (μ 103 x1) := zrg1 X.2.2.2 (hI.1 103 (by decide)) rfl
      refine z_iald C X (hI.1 103 (by decide)) rfl hc8 dX10_lonely_8 ?_
      refine z_icmpge C gx_1 g_8 (tgt := 97) dX10_lonely_9 (by decide) (fun hc9 => ?_) (fun hc9 => ?_)
      · rw [if_neg hc9] at h
        refine z_bipush C dX10_lonely_97 (by decide) ?_
        obtain rfl := Option.some.inj h
        exact rt X ⟨by decide, by decide⟩ dX10_lonely_99
      · rw [if_pos hc9] at h
        refine z_iconst C dX10_lonely_12 ?_
        refine lv_istore_n C.1 C.2.1 (lv' := [(3, zI 0), (0, zR Ω 101), (1, zI x1), (2, zI x_1)]) dX10_lonely_13 rfl hl (by decide) rfl (fun ls hl => ?_)
        refine z_iconst C dX10_lonely_14 ?_
        refine lv_istore C.1 C.2.1 (lv' := [(4, zI 0), (3, zI 0), (0, zR Ω 101), (1, zI x1), (2, zI x_1)]) dX10_lonely_15 hl (by decide) rfl (fun ls hl => ?_)
        have K84 : ∀ (x_2 : Int) (H : Heap) (locs : List Loc) (ls : Array Slot), Rg x_2 → zX Ω μ (zfree Ω) s.heap H locs → lv_has ls 6 [(0, zR Ω 101), (1, zI x1), (2, zI x_1), (3, zI x_2)] → (f_X10_lonely_K84 x_1 (f_X10_lonely_L2 x1 μ n2)) x_2 = some r → W p l e (zrm 1) s m args below meth c H locs 0 0 Q (F0 m 84 ls []) := by
          intro x_2 H locs ls gx_2 X hl h
          unfold f_X10_lonely_K84 at h
          refine lv_iload_n C.1 C.2.1 dX10_lonely_84 rfl (lv_at hl 3 rfl) ?_
          refine z_iconst C dX10_lonely_85 ?_
          refine z_icmpne C gx_2 ⟨by decide, by decide⟩ (tgt := 91) dX10_lonely_86 (by decide) (fun hc86 => ?_) (fun hc86 => ?_)
          · rw [if_neg hc86] at h
            refine zlet_elim h (fun x_3 ex_3 h => ?_)
            have gx_3 : Rg x_3 := by rw [ex_3]; exact Rg.w _
            refine z_iinc C ex_3 dX10_lonely_91 hl (k := 2) rfl (by decide) (lv' := [(2, zI x_3), (0, zR Ω 101), (1, zI x1), (3, zI x_2)]) rfl (fun ls hl => ?_)
            clear ex_3
            refine lv_goto (tgt := 2) C.1 C.2.1 dX10_lonely_94 (by decide) ?_
            exact ih2 x_3 _ _ _ gx_3 X (lv_sub hl [1, 2, 0] rfl) h
          · rw [if_pos hc86] at h
            refine lv_iload_n C.1 C.2.1 dX10_lonely_89 rfl (lv_at hl 2 rfl) ?_
            obtain rfl := Option.some.inj h
            exact rt X gx_1 dX10_lonely_90
        have L17 : ∀ (n17 : Nat) (x_4 : Int) (x_5 : Int) (H : Heap) (locs : List Loc) (ls : Array Slot), Rg x_4 → Rg x_5 → zX Ω μ (zfree Ω) s.heap H locs → lv_has ls 6 [(0, zR Ω 101), (1, zI x1), (2, zI x_1), (3, zI x_4), (4, zI x_5)] → (f_X10_lonely_L17 x1 μ x_1 (f_X10_lonely_K84 x_1 (f_X10_lonely_L2 x1 μ n2)) n17 x_4 x_5) = some r → W p l e (zrm 1) s m args below meth c H locs 0 0 Q (F0 m 17 ls []) := by
          intro n17
          induction n17 with
          | zero =>
            intro x_4 x_5 H locs ls _ _ _ _ h
            cases h
          | succ n17 ih17 =>
            intro x_4 x_5 H locs ls gx_4 gx_5 X hl h
            unfold f_X10_lonely_L17 at h
            refine lv_iload C.1 C.2.1 dX10_lonely_17 (lv_at hl 4 rfl) ?_
            refine lv_aload_n C.1 C.2.1 dX10_lonely_19 rfl (lv_at hl 0 rfl) ?_
            refine z_get C X zk10 (hI.1 101 (by decide)) rfl 2 (by decide) kw_1034 (zR Ω 104) (zfvF (off := 3) X.2.2.2 (hI.1 101 (by decide)) hI.2 rfl rfl (by decide)) dX10_lonely_20 ?_
            refine lv_iload_n C.1 C.2.1 dX10_lonely_23 rfl (lv_at hl 1 rfl) ?_
            obtain ⟨hc24, h⟩ := chk_some h
            have g_24 : Rg (μ 104 x1) := zrg1 X.2.2.2 (hI.1 104 (by decide)) rfl
            refine z_iald C X (hI.1 104 (by decide)) rfl hc24 dX10_lonely_24 ?_
            refine z_icmpge C gx_5 g_24 (tgt := 84) dX10_lonely_25 (by decide) (fun hc25 => ?_) (fun hc25 => ?_)
            · rw [if_neg hc25] at h
              exact K84 x_4 _ _ _ gx_4 X (lv_sub hl [0, 1, 2, 3] rfl) h
            · rw [if_pos hc25] at h
              refine z_iconst C dX10_lonely_28 ?_
              refine lv_istore C.1 C.2.1 (lv' := [(5, zI 0), (0, zR Ω 101), (1, zI x1), (2, zI x_1), (3, zI x_4), (4, zI x_5)]) dX10_lonely_29 hl (by decide) rfl (fun ls hl => ?_)
              have K78 : ∀ (x_6 : Int) (H : Heap) (locs : List Loc) (ls : Array Slot), Rg x_6 → zX Ω μ (zfree Ω) s.heap H locs → lv_has ls 6 [(0, zR Ω 101), (1, zI x1), (2, zI x_1), (3, zI x_6), (4, zI x_5)] → (f_X10_lonely_K78 x_5 (f_X10_lonely_L17 x1 μ x_1 (f_X10_lonely_K84 x_1 (f_X10_lonely_L2 x1 μ n2)) n17)) x_6 = some r → W p l e (zrm 1) s m args below meth c H locs 0 0 Q (F0 m 78 ls []) := by
                intro x_6 H locs ls gx_6 X hl h
                unfold f_X10_lonely_K78 at h
                refine zlet_elim h (fun x_7 ex_7 h => ?_)
                have gx_7 : Rg x_7 := by rw [ex_7]; exact Rg.w _
                refine z_iinc C ex_7 dX10_lonely_78 hl (k := 4) rfl (by decide) (lv' := [(4, zI x_7), (0, zR Ω 101), (1, zI x1), (2, zI x_1), (3, zI x_6)]) rfl (fun ls hl => ?_)
                clear ex_7
                refine lv_goto (tgt := 17) C.1 C.2.1 dX10_lonely_81 (by decide) ?_
                exact ih17 x_6 x_7 _ _ _ gx_6 gx_7 X (lv_sub hl [1, 2, 3, 4, 0] rfl) h
              have L31 : ∀ (n31 : Nat) (x_8 : Int) (x_9 : Int) (H : Heap) (locs : List Loc) (ls : Array Slot), Rg x_8 → Rg x_9 → zX Ω μ (zfree Ω) s.heap H locs → lv_has ls 6 [(0, zR Ω 101), (1, zI x1), (2, zI x_1), (3, zI x_8), (4, zI x_5), (5, zI x_9)] → (f_X10_lonely_L31 x1 μ x_1 x_5 (f_X10_lonely_K78 x_5 (f_X10_lonely_L17 x1 μ x_1 (f_X10_lonely_K84 x_1 (f_X10_lonely_L2 x1 μ n2)) n17)) n31 x_8 x_9) = some r → W p l e (zrm 1) s m args below meth c H locs 0 0 Q (F0 m 31 ls []) := by
                intro n31
                induction n31 with
                | zero =>
                  intro x_8 x_9 H locs ls _ _ _ _ h
                  cases h
                | succ n31 ih31 =>
                  intro x_8 x_9 H locs ls gx_8 gx_9 X hl h
                  unfold f_X10_lonely_L31 at h
                  refine lv_iload C.1 C.2.1 dX10_lonely_31 (lv_at hl 5 rfl) ?_
                  refine lv_aload_n C.1 C.2.1 dX10_lonely_33 rfl (lv_at hl 0 rfl) ?_
                  refine z_get C X zk10 (hI.1 101 (by decide)) rfl 5 (by decide) kw_1037 (zR Ω 107) (zfvF (off := 6) X.2.2.2 (hI.1 101 (by decide)) hI.2 rfl rfl (by decide)) dX10_lonely_34 ?_
                  refine z_bipush C dX10_lonely_37 (by decide) ?_
                  refine lv_iload_n C.1 C.2.1 dX10_lonely_39 rfl (lv_at hl 1 rfl) ?_
                  refine z_imul C dX10_lonely_40 ?_
                  refine lv_iload C.1 C.2.1 dX10_lonely_41 (lv_at hl 4 rfl) ?_
                  refine z_iadd C dX10_lonely_43 ?_
                  obtain ⟨hc44, h⟩ := chk_some h
                  have g_44 : Rg (μ 107 (zw ((zw (32 * x1)) + x_5))) := zrg1 X.2.2.2 (hI.1 107 (by decide)) rfl
                  refine z_iald C X (hI.1 107 (by decide)) rfl hc44 dX10_lonely_44 ?_
                  refine z_icmpge C gx_9 g_44 (tgt := 78) dX10_lonely_45 (by decide) (fun hc45 => ?_) (fun hc45 => ?_)
                  · rw [if_neg hc45] at h
                    exact K78 x_8 _ _ _ gx_8 X (lv_sub hl [0, 1, 2, 3, 4] rfl) h
                  · rw [if_pos hc45] at h
                    refine lv_iload_n C.1 C.2.1 dX10_lonely_48 rfl (lv_at hl 3 rfl) ?_
                    refine lv_aload_n C.1 C.2.1 dX10_lonely_49 rfl (lv_at hl 0 rfl) ?_
                    refine lv_iload_n C.1 C.2.1 dX10_lonely_50 rfl (lv_at hl 1 rfl) ?_
                    refine lv_iload C.1 C.2.1 dX10_lonely_51 (lv_at hl 4 rfl) ?_
                    refine lv_iload C.1 C.2.1 dX10_lonely_53 (lv_at hl 5 rfl) ?_
                    obtain ⟨x_10, hq55, h⟩ := bnd_some h
                    refine z_callV1 C X zk10 (hI.1 101 (by decide)) rfl (As := [zI x1, zI x_5, zI x_9]) (M_X10_rimAt hI μ x1 x_5 x_9 gx1 gx_5 gx_9 hq55) zc_X10_rimAt kw_1321 (zroom (by decide) (by decide)) rfl hl.1 rfl (Nat.le_of_ble_eq_true rfl) dX10_lonely_55 ⟨Nat.zero_le _, Nat.zero_le _⟩ (fun H locs g_55 X => ?_)
                    refine z_callS1 C X (As := [zI x_10]) (M_X10_edgeOf hI μ x_10 g_55) zc_X10_edgeOf kw_1530 (zroom (by decide) (by decide)) rfl hl.1 rfl (Nat.le_of_ble_eq_true rfl) dX10_lonely_58 ⟨Nat.zero_le _, Nat.zero_le _⟩ (fun H locs g_58 X => ?_)
                    refine lv_iload_n C.1 C.2.1 dX10_lonely_61 rfl (lv_at hl 2 rfl) ?_
                    have K70 : ∀ (x_11 : Int) (H : Heap) (locs : List Loc) (ls : Array Slot), Rg x_11 → zX Ω μ (zfree Ω) s.heap H locs → lv_has ls 6 [(0, zR Ω 101), (1, zI x1), (2, zI x_1), (4, zI x_5), (5, zI x_9)] → (f_X10_lonely_J70 x_8 x_9 (f_X10_lonely_L31 x1 μ x_1 x_5 (f_X10_lonely_K78 x_5 (f_X10_lonely_L17 x1 μ x_1 (f_X10_lonely_K84 x_1 (f_X10_lonely_L2 x1 μ n2)) n17)) n31)) x_11 = some r → W p l e (zrm 1) s m args below meth c H locs 0 0 Q (F0 m 70 ls [zI x_11, zI x_8]) := by
                      intro x_11 H locs ls gx_11 X hl h
                      unfold f_X10_lonely_J70 at h
                      refine z_iadd C dX10_lonely_70 ?_
                      refine zlet_elim h (fun x_12 ex_12 h => ?_)
                      have gx_12 : Rg x_12 := by rw [ex_12]; exact (Rg.w _)
                      refine z_istore_n C ex_12 dX10_lonely_71 rfl hl (by decide) (lv' := [(3, zI x_12), (0, zR Ω 101), (1, zI x1), (2, zI x_1), (4, zI x_5), (5, zI x_9)]) rfl (fun ls hl => ?_)
                      clear ex_12
                      refine zlet_elim h (fun x_13 ex_13 h => ?_)
                      have gx_13 : Rg x_13 := by rw [ex_13]; exact Rg.w _
                      refine z_iinc C ex_13 dX10_lonely_72 hl (k := 5) rfl (by decide) (lv' := [(5, zI x_13), (3, zI x_12), (0, zR Ω 101), (1, zI x1), (2, zI x_1), (4, zI x_5)]) rfl (fun ls hl => ?_)
                      clear ex_13
                      refine lv_goto (tgt := 31) C.1 C.2.1 dX10_lonely_75 (by decide) ?_
                      exact ih31 x_12 x_13 _ _ _ gx_12 gx_13 X (lv_sub hl [2, 3, 4, 1, 5, 0] rfl) h
                    refine z_icmpne C g_58 gx_1 (tgt := 69) dX10_lonely_62 (by decide) (fun hc62 => ?_) (fun hc62 => ?_)
                    · rw [if_neg hc62] at h
                      refine z_iconst C dX10_lonely_69 ?_
                      exact K70 0 _ _ _ ⟨by decide, by decide⟩ X (lv_sub hl [0, 1, 2, 4, 5] rfl) h
                    · rw [if_pos hc62] at h
                      refine z_iconst C dX10_lonely_65 ?_
                      refine lv_goto (tgt := 70) C.1 C.2.1 dX10_lonely_66 (by decide) ?_
                      exact K70 1 _ _ _ ⟨by decide, by decide⟩ X (lv_sub hl [0, 1, 2, 4, 5] rfl) h
              exact L31 zfu x_4 0 _ _ _ gx_4 ⟨by decide, by decide⟩ X (lv_sub hl [1, 2, 3, 4, 5, 0] rfl) h
        exact L17 zfu 0 0 _ _ _ ⟨by decide, by decide⟩ ⟨by decide, by decide⟩ X (lv_sub hl [2, 3, 4, 1, 0] rfl) h
  exact L2 zfu 0 _ _ _ ⟨by decide, by decide⟩ X (lv_sub hl [1, 2, 0] rfl) h
theorem zc_X10_lonely : zcal yX10_lonely cX10_lonely 6 (some Jvm.ClassFile.FieldType.int) RX10 1 := ⟨⟨kw_1544, kw_1543, kp_101, kw_12⟩, rfl, by decide, by decide, by decide +kernel⟩

def f_X10_foldOne_K279 (x1 : Int) (μ_4 : zMem) : Option zMem :=
  chk ((0 : Int) ≤ x1 ∧ x1 < 3) <|
  chk ((0 : Int) ≤ x1 ∧ x1 < 3) <|
  zlet (zup μ_4 103 x1 (zw ((μ_4 103 x1) - 1))) fun μ_5 =>
  some μ_5
def f_X10_foldOne_L208 (x1 : Int) (g279 : zMem → Option zMem) : Nat → Int → zMem → Option zMem
  | 0, _, _ => none
  | n + 1, x_6, μ_7 =>
    chk ((0 : Int) ≤ x1 ∧ x1 < 3) <|
    if (zw (x_6 + 1)) < (μ_7 103 x1) then
      chk ((0 : Int) ≤ (zw ((zw ((zw (48 * x1)) + x_6)) + 1)) ∧ (zw ((zw ((zw (48 * x1)) + x_6)) + 1)) < 144) <|
      chk ((0 : Int) ≤ (zw ((zw (48 * x1)) + x_6)) ∧ (zw ((zw (48 * x1)) + x_6)) < 144) <|
      zlet (zup μ_7 105 (zw ((zw (48 * x1)) + x_6)) (μ_7 105 (zw ((zw ((zw (48 * x1)) + x_6)) + 1)))) fun μ_8 =>
      chk ((0 : Int) ≤ (zw ((zw ((zw (48 * x1)) + x_6)) + 1)) ∧ (zw ((zw ((zw (48 * x1)) + x_6)) + 1)) < 144) <|
      chk ((0 : Int) ≤ (zw ((zw (48 * x1)) + x_6)) ∧ (zw ((zw (48 * x1)) + x_6)) < 144) <|
      zlet (zup μ_8 106 (zw ((zw (48 * x1)) + x_6)) (μ_8 106 (zw ((zw ((zw (48 * x1)) + x_6)) + 1)))) fun μ_9 =>
      zlet (zw (x_6 + 1)) fun x_10 =>
      (f_X10_foldOne_L208 x1 g279 n) x_10 μ_9
    else
      g279 μ_7
def f_X10_foldOne_K198 (x1 : Int) (x2 : Int) (x_1 : Int) (μ_2 : zMem) : Option zMem :=
  chk ((0 : Int) ≤ x1 ∧ x1 < 3) <|
  zlet (zup μ_2 104 x1 x_1) fun μ_3 =>
  (f_X10_foldOne_L208 x1 (f_X10_foldOne_K279 x1)) zfu x2 μ_3
def f_X10_foldOne_K189 (x_11 : Int) (x_12 : Int) (g5 : Int → Int → zMem → Option zMem) (μ_18 : zMem) : Option zMem :=
  zlet (zw (x_11 + 1)) fun x_19 =>
  zlet (zw (x_12 + 1)) fun x_20 =>
  g5 x_19 x_20 μ_18
def f_X10_foldOne_J182 (x1 : Int) (x_11 : Int) (x_21 : Int) (g104 : Int → zMem → Option zMem) (x_26 : Int) (μ_27 : zMem) : Option zMem :=
  chk ((0 : Int) ≤ (zw ((zw (8 * (zw ((zw (32 * x1)) + x_11)))) + x_21)) ∧ (zw ((zw (8 * (zw ((zw (32 * x1)) + x_11)))) + x_21)) < 768) <|
  zlet (zup μ_27 108 (zw ((zw (8 * (zw ((zw (32 * x1)) + x_11)))) + x_21)) x_26) fun μ_28 =>
  zlet (zw (x_21 + 1)) fun x_29 =>
  g104 x_29 μ_28
def f_X10_foldOne_J146 (x1 : Int) (x_11 : Int) (x_21 : Int) (x_23 : Int) (g104 : Int → zMem → Option zMem) (x_24 : Int) (μ_25 : zMem) : Option zMem :=
  (f_X10_foldOne_J182 x1 x_11 x_21 g104) (if x_23 ≤ 0 then (zw (x_23 + x_24)) else (zw (x_23 - x_24))) μ_25
def f_X10_foldOne_L104 (x1 : Int) (x2 : Int) (x_11 : Int) (x_12 : Int) (g189 : zMem → Option zMem) : Nat → Int → zMem → Option zMem
  | 0, _, _ => none
  | n + 1, x_21, μ_22 =>
    chk ((0 : Int) ≤ (zw ((zw (32 * x1)) + x_12)) ∧ (zw ((zw (32 * x1)) + x_12)) < 96) <|
    if x_21 < (μ_22 107 (zw ((zw (32 * x1)) + x_12))) then
      bnd (f_X10_rimAt x1 x_12 x_21 μ_22) fun x_23 =>
      (f_X10_foldOne_J146 x1 x_11 x_21 x_23 (f_X10_foldOne_L104 x1 x2 x_11 x_12 g189 n)) (if (f_X10_edgeOf x_23) ≤ x2 then 0 else 1) μ_22
    else
      g189 μ_22
def f_X10_foldOne_K73 (x1 : Int) (x2 : Int) (x_11 : Int) (x_12 : Int) (g5 : Int → Int → zMem → Option zMem) (x_14 : Int) (μ_15 : zMem) : Option zMem :=
  if x_14 = 0 then
    chk ((0 : Int) ≤ (zw ((zw (32 * x1)) + x_12)) ∧ (zw ((zw (32 * x1)) + x_12)) < 96) <|
    chk ((0 : Int) ≤ (zw ((zw (32 * x1)) + x_11)) ∧ (zw ((zw (32 * x1)) + x_11)) < 96) <|
    zlet (zup μ_15 107 (zw ((zw (32 * x1)) + x_11)) (μ_15 107 (zw ((zw (32 * x1)) + x_12)))) fun μ_17 =>
    (f_X10_foldOne_L104 x1 x2 x_11 x_12 (f_X10_foldOne_K189 x_11 x_12 g5)) zfu 0 μ_17
  else
    zlet (zw (x_12 + 1)) fun x_16 =>
    g5 x_11 x_16 μ_15
def f_X10_foldOne_J65 (x_31 : Int) (g22 : Int → Int → zMem → Option zMem) (x_33 : Int) (μ_34 : zMem) : Option zMem :=
  zlet (zw (x_31 + 1)) fun x_35 =>
  g22 x_33 x_35 μ_34
def f_X10_foldOne_J60 (g65 : Int → zMem → Option zMem) (μ_36 : zMem) : Option zMem :=
  g65 1 μ_36
def f_X10_foldOne_L22 (x1 : Int) (x2 : Int) (x_12 : Int) (g73 : Int → zMem → Option zMem) : Nat → Int → Int → zMem → Option zMem
  | 0, _, _, _ => none
  | n + 1, x_30, x_31, μ_32 =>
    chk ((0 : Int) ≤ (zw ((zw (32 * x1)) + x_12)) ∧ (zw ((zw (32 * x1)) + x_12)) < 96) <|
    if x_31 < (μ_32 107 (zw ((zw (32 * x1)) + x_12))) then
      if x_30 = 0 then
        bnd (f_X10_rimAt x1 x_12 x_31 μ_32) fun x_37 =>
        if (f_X10_edgeOf x_37) = x2 then
          (f_X10_foldOne_J60 (f_X10_foldOne_J65 x_31 (f_X10_foldOne_L22 x1 x2 x_12 g73 n))) μ_32
        else
          (f_X10_foldOne_J65 x_31 (f_X10_foldOne_L22 x1 x2 x_12 g73 n)) 0 μ_32
      else
        (f_X10_foldOne_J60 (f_X10_foldOne_J65 x_31 (f_X10_foldOne_L22 x1 x2 x_12 g73 n))) μ_32
    else
      g73 x_30 μ_32
def f_X10_foldOne_L5 (x1 : Int) (x2 : Int) (g198 : Int → zMem → Option zMem) : Nat → Int → Int → zMem → Option zMem
  | 0, _, _, _ => none
  | n + 1, x_11, x_12, μ_13 =>
    chk ((0 : Int) ≤ x1 ∧ x1 < 3) <|
    if x_12 < (μ_13 104 x1) then
      (f_X10_foldOne_L22 x1 x2 x_12 (f_X10_foldOne_K73 x1 x2 x_11 x_12 (f_X10_foldOne_L5 x1 x2 g198 n))) zfu 0 0 μ_13
    else
      g198 x_11 μ_13
def f_X10_foldOne (x1 : Int) (x2 : Int) (μ : zMem) : Option zMem :=
  (f_X10_foldOne_L5 x1 x2 (f_X10_foldOne_K198 x1 x2)) zfu 0 0 μ
set_option maxHeartbeats 4000000 in
set_option maxRecDepth 100000 in
theorem M_X10_foldOne {l : Launch} {Ω : zO} (hI : zIm Ω) (μ : zMem) (x1 : Int) (x2 : Int) {μ' : zMem} (gx1 : Rg x1) (gx2 : Rg x2) (h : f_X10_foldOne x1 x2 μ = some μ') : XMet l yX10_foldOne cX10_foldOne 9 none 1 Ω [zR Ω 101, zI x1, zI x2] μ none True μ' := by
  refine XMet.ofV (by decide) (Nat.le_of_ble_eq_true rfl) ?_
  intro p e s m args below meth c ls Q C rt X hl
  have C : zC p s m args c cX10_foldOne RX10 9 Ω := C
  have hl : lv_has ls 9 [(0, zR Ω 101), (1, zI x1), (2, zI x2)] := hl
  unfold f_X10_foldOne at h
  skip
  refine z_iconst C dX10_foldOne_0 ?_
  refine lv_istore_n C.1 C.2.1 (lv' := [(3, zI 0), (0, zR Ω 101), (1, zI x1), (2, zI x2)]) dX10_foldOne_1 rfl hl (by decide) rfl (fun ls hl => ?_)
  refine z_iconst C dX10_foldOne_2 ?_
  refine lv_istore C.1 C.2.1 (lv' := [(4, zI 0), (3, zI 0), (0, zR Ω 101), (1, zI x1), (2, zI x2)]) dX10_foldOne_3 hl (by decide) rfl (fun ls hl => ?_)
  have K198 : ∀ (x_1 : Int) (μ_2 : zMem) (H : Heap) (locs : List Loc) (ls : Array Slot), Rg x_1 → zX Ω μ_2 (zfree Ω) s.heap H locs → lv_has ls 9 [(0, zR Ω 101), (1, zI x1), (2, zI x2), (3, zI x_1)] → (f_X10_foldOne_K198 x1 x2) x_1 μ_2 = some μ' → W p l e (zrm 1) s m args below meth c H locs 0 0 Q (F0 m 198 ls []) := by
    intro x_1 μ_2 H locs ls gx_1 X hl h
    unfold f_X10_foldOne_K198 at h
    refine lv_aload_n C.1 C.2.1 dX10_foldOne_198 rfl (lv_at hl 0 rfl) ?_
    refine z_get C X zk10 (hI.1 101 (by decide)) rfl 2 (by decide) kw_1034 (zR Ω 104) (zfvF (off := 3) X.2.2.2 (hI.1 101 (by decide)) hI.2 rfl rfl (by decide)) dX10_foldOne_199 ?_
    refine lv_iload_n C.1 C.2.1 dX10_foldOne_202 rfl (lv_at hl 1 rfl) ?_
    refine lv_iload_n C.1 C.2.1 dX10_foldOne_203 rfl (lv_at hl 3 rfl) ?_
    obtain ⟨hc204, h⟩ := chk_some h
    refine zlet_elim h (fun μ_3 em h => ?_)
    refine z_iast C X (hI.1 104 (by decide)) rfl hc204 (zok1 rfl gx_1) em dX10_foldOne_204 (fun H locs X => ?_)
    clear em
    refine lv_iload_n C.1 C.2.1 dX10_foldOne_205 rfl (lv_at hl 2 rfl) ?_
    refine lv_istore C.1 C.2.1 (lv' := [(4, zI x2), (0, zR Ω 101), (1, zI x1), (2, zI x2), (3, zI x_1)]) dX10_foldOne_206 hl (by decide) rfl (fun ls hl => ?_)
    have K279 : ∀ (μ_4 : zMem) (H : Heap) (locs : List Loc) (ls : Array Slot), zX Ω μ_4 (zfree Ω) s.heap H locs → lv_has ls 9 [(0, zR Ω 101), (1, zI x1)] → (f_X10_foldOne_K279 x1) μ_4 = some μ' → W p l e (zrm 1) s m args below meth c H locs 0 0 Q (F0 m 279 ls []) := by
      intro μ_4 H locs ls  X hl h
      unfold f_X10_foldOne_K279 at h
      refine lv_aload_n C.1 C.2.1 dX10_foldOne_279 rfl (lv_at hl 0 rfl) ?_
      refine z_get C X zk10 (hI.1 101 (by decide)) rfl 1 (by decide) kw_1033 (zR Ω 103) (zfvF (off := 2) X.2.2.2 (hI.1 101 (by decide)) hI.2 rfl rfl (by decide)) dX10_foldOne_280 ?_
      refine lv_iload_n C.1 C.2.1 dX10_foldOne_283 rfl (lv_at hl 1 rfl) ?_
      refine lv_dup2_11 C.1 C.2.1 dX10_foldOne_284 rfl rfl ?_
      obtain ⟨hc285, h⟩ := chk_some h
      have g_285 : Rg (μ_4 103 x1) := zrg1 X.2.2.2 (hI.1 103 (by decide)) rfl
      refine z_iald C X (hI.1 103 (by decide)) rfl hc285 dX10_foldOne_285 ?_
      refine z_iconst C dX10_foldOne_286 ?_
      refine z_isub C dX10_foldOne_287 ?_
      obtain ⟨hc288, h⟩ := chk_some h
      refine zlet_elim h (fun μ_5 em h => ?_)
      refine z_iast C X (hI.1 103 (by decide)) rfl hc288 (zok1 rfl (Rg.w _)) em dX10_foldOne_288 (fun H locs X => ?_)
      clear em
      obtain rfl := Option.some.inj h
      exact rt X dX10_foldOne_289
    have L208 : ∀ (n208 : Nat) (x_6 : Int) (μ_7 : zMem) (H : Heap) (locs : List Loc) (ls : Array Slot), Rg x_6 → zX Ω μ_7 (zfree Ω) s.heap H locs → lv_has ls 9 [(0, zR Ω 101), (1, zI x1), (4, zI x_6)] → (f_X10_foldOne_L208 x1 (f_X10_foldOne_K279 x1) n208 x_6 μ_7) = some μ' → W p l e (zrm 1) s m args below meth c H locs 0 0 Q (F0 m 208 ls []) := by
      intro n208
      induction n208 with
      | zero =>
        intro x_6 μ_7 H locs ls _ _ _ h
        cases h
      | succ n208 ih208 =>
        intro x_6 μ_7 H locs ls gx_6 X hl h
        unfold f_X10_foldOne_L208 at h
        refine lv_iload C.1 C.2.1 dX10_foldOne_208 (lv_at hl 2 rfl) ?_
        refine z_iconst C dX10_foldOne_210 ?_
        refine z_iadd C dX10_foldOne_211 ?_
        refine lv_aload_n C.1 C.2.1 dX10_foldOne_212 rfl (lv_at hl 0 rfl) ?_
        refine z_get C X zk10 (hI.1 101 (by decide)) rfl 1 (by decide) kw_1033 (zR Ω 103) (zfvF (off := 2) X.2.2.2 (hI.1 101 (by decide)) hI.2 rfl rfl (by decide)) dX10_foldOne_213 ?_
        refine lv_iload_n C.1 C.2.1 dX10_foldOne_216 rfl (lv_at hl 1 rfl) ?_
        obtain ⟨hc217, h⟩ := chk_some h
        have g_217 : Rg (μ_7 103 x1) := zrg1 X.2.2.2 (hI.1 103 (by decide)) rfl
        refine z_iald C X (hI.1 103 (by decide)) rfl hc217 dX10_foldOne_217 ?_
        refine z_icmpge C (Rg.w _) g_217 (tgt := 279) dX10_foldOne_218 (by decide) (fun hc218 => ?_) (fun hc218 => ?_)
        · rw [if_neg hc218] at h
          exact K279 μ_7 _ _ _ X (lv_sub hl [0, 1] rfl) h
        · rw [if_pos hc218] at h
          refine lv_aload_n C.1 C.2.1 dX10_foldOne_221 rfl (lv_at hl 0 rfl) ?_
          refine z_get C X zk10 (hI.1 101 (by decide)) rfl 3 (by decide) kw_1035 (zR Ω 105) (zfvF (off := 4) X.2.2.2 (hI.1 101 (by decide)) hI.2 rfl rfl (by decide)) dX10_foldOne_222 ?_
          refine z_bipush C dX10_foldOne_225 (by decide) ?_
          refine lv_iload_n C.1 C.2.1 dX10_foldOne_227 rfl (lv_at hl 1 rfl) ?_
          refine z_imul C dX10_foldOne_228 ?_
          refine lv_iload C.1 C.2.1 dX10_foldOne_229 (lv_at hl 2 rfl) ?_
          refine z_iadd C dX10_foldOne_231 ?_
          refine lv_aload_n C.1 C.2.1 dX10_foldOne_232 rfl (lv_at hl 0 rfl) ?_
          refine z_get C X zk10 (hI.1 101 (by decide)) rfl 3 (by decide) kw_1035 (zR Ω 105) (zfvF (off := 4) X.2.2.2 (hI.1 101 (by decide)) hI.2 rfl rfl (by decide)) dX10_foldOne_233 ?_
          refine z_bipush C dX10_foldOne_236 (by decide) ?_
          refine lv_iload_n C.1 C.2.1 dX10_foldOne_238 rfl (lv_at hl 1 rfl) ?_
          refine z_imul C dX10_foldOne_239 ?_
          refine lv_iload C.1 C.2.1 dX10_foldOne_240 (lv_at hl 2 rfl) ?_
          refine z_iadd C dX10_foldOne_242 ?_
          refine z_iconst C dX10_foldOne_243 ?_
          refine z_iadd C dX10_foldOne_244 ?_
          obtain ⟨hc245, h⟩ := chk_some h
          have g_245 : Rg (μ_7 105 (zw ((zw ((zw (48 * x1)) + x_6)) + 1))) := zrg1 X.2.2.2 (hI.1 105 (by decide)) rfl
          refine z_iald C X (hI.1 105 (by decide)) rfl hc245 dX10_foldOne_245 ?_
          obtain ⟨hc246, h⟩ := chk_some h
          refine zlet_elim h (fun μ_8 em h => ?_)
          refine z_iast C X (hI.1 105 (by decide)) rfl hc246 (zok1 rfl g_245) em dX10_foldOne_246 (fun H locs X => ?_)
          clear em
          refine lv_aload_n C.1 C.2.1 dX10_foldOne_247 rfl (lv_at hl 0 rfl) ?_
          refine z_get C X zk10 (hI.1 101 (by decide)) rfl 4 (by decide) kw_1036 (zR Ω 106) (zfvF (off := 5) X.2.2.2 (hI.1 101 (by decide)) hI.2 rfl rfl (by decide)) dX10_foldOne_248 ?_
          refine z_bipush C dX10_foldOne_251 (by decide) ?_
          refine lv_iload_n C.1 C.2.1 dX10_foldOne_253 rfl (lv_at hl 1 rfl) ?_
          refine z_imul C dX10_foldOne_254 ?_
          refine lv_iload C.1 C.2.1 dX10_foldOne_255 (lv_at hl 2 rfl) ?_
          refine z_iadd C dX10_foldOne_257 ?_
          refine lv_aload_n C.1 C.2.1 dX10_foldOne_258 rfl (lv_at hl 0 rfl) ?_
          refine z_get C X zk10 (hI.1 101 (by decide)) rfl 4 (by decide) kw_1036 (zR Ω 106) (zfvF (off := 5) X.2.2.2 (hI.1 101 (by decide)) hI.2 rfl rfl (by decide)) dX10_foldOne_259 ?_
          refine z_bipush C dX10_foldOne_262 (by decide) ?_
          refine lv_iload_n C.1 C.2.1 dX10_foldOne_264 rfl (lv_at hl 1 rfl) ?_
          refine z_imul C dX10_foldOne_265 ?_
          refine lv_iload C.1 C.2.1 dX10_foldOne_266 (lv_at hl 2 rfl) ?_
          refine z_iadd C dX10_foldOne_268 ?_
          refine z_iconst C dX10_foldOne_269 ?_
          refine z_iadd C dX10_foldOne_270 ?_
          obtain ⟨hc271, h⟩ := chk_some h
          have g_271 : Rg (μ_8 106 (zw ((zw ((zw (48 * x1)) + x_6)) + 1))) := zrg1 X.2.2.2 (hI.1 106 (by decide)) rfl
          refine z_iald C X (hI.1 106 (by decide)) rfl hc271 dX10_foldOne_271 ?_
          obtain ⟨hc272, h⟩ := chk_some h
          refine zlet_elim h (fun μ_9 em h => ?_)
          refine z_iast C X (hI.1 106 (by decide)) rfl hc272 (zok1 rfl g_271) em dX10_foldOne_272 (fun H locs X => ?_)
          clear em
          refine zlet_elim h (fun x_10 ex_10 h => ?_)
          have gx_10 : Rg x_10 := by rw [ex_10]; exact Rg.w _
          refine z_iinc C ex_10 dX10_foldOne_273 hl (k := 2) rfl (by decide) (lv' := [(4, zI x_10), (0, zR Ω 101), (1, zI x1)]) rfl (fun ls hl => ?_)
          clear ex_10
          refine lv_goto (tgt := 208) C.1 C.2.1 dX10_foldOne_276 (by decide) ?_
          exact ih208 x_10 μ_9 _ _ _ gx_10 X (lv_sub hl [1, 2, 0] rfl) h
    exact L208 zfu x2 μ_3 _ _ _ gx2 X (lv_sub hl [1, 2, 0] rfl) h
  have L5 : ∀ (n5 : Nat) (x_11 : Int) (x_12 : Int) (μ_13 : zMem) (H : Heap) (locs : List Loc) (ls : Array Slot), Rg x_11 → Rg x_12 → zX Ω μ_13 (zfree Ω) s.heap H locs → lv_has ls 9 [(0, zR Ω 101), (1, zI x1), (2, zI x2), (3, zI x_11), (4, zI x_12)] → (f_X10_foldOne_L5 x1 x2 (f_X10_foldOne_K198 x1 x2) n5 x_11 x_12 μ_13) = some μ' → W p l e (zrm 1) s m args below meth c H locs 0 0 Q (F0 m 5 ls []) := by
    intro n5
    induction n5 with
    | zero =>
      intro x_11 x_12 μ_13 H locs ls _ _ _ _ h
      cases h
    | succ n5 ih5 =>
      intro x_11 x_12 μ_13 H locs ls gx_11 gx_12 X hl h
      unfold f_X10_foldOne_L5 at h
      refine lv_iload C.1 C.2.1 dX10_foldOne_5 (lv_at hl 4 rfl) ?_
      refine lv_aload_n C.1 C.2.1 dX10_foldOne_7 rfl (lv_at hl 0 rfl) ?_
      refine z_get C X zk10 (hI.1 101 (by decide)) rfl 2 (by decide) kw_1034 (zR Ω 104) (zfvF (off := 3) X.2.2.2 (hI.1 101 (by decide)) hI.2 rfl rfl (by decide)) dX10_foldOne_8 ?_
      refine lv_iload_n C.1 C.2.1 dX10_foldOne_11 rfl (lv_at hl 1 rfl) ?_
      obtain ⟨hc12, h⟩ := chk_some h
      have g_12 : Rg (μ_13 104 x1) := zrg1 X.2.2.2 (hI.1 104 (by decide)) rfl
      refine z_iald C X (hI.1 104 (by decide)) rfl hc12 dX10_foldOne_12 ?_
      refine z_icmpge C gx_12 g_12 (tgt := 198) dX10_foldOne_13 (by decide) (fun hc13 => ?_) (fun hc13 => ?_)
      · rw [if_neg hc13] at h
        exact K198 x_11 μ_13 _ _ _ gx_11 X (lv_sub hl [0, 1, 2, 3] rfl) h
      · rw [if_pos hc13] at h
        refine z_iconst C dX10_foldOne_16 ?_
        refine lv_istore C.1 C.2.1 (lv' := [(5, zI 0), (0, zR Ω 101), (1, zI x1), (2, zI x2), (3, zI x_11), (4, zI x_12)]) dX10_foldOne_17 hl (by decide) rfl (fun ls hl => ?_)
        refine z_iconst C dX10_foldOne_19 ?_
        refine lv_istore C.1 C.2.1 (lv' := [(6, zI 0), (5, zI 0), (0, zR Ω 101), (1, zI x1), (2, zI x2), (3, zI x_11), (4, zI x_12)]) dX10_foldOne_20 hl (by decide) rfl (fun ls hl => ?_)
        have K73 : ∀ (x_14 : Int) (μ_15 : zMem) (H : Heap) (locs : List Loc) (ls : Array Slot), Rg x_14 → zX Ω μ_15 (zfree Ω) s.heap H locs → lv_has ls 9 [(0, zR Ω 101), (1, zI x1), (2, zI x2), (3, zI x_11), (4, zI x_12), (5, zI x_14)] → (f_X10_foldOne_K73 x1 x2 x_11 x_12 (f_X10_foldOne_L5 x1 x2 (f_X10_foldOne_K198 x1 x2) n5)) x_14 μ_15 = some μ' → W p l e (zrm 1) s m args below meth c H locs 0 0 Q (F0 m 73 ls []) := by
          intro x_14 μ_15 H locs ls gx_14 X hl h
          unfold f_X10_foldOne_K73 at h
          refine lv_iload C.1 C.2.1 dX10_foldOne_73 (lv_at hl 5 rfl) ?_
          refine z_ifne C gx_14 (tgt := 192) dX10_foldOne_75 (by decide) (fun hc75 => ?_) (fun hc75 => ?_)
          · rw [if_neg hc75] at h
            refine zlet_elim h (fun x_16 ex_16 h => ?_)
            have gx_16 : Rg x_16 := by rw [ex_16]; exact Rg.w _
            refine z_iinc C ex_16 dX10_foldOne_192 hl (k := 4) rfl (by decide) (lv' := [(4, zI x_16), (0, zR Ω 101), (1, zI x1), (2, zI x2), (3, zI x_11), (5, zI x_14)]) rfl (fun ls hl => ?_)
            clear ex_16
            refine lv_goto (tgt := 5) C.1 C.2.1 dX10_foldOne_195 (by decide) ?_
            exact ih5 x_11 x_16 μ_15 _ _ _ gx_11 gx_16 X (lv_sub hl [1, 2, 3, 4, 0] rfl) h
          · rw [if_pos hc75] at h
            refine lv_aload_n C.1 C.2.1 dX10_foldOne_78 rfl (lv_at hl 0 rfl) ?_
            refine z_get C X zk10 (hI.1 101 (by decide)) rfl 5 (by decide) kw_1037 (zR Ω 107) (zfvF (off := 6) X.2.2.2 (hI.1 101 (by decide)) hI.2 rfl rfl (by decide)) dX10_foldOne_79 ?_
            refine z_bipush C dX10_foldOne_82 (by decide) ?_
            refine lv_iload_n C.1 C.2.1 dX10_foldOne_84 rfl (lv_at hl 1 rfl) ?_
            refine z_imul C dX10_foldOne_85 ?_
            refine lv_iload_n C.1 C.2.1 dX10_foldOne_86 rfl (lv_at hl 3 rfl) ?_
            refine z_iadd C dX10_foldOne_87 ?_
            refine lv_aload_n C.1 C.2.1 dX10_foldOne_88 rfl (lv_at hl 0 rfl) ?_
            refine z_get C X zk10 (hI.1 101 (by decide)) rfl 5 (by decide) kw_1037 (zR Ω 107) (zfvF (off := 6) X.2.2.2 (hI.1 101 (by decide)) hI.2 rfl rfl (by decide)) dX10_foldOne_89 ?_
            refine z_bipush C dX10_foldOne_92 (by decide) ?_
            refine lv_iload_n C.1 C.2.1 dX10_foldOne_94 rfl (lv_at hl 1 rfl) ?_
            refine z_imul C dX10_foldOne_95 ?_
            refine lv_iload C.1 C.2.1 dX10_foldOne_96 (lv_at hl 4 rfl) ?_
            refine z_iadd C dX10_foldOne_98 ?_
            obtain ⟨hc99, h⟩ := chk_some h
            have g_99 : Rg (μ_15 107 (zw ((zw (32 * x1)) + x_12))) := zrg1 X.2.2.2 (hI.1 107 (by decide)) rfl
            refine z_iald C X (hI.1 107 (by decide)) rfl hc99 dX10_foldOne_99 ?_
            obtain ⟨hc100, h⟩ := chk_some h
            refine zlet_elim h (fun μ_17 em h => ?_)
            refine z_iast C X (hI.1 107 (by decide)) rfl hc100 (zok1 rfl g_99) em dX10_foldOne_100 (fun H locs X => ?_)
            clear em
            refine z_iconst C dX10_foldOne_101 ?_
            refine lv_istore C.1 C.2.1 (lv' := [(6, zI 0), (0, zR Ω 101), (1, zI x1), (2, zI x2), (3, zI x_11), (4, zI x_12), (5, zI x_14)]) dX10_foldOne_102 hl (by decide) rfl (fun ls hl => ?_)
            have K189 : ∀ (μ_18 : zMem) (H : Heap) (locs : List Loc) (ls : Array Slot), zX Ω μ_18 (zfree Ω) s.heap H locs → lv_has ls 9 [(0, zR Ω 101), (1, zI x1), (2, zI x2), (3, zI x_11), (4, zI x_12)] → (f_X10_foldOne_K189 x_11 x_12 (f_X10_foldOne_L5 x1 x2 (f_X10_foldOne_K198 x1 x2) n5)) μ_18 = some μ' → W p l e (zrm 1) s m args below meth c H locs 0 0 Q (F0 m 189 ls []) := by
              intro μ_18 H locs ls  X hl h
              unfold f_X10_foldOne_K189 at h
              refine zlet_elim h (fun x_19 ex_19 h => ?_)
              have gx_19 : Rg x_19 := by rw [ex_19]; exact Rg.w _
              refine z_iinc C ex_19 dX10_foldOne_189 hl (k := 3) rfl (by decide) (lv' := [(3, zI x_19), (0, zR Ω 101), (1, zI x1), (2, zI x2), (4, zI x_12)]) rfl (fun ls hl => ?_)
              clear ex_19
              refine zlet_elim h (fun x_20 ex_20 h => ?_)
              have gx_20 : Rg x_20 := by rw [ex_20]; exact Rg.w _
              refine z_iinc C ex_20 dX10_foldOne_192 hl (k := 4) rfl (by decide) (lv' := [(4, zI x_20), (3, zI x_19), (0, zR Ω 101), (1, zI x1), (2, zI x2)]) rfl (fun ls hl => ?_)
              clear ex_20
              refine lv_goto (tgt := 5) C.1 C.2.1 dX10_foldOne_195 (by decide) ?_
              exact ih5 x_19 x_20 μ_18 _ _ _ gx_19 gx_20 X (lv_sub hl [2, 3, 4, 1, 0] rfl) h
            have L104 : ∀ (n104 : Nat) (x_21 : Int) (μ_22 : zMem) (H : Heap) (locs : List Loc) (ls : Array Slot), Rg x_21 → zX Ω μ_22 (zfree Ω) s.heap H locs → lv_has ls 9 [(0, zR Ω 101), (1, zI x1), (2, zI x2), (3, zI x_11), (4, zI x_12), (6, zI x_21)] → (f_X10_foldOne_L104 x1 x2 x_11 x_12 (f_X10_foldOne_K189 x_11 x_12 (f_X10_foldOne_L5 x1 x2 (f_X10_foldOne_K198 x1 x2) n5)) n104 x_21 μ_22) = some μ' → W p l e (zrm 1) s m args below meth c H locs 0 0 Q (F0 m 104 ls []) := by
              intro n104
              induction n104 with
              | zero =>
                intro x_21 μ_22 H locs ls _ _ _ h
                cases h
              | succ n104 ih104 =>
                intro x_21 μ_22 H locs ls gx_21 X hl h
                unfold f_X10_foldOne_L104 at h
                refine lv_iload C.1 C.2.1 dX10_foldOne_104 (lv_at hl 5 rfl) ?_
                refine lv_aload_n C.1 C.2.1 dX10_foldOne_106 rfl (lv_at hl 0 rfl) ?_
                refine z_get C X zk10 (hI.1 101 (by decide)) rfl 5 (by decide) kw_1037 (zR Ω 107) (zfvF (off := 6) X.2.2.2 (hI.1 101 (by decide)) hI.2 rfl rfl (by decide)) dX10_foldOne_107 ?_
                refine z_bipush C dX10_foldOne_110 (by decide) ?_
                refine lv_iload_n C.1 C.2.1 dX10_foldOne_112 rfl (lv_at hl 1 rfl) ?_
                refine z_imul C dX10_foldOne_113 ?_
                refine lv_iload C.1 C.2.1 dX10_foldOne_114 (lv_at hl 4 rfl) ?_
                refine z_iadd C dX10_foldOne_116 ?_
                obtain ⟨hc117, h⟩ := chk_some h
                have g_117 : Rg (μ_22 107 (zw ((zw (32 * x1)) + x_12))) := zrg1 X.2.2.2 (hI.1 107 (by decide)) rfl
                refine z_iald C X (hI.1 107 (by decide)) rfl hc117 dX10_foldOne_117 ?_
                refine z_icmpge C gx_21 g_117 (tgt := 189) dX10_foldOne_118 (by decide) (fun hc118 => ?_) (fun hc118 => ?_)
                · rw [if_neg hc118] at h
                  exact K189 μ_22 _ _ _ X (lv_sub hl [0, 1, 2, 3, 4] rfl) h
                · rw [if_pos hc118] at h
                  refine lv_aload_n C.1 C.2.1 dX10_foldOne_121 rfl (lv_at hl 0 rfl) ?_
                  refine lv_iload_n C.1 C.2.1 dX10_foldOne_122 rfl (lv_at hl 1 rfl) ?_
                  refine lv_iload C.1 C.2.1 dX10_foldOne_123 (lv_at hl 4 rfl) ?_
                  refine lv_iload C.1 C.2.1 dX10_foldOne_125 (lv_at hl 5 rfl) ?_
                  obtain ⟨x_23, hq127, h⟩ := bnd_some h
                  refine z_callV1 C X zk10 (hI.1 101 (by decide)) rfl (As := [zI x1, zI x_12, zI x_21]) (M_X10_rimAt hI μ_22 x1 x_12 x_21 gx1 gx_12 gx_21 hq127) zc_X10_rimAt kw_1321 (zroom (by decide) (by decide)) rfl hl.1 rfl (Nat.le_of_ble_eq_true rfl) dX10_foldOne_127 ⟨Nat.zero_le _, Nat.zero_le _⟩ (fun H locs g_127 X => ?_)
                  refine lv_istore C.1 C.2.1 (lv' := [(7, zI x_23), (0, zR Ω 101), (1, zI x1), (2, zI x2), (3, zI x_11), (4, zI x_12), (6, zI x_21)]) dX10_foldOne_130 hl (by decide) rfl (fun ls hl => ?_)
                  refine lv_iload C.1 C.2.1 dX10_foldOne_132 (lv_at hl 0 rfl) ?_
                  refine z_callS1 C X (As := [zI x_23]) (M_X10_edgeOf hI μ_22 x_23 g_127) zc_X10_edgeOf kw_1530 (zroom (by decide) (by decide)) rfl hl.1 rfl (Nat.le_of_ble_eq_true rfl) dX10_foldOne_134 ⟨Nat.zero_le _, Nat.zero_le _⟩ (fun H locs g_134 X => ?_)
                  refine lv_iload_n C.1 C.2.1 dX10_foldOne_137 rfl (lv_at hl 3 rfl) ?_
                  have K146 : ∀ (x_24 : Int) (μ_25 : zMem) (H : Heap) (locs : List Loc) (ls : Array Slot), Rg x_24 → zX Ω μ_25 (zfree Ω) s.heap H locs → lv_has ls 9 [(0, zR Ω 101), (1, zI x1), (2, zI x2), (3, zI x_11), (4, zI x_12), (6, zI x_21), (7, zI x_23)] → (f_X10_foldOne_J146 x1 x_11 x_21 x_23 (f_X10_foldOne_L104 x1 x2 x_11 x_12 (f_X10_foldOne_K189 x_11 x_12 (f_X10_foldOne_L5 x1 x2 (f_X10_foldOne_K198 x1 x2) n5)) n104)) x_24 μ_25 = some μ' → W p l e (zrm 1) s m args below meth c H locs 0 0 Q (F0 m 146 ls [zI x_24]) := by
                    intro x_24 μ_25 H locs ls gx_24 X hl h
                    unfold f_X10_foldOne_J146 at h
                    refine lv_istore C.1 C.2.1 (lv' := [(8, zI x_24), (0, zR Ω 101), (1, zI x1), (2, zI x2), (3, zI x_11), (4, zI x_12), (6, zI x_21), (7, zI x_23)]) dX10_foldOne_146 hl (by decide) rfl (fun ls hl => ?_)
                    refine lv_aload_n C.1 C.2.1 dX10_foldOne_148 rfl (lv_at hl 1 rfl) ?_
                    refine z_get C X zk10 (hI.1 101 (by decide)) rfl 6 (by decide) kw_1038 (zR Ω 108) (zfvF (off := 7) X.2.2.2 (hI.1 101 (by decide)) hI.2 rfl rfl (by decide)) dX10_foldOne_149 ?_
                    refine z_bipush C dX10_foldOne_152 (by decide) ?_
                    refine z_bipush C dX10_foldOne_154 (by decide) ?_
                    refine lv_iload_n C.1 C.2.1 dX10_foldOne_156 rfl (lv_at hl 2 rfl) ?_
                    refine z_imul C dX10_foldOne_157 ?_
                    refine lv_iload_n C.1 C.2.1 dX10_foldOne_158 rfl (lv_at hl 4 rfl) ?_
                    refine z_iadd C dX10_foldOne_159 ?_
                    refine z_imul C dX10_foldOne_160 ?_
                    refine lv_iload C.1 C.2.1 dX10_foldOne_161 (lv_at hl 6 rfl) ?_
                    refine z_iadd C dX10_foldOne_163 ?_
                    refine lv_iload C.1 C.2.1 dX10_foldOne_164 (lv_at hl 7 rfl) ?_
                    have K182 : ∀ (x_26 : Int) (μ_27 : zMem) (H : Heap) (locs : List Loc) (ls : Array Slot), Rg x_26 → zX Ω μ_27 (zfree Ω) s.heap H locs → lv_has ls 9 [(0, zR Ω 101), (1, zI x1), (2, zI x2), (3, zI x_11), (4, zI x_12), (6, zI x_21)] → (f_X10_foldOne_J182 x1 x_11 x_21 (f_X10_foldOne_L104 x1 x2 x_11 x_12 (f_X10_foldOne_K189 x_11 x_12 (f_X10_foldOne_L5 x1 x2 (f_X10_foldOne_K198 x1 x2) n5)) n104)) x_26 μ_27 = some μ' → W p l e (zrm 1) s m args below meth c H locs 0 0 Q (F0 m 182 ls [zI x_26, zI (zw ((zw (8 * (zw ((zw (32 * x1)) + x_11)))) + x_21)), zR Ω 108]) := by
                      intro x_26 μ_27 H locs ls gx_26 X hl h
                      unfold f_X10_foldOne_J182 at h
                      obtain ⟨hc182, h⟩ := chk_some h
                      refine zlet_elim h (fun μ_28 em h => ?_)
                      refine z_iast C X (hI.1 108 (by decide)) rfl hc182 (zok1 rfl gx_26) em dX10_foldOne_182 (fun H locs X => ?_)
                      clear em
                      refine zlet_elim h (fun x_29 ex_29 h => ?_)
                      have gx_29 : Rg x_29 := by rw [ex_29]; exact Rg.w _
                      refine z_iinc C ex_29 dX10_foldOne_183 hl (k := 5) rfl (by decide) (lv' := [(6, zI x_29), (0, zR Ω 101), (1, zI x1), (2, zI x2), (3, zI x_11), (4, zI x_12)]) rfl (fun ls hl => ?_)
                      clear ex_29
                      refine lv_goto (tgt := 104) C.1 C.2.1 dX10_foldOne_186 (by decide) ?_
                      exact ih104 x_29 μ_28 _ _ _ gx_29 X (lv_sub hl [1, 2, 3, 4, 5, 0] rfl) h
                    refine z_ifle C g_127 (tgt := 177) dX10_foldOne_166 (by decide) (fun hc166 => ?_) (fun hc166 => ?_)
                    · rw [if_pos hc166] at h
                      refine lv_iload C.1 C.2.1 dX10_foldOne_177 (lv_at hl 7 rfl) ?_
                      refine lv_iload C.1 C.2.1 dX10_foldOne_179 (lv_at hl 0 rfl) ?_
                      refine z_iadd C dX10_foldOne_181 ?_
                      exact K182 (zw (x_23 + x_24)) μ_25 _ _ _ (Rg.w _) X (lv_sub hl [1, 2, 3, 4, 5, 6] rfl) h
                    · rw [if_neg hc166] at h
                      refine lv_iload C.1 C.2.1 dX10_foldOne_169 (lv_at hl 7 rfl) ?_
                      refine lv_iload C.1 C.2.1 dX10_foldOne_171 (lv_at hl 0 rfl) ?_
                      refine z_isub C dX10_foldOne_173 ?_
                      refine lv_goto (tgt := 182) C.1 C.2.1 dX10_foldOne_174 (by decide) ?_
                      exact K182 (zw (x_23 - x_24)) μ_25 _ _ _ (Rg.w _) X (lv_sub hl [1, 2, 3, 4, 5, 6] rfl) h
                  refine z_icmple C g_134 gx2 (tgt := 145) dX10_foldOne_138 (by decide) (fun hc138 => ?_) (fun hc138 => ?_)
                  · rw [if_pos hc138] at h
                    refine z_iconst C dX10_foldOne_145 ?_
                    exact K146 0 μ_22 _ _ _ ⟨by decide, by decide⟩ X (lv_sub hl [1, 2, 3, 4, 5, 6, 0] rfl) h
                  · rw [if_neg hc138] at h
                    refine z_iconst C dX10_foldOne_141 ?_
                    refine lv_goto (tgt := 146) C.1 C.2.1 dX10_foldOne_142 (by decide) ?_
                    exact K146 1 μ_22 _ _ _ ⟨by decide, by decide⟩ X (lv_sub hl [1, 2, 3, 4, 5, 6, 0] rfl) h
            exact L104 zfu 0 μ_17 _ _ _ ⟨by decide, by decide⟩ X (lv_sub hl [1, 2, 3, 4, 5, 0] rfl) h
        have L22 : ∀ (n22 : Nat) (x_30 : Int) (x_31 : Int) (μ_32 : zMem) (H : Heap) (locs : List Loc) (ls : Array Slot), Rg x_30 → Rg x_31 → zX Ω μ_32 (zfree Ω) s.heap H locs → lv_has ls 9 [(0, zR Ω 101), (1, zI x1), (2, zI x2), (3, zI x_11), (4, zI x_12), (5, zI x_30), (6, zI x_31)] → (f_X10_foldOne_L22 x1 x2 x_12 (f_X10_foldOne_K73 x1 x2 x_11 x_12 (f_X10_foldOne_L5 x1 x2 (f_X10_foldOne_K198 x1 x2) n5)) n22 x_30 x_31 μ_32) = some μ' → W p l e (zrm 1) s m args below meth c H locs 0 0 Q (F0 m 22 ls []) := by
          intro n22
          induction n22 with
          | zero =>
            intro x_30 x_31 μ_32 H locs ls _ _ _ _ h
            cases h
          | succ n22 ih22 =>
            intro x_30 x_31 μ_32 H locs ls gx_30 gx_31 X hl h
            unfold f_X10_foldOne_L22 at h
            refine lv_iload C.1 C.2.1 dX10_foldOne_22 (lv_at hl 6 rfl) ?_
            refine lv_aload_n C.1 C.2.1 dX10_foldOne_24 rfl (lv_at hl 0 rfl) ?_
            refine z_get C X zk10 (hI.1 101 (by decide)) rfl 5 (by decide) kw_1037 (zR Ω 107) (zfvF (off := 6) X.2.2.2 (hI.1 101 (by decide)) hI.2 rfl rfl (by decide)) dX10_foldOne_25 ?_
            refine z_bipush C dX10_foldOne_28 (by decide) ?_
            refine lv_iload_n C.1 C.2.1 dX10_foldOne_30 rfl (lv_at hl 1 rfl) ?_
            refine z_imul C dX10_foldOne_31 ?_
            refine lv_iload C.1 C.2.1 dX10_foldOne_32 (lv_at hl 4 rfl) ?_
            refine z_iadd C dX10_foldOne_34 ?_
            obtain ⟨hc35, h⟩ := chk_some h
            have g_35 : Rg (μ_32 107 (zw ((zw (32 * x1)) + x_12))) := zrg1 X.2.2.2 (hI.1 107 (by decide)) rfl
            refine z_iald C X (hI.1 107 (by decide)) rfl hc35 dX10_foldOne_35 ?_
            refine z_icmpge C gx_31 g_35 (tgt := 73) dX10_foldOne_36 (by decide) (fun hc36 => ?_) (fun hc36 => ?_)
            · rw [if_neg hc36] at h
              exact K73 x_30 μ_32 _ _ _ gx_30 X (lv_sub hl [0, 1, 2, 3, 4, 5] rfl) h
            · rw [if_pos hc36] at h
              refine lv_iload C.1 C.2.1 dX10_foldOne_39 (lv_at hl 5 rfl) ?_
              have K65 : ∀ (x_33 : Int) (μ_34 : zMem) (H : Heap) (locs : List Loc) (ls : Array Slot), Rg x_33 → zX Ω μ_34 (zfree Ω) s.heap H locs → lv_has ls 9 [(0, zR Ω 101), (1, zI x1), (2, zI x2), (3, zI x_11), (4, zI x_12), (6, zI x_31)] → (f_X10_foldOne_J65 x_31 (f_X10_foldOne_L22 x1 x2 x_12 (f_X10_foldOne_K73 x1 x2 x_11 x_12 (f_X10_foldOne_L5 x1 x2 (f_X10_foldOne_K198 x1 x2) n5)) n22)) x_33 μ_34 = some μ' → W p l e (zrm 1) s m args below meth c H locs 0 0 Q (F0 m 65 ls [zI x_33]) := by
                intro x_33 μ_34 H locs ls gx_33 X hl h
                unfold f_X10_foldOne_J65 at h
                refine lv_istore C.1 C.2.1 (lv' := [(5, zI x_33), (0, zR Ω 101), (1, zI x1), (2, zI x2), (3, zI x_11), (4, zI x_12), (6, zI x_31)]) dX10_foldOne_65 hl (by decide) rfl (fun ls hl => ?_)
                refine zlet_elim h (fun x_35 ex_35 h => ?_)
                have gx_35 : Rg x_35 := by rw [ex_35]; exact Rg.w _
                refine z_iinc C ex_35 dX10_foldOne_67 hl (k := 6) rfl (by decide) (lv' := [(6, zI x_35), (5, zI x_33), (0, zR Ω 101), (1, zI x1), (2, zI x2), (3, zI x_11), (4, zI x_12)]) rfl (fun ls hl => ?_)
                clear ex_35
                refine lv_goto (tgt := 22) C.1 C.2.1 dX10_foldOne_70 (by decide) ?_
                exact ih22 x_33 x_35 μ_34 _ _ _ gx_33 gx_35 X (lv_sub hl [2, 3, 4, 5, 6, 1, 0] rfl) h
              have K60 : ∀ (μ_36 : zMem) (H : Heap) (locs : List Loc) (ls : Array Slot), zX Ω μ_36 (zfree Ω) s.heap H locs → lv_has ls 9 [(0, zR Ω 101), (1, zI x1), (2, zI x2), (3, zI x_11), (4, zI x_12), (6, zI x_31)] → (f_X10_foldOne_J60 (f_X10_foldOne_J65 x_31 (f_X10_foldOne_L22 x1 x2 x_12 (f_X10_foldOne_K73 x1 x2 x_11 x_12 (f_X10_foldOne_L5 x1 x2 (f_X10_foldOne_K198 x1 x2) n5)) n22))) μ_36 = some μ' → W p l e (zrm 1) s m args below meth c H locs 0 0 Q (F0 m 60 ls []) := by
                intro μ_36 H locs ls  X hl h
                unfold f_X10_foldOne_J60 at h
                refine z_iconst C dX10_foldOne_60 ?_
                refine lv_goto (tgt := 65) C.1 C.2.1 dX10_foldOne_61 (by decide) ?_
                exact K65 1 μ_36 _ _ _ ⟨by decide, by decide⟩ X (lv_sub hl [0, 1, 2, 3, 4, 5] rfl) h
              refine z_ifne C gx_30 (tgt := 60) dX10_foldOne_41 (by decide) (fun hc41 => ?_) (fun hc41 => ?_)
              · rw [if_neg hc41] at h
                exact K60 μ_32 _ _ _ X (lv_sub hl [0, 1, 2, 3, 4, 6] rfl) h
              · rw [if_pos hc41] at h
                refine lv_aload_n C.1 C.2.1 dX10_foldOne_44 rfl (lv_at hl 0 rfl) ?_
                refine lv_iload_n C.1 C.2.1 dX10_foldOne_45 rfl (lv_at hl 1 rfl) ?_
                refine lv_iload C.1 C.2.1 dX10_foldOne_46 (lv_at hl 4 rfl) ?_
                refine lv_iload C.1 C.2.1 dX10_foldOne_48 (lv_at hl 6 rfl) ?_
                obtain ⟨x_37, hq50, h⟩ := bnd_some h
                refine z_callV1 C X zk10 (hI.1 101 (by decide)) rfl (As := [zI x1, zI x_12, zI x_31]) (M_X10_rimAt hI μ_32 x1 x_12 x_31 gx1 gx_12 gx_31 hq50) zc_X10_rimAt kw_1321 (zroom (by decide) (by decide)) rfl hl.1 rfl (Nat.le_of_ble_eq_true rfl) dX10_foldOne_50 ⟨Nat.zero_le _, Nat.zero_le _⟩ (fun H locs g_50 X => ?_)
                refine z_callS1 C X (As := [zI x_37]) (M_X10_edgeOf hI μ_32 x_37 g_50) zc_X10_edgeOf kw_1530 (zroom (by decide) (by decide)) rfl hl.1 rfl (Nat.le_of_ble_eq_true rfl) dX10_foldOne_53 ⟨Nat.zero_le _, Nat.zero_le _⟩ (fun H locs g_53 X => ?_)
                refine lv_iload_n C.1 C.2.1 dX10_foldOne_56 rfl (lv_at hl 2 rfl) ?_
                refine z_icmpne C g_53 gx2 (tgt := 64) dX10_foldOne_57 (by decide) (fun hc57 => ?_) (fun hc57 => ?_)
                · rw [if_neg hc57] at h
                  refine z_iconst C dX10_foldOne_64 ?_
                  exact K65 0 μ_32 _ _ _ ⟨by decide, by decide⟩ X (lv_sub hl [0, 1, 2, 3, 4, 6] rfl) h
                · rw [if_pos hc57] at h
                  exact K60 μ_32 _ _ _ X (lv_sub hl [0, 1, 2, 3, 4, 6] rfl) h
        exact L22 zfu 0 0 μ_13 _ _ _ ⟨by decide, by decide⟩ ⟨by decide, by decide⟩ X (lv_sub hl [2, 3, 4, 5, 6, 1, 0] rfl) h
  exact L5 zfu 0 0 μ _ _ _ ⟨by decide, by decide⟩ ⟨by decide, by decide⟩ X (lv_sub hl [2, 3, 4, 1, 0] rfl) h
theorem zc_X10_foldOne : zcal yX10_foldOne cX10_foldOne 9 none RX10 2 := ⟨⟨kw_1548, kw_1547, kp_102, kw_12⟩, rfl, by decide, by decide, by decide +kernel⟩

def f_X10_fold_K39 (x1 : Int) (x_2 : Int) (μ_3 : zMem) : Option (Int × zMem) :=
  bnd (f_X10_emptySlots x1 μ_3) fun μ_4 =>
  some (x_2, μ_4)
def f_X10_fold_L17 (x1 : Int) (g39 : Int → zMem → Option (Int × zMem)) : Nat → Int → Int → zMem → Option (Int × zMem)
  | 0, _, _, _ => none
  | n + 1, x_5, x_6, μ_7 =>
    if x_6 < 0 then
      g39 x_5 μ_7
    else
      bnd (f_X10_foldOne x1 x_6 μ_7) fun μ_8 =>
      zlet (zw (x_5 + 1)) fun x_9 =>
      bnd (f_X10_lonely x1 μ_8) fun x_10 =>
      (f_X10_fold_L17 x1 g39 n) x_9 x_10 μ_8
def f_X10_fold (x1 : Int) (μ : zMem) : Option (Int × zMem) :=
  if (f_X10_isSpace x1) = 0 then
    some ((-1), μ)
  else
    bnd (f_X10_lonely x1 μ) fun x_1 =>
    (f_X10_fold_L17 x1 (f_X10_fold_K39 x1)) zfu 0 x_1 μ
set_option maxHeartbeats 4000000 in
set_option maxRecDepth 100000 in
theorem M_X10_fold {l : Launch} {Ω : zO} (hI : zIm Ω) (μ : zMem) (x1 : Int) {r : Int} {μ' : zMem} (gx1 : Rg x1) (h : f_X10_fold x1 μ = some (r, μ')) : XMet l yX10_fold cX10_fold 4 (some Jvm.ClassFile.FieldType.int) 2 Ω [zR Ω 101, zI x1] μ (some (zI r)) (Rg r) μ' := by
  refine XMet.ofI (by decide) (Nat.le_of_ble_eq_true rfl) ?_
  intro p e s m args below meth c ls Q C rt X hl
  have C : zC p s m args c cX10_fold RX10 4 Ω := C
  have hl : lv_has ls 4 [(0, zR Ω 101), (1, zI x1)] := hl
  unfold f_X10_fold at h
  skip
  refine lv_iload_n C.1 C.2.1 dX10_fold_0 rfl (lv_at hl 1 rfl) ?_
  refine z_callS1 C X (As := [zI x1]) (M_X10_isSpace hI μ x1 gx1) zc_X10_isSpace kw_1214 (zroom (by decide) (by decide)) rfl hl.1 rfl (Nat.le_of_ble_eq_true rfl) dX10_fold_1 ⟨Nat.zero_le _, Nat.zero_le _⟩ (fun H locs g_1 X => ?_)
  refine z_ifne C (rgz g_1) (tgt := 9) dX10_fold_4 (by decide) (fun hc4 => ?_) (fun hc4 => ?_)
  · rw [if_neg hc4] at h
    refine z_iconst C dX10_fold_9 ?_
    refine lv_istore_n C.1 C.2.1 (lv' := [(2, zI 0), (0, zR Ω 101), (1, zI x1)]) dX10_fold_10 rfl hl (by decide) rfl (fun ls hl => ?_)
    refine lv_aload_n C.1 C.2.1 dX10_fold_11 rfl (lv_at hl 1 rfl) ?_
    refine lv_iload_n C.1 C.2.1 dX10_fold_12 rfl (lv_at hl 2 rfl) ?_
    obtain ⟨x_1, hq13, h⟩ := bnd_some h
    refine z_callV1 C X zk10 (hI.1 101 (by decide)) rfl (As := [zI x1]) (M_X10_lonely hI μ x1 gx1 hq13) zc_X10_lonely kw_1541 (zroom (by decide) (by decide)) rfl hl.1 rfl (Nat.le_of_ble_eq_true rfl) dX10_fold_13 ⟨Nat.zero_le _, Nat.zero_le _⟩ (fun H locs g_13 X => ?_)
    refine lv_istore_n C.1 C.2.1 (lv' := [(3, zI x_1), (2, zI 0), (0, zR Ω 101), (1, zI x1)]) dX10_fold_16 rfl hl (by decide) rfl (fun ls hl => ?_)
    have K39 : ∀ (x_2 : Int) (μ_3 : zMem) (H : Heap) (locs : List Loc) (ls : Array Slot), Rg x_2 → zX Ω μ_3 (zfree Ω) s.heap H locs → lv_has ls 4 [(0, zR Ω 101), (1, zI x1), (2, zI x_2)] → (f_X10_fold_K39 x1) x_2 μ_3 = some (r, μ') → W p l e (zrm 2) s m args below meth c H locs 0 0 Q (F0 m 39 ls []) := by
      intro x_2 μ_3 H locs ls gx_2 X hl h
      unfold f_X10_fold_K39 at h
      refine lv_aload_n C.1 C.2.1 dX10_fold_39 rfl (lv_at hl 0 rfl) ?_
      refine lv_iload_n C.1 C.2.1 dX10_fold_40 rfl (lv_at hl 1 rfl) ?_
      obtain ⟨μ_4, hq41, h⟩ := bnd_some h
      refine z_callV0 C X zk10 (hI.1 101 (by decide)) rfl (As := [zI x1]) (M_X10_emptySlots hI μ_3 x1 gx1 hq41) zc_X10_emptySlots kw_1224 (zroom (by decide) (by decide)) rfl hl.1 rfl (Nat.le_of_ble_eq_true rfl) dX10_fold_41 ⟨Nat.zero_le _, Nat.zero_le _⟩ (fun H locs g_41 X => ?_)
      refine lv_iload_n C.1 C.2.1 dX10_fold_44 rfl (lv_at hl 2 rfl) ?_
      obtain ⟨rfl, rfl⟩ := Prod.mk.inj (Option.some.inj h)
      exact rt X gx_2 dX10_fold_45
    have L17 : ∀ (n17 : Nat) (x_5 : Int) (x_6 : Int) (μ_7 : zMem) (H : Heap) (locs : List Loc) (ls : Array Slot), Rg x_5 → Rg x_6 → zX Ω μ_7 (zfree Ω) s.heap H locs → lv_has ls 4 [(0, zR Ω 101), (1, zI x1), (2, zI x_5), (3, zI x_6)] → (f_X10_fold_L17 x1 (f_X10_fold_K39 x1) n17 x_5 x_6 μ_7) = some (r, μ') → W p l e (zrm 2) s m args below meth c H locs 0 0 Q (F0 m 17 ls []) := by
      intro n17
      induction n17 with
      | zero =>
        intro x_5 x_6 μ_7 H locs ls _ _ _ _ h
        cases h
      | succ n17 ih17 =>
        intro x_5 x_6 μ_7 H locs ls gx_5 gx_6 X hl h
        unfold f_X10_fold_L17 at h
        refine lv_iload_n C.1 C.2.1 dX10_fold_17 rfl (lv_at hl 3 rfl) ?_
        refine z_iflt C gx_6 (tgt := 39) dX10_fold_18 (by decide) (fun hc18 => ?_) (fun hc18 => ?_)
        · rw [if_pos hc18] at h
          exact K39 x_5 μ_7 _ _ _ gx_5 X (lv_sub hl [0, 1, 2] rfl) h
        · rw [if_neg hc18] at h
          refine lv_aload_n C.1 C.2.1 dX10_fold_21 rfl (lv_at hl 0 rfl) ?_
          refine lv_iload_n C.1 C.2.1 dX10_fold_22 rfl (lv_at hl 1 rfl) ?_
          refine lv_iload_n C.1 C.2.1 dX10_fold_23 rfl (lv_at hl 3 rfl) ?_
          obtain ⟨μ_8, hq24, h⟩ := bnd_some h
          refine z_callV0 C X zk10 (hI.1 101 (by decide)) rfl (As := [zI x1, zI x_6]) (M_X10_foldOne hI μ_7 x1 x_6 gx1 gx_6 hq24) zc_X10_foldOne kw_1545 (zroom (by decide) (by decide)) rfl hl.1 rfl (Nat.le_of_ble_eq_true rfl) dX10_fold_24 ⟨Nat.zero_le _, Nat.zero_le _⟩ (fun H locs g_24 X => ?_)
          refine zlet_elim h (fun x_9 ex_9 h => ?_)
          have gx_9 : Rg x_9 := by rw [ex_9]; exact Rg.w _
          refine z_iinc C ex_9 dX10_fold_27 hl (k := 2) rfl (by decide) (lv' := [(2, zI x_9), (0, zR Ω 101), (1, zI x1), (3, zI x_6)]) rfl (fun ls hl => ?_)
          clear ex_9
          refine lv_aload_n C.1 C.2.1 dX10_fold_30 rfl (lv_at hl 1 rfl) ?_
          refine lv_iload_n C.1 C.2.1 dX10_fold_31 rfl (lv_at hl 2 rfl) ?_
          obtain ⟨x_10, hq32, h⟩ := bnd_some h
          refine z_callV1 C X zk10 (hI.1 101 (by decide)) rfl (As := [zI x1]) (M_X10_lonely hI μ_8 x1 gx1 hq32) zc_X10_lonely kw_1541 (zroom (by decide) (by decide)) rfl hl.1 rfl (Nat.le_of_ble_eq_true rfl) dX10_fold_32 ⟨Nat.zero_le _, Nat.zero_le _⟩ (fun H locs g_32 X => ?_)
          refine lv_istore_n C.1 C.2.1 (lv' := [(3, zI x_10), (2, zI x_9), (0, zR Ω 101), (1, zI x1)]) dX10_fold_35 rfl hl (by decide) rfl (fun ls hl => ?_)
          refine lv_goto (tgt := 17) C.1 C.2.1 dX10_fold_36 (by decide) ?_
          exact ih17 x_9 x_10 μ_8 _ _ _ gx_9 g_32 X (lv_sub hl [2, 3, 1, 0] rfl) h
    exact L17 zfu 0 x_1 μ _ _ _ ⟨by decide, by decide⟩ g_13 X (lv_sub hl [2, 3, 1, 0] rfl) h
  · rw [if_pos hc4] at h
    refine z_iconst C dX10_fold_7 ?_
    obtain ⟨rfl, rfl⟩ := Prod.mk.inj (Option.some.inj h)
    exact rt X ⟨by decide, by decide⟩ dX10_fold_8
theorem zc_X10_fold : zcal yX10_fold cX10_fold 4 (some Jvm.ClassFile.FieldType.int) RX10 1 := ⟨⟨kw_1540, kw_1538, kw_1539, kw_12⟩, rfl, by decide, by decide, by decide +kernel⟩

