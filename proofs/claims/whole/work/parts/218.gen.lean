def f_X10_addFace_K60 (x1 : Int) (x_1 : Int) (μ_3 : zMem) : Option (Int × zMem) :=
  chk ((0 : Int) ≤ x1 ∧ x1 < 3) <|
  chk ((0 : Int) ≤ x1 ∧ x1 < 3) <|
  zlet (zup μ_3 104 x1 (zw ((μ_3 104 x1) + 1))) fun μ_4 =>
  some (x_1, μ_4)
def f_X10_addFace_L24 (x1 : Int) (x_1 : Int) (g60 : zMem → Option (Int × zMem)) : Nat → Int → zMem → Option (Int × zMem)
  | 0, _, _ => none
  | n + 1, x_5, μ_6 =>
    if x_5 < (μ_6 101 13) then
      chk ((0 : Int) ≤ x_5 ∧ x_5 < 17) <|
      chk ((0 : Int) ≤ (zw ((zw (8 * (zw ((zw (32 * x1)) + x_1)))) + x_5)) ∧ (zw ((zw (8 * (zw ((zw (32 * x1)) + x_1)))) + x_5)) < 768) <|
      zlet (zup μ_6 108 (zw ((zw (8 * (zw ((zw (32 * x1)) + x_1)))) + x_5)) (μ_6 116 x_5)) fun μ_7 =>
      zlet (zw (x_5 + 1)) fun x_8 =>
      (f_X10_addFace_L24 x1 x_1 g60 n) x_8 μ_7
    else
      g60 μ_6
def f_X10_addFace (x1 : Int) (μ : zMem) : Option (Int × zMem) :=
  chk ((0 : Int) ≤ x1 ∧ x1 < 3) <|
  zlet ((μ 104 x1)) fun x_1 =>
  chk ((0 : Int) ≤ (zw ((zw (32 * x1)) + x_1)) ∧ (zw ((zw (32 * x1)) + x_1)) < 96) <|
  zlet (zup μ 107 (zw ((zw (32 * x1)) + x_1)) (μ 101 13)) fun μ_2 =>
  (f_X10_addFace_L24 x1 x_1 (f_X10_addFace_K60 x1 x_1)) zfu 0 μ_2
set_option maxHeartbeats 4000000 in
set_option maxRecDepth 100000 in
theorem M_X10_addFace {l : Launch} {Ω : zO} (hI : zIm Ω) (μ : zMem) (x1 : Int) {r : Int} {μ' : zMem} (gx1 : Rg x1) (h : f_X10_addFace x1 μ = some (r, μ')) : XMet l yX10_addFace cX10_addFace 4 (some Jvm.ClassFile.FieldType.int) 0 Ω [zR Ω 101, zI x1] μ (some (zI r)) (Rg r) μ' := by
  refine XMet.ofI (by decide) (Nat.le_of_ble_eq_true rfl) ?_
  intro p e s m args below meth c ls Q C rt X hl
  have C : zC p s m args c cX10_addFace RX10 4 Ω := C
  have hl : lv_has ls 4 [(0, zR Ω 101), (1, zI x1)] := hl
  unfold f_X10_addFace at h
  skip
  refine lv_aload_n C.1 C.2.1 dX10_addFace_0 rfl (lv_at hl 0 rfl) ?_
  refine z_get C X zk10 (hI.1 101 (by decide)) rfl 2 (by decide) kw_1034 (zR Ω 104) (zfvF (off := 3) X.2.2.2 (hI.1 101 (by decide)) hI.2 rfl rfl (by decide)) dX10_addFace_1 ?_
  refine lv_iload_n C.1 C.2.1 dX10_addFace_4 rfl (lv_at hl 1 rfl) ?_
  obtain ⟨hc5, h⟩ := chk_some h
  have g_5 : Rg (μ 104 x1) := zrg1 X.2.2.2 (hI.1 104 (by decide)) rfl
  refine z_iald C X (hI.1 104 (by decide)) rfl hc5 dX10_addFace_5 ?_
  refine zlet_elim h (fun x_1 ex_1 h => ?_)
  have gx_1 : Rg x_1 := by rw [ex_1]; exact g_5
  refine z_istore_n C ex_1 dX10_addFace_6 rfl hl (by decide) (lv' := [(2, zI x_1), (0, zR Ω 101), (1, zI x1)]) rfl (fun ls hl => ?_)
  clear ex_1
  refine lv_aload_n C.1 C.2.1 dX10_addFace_7 rfl (lv_at hl 1 rfl) ?_
  refine z_get C X zk10 (hI.1 101 (by decide)) rfl 5 (by decide) kw_1037 (zR Ω 107) (zfvF (off := 6) X.2.2.2 (hI.1 101 (by decide)) hI.2 rfl rfl (by decide)) dX10_addFace_8 ?_
  refine z_bipush C dX10_addFace_11 (by decide) ?_
  refine lv_iload_n C.1 C.2.1 dX10_addFace_13 rfl (lv_at hl 2 rfl) ?_
  refine z_imul C dX10_addFace_14 ?_
  refine lv_iload_n C.1 C.2.1 dX10_addFace_15 rfl (lv_at hl 0 rfl) ?_
  refine z_iadd C dX10_addFace_16 ?_
  refine lv_aload_n C.1 C.2.1 dX10_addFace_17 rfl (lv_at hl 1 rfl) ?_
  have g_18 : Rg (μ 101 13) := zrgf0 (ci := 10) X.2.2.2 (hI.1 101 (by decide)) rfl 13 rfl
  refine z_get C X zk10 (hI.1 101 (by decide)) rfl 13 (by decide) kw_1045 (zI (μ 101 13)) rfl dX10_addFace_18 ?_
  obtain ⟨hc21, h⟩ := chk_some h
  refine zlet_elim h (fun μ_2 em h => ?_)
  refine z_iast C X (hI.1 107 (by decide)) rfl hc21 (zok1 rfl g_18) em dX10_addFace_21 (fun H locs X => ?_)
  clear em
  refine z_iconst C dX10_addFace_22 ?_
  refine lv_istore_n C.1 C.2.1 (lv' := [(3, zI 0), (2, zI x_1), (0, zR Ω 101), (1, zI x1)]) dX10_addFace_23 rfl hl (by decide) rfl (fun ls hl => ?_)
  have K60 : ∀ (μ_3 : zMem) (H : Heap) (locs : List Loc) (ls : Array Slot), zX Ω μ_3 (zfree Ω) s.heap H locs → lv_has ls 4 [(0, zR Ω 101), (1, zI x1), (2, zI x_1)] → (f_X10_addFace_K60 x1 x_1) μ_3 = some (r, μ') → W p l e (zrm 0) s m args below meth c H locs 0 0 Q (F0 m 60 ls []) := by
    intro μ_3 H locs ls  X hl h
    unfold f_X10_addFace_K60 at h
    refine lv_aload_n C.1 C.2.1 dX10_addFace_60 rfl (lv_at hl 0 rfl) ?_
    refine z_get C X zk10 (hI.1 101 (by decide)) rfl 2 (by decide) kw_1034 (zR Ω 104) (zfvF (off := 3) X.2.2.2 (hI.1 101 (by decide)) hI.2 rfl rfl (by decide)) dX10_addFace_61 ?_
    refine lv_iload_n C.1 C.2.1 dX10_addFace_64 rfl (lv_at hl 1 rfl) ?_
    refine lv_dup2_11 C.1 C.2.1 dX10_addFace_65 rfl rfl ?_
    obtain ⟨hc66, h⟩ := chk_some h
    have g_66 : Rg (μ_3 104 x1) := zrg1 X.2.2.2 (hI.1 104 (by decide)) rfl
    refine z_iald C X (hI.1 104 (by decide)) rfl hc66 dX10_addFace_66 ?_
    refine z_iconst C dX10_addFace_67 ?_
    refine z_iadd C dX10_addFace_68 ?_
    obtain ⟨hc69, h⟩ := chk_some h
    refine zlet_elim h (fun μ_4 em h => ?_)
    refine z_iast C X (hI.1 104 (by decide)) rfl hc69 (zok1 rfl (Rg.w _)) em dX10_addFace_69 (fun H locs X => ?_)
    clear em
    refine lv_iload_n C.1 C.2.1 dX10_addFace_70 rfl (lv_at hl 2 rfl) ?_
    obtain ⟨rfl, rfl⟩ := Prod.mk.inj (Option.some.inj h)
    exact rt X gx_1 dX10_addFace_71
  have L24 : ∀ (n24 : Nat) (x_5 : Int) (μ_6 : zMem) (H : Heap) (locs : List Loc) (ls : Array Slot), Rg x_5 → zX Ω μ_6 (zfree Ω) s.heap H locs → lv_has ls 4 [(0, zR Ω 101), (1, zI x1), (2, zI x_1), (3, zI x_5)] → (f_X10_addFace_L24 x1 x_1 (f_X10_addFace_K60 x1 x_1) n24 x_5 μ_6) = some (r, μ') → W p l e (zrm 0) s m args below meth c H locs 0 0 Q (F0 m 24 ls []) := by
    intro n24
    induction n24 with
    | zero =>
      intro x_5 μ_6 H locs ls _ _ _ h
      cases h
    | succ n24 ih24 =>
      intro x_5 μ_6 H locs ls gx_5 X hl h
      unfold f_X10_addFace_L24 at h
      refine lv_iload_n C.1 C.2.1 dX10_addFace_24 rfl (lv_at hl 3 rfl) ?_
      refine lv_aload_n C.1 C.2.1 dX10_addFace_25 rfl (lv_at hl 0 rfl) ?_
      have g_26 : Rg (μ_6 101 13) := zrgf0 (ci := 10) X.2.2.2 (hI.1 101 (by decide)) rfl 13 rfl
      refine z_get C X zk10 (hI.1 101 (by decide)) rfl 13 (by decide) kw_1045 (zI (μ_6 101 13)) rfl dX10_addFace_26 ?_
      refine z_icmpge C gx_5 g_26 (tgt := 60) dX10_addFace_29 (by decide) (fun hc29 => ?_) (fun hc29 => ?_)
      · rw [if_neg hc29] at h
        exact K60 μ_6 _ _ _ X (lv_sub hl [0, 1, 2] rfl) h
      · rw [if_pos hc29] at h
        refine lv_aload_n C.1 C.2.1 dX10_addFace_32 rfl (lv_at hl 0 rfl) ?_
        refine z_get C X zk10 (hI.1 101 (by decide)) rfl 6 (by decide) kw_1038 (zR Ω 108) (zfvF (off := 7) X.2.2.2 (hI.1 101 (by decide)) hI.2 rfl rfl (by decide)) dX10_addFace_33 ?_
        refine z_bipush C dX10_addFace_36 (by decide) ?_
        refine z_bipush C dX10_addFace_38 (by decide) ?_
        refine lv_iload_n C.1 C.2.1 dX10_addFace_40 rfl (lv_at hl 1 rfl) ?_
        refine z_imul C dX10_addFace_41 ?_
        refine lv_iload_n C.1 C.2.1 dX10_addFace_42 rfl (lv_at hl 2 rfl) ?_
        refine z_iadd C dX10_addFace_43 ?_
        refine z_imul C dX10_addFace_44 ?_
        refine lv_iload_n C.1 C.2.1 dX10_addFace_45 rfl (lv_at hl 3 rfl) ?_
        refine z_iadd C dX10_addFace_46 ?_
        refine lv_aload_n C.1 C.2.1 dX10_addFace_47 rfl (lv_at hl 0 rfl) ?_
        refine z_get C X zk10 (hI.1 101 (by decide)) rfl 14 (by decide) kw_1046 (zR Ω 116) (zfvF (off := 15) X.2.2.2 (hI.1 101 (by decide)) hI.2 rfl rfl (by decide)) dX10_addFace_48 ?_
        refine lv_iload_n C.1 C.2.1 dX10_addFace_51 rfl (lv_at hl 3 rfl) ?_
        obtain ⟨hc52, h⟩ := chk_some h
        have g_52 : Rg (μ_6 116 x_5) := zrg1 X.2.2.2 (hI.1 116 (by decide)) rfl
        refine z_iald C X (hI.1 116 (by decide)) rfl hc52 dX10_addFace_52 ?_
        obtain ⟨hc53, h⟩ := chk_some h
        refine zlet_elim h (fun μ_7 em h => ?_)
        refine z_iast C X (hI.1 108 (by decide)) rfl hc53 (zok1 rfl g_52) em dX10_addFace_53 (fun H locs X => ?_)
        clear em
        refine zlet_elim h (fun x_8 ex_8 h => ?_)
        have gx_8 : Rg x_8 := by rw [ex_8]; exact Rg.w _
        refine z_iinc C ex_8 dX10_addFace_54 hl (k := 3) rfl (by decide) (lv' := [(3, zI x_8), (0, zR Ω 101), (1, zI x1), (2, zI x_1)]) rfl (fun ls hl => ?_)
        clear ex_8
        refine lv_goto (tgt := 24) C.1 C.2.1 dX10_addFace_57 (by decide) ?_
        exact ih24 x_8 μ_7 _ _ _ gx_8 X (lv_sub hl [1, 2, 3, 0] rfl) h
  exact L24 zfu 0 μ_2 _ _ _ ⟨by decide, by decide⟩ X (lv_sub hl [2, 3, 1, 0] rfl) h
theorem zc_X10_addFace : zcal yX10_addFace cX10_addFace 4 (some Jvm.ClassFile.FieldType.int) RX10 1 := ⟨⟨kw_1276, kw_1275, kp_62, kw_12⟩, rfl, by decide, by decide, by decide +kernel⟩

def f_X10_face_J49 (x1 : Int) (x_4 : Int) (μ_5 : zMem) : Option (Int × zMem) :=
  zlet (zup μ_5 101 9 0) fun μ_6 =>
  if x_4 = 0 then
    some ((μ_6 101 11), μ_6)
  else
    chk ((0 : Int) ≤ x1 ∧ x1 < 3) <|
    if (μ_6 104 x1) = 8 then
      some ((-3), μ_6)
    else
      bnd2 (f_X10_addFace x1 μ_6) fun x_7 μ_8 =>
      some (x_7, μ_8)
def f_X10_face_J48 (g49 : Int → zMem → Option (Int × zMem)) (μ_9 : zMem) : Option (Int × zMem) :=
  g49 0 μ_9
def f_X10_face_J44 (g49 : Int → zMem → Option (Int × zMem)) (μ_10 : zMem) : Option (Int × zMem) :=
  g49 1 μ_10
def f_X10_face (x1 : Int) (μ : zMem) : Option (Int × zMem) :=
  if (f_X10_isSpace x1) = 0 then
    some ((-1), μ)
  else
    zlet (zup μ 101 10 0) fun μ_1 =>
    bnd2 (f_X10_readRim x1 μ_1) fun x_2 μ_3 =>
    if x_2 = 0 then
      (f_X10_face_J48 (f_X10_face_J49 x1)) μ_3
    else
      if (μ_3 101 10) = (μ_3 101 9) then
        (f_X10_face_J44 (f_X10_face_J49 x1)) μ_3
      else
        bnd2 (f_X10_fails (μ_3 101 10) μ_3) fun x_11 μ_12 =>
        if x_11 = 0 then
          (f_X10_face_J48 (f_X10_face_J49 x1)) μ_12
        else
          (f_X10_face_J44 (f_X10_face_J49 x1)) μ_12
set_option maxHeartbeats 4000000 in
set_option maxRecDepth 100000 in
theorem M_X10_face {l : Launch} {Ω : zO} (hI : zIm Ω) (μ : zMem) (x1 : Int) {r : Int} {μ' : zMem} (gx1 : Rg x1) (h : f_X10_face x1 μ = some (r, μ')) : XMet l yX10_face cX10_face 3 (some Jvm.ClassFile.FieldType.int) 4 Ω [zR Ω 101, zI x1] μ (some (zI r)) (Rg r) μ' := by
  refine XMet.ofI (by decide) (Nat.le_of_ble_eq_true rfl) ?_
  intro p e s m args below meth c ls Q C rt X hl
  have C : zC p s m args c cX10_face RX10 3 Ω := C
  have hl : lv_has ls 3 [(0, zR Ω 101), (1, zI x1)] := hl
  unfold f_X10_face at h
  skip
  refine lv_iload_n C.1 C.2.1 dX10_face_0 rfl (lv_at hl 1 rfl) ?_
  refine z_callS1 C X (As := [zI x1]) (M_X10_isSpace hI μ x1 gx1) zc_X10_isSpace kw_1214 (zroom (by decide) (by decide)) rfl hl.1 rfl (Nat.le_of_ble_eq_true rfl) dX10_face_1 ⟨Nat.zero_le _, Nat.zero_le _⟩ (fun H locs g_1 X => ?_)
  refine z_ifne C (rgz g_1) (tgt := 9) dX10_face_4 (by decide) (fun hc4 => ?_) (fun hc4 => ?_)
  · rw [if_neg hc4] at h
    refine lv_aload_n C.1 C.2.1 dX10_face_9 rfl (lv_at hl 0 rfl) ?_
    refine z_iconst C dX10_face_10 ?_
    refine zlet_elim h (fun μ_1 em h => ?_)
    refine z_putI C X zk10 (hI.1 101 (by decide)) rfl 10 (by decide) kw_1042 rfl rfl rfl rfl ⟨by decide, by decide⟩ em dX10_face_11 (fun H locs X => ?_)
    clear em
    refine lv_aload_n C.1 C.2.1 dX10_face_14 rfl (lv_at hl 0 rfl) ?_
    refine lv_iload_n C.1 C.2.1 dX10_face_15 rfl (lv_at hl 1 rfl) ?_
    obtain ⟨x_2, μ_3, hq16, h⟩ := bnd2_some h
    refine z_callV1 C X zk10 (hI.1 101 (by decide)) rfl (As := [zI x1]) (M_X10_readRim hI μ_1 x1 gx1 hq16) zc_X10_readRim kw_1245 (zroom (by decide) (by decide)) rfl hl.1 rfl (Nat.le_of_ble_eq_true rfl) dX10_face_16 ⟨Nat.zero_le _, Nat.zero_le _⟩ (fun H locs g_16 X => ?_)
    have K49 : ∀ (x_4 : Int) (μ_5 : zMem) (H : Heap) (locs : List Loc) (ls : Array Slot), Rg x_4 → zX Ω μ_5 (zfree Ω) s.heap H locs → lv_has ls 3 [(0, zR Ω 101), (1, zI x1)] → (f_X10_face_J49 x1) x_4 μ_5 = some (r, μ') → W p l e (zrm 4) s m args below meth c H locs 0 0 Q (F0 m 49 ls [zI x_4]) := by
      intro x_4 μ_5 H locs ls gx_4 X hl h
      unfold f_X10_face_J49 at h
      refine lv_istore_n C.1 C.2.1 (lv' := [(2, zI x_4), (0, zR Ω 101), (1, zI x1)]) dX10_face_49 rfl hl (by decide) rfl (fun ls hl => ?_)
      refine lv_aload_n C.1 C.2.1 dX10_face_50 rfl (lv_at hl 1 rfl) ?_
      refine z_iconst C dX10_face_51 ?_
      refine zlet_elim h (fun μ_6 em h => ?_)
      refine z_putI C X zk10 (hI.1 101 (by decide)) rfl 9 (by decide) kw_1041 rfl rfl rfl rfl ⟨by decide, by decide⟩ em dX10_face_52 (fun H locs X => ?_)
      clear em
      refine lv_iload_n C.1 C.2.1 dX10_face_55 rfl (lv_at hl 0 rfl) ?_
      refine z_ifne C gx_4 (tgt := 66) dX10_face_56 (by decide) (fun hc56 => ?_) (fun hc56 => ?_)
      · rw [if_neg hc56] at h
        refine lv_aload_n C.1 C.2.1 dX10_face_66 rfl (lv_at hl 1 rfl) ?_
        refine z_get C X zk10 (hI.1 101 (by decide)) rfl 2 (by decide) kw_1034 (zR Ω 104) (zfvF (off := 3) X.2.2.2 (hI.1 101 (by decide)) hI.2 rfl rfl (by decide)) dX10_face_67 ?_
        refine lv_iload_n C.1 C.2.1 dX10_face_70 rfl (lv_at hl 2 rfl) ?_
        obtain ⟨hc71, h⟩ := chk_some h
        have g_71 : Rg (μ_6 104 x1) := zrg1 X.2.2.2 (hI.1 104 (by decide)) rfl
        refine z_iald C X (hI.1 104 (by decide)) rfl hc71 dX10_face_71 ?_
        refine z_bipush C dX10_face_72 (by decide) ?_
        refine z_icmpne C g_71 ⟨by decide, by decide⟩ (tgt := 82) dX10_face_74 (by decide) (fun hc74 => ?_) (fun hc74 => ?_)
        · rw [if_neg hc74] at h
          refine lv_aload_n C.1 C.2.1 dX10_face_82 rfl (lv_at hl 1 rfl) ?_
          refine lv_iload_n C.1 C.2.1 dX10_face_83 rfl (lv_at hl 2 rfl) ?_
          obtain ⟨x_7, μ_8, hq84, h⟩ := bnd2_some h
          refine z_callV1 C X zk10 (hI.1 101 (by decide)) rfl (As := [zI x1]) (M_X10_addFace hI μ_6 x1 gx1 hq84) zc_X10_addFace kw_1273 (zroom (by decide) (by decide)) rfl hl.1 rfl (Nat.le_of_ble_eq_true rfl) dX10_face_84 ⟨Nat.zero_le _, Nat.zero_le _⟩ (fun H locs g_84 X => ?_)
          obtain ⟨rfl, rfl⟩ := Prod.mk.inj (Option.some.inj h)
          exact rt X g_84 dX10_face_87
        · rw [if_pos hc74] at h
          refine z_bipush C dX10_face_77 (by decide) ?_
          refine lv_goto (tgt := 87) C.1 C.2.1 dX10_face_79 (by decide) ?_
          obtain ⟨rfl, rfl⟩ := Prod.mk.inj (Option.some.inj h)
          exact rt X ⟨by decide, by decide⟩ dX10_face_87
      · rw [if_pos hc56] at h
        refine lv_aload_n C.1 C.2.1 dX10_face_59 rfl (lv_at hl 1 rfl) ?_
        have g_60 : Rg (μ_6 101 11) := zrgf0 (ci := 10) X.2.2.2 (hI.1 101 (by decide)) rfl 11 rfl
        refine z_get C X zk10 (hI.1 101 (by decide)) rfl 11 (by decide) kw_1043 (zI (μ_6 101 11)) rfl dX10_face_60 ?_
        refine lv_goto (tgt := 87) C.1 C.2.1 dX10_face_63 (by decide) ?_
        obtain ⟨rfl, rfl⟩ := Prod.mk.inj (Option.some.inj h)
        exact rt X g_60 dX10_face_87
    have K48 : ∀ (μ_9 : zMem) (H : Heap) (locs : List Loc) (ls : Array Slot), zX Ω μ_9 (zfree Ω) s.heap H locs → lv_has ls 3 [(0, zR Ω 101), (1, zI x1)] → (f_X10_face_J48 (f_X10_face_J49 x1)) μ_9 = some (r, μ') → W p l e (zrm 4) s m args below meth c H locs 0 0 Q (F0 m 48 ls []) := by
      intro μ_9 H locs ls  X hl h
      unfold f_X10_face_J48 at h
      refine z_iconst C dX10_face_48 ?_
      exact K49 0 μ_9 _ _ _ ⟨by decide, by decide⟩ X (lv_sub hl [0, 1] rfl) h
    refine z_ifeq C (rgz g_16) (tgt := 48) dX10_face_19 (by decide) (fun hc19 => ?_) (fun hc19 => ?_)
    · rw [if_pos hc19] at h
      exact K48 μ_3 _ _ _ X (lv_sub hl [0, 1] rfl) h
    · rw [if_neg hc19] at h
      refine lv_aload_n C.1 C.2.1 dX10_face_22 rfl (lv_at hl 0 rfl) ?_
      have g_23 : Rg (μ_3 101 10) := zrgf0 (ci := 10) X.2.2.2 (hI.1 101 (by decide)) rfl 10 rfl
      refine z_get C X zk10 (hI.1 101 (by decide)) rfl 10 (by decide) kw_1042 (zI (μ_3 101 10)) rfl dX10_face_23 ?_
      refine lv_aload_n C.1 C.2.1 dX10_face_26 rfl (lv_at hl 0 rfl) ?_
      have g_27 : Rg (μ_3 101 9) := zrgf0 (ci := 10) X.2.2.2 (hI.1 101 (by decide)) rfl 9 rfl
      refine z_get C X zk10 (hI.1 101 (by decide)) rfl 9 (by decide) kw_1041 (zI (μ_3 101 9)) rfl dX10_face_27 ?_
      have K44 : ∀ (μ_10 : zMem) (H : Heap) (locs : List Loc) (ls : Array Slot), zX Ω μ_10 (zfree Ω) s.heap H locs → lv_has ls 3 [(0, zR Ω 101), (1, zI x1)] → (f_X10_face_J44 (f_X10_face_J49 x1)) μ_10 = some (r, μ') → W p l e (zrm 4) s m args below meth c H locs 0 0 Q (F0 m 44 ls []) := by
        intro μ_10 H locs ls  X hl h
        unfold f_X10_face_J44 at h
        refine z_iconst C dX10_face_44 ?_
        refine lv_goto (tgt := 49) C.1 C.2.1 dX10_face_45 (by decide) ?_
        exact K49 1 μ_10 _ _ _ ⟨by decide, by decide⟩ X (lv_sub hl [0, 1] rfl) h
      refine z_icmpeq C g_23 g_27 (tgt := 44) dX10_face_30 (by decide) (fun hc30 => ?_) (fun hc30 => ?_)
      · rw [if_pos hc30] at h
        exact K44 μ_3 _ _ _ X (lv_sub hl [0, 1] rfl) h
      · rw [if_neg hc30] at h
        refine lv_aload_n C.1 C.2.1 dX10_face_33 rfl (lv_at hl 0 rfl) ?_
        refine lv_aload_n C.1 C.2.1 dX10_face_34 rfl (lv_at hl 0 rfl) ?_
        have g_35 : Rg (μ_3 101 10) := zrgf0 (ci := 10) X.2.2.2 (hI.1 101 (by decide)) rfl 10 rfl
        refine z_get C X zk10 (hI.1 101 (by decide)) rfl 10 (by decide) kw_1042 (zI (μ_3 101 10)) rfl dX10_face_35 ?_
        obtain ⟨x_11, μ_12, hq38, h⟩ := bnd2_some h
        refine z_callV1 C X zk10 (hI.1 101 (by decide)) rfl (As := [zI (μ_3 101 10)]) (M_X10_fails hI μ_3 (μ_3 101 10) g_35 hq38) zc_X10_fails kw_1269 (zroom (by decide) (by decide)) rfl hl.1 rfl (Nat.le_of_ble_eq_true rfl) dX10_face_38 ⟨Nat.zero_le _, Nat.zero_le _⟩ (fun H locs g_38 X => ?_)
        refine z_ifeq C (rgz g_38) (tgt := 48) dX10_face_41 (by decide) (fun hc41 => ?_) (fun hc41 => ?_)
        · rw [if_pos hc41] at h
          exact K48 μ_12 _ _ _ X (lv_sub hl [0, 1] rfl) h
        · rw [if_neg hc41] at h
          exact K44 μ_12 _ _ _ X (lv_sub hl [0, 1] rfl) h
  · rw [if_pos hc4] at h
    refine z_iconst C dX10_face_7 ?_
    obtain ⟨rfl, rfl⟩ := Prod.mk.inj (Option.some.inj h)
    exact rt X ⟨by decide, by decide⟩ dX10_face_8
theorem zc_X10_face : zcal yX10_face cX10_face 3 (some Jvm.ClassFile.FieldType.int) RX10 1 := ⟨⟨kw_1244, kw_1242, kw_1243, kw_12⟩, rfl, by decide, by decide, by decide +kernel⟩

def f_X10_readClause_J88 (μ_3 : zMem) : Option (Int × zMem) :=
  bnd2 (f_X10_fails (μ_3 101 10) μ_3) fun x_4 μ_5 =>
  some (x_4, μ_5)
def f_X10_readClause (x1 : Int) (μ : zMem) : Option (Int × zMem) :=
  bnd (f_X10_pass μ) fun μ_1 =>
  bnd (f_X10_now μ_1) fun x_2 =>
  if x_2 = 58 then
    chk ((0 : Int) ≤ x1 ∧ x1 < 3) <|
    if (μ_1 104 x1) = 8 then
      bnd2 (f_X10_fails (μ_1 101 10) μ_1) fun x_30 μ_31 =>
      some (x_30, μ_31)
    else
      zlet (zup μ_1 101 10 (zw ((μ_1 101 10) + 1))) fun μ_25 =>
      bnd2 (f_X10_readRim x1 μ_25) fun x_26 μ_27 =>
      if x_26 = 0 then
        some (0, μ_27)
      else
        bnd2 (f_X10_addFace x1 μ_27) fun x_28 μ_29 =>
        some (1, μ_29)
  else
    chk ((0 : Int) ≤ x1 ∧ x1 < 3) <|
    if (μ_1 103 x1) = 12 then
      f_X10_readClause_J88 μ_1
    else
      bnd (f_X10_now μ_1) fun x_6 =>
      chk ((0 : Int) ≤ x1 ∧ x1 < 3) <|
      if x_6 = (zw (97 + (μ_1 103 x1))) then
        zlet (zup μ_1 101 10 (zw ((μ_1 101 10) + 1))) fun μ_7 =>
        bnd (f_X10_pass μ_7) fun μ_8 =>
        bnd (f_X10_now μ_8) fun x_9 =>
        if x_9 = 61 then
          zlet (zup μ_8 101 10 (zw ((μ_8 101 10) + 1))) fun μ_10 =>
          chk ((0 : Int) ≤ x1 ∧ x1 < 3) <|
          bnd2 (f_X10_readNumber 0 (zw ((μ_10 102 x1) - 1)) μ_10) fun x_11 μ_12 =>
          if x_11 = 0 then
            some (0, μ_12)
          else
            zlet ((μ_12 101 12)) fun x_13 =>
            bnd (f_X10_pass μ_12) fun μ_14 =>
            bnd (f_X10_now μ_14) fun x_15 =>
            if x_15 = 62 then
              zlet (zup μ_14 101 10 (zw ((μ_14 101 10) + 1))) fun μ_16 =>
              chk ((0 : Int) ≤ x1 ∧ x1 < 3) <|
              bnd2 (f_X10_readNumber 0 (zw ((μ_16 102 x1) - 1)) μ_16) fun x_17 μ_18 =>
              if x_17 = 0 then
                some (0, μ_18)
              else
                bnd2 (f_X10_addEdge x1 x_13 (μ_18 101 12) μ_18) fun x_19 μ_20 =>
                some (1, μ_20)
            else
              bnd2 (f_X10_fails (μ_14 101 10) μ_14) fun x_21 μ_22 =>
              some (x_21, μ_22)
        else
          bnd2 (f_X10_fails (μ_8 101 10) μ_8) fun x_23 μ_24 =>
          some (x_23, μ_24)
      else
        f_X10_readClause_J88 μ_1
set_option maxHeartbeats 4000000 in
set_option maxRecDepth 100000 in
theorem M_X10_readClause {l : Launch} {Ω : zO} (hI : zIm Ω) (μ : zMem) (x1 : Int) {r : Int} {μ' : zMem} (gx1 : Rg x1) (h : f_X10_readClause x1 μ = some (r, μ')) : XMet l yX10_readClause cX10_readClause 3 (some Jvm.ClassFile.FieldType.boolean) 4 Ω [zR Ω 101, zI x1] μ (some (zI r)) (0 ≤ r ∧ r ≤ 1) μ' := by
  refine XMet.ofZ (by decide) (Nat.le_of_ble_eq_true rfl) ?_
  intro p e s m args below meth c ls Q C rt X hl
  have C : zC p s m args c cX10_readClause RX10 3 Ω := C
  have hl : lv_has ls 3 [(0, zR Ω 101), (1, zI x1)] := hl
  unfold f_X10_readClause at h
  skip
  refine lv_aload_n C.1 C.2.1 dX10_readClause_0 rfl (lv_at hl 0 rfl) ?_
  obtain ⟨μ_1, hq1, h⟩ := bnd_some h
  refine z_callV0 C X zk10 (hI.1 101 (by decide)) rfl (As := []) (M_X10_pass hI μ hq1) zc_X10_pass kw_1253 (zroom (by decide) (by decide)) rfl hl.1 rfl (Nat.le_of_ble_eq_true rfl) dX10_readClause_1 ⟨Nat.zero_le _, Nat.zero_le _⟩ (fun H locs g_1 X => ?_)
  refine lv_aload_n C.1 C.2.1 dX10_readClause_4 rfl (lv_at hl 0 rfl) ?_
  obtain ⟨x_2, hq5, h⟩ := bnd_some h
  refine z_callV1 C X zk10 (hI.1 101 (by decide)) rfl (As := []) (M_X10_now hI μ_1 hq5) zc_X10_now kw_1257 (zroom (by decide) (by decide)) rfl hl.1 rfl (Nat.le_of_ble_eq_true rfl) dX10_readClause_5 ⟨Nat.zero_le _, Nat.zero_le _⟩ (fun H locs g_5 X => ?_)
  refine z_bipush C dX10_readClause_8 (by decide) ?_
  refine z_icmpne C g_5 ⟨by decide, by decide⟩ (tgt := 61) dX10_readClause_10 (by decide) (fun hc10 => ?_) (fun hc10 => ?_)
  · rw [if_neg hc10] at h
    refine lv_aload_n C.1 C.2.1 dX10_readClause_61 rfl (lv_at hl 0 rfl) ?_
    refine z_get C X zk10 (hI.1 101 (by decide)) rfl 1 (by decide) kw_1033 (zR Ω 103) (zfvF (off := 2) X.2.2.2 (hI.1 101 (by decide)) hI.2 rfl rfl (by decide)) dX10_readClause_62 ?_
    refine lv_iload_n C.1 C.2.1 dX10_readClause_65 rfl (lv_at hl 1 rfl) ?_
    obtain ⟨hc66, h⟩ := chk_some h
    have g_66 : Rg (μ_1 103 x1) := zrg1 X.2.2.2 (hI.1 103 (by decide)) rfl
    refine z_iald C X (hI.1 103 (by decide)) rfl hc66 dX10_readClause_66 ?_
    refine z_bipush C dX10_readClause_67 (by decide) ?_
    have K88 : ∀ (μ_3 : zMem) (H : Heap) (locs : List Loc) (ls : Array Slot), zX Ω μ_3 (zfree Ω) s.heap H locs → lv_has ls 3 [(0, zR Ω 101)] → f_X10_readClause_J88 μ_3 = some (r, μ') → W p l e (zrm 4) s m args below meth c H locs 0 0 Q (F0 m 88 ls []) := by
      intro μ_3 H locs ls  X hl h
      unfold f_X10_readClause_J88 at h
      refine lv_aload_n C.1 C.2.1 dX10_readClause_88 rfl (lv_at hl 0 rfl) ?_
      refine lv_aload_n C.1 C.2.1 dX10_readClause_89 rfl (lv_at hl 0 rfl) ?_
      have g_90 : Rg (μ_3 101 10) := zrgf0 (ci := 10) X.2.2.2 (hI.1 101 (by decide)) rfl 10 rfl
      refine z_get C X zk10 (hI.1 101 (by decide)) rfl 10 (by decide) kw_1042 (zI (μ_3 101 10)) rfl dX10_readClause_90 ?_
      obtain ⟨x_4, μ_5, hq93, h⟩ := bnd2_some h
      refine z_callV1 C X zk10 (hI.1 101 (by decide)) rfl (As := [zI (μ_3 101 10)]) (M_X10_fails hI μ_3 (μ_3 101 10) g_90 hq93) zc_X10_fails kw_1269 (zroom (by decide) (by decide)) rfl hl.1 rfl (Nat.le_of_ble_eq_true rfl) dX10_readClause_93 ⟨Nat.zero_le _, Nat.zero_le _⟩ (fun H locs g_93 X => ?_)
      obtain ⟨rfl, rfl⟩ := Prod.mk.inj (Option.some.inj h)
      exact rt X g_93 dX10_readClause_96
    refine z_icmpeq C g_66 ⟨by decide, by decide⟩ (tgt := 88) dX10_readClause_69 (by decide) (fun hc69 => ?_) (fun hc69 => ?_)
    · rw [if_pos hc69] at h
      exact K88 μ_1 _ _ _ X (lv_sub hl [0] rfl) h
    · rw [if_neg hc69] at h
      refine lv_aload_n C.1 C.2.1 dX10_readClause_72 rfl (lv_at hl 0 rfl) ?_
      obtain ⟨x_6, hq73, h⟩ := bnd_some h
      refine z_callV1 C X zk10 (hI.1 101 (by decide)) rfl (As := []) (M_X10_now hI μ_1 hq73) zc_X10_now kw_1257 (zroom (by decide) (by decide)) rfl hl.1 rfl (Nat.le_of_ble_eq_true rfl) dX10_readClause_73 ⟨Nat.zero_le _, Nat.zero_le _⟩ (fun H locs g_73 X => ?_)
      refine z_bipush C dX10_readClause_76 (by decide) ?_
      refine lv_aload_n C.1 C.2.1 dX10_readClause_78 rfl (lv_at hl 0 rfl) ?_
      refine z_get C X zk10 (hI.1 101 (by decide)) rfl 1 (by decide) kw_1033 (zR Ω 103) (zfvF (off := 2) X.2.2.2 (hI.1 101 (by decide)) hI.2 rfl rfl (by decide)) dX10_readClause_79 ?_
      refine lv_iload_n C.1 C.2.1 dX10_readClause_82 rfl (lv_at hl 1 rfl) ?_
      obtain ⟨hc83, h⟩ := chk_some h
      have g_83 : Rg (μ_1 103 x1) := zrg1 X.2.2.2 (hI.1 103 (by decide)) rfl
      refine z_iald C X (hI.1 103 (by decide)) rfl hc83 dX10_readClause_83 ?_
      refine z_iadd C dX10_readClause_84 ?_
      refine z_icmpeq C g_73 (Rg.w _) (tgt := 97) dX10_readClause_85 (by decide) (fun hc85 => ?_) (fun hc85 => ?_)
      · rw [if_pos hc85] at h
        refine lv_aload_n C.1 C.2.1 dX10_readClause_97 rfl (lv_at hl 0 rfl) ?_
        refine lv_dup C.1 C.2.1 dX10_readClause_98 rfl ?_
        have g_99 : Rg (μ_1 101 10) := zrgf0 (ci := 10) X.2.2.2 (hI.1 101 (by decide)) rfl 10 rfl
        refine z_get C X zk10 (hI.1 101 (by decide)) rfl 10 (by decide) kw_1042 (zI (μ_1 101 10)) rfl dX10_readClause_99 ?_
        refine z_iconst C dX10_readClause_102 ?_
        refine z_iadd C dX10_readClause_103 ?_
        refine zlet_elim h (fun μ_7 em h => ?_)
        refine z_putI C X zk10 (hI.1 101 (by decide)) rfl 10 (by decide) kw_1042 rfl rfl rfl rfl (Rg.w _) em dX10_readClause_104 (fun H locs X => ?_)
        clear em
        refine lv_aload_n C.1 C.2.1 dX10_readClause_107 rfl (lv_at hl 0 rfl) ?_
        obtain ⟨μ_8, hq108, h⟩ := bnd_some h
        refine z_callV0 C X zk10 (hI.1 101 (by decide)) rfl (As := []) (M_X10_pass hI μ_7 hq108) zc_X10_pass kw_1253 (zroom (by decide) (by decide)) rfl hl.1 rfl (Nat.le_of_ble_eq_true rfl) dX10_readClause_108 ⟨Nat.zero_le _, Nat.zero_le _⟩ (fun H locs g_108 X => ?_)
        refine lv_aload_n C.1 C.2.1 dX10_readClause_111 rfl (lv_at hl 0 rfl) ?_
        obtain ⟨x_9, hq112, h⟩ := bnd_some h
        refine z_callV1 C X zk10 (hI.1 101 (by decide)) rfl (As := []) (M_X10_now hI μ_8 hq112) zc_X10_now kw_1257 (zroom (by decide) (by decide)) rfl hl.1 rfl (Nat.le_of_ble_eq_true rfl) dX10_readClause_112 ⟨Nat.zero_le _, Nat.zero_le _⟩ (fun H locs g_112 X => ?_)
        refine z_bipush C dX10_readClause_115 (by decide) ?_
        refine z_icmpeq C g_112 ⟨by decide, by decide⟩ (tgt := 129) dX10_readClause_117 (by decide) (fun hc117 => ?_) (fun hc117 => ?_)
        · rw [if_pos hc117] at h
          refine lv_aload_n C.1 C.2.1 dX10_readClause_129 rfl (lv_at hl 0 rfl) ?_
          refine lv_dup C.1 C.2.1 dX10_readClause_130 rfl ?_
          have g_131 : Rg (μ_8 101 10) := zrgf0 (ci := 10) X.2.2.2 (hI.1 101 (by decide)) rfl 10 rfl
          refine z_get C X zk10 (hI.1 101 (by decide)) rfl 10 (by decide) kw_1042 (zI (μ_8 101 10)) rfl dX10_readClause_131 ?_
          refine z_iconst C dX10_readClause_134 ?_
          refine z_iadd C dX10_readClause_135 ?_
          refine zlet_elim h (fun μ_10 em h => ?_)
          refine z_putI C X zk10 (hI.1 101 (by decide)) rfl 10 (by decide) kw_1042 rfl rfl rfl rfl (Rg.w _) em dX10_readClause_136 (fun H locs X => ?_)
          clear em
          refine lv_aload_n C.1 C.2.1 dX10_readClause_139 rfl (lv_at hl 0 rfl) ?_
          refine z_iconst C dX10_readClause_140 ?_
          refine lv_aload_n C.1 C.2.1 dX10_readClause_141 rfl (lv_at hl 0 rfl) ?_
          refine z_get C X zk10 (hI.1 101 (by decide)) rfl 0 (by decide) kw_1032 (zR Ω 102) (zfvF (off := 1) X.2.2.2 (hI.1 101 (by decide)) hI.2 rfl rfl (by decide)) dX10_readClause_142 ?_
          refine lv_iload_n C.1 C.2.1 dX10_readClause_145 rfl (lv_at hl 1 rfl) ?_
          obtain ⟨hc146, h⟩ := chk_some h
          have g_146 : Rg (μ_10 102 x1) := zrg1 X.2.2.2 (hI.1 102 (by decide)) rfl
          refine z_iald C X (hI.1 102 (by decide)) rfl hc146 dX10_readClause_146 ?_
          refine z_iconst C dX10_readClause_147 ?_
          refine z_isub C dX10_readClause_148 ?_
          obtain ⟨x_11, μ_12, hq149, h⟩ := bnd2_some h
          refine z_callV1 C X zk10 (hI.1 101 (by decide)) rfl (As := [zI 0, zI (zw ((μ_10 102 x1) - 1))]) (M_X10_readNumber hI μ_10 0 (zw ((μ_10 102 x1) - 1)) ⟨by decide, by decide⟩ (Rg.w _) hq149) zc_X10_readNumber kw_1289 (zroom (by decide) (by decide)) rfl hl.1 rfl (Nat.le_of_ble_eq_true rfl) dX10_readClause_149 ⟨Nat.zero_le _, Nat.zero_le _⟩ (fun H locs g_149 X => ?_)
          refine z_ifne C (rgz g_149) (tgt := 157) dX10_readClause_152 (by decide) (fun hc152 => ?_) (fun hc152 => ?_)
          · rw [if_neg hc152] at h
            refine lv_aload_n C.1 C.2.1 dX10_readClause_157 rfl (lv_at hl 0 rfl) ?_
            have g_158 : Rg (μ_12 101 12) := zrgf0 (ci := 10) X.2.2.2 (hI.1 101 (by decide)) rfl 12 rfl
            refine z_get C X zk10 (hI.1 101 (by decide)) rfl 12 (by decide) kw_1044 (zI (μ_12 101 12)) rfl dX10_readClause_158 ?_
            refine zlet_elim h (fun x_13 ex_13 h => ?_)
            have gx_13 : Rg x_13 := by rw [ex_13]; exact g_158
            refine z_istore_n C ex_13 dX10_readClause_161 rfl hl (by decide) (lv' := [(2, zI x_13), (0, zR Ω 101), (1, zI x1)]) rfl (fun ls hl => ?_)
            clear ex_13
            refine lv_aload_n C.1 C.2.1 dX10_readClause_162 rfl (lv_at hl 1 rfl) ?_
            obtain ⟨μ_14, hq163, h⟩ := bnd_some h
            refine z_callV0 C X zk10 (hI.1 101 (by decide)) rfl (As := []) (M_X10_pass hI μ_12 hq163) zc_X10_pass kw_1253 (zroom (by decide) (by decide)) rfl hl.1 rfl (Nat.le_of_ble_eq_true rfl) dX10_readClause_163 ⟨Nat.zero_le _, Nat.zero_le _⟩ (fun H locs g_163 X => ?_)
            refine lv_aload_n C.1 C.2.1 dX10_readClause_166 rfl (lv_at hl 1 rfl) ?_
            obtain ⟨x_15, hq167, h⟩ := bnd_some h
            refine z_callV1 C X zk10 (hI.1 101 (by decide)) rfl (As := []) (M_X10_now hI μ_14 hq167) zc_X10_now kw_1257 (zroom (by decide) (by decide)) rfl hl.1 rfl (Nat.le_of_ble_eq_true rfl) dX10_readClause_167 ⟨Nat.zero_le _, Nat.zero_le _⟩ (fun H locs g_167 X => ?_)
            refine z_bipush C dX10_readClause_170 (by decide) ?_
            refine z_icmpeq C g_167 ⟨by decide, by decide⟩ (tgt := 184) dX10_readClause_172 (by decide) (fun hc172 => ?_) (fun hc172 => ?_)
            · rw [if_pos hc172] at h
              refine lv_aload_n C.1 C.2.1 dX10_readClause_184 rfl (lv_at hl 1 rfl) ?_
              refine lv_dup C.1 C.2.1 dX10_readClause_185 rfl ?_
              have g_186 : Rg (μ_14 101 10) := zrgf0 (ci := 10) X.2.2.2 (hI.1 101 (by decide)) rfl 10 rfl
              refine z_get C X zk10 (hI.1 101 (by decide)) rfl 10 (by decide) kw_1042 (zI (μ_14 101 10)) rfl dX10_readClause_186 ?_
              refine z_iconst C dX10_readClause_189 ?_
              refine z_iadd C dX10_readClause_190 ?_
              refine zlet_elim h (fun μ_16 em h => ?_)
              refine z_putI C X zk10 (hI.1 101 (by decide)) rfl 10 (by decide) kw_1042 rfl rfl rfl rfl (Rg.w _) em dX10_readClause_191 (fun H locs X => ?_)
              clear em
              refine lv_aload_n C.1 C.2.1 dX10_readClause_194 rfl (lv_at hl 1 rfl) ?_
              refine z_iconst C dX10_readClause_195 ?_
              refine lv_aload_n C.1 C.2.1 dX10_readClause_196 rfl (lv_at hl 1 rfl) ?_
              refine z_get C X zk10 (hI.1 101 (by decide)) rfl 0 (by decide) kw_1032 (zR Ω 102) (zfvF (off := 1) X.2.2.2 (hI.1 101 (by decide)) hI.2 rfl rfl (by decide)) dX10_readClause_197 ?_
              refine lv_iload_n C.1 C.2.1 dX10_readClause_200 rfl (lv_at hl 2 rfl) ?_
              obtain ⟨hc201, h⟩ := chk_some h
              have g_201 : Rg (μ_16 102 x1) := zrg1 X.2.2.2 (hI.1 102 (by decide)) rfl
              refine z_iald C X (hI.1 102 (by decide)) rfl hc201 dX10_readClause_201 ?_
              refine z_iconst C dX10_readClause_202 ?_
              refine z_isub C dX10_readClause_203 ?_
              obtain ⟨x_17, μ_18, hq204, h⟩ := bnd2_some h
              refine z_callV1 C X zk10 (hI.1 101 (by decide)) rfl (As := [zI 0, zI (zw ((μ_16 102 x1) - 1))]) (M_X10_readNumber hI μ_16 0 (zw ((μ_16 102 x1) - 1)) ⟨by decide, by decide⟩ (Rg.w _) hq204) zc_X10_readNumber kw_1289 (zroom (by decide) (by decide)) rfl hl.1 rfl (Nat.le_of_ble_eq_true rfl) dX10_readClause_204 ⟨Nat.zero_le _, Nat.zero_le _⟩ (fun H locs g_204 X => ?_)
              refine z_ifne C (rgz g_204) (tgt := 212) dX10_readClause_207 (by decide) (fun hc207 => ?_) (fun hc207 => ?_)
              · rw [if_neg hc207] at h
                refine lv_aload_n C.1 C.2.1 dX10_readClause_212 rfl (lv_at hl 1 rfl) ?_
                refine lv_iload_n C.1 C.2.1 dX10_readClause_213 rfl (lv_at hl 2 rfl) ?_
                refine lv_iload_n C.1 C.2.1 dX10_readClause_214 rfl (lv_at hl 0 rfl) ?_
                refine lv_aload_n C.1 C.2.1 dX10_readClause_215 rfl (lv_at hl 1 rfl) ?_
                have g_216 : Rg (μ_18 101 12) := zrgf0 (ci := 10) X.2.2.2 (hI.1 101 (by decide)) rfl 12 rfl
                refine z_get C X zk10 (hI.1 101 (by decide)) rfl 12 (by decide) kw_1044 (zI (μ_18 101 12)) rfl dX10_readClause_216 ?_
                obtain ⟨x_19, μ_20, hq219, h⟩ := bnd2_some h
                refine z_callV1 C X zk10 (hI.1 101 (by decide)) rfl (As := [zI x1, zI x_13, zI (μ_18 101 12)]) (M_X10_addEdge hI μ_18 x1 x_13 (μ_18 101 12) gx1 gx_13 g_216 hq219) zc_X10_addEdge kw_1232 (zroom (by decide) (by decide)) rfl hl.1 rfl (Nat.le_of_ble_eq_true rfl) dX10_readClause_219 ⟨Nat.zero_le _, Nat.zero_le _⟩ (fun H locs g_219 X => ?_)
                refine lv_pop C.1 C.2.1 dX10_readClause_222 rfl ?_
                refine z_iconst C dX10_readClause_223 ?_
                obtain ⟨rfl, rfl⟩ := Prod.mk.inj (Option.some.inj h)
                exact rt X ⟨by decide, by decide⟩ dX10_readClause_224
              · rw [if_pos hc207] at h
                refine z_iconst C dX10_readClause_210 ?_
                obtain ⟨rfl, rfl⟩ := Prod.mk.inj (Option.some.inj h)
                exact rt X ⟨by decide, by decide⟩ dX10_readClause_211
            · rw [if_neg hc172] at h
              refine lv_aload_n C.1 C.2.1 dX10_readClause_175 rfl (lv_at hl 1 rfl) ?_
              refine lv_aload_n C.1 C.2.1 dX10_readClause_176 rfl (lv_at hl 1 rfl) ?_
              have g_177 : Rg (μ_14 101 10) := zrgf0 (ci := 10) X.2.2.2 (hI.1 101 (by decide)) rfl 10 rfl
              refine z_get C X zk10 (hI.1 101 (by decide)) rfl 10 (by decide) kw_1042 (zI (μ_14 101 10)) rfl dX10_readClause_177 ?_
              obtain ⟨x_21, μ_22, hq180, h⟩ := bnd2_some h
              refine z_callV1 C X zk10 (hI.1 101 (by decide)) rfl (As := [zI (μ_14 101 10)]) (M_X10_fails hI μ_14 (μ_14 101 10) g_177 hq180) zc_X10_fails kw_1269 (zroom (by decide) (by decide)) rfl hl.1 rfl (Nat.le_of_ble_eq_true rfl) dX10_readClause_180 ⟨Nat.zero_le _, Nat.zero_le _⟩ (fun H locs g_180 X => ?_)
              obtain ⟨rfl, rfl⟩ := Prod.mk.inj (Option.some.inj h)
              exact rt X g_180 dX10_readClause_183
          · rw [if_pos hc152] at h
            refine z_iconst C dX10_readClause_155 ?_
            obtain ⟨rfl, rfl⟩ := Prod.mk.inj (Option.some.inj h)
            exact rt X ⟨by decide, by decide⟩ dX10_readClause_156
        · rw [if_neg hc117] at h
          refine lv_aload_n C.1 C.2.1 dX10_readClause_120 rfl (lv_at hl 0 rfl) ?_
          refine lv_aload_n C.1 C.2.1 dX10_readClause_121 rfl (lv_at hl 0 rfl) ?_
          have g_122 : Rg (μ_8 101 10) := zrgf0 (ci := 10) X.2.2.2 (hI.1 101 (by decide)) rfl 10 rfl
          refine z_get C X zk10 (hI.1 101 (by decide)) rfl 10 (by decide) kw_1042 (zI (μ_8 101 10)) rfl dX10_readClause_122 ?_
          obtain ⟨x_23, μ_24, hq125, h⟩ := bnd2_some h
          refine z_callV1 C X zk10 (hI.1 101 (by decide)) rfl (As := [zI (μ_8 101 10)]) (M_X10_fails hI μ_8 (μ_8 101 10) g_122 hq125) zc_X10_fails kw_1269 (zroom (by decide) (by decide)) rfl hl.1 rfl (Nat.le_of_ble_eq_true rfl) dX10_readClause_125 ⟨Nat.zero_le _, Nat.zero_le _⟩ (fun H locs g_125 X => ?_)
          obtain ⟨rfl, rfl⟩ := Prod.mk.inj (Option.some.inj h)
          exact rt X g_125 dX10_readClause_128
      · rw [if_neg hc85] at h
        exact K88 μ_1 _ _ _ X (lv_sub hl [0] rfl) h
  · rw [if_pos hc10] at h
    refine lv_aload_n C.1 C.2.1 dX10_readClause_13 rfl (lv_at hl 0 rfl) ?_
    refine z_get C X zk10 (hI.1 101 (by decide)) rfl 2 (by decide) kw_1034 (zR Ω 104) (zfvF (off := 3) X.2.2.2 (hI.1 101 (by decide)) hI.2 rfl rfl (by decide)) dX10_readClause_14 ?_
    refine lv_iload_n C.1 C.2.1 dX10_readClause_17 rfl (lv_at hl 1 rfl) ?_
    obtain ⟨hc18, h⟩ := chk_some h
    have g_18 : Rg (μ_1 104 x1) := zrg1 X.2.2.2 (hI.1 104 (by decide)) rfl
    refine z_iald C X (hI.1 104 (by decide)) rfl hc18 dX10_readClause_18 ?_
    refine z_bipush C dX10_readClause_19 (by decide) ?_
    refine z_icmpne C g_18 ⟨by decide, by decide⟩ (tgt := 33) dX10_readClause_21 (by decide) (fun hc21 => ?_) (fun hc21 => ?_)
    · rw [if_neg hc21] at h
      refine lv_aload_n C.1 C.2.1 dX10_readClause_33 rfl (lv_at hl 0 rfl) ?_
      refine lv_dup C.1 C.2.1 dX10_readClause_34 rfl ?_
      have g_35 : Rg (μ_1 101 10) := zrgf0 (ci := 10) X.2.2.2 (hI.1 101 (by decide)) rfl 10 rfl
      refine z_get C X zk10 (hI.1 101 (by decide)) rfl 10 (by decide) kw_1042 (zI (μ_1 101 10)) rfl dX10_readClause_35 ?_
      refine z_iconst C dX10_readClause_38 ?_
      refine z_iadd C dX10_readClause_39 ?_
      refine zlet_elim h (fun μ_25 em h => ?_)
      refine z_putI C X zk10 (hI.1 101 (by decide)) rfl 10 (by decide) kw_1042 rfl rfl rfl rfl (Rg.w _) em dX10_readClause_40 (fun H locs X => ?_)
      clear em
      refine lv_aload_n C.1 C.2.1 dX10_readClause_43 rfl (lv_at hl 0 rfl) ?_
      refine lv_iload_n C.1 C.2.1 dX10_readClause_44 rfl (lv_at hl 1 rfl) ?_
      obtain ⟨x_26, μ_27, hq45, h⟩ := bnd2_some h
      refine z_callV1 C X zk10 (hI.1 101 (by decide)) rfl (As := [zI x1]) (M_X10_readRim hI μ_25 x1 gx1 hq45) zc_X10_readRim kw_1245 (zroom (by decide) (by decide)) rfl hl.1 rfl (Nat.le_of_ble_eq_true rfl) dX10_readClause_45 ⟨Nat.zero_le _, Nat.zero_le _⟩ (fun H locs g_45 X => ?_)
      refine z_ifne C (rgz g_45) (tgt := 53) dX10_readClause_48 (by decide) (fun hc48 => ?_) (fun hc48 => ?_)
      · rw [if_neg hc48] at h
        refine lv_aload_n C.1 C.2.1 dX10_readClause_53 rfl (lv_at hl 0 rfl) ?_
        refine lv_iload_n C.1 C.2.1 dX10_readClause_54 rfl (lv_at hl 1 rfl) ?_
        obtain ⟨x_28, μ_29, hq55, h⟩ := bnd2_some h
        refine z_callV1 C X zk10 (hI.1 101 (by decide)) rfl (As := [zI x1]) (M_X10_addFace hI μ_27 x1 gx1 hq55) zc_X10_addFace kw_1273 (zroom (by decide) (by decide)) rfl hl.1 rfl (Nat.le_of_ble_eq_true rfl) dX10_readClause_55 ⟨Nat.zero_le _, Nat.zero_le _⟩ (fun H locs g_55 X => ?_)
        refine lv_pop C.1 C.2.1 dX10_readClause_58 rfl ?_
        refine z_iconst C dX10_readClause_59 ?_
        obtain ⟨rfl, rfl⟩ := Prod.mk.inj (Option.some.inj h)
        exact rt X ⟨by decide, by decide⟩ dX10_readClause_60
      · rw [if_pos hc48] at h
        refine z_iconst C dX10_readClause_51 ?_
        obtain ⟨rfl, rfl⟩ := Prod.mk.inj (Option.some.inj h)
        exact rt X ⟨by decide, by decide⟩ dX10_readClause_52
    · rw [if_pos hc21] at h
      refine lv_aload_n C.1 C.2.1 dX10_readClause_24 rfl (lv_at hl 0 rfl) ?_
      refine lv_aload_n C.1 C.2.1 dX10_readClause_25 rfl (lv_at hl 0 rfl) ?_
      have g_26 : Rg (μ_1 101 10) := zrgf0 (ci := 10) X.2.2.2 (hI.1 101 (by decide)) rfl 10 rfl
      refine z_get C X zk10 (hI.1 101 (by decide)) rfl 10 (by decide) kw_1042 (zI (μ_1 101 10)) rfl dX10_readClause_26 ?_
      obtain ⟨x_30, μ_31, hq29, h⟩ := bnd2_some h
      refine z_callV1 C X zk10 (hI.1 101 (by decide)) rfl (As := [zI (μ_1 101 10)]) (M_X10_fails hI μ_1 (μ_1 101 10) g_26 hq29) zc_X10_fails kw_1269 (zroom (by decide) (by decide)) rfl hl.1 rfl (Nat.le_of_ble_eq_true rfl) dX10_readClause_29 ⟨Nat.zero_le _, Nat.zero_le _⟩ (fun H locs g_29 X => ?_)
      obtain ⟨rfl, rfl⟩ := Prod.mk.inj (Option.some.inj h)
      exact rt X g_29 dX10_readClause_32
theorem zc_X10_readClause : zcal yX10_readClause cX10_readClause 3 (some Jvm.ClassFile.FieldType.boolean) RX10 1 := ⟨⟨kw_1296, kw_1295, kp_66, kw_12⟩, rfl, by decide, by decide, by decide +kernel⟩

def f_X10_readSpace_K45 (μ_5 : zMem) : Option (Int × zMem) :=
  bnd2 (f_X10_fails (μ_5 101 10) μ_5) fun x_6 μ_7 =>
  some (x_6, μ_7)
def f_X10_readSpace_L25 (x1 : Int) (g45 : zMem → Option (Int × zMem)) : Nat → zMem → Option (Int × zMem)
  | 0, _ => none
  | n + 1, μ_8 =>
    if (μ_8 101 10) < (μ_8 101 9) then
      bnd (f_X10_now μ_8) fun x_9 =>
      if x_9 = 59 then
        zlet (zup μ_8 101 10 (zw ((μ_8 101 10) + 1))) fun μ_10 =>
        bnd2 (f_X10_readClause x1 μ_10) fun x_11 μ_12 =>
        if x_11 = 0 then
          some (0, μ_12)
        else
          bnd (f_X10_pass μ_12) fun μ_13 =>
          (f_X10_readSpace_L25 x1 g45 n) μ_13
      else
        g45 μ_8
    else
      some (1, μ_8)
def f_X10_readSpace (x1 : Int) (μ : zMem) : Option (Int × zMem) :=
  bnd2 (f_X10_readNumber 1 8 μ) fun x_1 μ_2 =>
  if x_1 = 0 then
    some (0, μ_2)
  else
    bnd (f_X10_clear x1 (μ_2 101 12) μ_2) fun μ_3 =>
    bnd (f_X10_pass μ_3) fun μ_4 =>
    (f_X10_readSpace_L25 x1 f_X10_readSpace_K45) zfu μ_4
set_option maxHeartbeats 4000000 in
set_option maxRecDepth 100000 in
theorem M_X10_readSpace {l : Launch} {Ω : zO} (hI : zIm Ω) (μ : zMem) (x1 : Int) {r : Int} {μ' : zMem} (gx1 : Rg x1) (h : f_X10_readSpace x1 μ = some (r, μ')) : XMet l yX10_readSpace cX10_readSpace 2 (some Jvm.ClassFile.FieldType.boolean) 5 Ω [zR Ω 101, zI x1] μ (some (zI r)) (0 ≤ r ∧ r ≤ 1) μ' := by
  refine XMet.ofZ (by decide) (Nat.le_of_ble_eq_true rfl) ?_
  intro p e s m args below meth c ls Q C rt X hl
  have C : zC p s m args c cX10_readSpace RX10 2 Ω := C
  have hl : lv_has ls 2 [(0, zR Ω 101), (1, zI x1)] := hl
  unfold f_X10_readSpace at h
  skip
  refine lv_aload_n C.1 C.2.1 dX10_readSpace_0 rfl (lv_at hl 0 rfl) ?_
  refine z_iconst C dX10_readSpace_1 ?_
  refine z_bipush C dX10_readSpace_2 (by decide) ?_
  obtain ⟨x_1, μ_2, hq4, h⟩ := bnd2_some h
  refine z_callV1 C X zk10 (hI.1 101 (by decide)) rfl (As := [zI 1, zI 8]) (M_X10_readNumber hI μ 1 8 ⟨by decide, by decide⟩ ⟨by decide, by decide⟩ hq4) zc_X10_readNumber kw_1289 (zroom (by decide) (by decide)) rfl hl.1 rfl (Nat.le_of_ble_eq_true rfl) dX10_readSpace_4 ⟨Nat.zero_le _, Nat.zero_le _⟩ (fun H locs g_4 X => ?_)
  refine z_ifne C (rgz g_4) (tgt := 12) dX10_readSpace_7 (by decide) (fun hc7 => ?_) (fun hc7 => ?_)
  · rw [if_neg hc7] at h
    refine lv_aload_n C.1 C.2.1 dX10_readSpace_12 rfl (lv_at hl 0 rfl) ?_
    refine lv_iload_n C.1 C.2.1 dX10_readSpace_13 rfl (lv_at hl 1 rfl) ?_
    refine lv_aload_n C.1 C.2.1 dX10_readSpace_14 rfl (lv_at hl 0 rfl) ?_
    have g_15 : Rg (μ_2 101 12) := zrgf0 (ci := 10) X.2.2.2 (hI.1 101 (by decide)) rfl 12 rfl
    refine z_get C X zk10 (hI.1 101 (by decide)) rfl 12 (by decide) kw_1044 (zI (μ_2 101 12)) rfl dX10_readSpace_15 ?_
    obtain ⟨μ_3, hq18, h⟩ := bnd_some h
    refine z_callV0 C X zk10 (hI.1 101 (by decide)) rfl (As := [zI x1, zI (μ_2 101 12)]) (M_X10_clear hI μ_2 x1 (μ_2 101 12) gx1 g_15 hq18) zc_X10_clear kw_1220 (zroom (by decide) (by decide)) rfl hl.1 rfl (Nat.le_of_ble_eq_true rfl) dX10_readSpace_18 ⟨Nat.zero_le _, Nat.zero_le _⟩ (fun H locs g_18 X => ?_)
    refine lv_aload_n C.1 C.2.1 dX10_readSpace_21 rfl (lv_at hl 0 rfl) ?_
    obtain ⟨μ_4, hq22, h⟩ := bnd_some h
    refine z_callV0 C X zk10 (hI.1 101 (by decide)) rfl (As := []) (M_X10_pass hI μ_3 hq22) zc_X10_pass kw_1253 (zroom (by decide) (by decide)) rfl hl.1 rfl (Nat.le_of_ble_eq_true rfl) dX10_readSpace_22 ⟨Nat.zero_le _, Nat.zero_le _⟩ (fun H locs g_22 X => ?_)
    have K45 : ∀ (μ_5 : zMem) (H : Heap) (locs : List Loc) (ls : Array Slot), zX Ω μ_5 (zfree Ω) s.heap H locs → lv_has ls 2 [(0, zR Ω 101)] → f_X10_readSpace_K45 μ_5 = some (r, μ') → W p l e (zrm 5) s m args below meth c H locs 0 0 Q (F0 m 45 ls []) := by
      intro μ_5 H locs ls  X hl h
      unfold f_X10_readSpace_K45 at h
      refine lv_aload_n C.1 C.2.1 dX10_readSpace_45 rfl (lv_at hl 0 rfl) ?_
      refine lv_aload_n C.1 C.2.1 dX10_readSpace_46 rfl (lv_at hl 0 rfl) ?_
      have g_47 : Rg (μ_5 101 10) := zrgf0 (ci := 10) X.2.2.2 (hI.1 101 (by decide)) rfl 10 rfl
      refine z_get C X zk10 (hI.1 101 (by decide)) rfl 10 (by decide) kw_1042 (zI (μ_5 101 10)) rfl dX10_readSpace_47 ?_
      obtain ⟨x_6, μ_7, hq50, h⟩ := bnd2_some h
      refine z_callV1 C X zk10 (hI.1 101 (by decide)) rfl (As := [zI (μ_5 101 10)]) (M_X10_fails hI μ_5 (μ_5 101 10) g_47 hq50) zc_X10_fails kw_1269 (zroom (by decide) (by decide)) rfl hl.1 rfl (Nat.le_of_ble_eq_true rfl) dX10_readSpace_50 ⟨Nat.zero_le _, Nat.zero_le _⟩ (fun H locs g_50 X => ?_)
      obtain ⟨rfl, rfl⟩ := Prod.mk.inj (Option.some.inj h)
      exact rt X g_50 dX10_readSpace_53
    have L25 : ∀ (n25 : Nat) (μ_8 : zMem) (H : Heap) (locs : List Loc) (ls : Array Slot), zX Ω μ_8 (zfree Ω) s.heap H locs → lv_has ls 2 [(0, zR Ω 101), (1, zI x1)] → (f_X10_readSpace_L25 x1 f_X10_readSpace_K45 n25 μ_8) = some (r, μ') → W p l e (zrm 5) s m args below meth c H locs 0 0 Q (F0 m 25 ls []) := by
      intro n25
      induction n25 with
      | zero =>
        intro μ_8 H locs ls _ _ h
        cases h
      | succ n25 ih25 =>
        intro μ_8 H locs ls  X hl h
        unfold f_X10_readSpace_L25 at h
        refine lv_aload_n C.1 C.2.1 dX10_readSpace_25 rfl (lv_at hl 0 rfl) ?_
        have g_26 : Rg (μ_8 101 10) := zrgf0 (ci := 10) X.2.2.2 (hI.1 101 (by decide)) rfl 10 rfl
        refine z_get C X zk10 (hI.1 101 (by decide)) rfl 10 (by decide) kw_1042 (zI (μ_8 101 10)) rfl dX10_readSpace_26 ?_
        refine lv_aload_n C.1 C.2.1 dX10_readSpace_29 rfl (lv_at hl 0 rfl) ?_
        have g_30 : Rg (μ_8 101 9) := zrgf0 (ci := 10) X.2.2.2 (hI.1 101 (by decide)) rfl 9 rfl
        refine z_get C X zk10 (hI.1 101 (by decide)) rfl 9 (by decide) kw_1041 (zI (μ_8 101 9)) rfl dX10_readSpace_30 ?_
        refine z_icmpge C g_26 g_30 (tgt := 81) dX10_readSpace_33 (by decide) (fun hc33 => ?_) (fun hc33 => ?_)
        · rw [if_neg hc33] at h
          refine z_iconst C dX10_readSpace_81 ?_
          obtain ⟨rfl, rfl⟩ := Prod.mk.inj (Option.some.inj h)
          exact rt X ⟨by decide, by decide⟩ dX10_readSpace_82
        · rw [if_pos hc33] at h
          refine lv_aload_n C.1 C.2.1 dX10_readSpace_36 rfl (lv_at hl 0 rfl) ?_
          obtain ⟨x_9, hq37, h⟩ := bnd_some h
          refine z_callV1 C X zk10 (hI.1 101 (by decide)) rfl (As := []) (M_X10_now hI μ_8 hq37) zc_X10_now kw_1257 (zroom (by decide) (by decide)) rfl hl.1 rfl (Nat.le_of_ble_eq_true rfl) dX10_readSpace_37 ⟨Nat.zero_le _, Nat.zero_le _⟩ (fun H locs g_37 X => ?_)
          refine z_bipush C dX10_readSpace_40 (by decide) ?_
          refine z_icmpeq C g_37 ⟨by decide, by decide⟩ (tgt := 54) dX10_readSpace_42 (by decide) (fun hc42 => ?_) (fun hc42 => ?_)
          · rw [if_pos hc42] at h
            refine lv_aload_n C.1 C.2.1 dX10_readSpace_54 rfl (lv_at hl 0 rfl) ?_
            refine lv_dup C.1 C.2.1 dX10_readSpace_55 rfl ?_
            have g_56 : Rg (μ_8 101 10) := zrgf0 (ci := 10) X.2.2.2 (hI.1 101 (by decide)) rfl 10 rfl
            refine z_get C X zk10 (hI.1 101 (by decide)) rfl 10 (by decide) kw_1042 (zI (μ_8 101 10)) rfl dX10_readSpace_56 ?_
            refine z_iconst C dX10_readSpace_59 ?_
            refine z_iadd C dX10_readSpace_60 ?_
            refine zlet_elim h (fun μ_10 em h => ?_)
            refine z_putI C X zk10 (hI.1 101 (by decide)) rfl 10 (by decide) kw_1042 rfl rfl rfl rfl (Rg.w _) em dX10_readSpace_61 (fun H locs X => ?_)
            clear em
            refine lv_aload_n C.1 C.2.1 dX10_readSpace_64 rfl (lv_at hl 0 rfl) ?_
            refine lv_iload_n C.1 C.2.1 dX10_readSpace_65 rfl (lv_at hl 1 rfl) ?_
            obtain ⟨x_11, μ_12, hq66, h⟩ := bnd2_some h
            refine z_callV1 C X zk10 (hI.1 101 (by decide)) rfl (As := [zI x1]) (M_X10_readClause hI μ_10 x1 gx1 hq66) zc_X10_readClause kw_1293 (zroom (by decide) (by decide)) rfl hl.1 rfl (Nat.le_of_ble_eq_true rfl) dX10_readSpace_66 ⟨Nat.zero_le _, Nat.zero_le _⟩ (fun H locs g_66 X => ?_)
            refine z_ifne C (rgz g_66) (tgt := 74) dX10_readSpace_69 (by decide) (fun hc69 => ?_) (fun hc69 => ?_)
            · rw [if_neg hc69] at h
              refine lv_aload_n C.1 C.2.1 dX10_readSpace_74 rfl (lv_at hl 0 rfl) ?_
              obtain ⟨μ_13, hq75, h⟩ := bnd_some h
              refine z_callV0 C X zk10 (hI.1 101 (by decide)) rfl (As := []) (M_X10_pass hI μ_12 hq75) zc_X10_pass kw_1253 (zroom (by decide) (by decide)) rfl hl.1 rfl (Nat.le_of_ble_eq_true rfl) dX10_readSpace_75 ⟨Nat.zero_le _, Nat.zero_le _⟩ (fun H locs g_75 X => ?_)
              refine lv_goto (tgt := 25) C.1 C.2.1 dX10_readSpace_78 (by decide) ?_
              exact ih25 μ_13 _ _ _ X (lv_sub hl [0, 1] rfl) h
            · rw [if_pos hc69] at h
              refine z_iconst C dX10_readSpace_72 ?_
              obtain ⟨rfl, rfl⟩ := Prod.mk.inj (Option.some.inj h)
              exact rt X ⟨by decide, by decide⟩ dX10_readSpace_73
          · rw [if_neg hc42] at h
            exact K45 μ_8 _ _ _ X (lv_sub hl [0] rfl) h
    exact L25 zfu μ_4 _ _ _ X (lv_sub hl [0, 1] rfl) h
  · rw [if_pos hc7] at h
    refine z_iconst C dX10_readSpace_10 ?_
    obtain ⟨rfl, rfl⟩ := Prod.mk.inj (Option.some.inj h)
    exact rt X ⟨by decide, by decide⟩ dX10_readSpace_11
theorem zc_X10_readSpace : zcal yX10_readSpace cX10_readSpace 2 (some Jvm.ClassFile.FieldType.boolean) RX10 1 := ⟨⟨kw_1288, kw_1287, kp_64, kw_12⟩, rfl, by decide, by decide, by decide +kernel⟩

def f_X10_keep_L84 (x1 : Int) : Nat → Int → zMem → Option zMem
  | 0, _, _ => none
  | n + 1, x_3, μ_4 =>
    if x_3 < 256 then
      chk ((0 : Int) ≤ (zw ((zw (256 * x1)) + x_3)) ∧ (zw ((zw (256 * x1)) + x_3)) < 768) <|
      chk ((0 : Int) ≤ x_3 ∧ x_3 < 256) <|
      zlet (zup μ_4 118 x_3 (μ_4 108 (zw ((zw (256 * x1)) + x_3)))) fun μ_5 =>
      zlet (zw (x_3 + 1)) fun x_6 =>
      (f_X10_keep_L84 x1 n) x_6 μ_5
    else
      some μ_4
def f_X10_keep_K82 (x1 : Int) (μ_2 : zMem) : Option zMem :=
  (f_X10_keep_L84 x1) zfu 0 μ_2
def f_X10_keep_L53 (x1 : Int) (g82 : zMem → Option zMem) : Nat → Int → zMem → Option zMem
  | 0, _, _ => none
  | n + 1, x_7, μ_8 =>
    if x_7 < 32 then
      chk ((0 : Int) ≤ (zw ((zw (32 * x1)) + x_7)) ∧ (zw ((zw (32 * x1)) + x_7)) < 96) <|
      chk ((0 : Int) ≤ x_7 ∧ x_7 < 32) <|
      zlet (zup μ_8 119 x_7 (μ_8 107 (zw ((zw (32 * x1)) + x_7)))) fun μ_9 =>
      zlet (zw (x_7 + 1)) fun x_10 =>
      (f_X10_keep_L53 x1 g82 n) x_10 μ_9
    else
      g82 μ_8
def f_X10_keep_K51 (x1 : Int) (μ_1 : zMem) : Option zMem :=
  (f_X10_keep_L53 x1 (f_X10_keep_K82 x1)) zfu 0 μ_1
def f_X10_keep_L2 (x1 : Int) (g51 : zMem → Option zMem) : Nat → Int → zMem → Option zMem
  | 0, _, _ => none
  | n + 1, x_11, μ_12 =>
    if x_11 < 48 then
      chk ((0 : Int) ≤ (zw ((zw (48 * x1)) + x_11)) ∧ (zw ((zw (48 * x1)) + x_11)) < 144) <|
      chk ((0 : Int) ≤ x_11 ∧ x_11 < 96) <|
      zlet (zup μ_12 117 x_11 (μ_12 105 (zw ((zw (48 * x1)) + x_11)))) fun μ_13 =>
      chk ((0 : Int) ≤ (zw ((zw (48 * x1)) + x_11)) ∧ (zw ((zw (48 * x1)) + x_11)) < 144) <|
      chk ((0 : Int) ≤ (zw (48 + x_11)) ∧ (zw (48 + x_11)) < 96) <|
      zlet (zup μ_13 117 (zw (48 + x_11)) (μ_13 106 (zw ((zw (48 * x1)) + x_11)))) fun μ_14 =>
      zlet (zw (x_11 + 1)) fun x_15 =>
      (f_X10_keep_L2 x1 g51 n) x_15 μ_14
    else
      g51 μ_12
def f_X10_keep (x1 : Int) (μ : zMem) : Option zMem :=
  (f_X10_keep_L2 x1 (f_X10_keep_K51 x1)) zfu 0 μ
set_option maxHeartbeats 4000000 in
set_option maxRecDepth 100000 in
theorem M_X10_keep {l : Launch} {Ω : zO} (hI : zIm Ω) (μ : zMem) (x1 : Int) {μ' : zMem} (gx1 : Rg x1) (h : f_X10_keep x1 μ = some μ') : XMet l yX10_keep cX10_keep 3 none 0 Ω [zR Ω 101, zI x1] μ none True μ' := by
  refine XMet.ofV (by decide) (Nat.le_of_ble_eq_true rfl) ?_
  intro p e s m args below meth c ls Q C rt X hl
  have C : zC p s m args c cX10_keep RX10 3 Ω := C
  have hl : lv_has ls 3 [(0, zR Ω 101), (1, zI x1)] := hl
  unfold f_X10_keep at h
  skip
  refine z_iconst C dX10_keep_0 ?_
  refine lv_istore_n C.1 C.2.1 (lv' := [(2, zI 0), (0, zR Ω 101), (1, zI x1)]) dX10_keep_1 rfl hl (by decide) rfl (fun ls hl => ?_)
  have K51 : ∀ (μ_1 : zMem) (H : Heap) (locs : List Loc) (ls : Array Slot), zX Ω μ_1 (zfree Ω) s.heap H locs → lv_has ls 3 [(0, zR Ω 101), (1, zI x1)] → (f_X10_keep_K51 x1) μ_1 = some μ' → W p l e (zrm 0) s m args below meth c H locs 0 0 Q (F0 m 51 ls []) := by
    intro μ_1 H locs ls  X hl h
    unfold f_X10_keep_K51 at h
    refine z_iconst C dX10_keep_51 ?_
    refine lv_istore_n C.1 C.2.1 (lv' := [(2, zI 0), (0, zR Ω 101), (1, zI x1)]) dX10_keep_52 rfl hl (by decide) rfl (fun ls hl => ?_)
    have K82 : ∀ (μ_2 : zMem) (H : Heap) (locs : List Loc) (ls : Array Slot), zX Ω μ_2 (zfree Ω) s.heap H locs → lv_has ls 3 [(0, zR Ω 101), (1, zI x1)] → (f_X10_keep_K82 x1) μ_2 = some μ' → W p l e (zrm 0) s m args below meth c H locs 0 0 Q (F0 m 82 ls []) := by
      intro μ_2 H locs ls  X hl h
      unfold f_X10_keep_K82 at h
      refine z_iconst C dX10_keep_82 ?_
      refine lv_istore_n C.1 C.2.1 (lv' := [(2, zI 0), (0, zR Ω 101), (1, zI x1)]) dX10_keep_83 rfl hl (by decide) rfl (fun ls hl => ?_)
      have L84 : ∀ (n84 : Nat) (x_3 : Int) (μ_4 : zMem) (H : Heap) (locs : List Loc) (ls : Array Slot), Rg x_3 → zX Ω μ_4 (zfree Ω) s.heap H locs → lv_has ls 3 [(0, zR Ω 101), (1, zI x1), (2, zI x_3)] → (f_X10_keep_L84 x1 n84 x_3 μ_4) = some μ' → W p l e (zrm 0) s m args below meth c H locs 0 0 Q (F0 m 84 ls []) := by
        intro n84
        induction n84 with
        | zero =>
          intro x_3 μ_4 H locs ls _ _ _ h
          cases h
        | succ n84 ih84 =>
          intro x_3 μ_4 H locs ls gx_3 X hl h
          unfold f_X10_keep_L84 at h
          refine lv_iload_n C.1 C.2.1 dX10_keep_84 rfl (lv_at hl 2 rfl) ?_
          refine z_sipush C dX10_keep_85 (by decide) ?_
          refine z_icmpge C gx_3 ⟨by decide, by decide⟩ (tgt := 115) dX10_keep_88 (by decide) (fun hc88 => ?_) (fun hc88 => ?_)
          · rw [if_neg hc88] at h
            obtain rfl := Option.some.inj h
            exact rt X dX10_keep_115
          · rw [if_pos hc88] at h
            refine lv_aload_n C.1 C.2.1 dX10_keep_91 rfl (lv_at hl 0 rfl) ?_
            refine z_get C X zk10 (hI.1 101 (by decide)) rfl 16 (by decide) kw_1048 (zR Ω 118) (zfvF (off := 17) X.2.2.2 (hI.1 101 (by decide)) hI.2 rfl rfl (by decide)) dX10_keep_92 ?_
            refine lv_iload_n C.1 C.2.1 dX10_keep_95 rfl (lv_at hl 2 rfl) ?_
            refine lv_aload_n C.1 C.2.1 dX10_keep_96 rfl (lv_at hl 0 rfl) ?_
            refine z_get C X zk10 (hI.1 101 (by decide)) rfl 6 (by decide) kw_1038 (zR Ω 108) (zfvF (off := 7) X.2.2.2 (hI.1 101 (by decide)) hI.2 rfl rfl (by decide)) dX10_keep_97 ?_
            refine z_sipush C dX10_keep_100 (by decide) ?_
            refine lv_iload_n C.1 C.2.1 dX10_keep_103 rfl (lv_at hl 1 rfl) ?_
            refine z_imul C dX10_keep_104 ?_
            refine lv_iload_n C.1 C.2.1 dX10_keep_105 rfl (lv_at hl 2 rfl) ?_
            refine z_iadd C dX10_keep_106 ?_
            obtain ⟨hc107, h⟩ := chk_some h
            have g_107 : Rg (μ_4 108 (zw ((zw (256 * x1)) + x_3))) := zrg1 X.2.2.2 (hI.1 108 (by decide)) rfl
            refine z_iald C X (hI.1 108 (by decide)) rfl hc107 dX10_keep_107 ?_
            obtain ⟨hc108, h⟩ := chk_some h
            refine zlet_elim h (fun μ_5 em h => ?_)
            refine z_iast C X (hI.1 118 (by decide)) rfl hc108 (zok1 rfl g_107) em dX10_keep_108 (fun H locs X => ?_)
            clear em
            refine zlet_elim h (fun x_6 ex_6 h => ?_)
            have gx_6 : Rg x_6 := by rw [ex_6]; exact Rg.w _
            refine z_iinc C ex_6 dX10_keep_109 hl (k := 2) rfl (by decide) (lv' := [(2, zI x_6), (0, zR Ω 101), (1, zI x1)]) rfl (fun ls hl => ?_)
            clear ex_6
            refine lv_goto (tgt := 84) C.1 C.2.1 dX10_keep_112 (by decide) ?_
            exact ih84 x_6 μ_5 _ _ _ gx_6 X (lv_sub hl [1, 2, 0] rfl) h
      exact L84 zfu 0 μ_2 _ _ _ ⟨by decide, by decide⟩ X (lv_sub hl [1, 2, 0] rfl) h
    have L53 : ∀ (n53 : Nat) (x_7 : Int) (μ_8 : zMem) (H : Heap) (locs : List Loc) (ls : Array Slot), Rg x_7 → zX Ω μ_8 (zfree Ω) s.heap H locs → lv_has ls 3 [(0, zR Ω 101), (1, zI x1), (2, zI x_7)] → (f_X10_keep_L53 x1 (f_X10_keep_K82 x1) n53 x_7 μ_8) = some μ' → W p l e (zrm 0) s m args below meth c H locs 0 0 Q (F0 m 53 ls []) := by
      intro n53
      induction n53 with
      | zero =>
        intro x_7 μ_8 H locs ls _ _ _ h
        cases h
      | succ n53 ih53 =>
        intro x_7 μ_8 H locs ls gx_7 X hl h
        unfold f_X10_keep_L53 at h
        refine lv_iload_n C.1 C.2.1 dX10_keep_53 rfl (lv_at hl 2 rfl) ?_
        refine z_bipush C dX10_keep_54 (by decide) ?_
        refine z_icmpge C gx_7 ⟨by decide, by decide⟩ (tgt := 82) dX10_keep_56 (by decide) (fun hc56 => ?_) (fun hc56 => ?_)
        · rw [if_neg hc56] at h
          exact K82 μ_8 _ _ _ X (lv_sub hl [0, 1] rfl) h
        · rw [if_pos hc56] at h
          refine lv_aload_n C.1 C.2.1 dX10_keep_59 rfl (lv_at hl 0 rfl) ?_
          refine z_get C X zk10 (hI.1 101 (by decide)) rfl 17 (by decide) kw_1049 (zR Ω 119) (zfvF (off := 18) X.2.2.2 (hI.1 101 (by decide)) hI.2 rfl rfl (by decide)) dX10_keep_60 ?_
          refine lv_iload_n C.1 C.2.1 dX10_keep_63 rfl (lv_at hl 2 rfl) ?_
          refine lv_aload_n C.1 C.2.1 dX10_keep_64 rfl (lv_at hl 0 rfl) ?_
          refine z_get C X zk10 (hI.1 101 (by decide)) rfl 5 (by decide) kw_1037 (zR Ω 107) (zfvF (off := 6) X.2.2.2 (hI.1 101 (by decide)) hI.2 rfl rfl (by decide)) dX10_keep_65 ?_
          refine z_bipush C dX10_keep_68 (by decide) ?_
          refine lv_iload_n C.1 C.2.1 dX10_keep_70 rfl (lv_at hl 1 rfl) ?_
          refine z_imul C dX10_keep_71 ?_
          refine lv_iload_n C.1 C.2.1 dX10_keep_72 rfl (lv_at hl 2 rfl) ?_
          refine z_iadd C dX10_keep_73 ?_
          obtain ⟨hc74, h⟩ := chk_some h
          have g_74 : Rg (μ_8 107 (zw ((zw (32 * x1)) + x_7))) := zrg1 X.2.2.2 (hI.1 107 (by decide)) rfl
          refine z_iald C X (hI.1 107 (by decide)) rfl hc74 dX10_keep_74 ?_
          obtain ⟨hc75, h⟩ := chk_some h
          refine zlet_elim h (fun μ_9 em h => ?_)
          refine z_iast C X (hI.1 119 (by decide)) rfl hc75 (zok1 rfl g_74) em dX10_keep_75 (fun H locs X => ?_)
          clear em
          refine zlet_elim h (fun x_10 ex_10 h => ?_)
          have gx_10 : Rg x_10 := by rw [ex_10]; exact Rg.w _
          refine z_iinc C ex_10 dX10_keep_76 hl (k := 2) rfl (by decide) (lv' := [(2, zI x_10), (0, zR Ω 101), (1, zI x1)]) rfl (fun ls hl => ?_)
          clear ex_10
          refine lv_goto (tgt := 53) C.1 C.2.1 dX10_keep_79 (by decide) ?_
          exact ih53 x_10 μ_9 _ _ _ gx_10 X (lv_sub hl [1, 2, 0] rfl) h
    exact L53 zfu 0 μ_1 _ _ _ ⟨by decide, by decide⟩ X (lv_sub hl [1, 2, 0] rfl) h
  have L2 : ∀ (n2 : Nat) (x_11 : Int) (μ_12 : zMem) (H : Heap) (locs : List Loc) (ls : Array Slot), Rg x_11 → zX Ω μ_12 (zfree Ω) s.heap H locs → lv_has ls 3 [(0, zR Ω 101), (1, zI x1), (2, zI x_11)] → (f_X10_keep_L2 x1 (f_X10_keep_K51 x1) n2 x_11 μ_12) = some μ' → W p l e (zrm 0) s m args below meth c H locs 0 0 Q (F0 m 2 ls []) := by
    intro n2
    induction n2 with
    | zero =>
      intro x_11 μ_12 H locs ls _ _ _ h
      cases h
    | succ n2 ih2 =>
      intro x_11 μ_12 H locs ls gx_11 X hl h
      unfold f_X10_keep_L2 at h
      refine lv_iload_n C.1 C.2.1 dX10_keep_2 rfl (lv_at hl 2 rfl) ?_
      refine z_bipush C dX10_keep_3 (by decide) ?_
      refine z_icmpge C gx_11 ⟨by decide, by decide⟩ (tgt := 51) dX10_keep_5 (by decide) (fun hc5 => ?_) (fun hc5 => ?_)
      · rw [if_neg hc5] at h
        exact K51 μ_12 _ _ _ X (lv_sub hl [0, 1] rfl) h
      · rw [if_pos hc5] at h
        refine lv_aload_n C.1 C.2.1 dX10_keep_8 rfl (lv_at hl 0 rfl) ?_
        refine z_get C X zk10 (hI.1 101 (by decide)) rfl 15 (by decide) kw_1047 (zR Ω 117) (zfvF (off := 16) X.2.2.2 (hI.1 101 (by decide)) hI.2 rfl rfl (by decide)) dX10_keep_9 ?_
        refine lv_iload_n C.1 C.2.1 dX10_keep_12 rfl (lv_at hl 2 rfl) ?_
        refine lv_aload_n C.1 C.2.1 dX10_keep_13 rfl (lv_at hl 0 rfl) ?_
        refine z_get C X zk10 (hI.1 101 (by decide)) rfl 3 (by decide) kw_1035 (zR Ω 105) (zfvF (off := 4) X.2.2.2 (hI.1 101 (by decide)) hI.2 rfl rfl (by decide)) dX10_keep_14 ?_
        refine z_bipush C dX10_keep_17 (by decide) ?_
        refine lv_iload_n C.1 C.2.1 dX10_keep_19 rfl (lv_at hl 1 rfl) ?_
        refine z_imul C dX10_keep_20 ?_
        refine lv_iload_n C.1 C.2.1 dX10_keep_21 rfl (lv_at hl 2 rfl) ?_
        refine z_iadd C dX10_keep_22 ?_
        obtain ⟨hc23, h⟩ := chk_some h
        have g_23 : Rg (μ_12 105 (zw ((zw (48 * x1)) + x_11))) := zrg1 X.2.2.2 (hI.1 105 (by decide)) rfl
        refine z_iald C X (hI.1 105 (by decide)) rfl hc23 dX10_keep_23 ?_
        obtain ⟨hc24, h⟩ := chk_some h
        refine zlet_elim h (fun μ_13 em h => ?_)
        refine z_iast C X (hI.1 117 (by decide)) rfl hc24 (zok1 rfl g_23) em dX10_keep_24 (fun H locs X => ?_)
        clear em
        refine lv_aload_n C.1 C.2.1 dX10_keep_25 rfl (lv_at hl 0 rfl) ?_
        refine z_get C X zk10 (hI.1 101 (by decide)) rfl 15 (by decide) kw_1047 (zR Ω 117) (zfvF (off := 16) X.2.2.2 (hI.1 101 (by decide)) hI.2 rfl rfl (by decide)) dX10_keep_26 ?_
        refine z_bipush C dX10_keep_29 (by decide) ?_
        refine lv_iload_n C.1 C.2.1 dX10_keep_31 rfl (lv_at hl 2 rfl) ?_
        refine z_iadd C dX10_keep_32 ?_
        refine lv_aload_n C.1 C.2.1 dX10_keep_33 rfl (lv_at hl 0 rfl) ?_
        refine z_get C X zk10 (hI.1 101 (by decide)) rfl 4 (by decide) kw_1036 (zR Ω 106) (zfvF (off := 5) X.2.2.2 (hI.1 101 (by decide)) hI.2 rfl rfl (by decide)) dX10_keep_34 ?_
        refine z_bipush C dX10_keep_37 (by decide) ?_
        refine lv_iload_n C.1 C.2.1 dX10_keep_39 rfl (lv_at hl 1 rfl) ?_
        refine z_imul C dX10_keep_40 ?_
        refine lv_iload_n C.1 C.2.1 dX10_keep_41 rfl (lv_at hl 2 rfl) ?_
        refine z_iadd C dX10_keep_42 ?_
        obtain ⟨hc43, h⟩ := chk_some h
        have g_43 : Rg (μ_13 106 (zw ((zw (48 * x1)) + x_11))) := zrg1 X.2.2.2 (hI.1 106 (by decide)) rfl
        refine z_iald C X (hI.1 106 (by decide)) rfl hc43 dX10_keep_43 ?_
        obtain ⟨hc44, h⟩ := chk_some h
        refine zlet_elim h (fun μ_14 em h => ?_)
        refine z_iast C X (hI.1 117 (by decide)) rfl hc44 (zok1 rfl g_43) em dX10_keep_44 (fun H locs X => ?_)
        clear em
        refine zlet_elim h (fun x_15 ex_15 h => ?_)
        have gx_15 : Rg x_15 := by rw [ex_15]; exact Rg.w _
        refine z_iinc C ex_15 dX10_keep_45 hl (k := 2) rfl (by decide) (lv' := [(2, zI x_15), (0, zR Ω 101), (1, zI x1)]) rfl (fun ls hl => ?_)
        clear ex_15
        refine lv_goto (tgt := 2) C.1 C.2.1 dX10_keep_48 (by decide) ?_
        exact ih2 x_15 μ_14 _ _ _ gx_15 X (lv_sub hl [1, 2, 0] rfl) h
  exact L2 zfu 0 μ _ _ _ ⟨by decide, by decide⟩ X (lv_sub hl [1, 2, 0] rfl) h
theorem zc_X10_keep : zcal yX10_keep cX10_keep 3 none RX10 1 := ⟨⟨kw_1284, kw_1283, kp_63, kw_12⟩, rfl, by decide, by decide, by decide +kernel⟩

