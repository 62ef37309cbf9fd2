def f_X10_goes_J62 (x_1 : Int) (x_2 : Int) (g6 : Int → Int → Option Int) (x_4 : Int) : Option Int :=
  zlet ((zw (x_1 + x_4))) fun x_5 =>
  zlet (zw (x_2 + 1)) fun x_6 =>
  g6 x_5 x_6
def f_X10_goes_L6 (x1 : Int) (x2 : Int) (x3 : Int) (μ : zMem) : Nat → Int → Int → Option Int
  | 0, _, _ => none
  | n + 1, x_1, x_2 =>
    chk ((0 : Int) ≤ (zw ((zw (32 * x1)) + x2)) ∧ (zw ((zw (32 * x1)) + x2)) < 96) <|
    if x_2 < (μ 107 (zw ((zw (32 * x1)) + x2))) then
      bnd (f_X10_rimAt x1 x2 x_2 μ) fun x_3 =>
      if x_3 = (zw (x3 + 1)) then
        (f_X10_goes_J62 x_1 x_2 (f_X10_goes_L6 x1 x2 x3 μ n)) 1
      else
        bnd (f_X10_rimAt x1 x2 x_2 μ) fun x_7 =>
        if x_7 = (zw ((zw (-x3)) - 1)) then
          (f_X10_goes_J62 x_1 x_2 (f_X10_goes_L6 x1 x2 x3 μ n)) (-1)
        else
          (f_X10_goes_J62 x_1 x_2 (f_X10_goes_L6 x1 x2 x3 μ n)) 0
    else
      some x_1
def f_X10_goes (x1 : Int) (x2 : Int) (x3 : Int) (μ : zMem) : Option Int :=
  (f_X10_goes_L6 x1 x2 x3 μ) zfu 0 0
set_option maxHeartbeats 4000000 in
set_option maxRecDepth 100000 in
theorem M_X10_goes {l : Launch} {Ω : zO} (hI : zIm Ω) (μ : zMem) (x1 : Int) (x2 : Int) (x3 : Int) {r : Int} (gx1 : Rg x1) (gx2 : Rg x2) (gx3 : Rg x3) (h : f_X10_goes x1 x2 x3 μ = some r) : XMet l yX10_goes cX10_goes 6 (some Jvm.ClassFile.FieldType.int) 1 Ω [zR Ω 101, zI x1, zI x2, zI x3] μ (some (zI r)) (Rg r) μ := by
  refine XMet.ofI (by decide) (Nat.le_of_ble_eq_true rfl) ?_
  intro p e s m args below meth c ls Q C rt X hl
  have C : zC p s m args c cX10_goes RX10 6 Ω := C
  have hl : lv_has ls 6 [(0, zR Ω 101), (1, zI x1), (2, zI x2), (3, zI x3)] := hl
  unfold f_X10_goes at h
  skip
  refine z_iconst C dX10_goes_0 ?_
  refine lv_istore C.1 C.2.1 (lv' := [(4, zI 0), (0, zR Ω 101), (1, zI x1), (2, zI x2), (3, zI x3)]) dX10_goes_1 hl (by decide) rfl (fun ls hl => ?_)
  refine z_iconst C dX10_goes_3 ?_
  refine lv_istore C.1 C.2.1 (lv' := [(5, zI 0), (4, zI 0), (0, zR Ω 101), (1, zI x1), (2, zI x2), (3, zI x3)]) dX10_goes_4 hl (by decide) rfl (fun ls hl => ?_)
  have L6 : ∀ (n6 : Nat) (x_1 : Int) (x_2 : Int) (H : Heap) (locs : List Loc) (ls : Array Slot), Rg x_1 → Rg x_2 → zX Ω μ (zfree Ω) s.heap H locs → lv_has ls 6 [(0, zR Ω 101), (1, zI x1), (2, zI x2), (3, zI x3), (4, zI x_1), (5, zI x_2)] → (f_X10_goes_L6 x1 x2 x3 μ n6 x_1 x_2) = some r → W p l e (zrm 1) s m args below meth c H locs 0 0 Q (F0 m 6 ls []) := by
    intro n6
    induction n6 with
    | zero =>
      intro x_1 x_2 H locs ls _ _ _ _ h
      cases h
    | succ n6 ih6 =>
      intro x_1 x_2 H locs ls gx_1 gx_2 X hl h
      unfold f_X10_goes_L6 at h
      refine lv_iload C.1 C.2.1 dX10_goes_6 (lv_at hl 5 rfl) ?_
      refine lv_aload_n C.1 C.2.1 dX10_goes_8 rfl (lv_at hl 0 rfl) ?_
      refine z_get C X zk10 (hI.1 101 (by decide)) rfl 5 (by decide) kw_1037 (zR Ω 107) (zfvF (off := 6) X.2.2.2 (hI.1 101 (by decide)) hI.2 rfl rfl (by decide)) dX10_goes_9 ?_
      refine z_bipush C dX10_goes_12 (by decide) ?_
      refine lv_iload_n C.1 C.2.1 dX10_goes_14 rfl (lv_at hl 1 rfl) ?_
      refine z_imul C dX10_goes_15 ?_
      refine lv_iload_n C.1 C.2.1 dX10_goes_16 rfl (lv_at hl 2 rfl) ?_
      refine z_iadd C dX10_goes_17 ?_
      obtain ⟨hc18, h⟩ := chk_some h
      have g_18 : Rg (μ 107 (zw ((zw (32 * x1)) + x2))) := zrg1 X.2.2.2 (hI.1 107 (by decide)) rfl
      refine z_iald C X (hI.1 107 (by decide)) rfl hc18 dX10_goes_18 ?_
      refine z_icmpge C gx_2 g_18 (tgt := 71) dX10_goes_19 (by decide) (fun hc19 => ?_) (fun hc19 => ?_)
      · rw [if_neg hc19] at h
        refine lv_iload C.1 C.2.1 dX10_goes_71 (lv_at hl 4 rfl) ?_
        obtain rfl := Option.some.inj h
        exact rt X gx_1 dX10_goes_73
      · rw [if_pos hc19] at h
        refine lv_iload C.1 C.2.1 dX10_goes_22 (lv_at hl 4 rfl) ?_
        refine lv_aload_n C.1 C.2.1 dX10_goes_24 rfl (lv_at hl 0 rfl) ?_
        refine lv_iload_n C.1 C.2.1 dX10_goes_25 rfl (lv_at hl 1 rfl) ?_
        refine lv_iload_n C.1 C.2.1 dX10_goes_26 rfl (lv_at hl 2 rfl) ?_
        refine lv_iload C.1 C.2.1 dX10_goes_27 (lv_at hl 5 rfl) ?_
        obtain ⟨x_3, hq29, h⟩ := bnd_some h
        refine z_callV1 C X zk10 (hI.1 101 (by decide)) rfl (As := [zI x1, zI x2, zI x_2]) (M_X10_rimAt hI μ x1 x2 x_2 gx1 gx2 gx_2 hq29) zc_X10_rimAt kw_1321 (zroom (by decide) (by decide)) rfl hl.1 rfl (Nat.le_of_ble_eq_true rfl) dX10_goes_29 ⟨Nat.zero_le _, Nat.zero_le _⟩ (fun H locs g_29 X => ?_)
        refine lv_iload_n C.1 C.2.1 dX10_goes_32 rfl (lv_at hl 3 rfl) ?_
        refine z_iconst C dX10_goes_33 ?_
        refine z_iadd C dX10_goes_34 ?_
        have K62 : ∀ (x_4 : Int) (H : Heap) (locs : List Loc) (ls : Array Slot), Rg x_4 → zX Ω μ (zfree Ω) s.heap H locs → lv_has ls 6 [(0, zR Ω 101), (1, zI x1), (2, zI x2), (3, zI x3), (5, zI x_2)] → (f_X10_goes_J62 x_1 x_2 (f_X10_goes_L6 x1 x2 x3 μ n6)) x_4 = some r → W p l e (zrm 1) s m args below meth c H locs 0 0 Q (F0 m 62 ls [zI x_4, zI x_1]) := by
          intro x_4 H locs ls gx_4 X hl h
          unfold f_X10_goes_J62 at h
          refine z_iadd C dX10_goes_62 ?_
          refine zlet_elim h (fun x_5 ex_5 h => ?_)
          have gx_5 : Rg x_5 := by rw [ex_5]; exact (Rg.w _)
          refine z_istore C ex_5 dX10_goes_63 hl (by decide) (lv' := [(4, zI x_5), (0, zR Ω 101), (1, zI x1), (2, zI x2), (3, zI x3), (5, zI x_2)]) rfl (fun ls hl => ?_)
          clear ex_5
          refine zlet_elim h (fun x_6 ex_6 h => ?_)
          have gx_6 : Rg x_6 := by rw [ex_6]; exact Rg.w _
          refine z_iinc C ex_6 dX10_goes_65 hl (k := 5) rfl (by decide) (lv' := [(5, zI x_6), (4, zI x_5), (0, zR Ω 101), (1, zI x1), (2, zI x2), (3, zI x3)]) rfl (fun ls hl => ?_)
          clear ex_6
          refine lv_goto (tgt := 6) C.1 C.2.1 dX10_goes_68 (by decide) ?_
          exact ih6 x_5 x_6 _ _ _ gx_5 gx_6 X (lv_sub hl [2, 3, 4, 5, 1, 0] rfl) h
        refine z_icmpne C g_29 (Rg.w _) (tgt := 42) dX10_goes_35 (by decide) (fun hc35 => ?_) (fun hc35 => ?_)
        · rw [if_neg hc35] at h
          refine lv_aload_n C.1 C.2.1 dX10_goes_42 rfl (lv_at hl 0 rfl) ?_
          refine lv_iload_n C.1 C.2.1 dX10_goes_43 rfl (lv_at hl 1 rfl) ?_
          refine lv_iload_n C.1 C.2.1 dX10_goes_44 rfl (lv_at hl 2 rfl) ?_
          refine lv_iload C.1 C.2.1 dX10_goes_45 (lv_at hl 5 rfl) ?_
          obtain ⟨x_7, hq47, h⟩ := bnd_some h
          refine z_callV1 C X zk10 (hI.1 101 (by decide)) rfl (As := [zI x1, zI x2, zI x_2]) (M_X10_rimAt hI μ x1 x2 x_2 gx1 gx2 gx_2 hq47) zc_X10_rimAt kw_1321 (zroom (by decide) (by decide)) rfl hl.1 rfl (Nat.le_of_ble_eq_true rfl) dX10_goes_47 ⟨Nat.zero_le _, Nat.zero_le _⟩ (fun H locs g_47 X => ?_)
          refine lv_iload_n C.1 C.2.1 dX10_goes_50 rfl (lv_at hl 3 rfl) ?_
          refine z_ineg C dX10_goes_51 ?_
          refine z_iconst C dX10_goes_52 ?_
          refine z_isub C dX10_goes_53 ?_
          refine z_icmpne C g_47 (Rg.w _) (tgt := 61) dX10_goes_54 (by decide) (fun hc54 => ?_) (fun hc54 => ?_)
          · rw [if_neg hc54] at h
            refine z_iconst C dX10_goes_61 ?_
            exact K62 0 _ _ _ ⟨by decide, by decide⟩ X (lv_sub hl [0, 1, 2, 3, 5] rfl) h
          · rw [if_pos hc54] at h
            refine z_iconst C dX10_goes_57 ?_
            refine lv_goto (tgt := 62) C.1 C.2.1 dX10_goes_58 (by decide) ?_
            exact K62 (-1) _ _ _ ⟨by decide, by decide⟩ X (lv_sub hl [0, 1, 2, 3, 5] rfl) h
        · rw [if_pos hc35] at h
          refine z_iconst C dX10_goes_38 ?_
          refine lv_goto (tgt := 62) C.1 C.2.1 dX10_goes_39 (by decide) ?_
          exact K62 1 _ _ _ ⟨by decide, by decide⟩ X (lv_sub hl [0, 1, 2, 3, 5] rfl) h
  exact L6 zfu 0 0 _ _ _ ⟨by decide, by decide⟩ ⟨by decide, by decide⟩ X (lv_sub hl [2, 3, 4, 5, 1, 0] rfl) h
theorem zc_X10_goes : zcal yX10_goes cX10_goes 6 (some Jvm.ClassFile.FieldType.int) RX10 3 := ⟨⟨kw_1346, kw_1345, kp_73, kw_12⟩, rfl, by decide, by decide, by decide +kernel⟩

def f_X10_faceRank_K64 (x1 : Int) (x2 : Int) (μ_1 : zMem) : Option (Int × zMem) :=
  chk ((0 : Int) ≤ x1 ∧ x1 < 3) <|
  chk ((0 : Int) ≤ x1 ∧ x1 < 3) <|
  bnd2 (f_X10_rankOf (μ_1 104 x1) (μ_1 103 x1) x2 μ_1) fun x_2 μ_3 =>
  some (x_2, μ_3)
def f_X10_faceRank_K58 (x_4 : Int) (g2 : Int → zMem → Option (Int × zMem)) (μ_6 : zMem) : Option (Int × zMem) :=
  zlet (zw (x_4 + 1)) fun x_7 =>
  g2 x_7 μ_6
def f_X10_faceRank_L15 (x1 : Int) (x2 : Int) (x_4 : Int) (g58 : zMem → Option (Int × zMem)) : Nat → Int → zMem → Option (Int × zMem)
  | 0, _, _ => none
  | n + 1, x_8, μ_9 =>
    chk ((0 : Int) ≤ x1 ∧ x1 < 3) <|
    if x_8 < (μ_9 103 x1) then
      bnd (f_X10_goes x1 x_4 x_8 μ_9) fun x_10 =>
      chk (x2 ≠ 0) <|
      chk (x2 ≠ 0) <|
      chk ((0 : Int) ≤ (zw ((zw (48 * x_4)) + x_8)) ∧ (zw ((zw (48 * x_4)) + x_8)) < 2304) <|
      zlet (zup μ_9 124 (zw ((zw (48 * x_4)) + x_8)) (Int.tmod (zw ((Int.tmod x_10 x2) + x2)) x2)) fun μ_11 =>
      zlet (zw (x_8 + 1)) fun x_12 =>
      (f_X10_faceRank_L15 x1 x2 x_4 g58 n) x_12 μ_11
    else
      g58 μ_9
def f_X10_faceRank_L2 (x1 : Int) (x2 : Int) (g64 : zMem → Option (Int × zMem)) : Nat → Int → zMem → Option (Int × zMem)
  | 0, _, _ => none
  | n + 1, x_4, μ_5 =>
    chk ((0 : Int) ≤ x1 ∧ x1 < 3) <|
    if x_4 < (μ_5 104 x1) then
      (f_X10_faceRank_L15 x1 x2 x_4 (f_X10_faceRank_K58 x_4 (f_X10_faceRank_L2 x1 x2 g64 n))) zfu 0 μ_5
    else
      g64 μ_5
def f_X10_faceRank (x1 : Int) (x2 : Int) (μ : zMem) : Option (Int × zMem) :=
  (f_X10_faceRank_L2 x1 x2 (f_X10_faceRank_K64 x1 x2)) zfu 0 μ
set_option maxHeartbeats 4000000 in
set_option maxRecDepth 100000 in
theorem M_X10_faceRank {l : Launch} {Ω : zO} (hI : zIm Ω) (μ : zMem) (x1 : Int) (x2 : Int) {r : Int} {μ' : zMem} (gx1 : Rg x1) (gx2 : Rg x2) (h : f_X10_faceRank x1 x2 μ = some (r, μ')) : XMet l yX10_faceRank cX10_faceRank 5 (some Jvm.ClassFile.FieldType.int) 2 Ω [zR Ω 101, zI x1, zI x2] μ (some (zI r)) (Rg r) μ' := by
  refine XMet.ofI (by decide) (Nat.le_of_ble_eq_true rfl) ?_
  intro p e s m args below meth c ls Q C rt X hl
  have C : zC p s m args c cX10_faceRank RX10 5 Ω := C
  have hl : lv_has ls 5 [(0, zR Ω 101), (1, zI x1), (2, zI x2)] := hl
  unfold f_X10_faceRank at h
  skip
  refine z_iconst C dX10_faceRank_0 ?_
  refine lv_istore_n C.1 C.2.1 (lv' := [(3, zI 0), (0, zR Ω 101), (1, zI x1), (2, zI x2)]) dX10_faceRank_1 rfl hl (by decide) rfl (fun ls hl => ?_)
  have K64 : ∀ (μ_1 : zMem) (H : Heap) (locs : List Loc) (ls : Array Slot), zX Ω μ_1 (zfree Ω) s.heap H locs → lv_has ls 5 [(0, zR Ω 101), (1, zI x1), (2, zI x2)] → (f_X10_faceRank_K64 x1 x2) μ_1 = some (r, μ') → W p l e (zrm 2) s m args below meth c H locs 0 0 Q (F0 m 64 ls []) := by
    intro μ_1 H locs ls  X hl h
    unfold f_X10_faceRank_K64 at h
    refine lv_aload_n C.1 C.2.1 dX10_faceRank_64 rfl (lv_at hl 0 rfl) ?_
    refine lv_aload_n C.1 C.2.1 dX10_faceRank_65 rfl (lv_at hl 0 rfl) ?_
    refine z_get C X zk10 (hI.1 101 (by decide)) rfl 2 (by decide) kw_1034 (zR Ω 104) (zfvF (off := 3) X.2.2.2 (hI.1 101 (by decide)) hI.2 rfl rfl (by decide)) dX10_faceRank_66 ?_
    refine lv_iload_n C.1 C.2.1 dX10_faceRank_69 rfl (lv_at hl 1 rfl) ?_
    obtain ⟨hc70, h⟩ := chk_some h
    have g_70 : Rg (μ_1 104 x1) := zrg1 X.2.2.2 (hI.1 104 (by decide)) rfl
    refine z_iald C X (hI.1 104 (by decide)) rfl hc70 dX10_faceRank_70 ?_
    refine lv_aload_n C.1 C.2.1 dX10_faceRank_71 rfl (lv_at hl 0 rfl) ?_
    refine z_get C X zk10 (hI.1 101 (by decide)) rfl 1 (by decide) kw_1033 (zR Ω 103) (zfvF (off := 2) X.2.2.2 (hI.1 101 (by decide)) hI.2 rfl rfl (by decide)) dX10_faceRank_72 ?_
    refine lv_iload_n C.1 C.2.1 dX10_faceRank_75 rfl (lv_at hl 1 rfl) ?_
    obtain ⟨hc76, h⟩ := chk_some h
    have g_76 : Rg (μ_1 103 x1) := zrg1 X.2.2.2 (hI.1 103 (by decide)) rfl
    refine z_iald C X (hI.1 103 (by decide)) rfl hc76 dX10_faceRank_76 ?_
    refine lv_iload_n C.1 C.2.1 dX10_faceRank_77 rfl (lv_at hl 2 rfl) ?_
    obtain ⟨x_2, μ_3, hq78, h⟩ := bnd2_some h
    refine z_callV1 C X zk10 (hI.1 101 (by decide)) rfl (As := [zI (μ_1 104 x1), zI (μ_1 103 x1), zI x2]) (M_X10_rankOf hI μ_1 (μ_1 104 x1) (μ_1 103 x1) x2 g_70 g_76 gx2 hq78) zc_X10_rankOf kw_1366 (zroom (by decide) (by decide)) rfl hl.1 rfl (Nat.le_of_ble_eq_true rfl) dX10_faceRank_78 ⟨Nat.zero_le _, Nat.zero_le _⟩ (fun H locs g_78 X => ?_)
    obtain ⟨rfl, rfl⟩ := Prod.mk.inj (Option.some.inj h)
    exact rt X g_78 dX10_faceRank_81
  have L2 : ∀ (n2 : Nat) (x_4 : Int) (μ_5 : zMem) (H : Heap) (locs : List Loc) (ls : Array Slot), Rg x_4 → zX Ω μ_5 (zfree Ω) s.heap H locs → lv_has ls 5 [(0, zR Ω 101), (1, zI x1), (2, zI x2), (3, zI x_4)] → (f_X10_faceRank_L2 x1 x2 (f_X10_faceRank_K64 x1 x2) n2 x_4 μ_5) = some (r, μ') → W p l e (zrm 2) s m args below meth c H locs 0 0 Q (F0 m 2 ls []) := by
    intro n2
    induction n2 with
    | zero =>
      intro x_4 μ_5 H locs ls _ _ _ h
      cases h
    | succ n2 ih2 =>
      intro x_4 μ_5 H locs ls gx_4 X hl h
      unfold f_X10_faceRank_L2 at h
      refine lv_iload_n C.1 C.2.1 dX10_faceRank_2 rfl (lv_at hl 3 rfl) ?_
      refine lv_aload_n C.1 C.2.1 dX10_faceRank_3 rfl (lv_at hl 0 rfl) ?_
      refine z_get C X zk10 (hI.1 101 (by decide)) rfl 2 (by decide) kw_1034 (zR Ω 104) (zfvF (off := 3) X.2.2.2 (hI.1 101 (by decide)) hI.2 rfl rfl (by decide)) dX10_faceRank_4 ?_
      refine lv_iload_n C.1 C.2.1 dX10_faceRank_7 rfl (lv_at hl 1 rfl) ?_
      obtain ⟨hc8, h⟩ := chk_some h
      have g_8 : Rg (μ_5 104 x1) := zrg1 X.2.2.2 (hI.1 104 (by decide)) rfl
      refine z_iald C X (hI.1 104 (by decide)) rfl hc8 dX10_faceRank_8 ?_
      refine z_icmpge C gx_4 g_8 (tgt := 64) dX10_faceRank_9 (by decide) (fun hc9 => ?_) (fun hc9 => ?_)
      · rw [if_neg hc9] at h
        exact K64 μ_5 _ _ _ X (lv_sub hl [0, 1, 2] rfl) h
      · rw [if_pos hc9] at h
        refine z_iconst C dX10_faceRank_12 ?_
        refine lv_istore C.1 C.2.1 (lv' := [(4, zI 0), (0, zR Ω 101), (1, zI x1), (2, zI x2), (3, zI x_4)]) dX10_faceRank_13 hl (by decide) rfl (fun ls hl => ?_)
        have K58 : ∀ (μ_6 : zMem) (H : Heap) (locs : List Loc) (ls : Array Slot), zX Ω μ_6 (zfree Ω) s.heap H locs → lv_has ls 5 [(0, zR Ω 101), (1, zI x1), (2, zI x2), (3, zI x_4)] → (f_X10_faceRank_K58 x_4 (f_X10_faceRank_L2 x1 x2 (f_X10_faceRank_K64 x1 x2) n2)) μ_6 = some (r, μ') → W p l e (zrm 2) s m args below meth c H locs 0 0 Q (F0 m 58 ls []) := by
          intro μ_6 H locs ls  X hl h
          unfold f_X10_faceRank_K58 at h
          refine zlet_elim h (fun x_7 ex_7 h => ?_)
          have gx_7 : Rg x_7 := by rw [ex_7]; exact Rg.w _
          refine z_iinc C ex_7 dX10_faceRank_58 hl (k := 3) rfl (by decide) (lv' := [(3, zI x_7), (0, zR Ω 101), (1, zI x1), (2, zI x2)]) rfl (fun ls hl => ?_)
          clear ex_7
          refine lv_goto (tgt := 2) C.1 C.2.1 dX10_faceRank_61 (by decide) ?_
          exact ih2 x_7 μ_6 _ _ _ gx_7 X (lv_sub hl [1, 2, 3, 0] rfl) h
        have L15 : ∀ (n15 : Nat) (x_8 : Int) (μ_9 : zMem) (H : Heap) (locs : List Loc) (ls : Array Slot), Rg x_8 → zX Ω μ_9 (zfree Ω) s.heap H locs → lv_has ls 5 [(0, zR Ω 101), (1, zI x1), (2, zI x2), (3, zI x_4), (4, zI x_8)] → (f_X10_faceRank_L15 x1 x2 x_4 (f_X10_faceRank_K58 x_4 (f_X10_faceRank_L2 x1 x2 (f_X10_faceRank_K64 x1 x2) n2)) n15 x_8 μ_9) = some (r, μ') → W p l e (zrm 2) s m args below meth c H locs 0 0 Q (F0 m 15 ls []) := by
          intro n15
          induction n15 with
          | zero =>
            intro x_8 μ_9 H locs ls _ _ _ h
            cases h
          | succ n15 ih15 =>
            intro x_8 μ_9 H locs ls gx_8 X hl h
            unfold f_X10_faceRank_L15 at h
            refine lv_iload C.1 C.2.1 dX10_faceRank_15 (lv_at hl 4 rfl) ?_
            refine lv_aload_n C.1 C.2.1 dX10_faceRank_17 rfl (lv_at hl 0 rfl) ?_
            refine z_get C X zk10 (hI.1 101 (by decide)) rfl 1 (by decide) kw_1033 (zR Ω 103) (zfvF (off := 2) X.2.2.2 (hI.1 101 (by decide)) hI.2 rfl rfl (by decide)) dX10_faceRank_18 ?_
            refine lv_iload_n C.1 C.2.1 dX10_faceRank_21 rfl (lv_at hl 1 rfl) ?_
            obtain ⟨hc22, h⟩ := chk_some h
            have g_22 : Rg (μ_9 103 x1) := zrg1 X.2.2.2 (hI.1 103 (by decide)) rfl
            refine z_iald C X (hI.1 103 (by decide)) rfl hc22 dX10_faceRank_22 ?_
            refine z_icmpge C gx_8 g_22 (tgt := 58) dX10_faceRank_23 (by decide) (fun hc23 => ?_) (fun hc23 => ?_)
            · rw [if_neg hc23] at h
              exact K58 μ_9 _ _ _ X (lv_sub hl [0, 1, 2, 3] rfl) h
            · rw [if_pos hc23] at h
              refine lv_aload_n C.1 C.2.1 dX10_faceRank_26 rfl (lv_at hl 0 rfl) ?_
              refine z_get C X zk10 (hI.1 101 (by decide)) rfl 22 (by decide) kw_1054 (zR Ω 124) (zfvF (off := 23) X.2.2.2 (hI.1 101 (by decide)) hI.2 rfl rfl (by decide)) dX10_faceRank_27 ?_
              refine z_bipush C dX10_faceRank_30 (by decide) ?_
              refine lv_iload_n C.1 C.2.1 dX10_faceRank_32 rfl (lv_at hl 3 rfl) ?_
              refine z_imul C dX10_faceRank_33 ?_
              refine lv_iload C.1 C.2.1 dX10_faceRank_34 (lv_at hl 4 rfl) ?_
              refine z_iadd C dX10_faceRank_36 ?_
              refine lv_aload_n C.1 C.2.1 dX10_faceRank_37 rfl (lv_at hl 0 rfl) ?_
              refine lv_iload_n C.1 C.2.1 dX10_faceRank_38 rfl (lv_at hl 1 rfl) ?_
              refine lv_iload_n C.1 C.2.1 dX10_faceRank_39 rfl (lv_at hl 3 rfl) ?_
              refine lv_iload C.1 C.2.1 dX10_faceRank_40 (lv_at hl 4 rfl) ?_
              obtain ⟨x_10, hq42, h⟩ := bnd_some h
              refine z_callV1 C X zk10 (hI.1 101 (by decide)) rfl (As := [zI x1, zI x_4, zI x_8]) (M_X10_goes hI μ_9 x1 x_4 x_8 gx1 gx_4 gx_8 hq42) zc_X10_goes kw_1343 (zroom (by decide) (by decide)) rfl hl.1 rfl (Nat.le_of_ble_eq_true rfl) dX10_faceRank_42 ⟨Nat.zero_le _, Nat.zero_le _⟩ (fun H locs g_42 X => ?_)
              refine lv_iload_n C.1 C.2.1 dX10_faceRank_45 rfl (lv_at hl 2 rfl) ?_
              obtain ⟨hc46, h⟩ := chk_some h
              refine z_irem C g_42 gx2 hc46 dX10_faceRank_46 ?_
              refine lv_iload_n C.1 C.2.1 dX10_faceRank_47 rfl (lv_at hl 2 rfl) ?_
              refine z_iadd C dX10_faceRank_48 ?_
              refine lv_iload_n C.1 C.2.1 dX10_faceRank_49 rfl (lv_at hl 2 rfl) ?_
              obtain ⟨hc50, h⟩ := chk_some h
              refine z_irem C (Rg.w _) gx2 hc50 dX10_faceRank_50 ?_
              obtain ⟨hc51, h⟩ := chk_some h
              refine zlet_elim h (fun μ_11 em h => ?_)
              refine z_iast C X (hI.1 124 (by decide)) rfl hc51 (zok1 rfl (Rg.rem (Rg.w _) gx2)) em dX10_faceRank_51 (fun H locs X => ?_)
              clear em
              refine zlet_elim h (fun x_12 ex_12 h => ?_)
              have gx_12 : Rg x_12 := by rw [ex_12]; exact Rg.w _
              refine z_iinc C ex_12 dX10_faceRank_52 hl (k := 4) rfl (by decide) (lv' := [(4, zI x_12), (0, zR Ω 101), (1, zI x1), (2, zI x2), (3, zI x_4)]) rfl (fun ls hl => ?_)
              clear ex_12
              refine lv_goto (tgt := 15) C.1 C.2.1 dX10_faceRank_55 (by decide) ?_
              exact ih15 x_12 μ_11 _ _ _ gx_12 X (lv_sub hl [1, 2, 3, 4, 0] rfl) h
        exact L15 zfu 0 μ_5 _ _ _ ⟨by decide, by decide⟩ X (lv_sub hl [1, 2, 3, 4, 0] rfl) h
  exact L2 zfu 0 μ _ _ _ ⟨by decide, by decide⟩ X (lv_sub hl [1, 2, 3, 0] rfl) h
theorem zc_X10_faceRank : zcal yX10_faceRank cX10_faceRank 5 (some Jvm.ClassFile.FieldType.int) RX10 2 := ⟨⟨kw_1365, kw_1364, kp_77, kw_12⟩, rfl, by decide, by decide, by decide +kernel⟩

def f_X10_edgeRank_K152 (x_3 : Int) (g25 : Int → Int → zMem → Option (Int × zMem)) (x_7 : Int) (μ_8 : zMem) : Option (Int × zMem) :=
  zlet (zw (x_3 + 1)) fun x_9 =>
  g25 x_7 x_9 μ_8
def f_X10_edgeRank_K149 (g54 : Int → Int → zMem → Option (Int × zMem)) (x_13 : Int) (x_14 : Int) (μ_15 : zMem) : Option (Int × zMem) :=
  g54 x_13 x_14 μ_15
def f_X10_edgeRank_L65 (x1 : Int) (g149 : Int → Int → zMem → Option (Int × zMem)) : Nat → Int → Int → Int → zMem → Option (Int × zMem)
  | 0, _, _, _, _ => none
  | n + 1, x_16, x_17, x_18, μ_19 =>
    chk ((0 : Int) ≤ x1 ∧ x1 < 3) <|
    if x_18 < (μ_19 103 x1) then
      chk ((0 : Int) ≤ (zw ((zw (48 * x1)) + x_18)) ∧ (zw ((zw (48 * x1)) + x_18)) < 144) <|
      zlet ((μ_19 105 (zw ((zw (48 * x1)) + x_18)))) fun x_20 =>
      chk ((0 : Int) ≤ (zw ((zw (48 * x1)) + x_18)) ∧ (zw ((zw (48 * x1)) + x_18)) < 144) <|
      zlet ((μ_19 106 (zw ((zw (48 * x1)) + x_18)))) fun x_21 =>
      chk ((0 : Int) ≤ x_20 ∧ x_20 < 32) <|
      chk ((0 : Int) ≤ x_21 ∧ x_21 < 32) <|
      if (μ_19 120 x_20) = (μ_19 120 x_21) then
        zlet (zw (x_18 + 1)) fun x_22 =>
        (f_X10_edgeRank_L65 x1 g149 n) x_16 x_17 x_22 μ_19
      else
        chk ((0 : Int) ≤ x_20 ∧ x_20 < 32) <|
        zlet (zup μ_19 120 x_20 (zz 1)) fun μ_23 =>
        chk ((0 : Int) ≤ x_21 ∧ x_21 < 32) <|
        zlet (zup μ_23 120 x_21 (zz 1)) fun μ_24 =>
        zlet (zw (x_17 + 1)) fun x_25 =>
        zlet (zw (x_16 + 1)) fun x_26 =>
        zlet (zw (x_18 + 1)) fun x_27 =>
        (f_X10_edgeRank_L65 x1 g149 n) x_26 x_25 x_27 μ_24
    else
      g149 x_16 x_17 μ_19
def f_X10_edgeRank_L54 (x1 : Int) (g152 : Int → zMem → Option (Int × zMem)) : Nat → Int → Int → zMem → Option (Int × zMem)
  | 0, _, _, _ => none
  | n + 1, x_10, x_11, μ_12 =>
    if x_11 ≤ 0 then
      g152 x_10 μ_12
    else
      (f_X10_edgeRank_L65 x1 (f_X10_edgeRank_K149 (f_X10_edgeRank_L54 x1 g152 n))) zfu x_10 0 0 μ_12
def f_X10_edgeRank_L25 (x1 : Int) : Nat → Int → Int → zMem → Option (Int × zMem)
  | 0, _, _, _ => none
  | n + 1, x_2, x_3, μ_4 =>
    chk ((0 : Int) ≤ x1 ∧ x1 < 3) <|
    if x_3 < (μ_4 102 x1) then
      chk ((0 : Int) ≤ x_3 ∧ x_3 < 32) <|
      if (μ_4 120 x_3) = 0 then
        chk ((0 : Int) ≤ x_3 ∧ x_3 < 32) <|
        zlet (zup μ_4 120 x_3 (zz 1)) fun μ_6 =>
        (f_X10_edgeRank_L54 x1 (f_X10_edgeRank_K152 x_3 (f_X10_edgeRank_L25 x1 n))) zfu x_2 1 μ_6
      else
        zlet (zw (x_3 + 1)) fun x_5 =>
        (f_X10_edgeRank_L25 x1 n) x_2 x_5 μ_4
    else
      some (x_2, μ_4)
def f_X10_edgeRank_K23 (x1 : Int) (μ_1 : zMem) : Option (Int × zMem) :=
  (f_X10_edgeRank_L25 x1) zfu 0 0 μ_1
def f_X10_edgeRank_L4 (g23 : zMem → Option (Int × zMem)) : Nat → Int → zMem → Option (Int × zMem)
  | 0, _, _ => none
  | n + 1, x_28, μ_29 =>
    if x_28 < 32 then
      chk ((0 : Int) ≤ x_28 ∧ x_28 < 32) <|
      zlet (zup μ_29 120 x_28 (zz 0)) fun μ_30 =>
      zlet (zw (x_28 + 1)) fun x_31 =>
      (f_X10_edgeRank_L4 g23 n) x_31 μ_30
    else
      g23 μ_29
def f_X10_edgeRank (x1 : Int) (μ : zMem) : Option (Int × zMem) :=
  (f_X10_edgeRank_L4 (f_X10_edgeRank_K23 x1)) zfu 0 μ
set_option maxHeartbeats 4000000 in
set_option maxRecDepth 100000 in
theorem M_X10_edgeRank {l : Launch} {Ω : zO} (hI : zIm Ω) (μ : zMem) (x1 : Int) {r : Int} {μ' : zMem} (gx1 : Rg x1) (h : f_X10_edgeRank x1 μ = some (r, μ')) : XMet l yX10_edgeRank cX10_edgeRank 8 (some Jvm.ClassFile.FieldType.int) 0 Ω [zR Ω 101, zI x1] μ (some (zI r)) (Rg r) μ' := by
  refine XMet.ofI (by decide) (Nat.le_of_ble_eq_true rfl) ?_
  intro p e s m args below meth c ls Q C rt X hl
  have C : zC p s m args c cX10_edgeRank RX10 8 Ω := C
  have hl : lv_has ls 8 [(0, zR Ω 101), (1, zI x1)] := hl
  unfold f_X10_edgeRank at h
  skip
  refine z_iconst C dX10_edgeRank_0 ?_
  refine lv_istore_n C.1 C.2.1 (lv' := [(2, zI 0), (0, zR Ω 101), (1, zI x1)]) dX10_edgeRank_1 rfl hl (by decide) rfl (fun ls hl => ?_)
  refine z_iconst C dX10_edgeRank_2 ?_
  refine lv_istore_n C.1 C.2.1 (lv' := [(3, zI 0), (2, zI 0), (0, zR Ω 101), (1, zI x1)]) dX10_edgeRank_3 rfl hl (by decide) rfl (fun ls hl => ?_)
  have K23 : ∀ (μ_1 : zMem) (H : Heap) (locs : List Loc) (ls : Array Slot), zX Ω μ_1 (zfree Ω) s.heap H locs → lv_has ls 8 [(0, zR Ω 101), (1, zI x1), (2, zI 0)] → (f_X10_edgeRank_K23 x1) μ_1 = some (r, μ') → W p l e (zrm 0) s m args below meth c H locs 0 0 Q (F0 m 23 ls []) := by
    intro μ_1 H locs ls  X hl h
    unfold f_X10_edgeRank_K23 at h
    refine z_iconst C dX10_edgeRank_23 ?_
    refine lv_istore_n C.1 C.2.1 (lv' := [(3, zI 0), (0, zR Ω 101), (1, zI x1), (2, zI 0)]) dX10_edgeRank_24 rfl hl (by decide) rfl (fun ls hl => ?_)
    have L25 : ∀ (n25 : Nat) (x_2 : Int) (x_3 : Int) (μ_4 : zMem) (H : Heap) (locs : List Loc) (ls : Array Slot), Rg x_2 → Rg x_3 → zX Ω μ_4 (zfree Ω) s.heap H locs → lv_has ls 8 [(0, zR Ω 101), (1, zI x1), (2, zI x_2), (3, zI x_3)] → (f_X10_edgeRank_L25 x1 n25 x_2 x_3 μ_4) = some (r, μ') → W p l e (zrm 0) s m args below meth c H locs 0 0 Q (F0 m 25 ls []) := by
      intro n25
      induction n25 with
      | zero =>
        intro x_2 x_3 μ_4 H locs ls _ _ _ _ h
        cases h
      | succ n25 ih25 =>
        intro x_2 x_3 μ_4 H locs ls gx_2 gx_3 X hl h
        unfold f_X10_edgeRank_L25 at h
        refine lv_iload_n C.1 C.2.1 dX10_edgeRank_25 rfl (lv_at hl 3 rfl) ?_
        refine lv_aload_n C.1 C.2.1 dX10_edgeRank_26 rfl (lv_at hl 0 rfl) ?_
        refine z_get C X zk10 (hI.1 101 (by decide)) rfl 0 (by decide) kw_1032 (zR Ω 102) (zfvF (off := 1) X.2.2.2 (hI.1 101 (by decide)) hI.2 rfl rfl (by decide)) dX10_edgeRank_27 ?_
        refine lv_iload_n C.1 C.2.1 dX10_edgeRank_30 rfl (lv_at hl 1 rfl) ?_
        obtain ⟨hc31, h⟩ := chk_some h
        have g_31 : Rg (μ_4 102 x1) := zrg1 X.2.2.2 (hI.1 102 (by decide)) rfl
        refine z_iald C X (hI.1 102 (by decide)) rfl hc31 dX10_edgeRank_31 ?_
        refine z_icmpge C gx_3 g_31 (tgt := 158) dX10_edgeRank_32 (by decide) (fun hc32 => ?_) (fun hc32 => ?_)
        · rw [if_neg hc32] at h
          refine lv_iload_n C.1 C.2.1 dX10_edgeRank_158 rfl (lv_at hl 2 rfl) ?_
          obtain ⟨rfl, rfl⟩ := Prod.mk.inj (Option.some.inj h)
          exact rt X gx_2 dX10_edgeRank_159
        · rw [if_pos hc32] at h
          refine lv_aload_n C.1 C.2.1 dX10_edgeRank_35 rfl (lv_at hl 0 rfl) ?_
          refine z_get C X zk10 (hI.1 101 (by decide)) rfl 18 (by decide) kw_1050 (zR Ω 120) (zfvF (off := 19) X.2.2.2 (hI.1 101 (by decide)) hI.2 rfl rfl (by decide)) dX10_edgeRank_36 ?_
          refine lv_iload_n C.1 C.2.1 dX10_edgeRank_39 rfl (lv_at hl 3 rfl) ?_
          obtain ⟨hc40, h⟩ := chk_some h
          have g_40 : 0 ≤ (μ_4 120 x_3) ∧ (μ_4 120 x_3) ≤ 1 := zrg3 X.2.2.2 (hI.1 120 (by decide)) rfl
          refine z_zald C X (hI.1 120 (by decide)) rfl hc40 dX10_edgeRank_40 ?_
          refine z_ifne C (rgz g_40) (tgt := 152) dX10_edgeRank_41 (by decide) (fun hc41 => ?_) (fun hc41 => ?_)
          · rw [if_neg hc41] at h
            refine zlet_elim h (fun x_5 ex_5 h => ?_)
            have gx_5 : Rg x_5 := by rw [ex_5]; exact Rg.w _
            refine z_iinc C ex_5 dX10_edgeRank_152 hl (k := 3) rfl (by decide) (lv' := [(3, zI x_5), (0, zR Ω 101), (1, zI x1), (2, zI x_2)]) rfl (fun ls hl => ?_)
            clear ex_5
            refine lv_goto (tgt := 25) C.1 C.2.1 dX10_edgeRank_155 (by decide) ?_
            exact ih25 x_2 x_5 μ_4 _ _ _ gx_2 gx_5 X (lv_sub hl [1, 2, 3, 0] rfl) h
          · rw [if_pos hc41] at h
            refine lv_aload_n C.1 C.2.1 dX10_edgeRank_44 rfl (lv_at hl 0 rfl) ?_
            refine z_get C X zk10 (hI.1 101 (by decide)) rfl 18 (by decide) kw_1050 (zR Ω 120) (zfvF (off := 19) X.2.2.2 (hI.1 101 (by decide)) hI.2 rfl rfl (by decide)) dX10_edgeRank_45 ?_
            refine lv_iload_n C.1 C.2.1 dX10_edgeRank_48 rfl (lv_at hl 3 rfl) ?_
            refine z_iconst C dX10_edgeRank_49 ?_
            obtain ⟨hc50, h⟩ := chk_some h
            refine zlet_elim h (fun μ_6 em h => ?_)
            refine z_zast C X (hI.1 120 (by decide)) rfl hc50 (zok3 rfl) em dX10_edgeRank_50 (fun H locs X => ?_)
            clear em
            refine z_iconst C dX10_edgeRank_51 ?_
            refine lv_istore C.1 C.2.1 (lv' := [(4, zI 1), (0, zR Ω 101), (1, zI x1), (2, zI x_2), (3, zI x_3)]) dX10_edgeRank_52 hl (by decide) rfl (fun ls hl => ?_)
            have K152 : ∀ (x_7 : Int) (μ_8 : zMem) (H : Heap) (locs : List Loc) (ls : Array Slot), Rg x_7 → zX Ω μ_8 (zfree Ω) s.heap H locs → lv_has ls 8 [(0, zR Ω 101), (1, zI x1), (2, zI x_7), (3, zI x_3)] → (f_X10_edgeRank_K152 x_3 (f_X10_edgeRank_L25 x1 n25)) x_7 μ_8 = some (r, μ') → W p l e (zrm 0) s m args below meth c H locs 0 0 Q (F0 m 152 ls []) := by
              intro x_7 μ_8 H locs ls gx_7 X hl h
              unfold f_X10_edgeRank_K152 at h
              refine zlet_elim h (fun x_9 ex_9 h => ?_)
              have gx_9 : Rg x_9 := by rw [ex_9]; exact Rg.w _
              refine z_iinc C ex_9 dX10_edgeRank_152 hl (k := 3) rfl (by decide) (lv' := [(3, zI x_9), (0, zR Ω 101), (1, zI x1), (2, zI x_7)]) rfl (fun ls hl => ?_)
              clear ex_9
              refine lv_goto (tgt := 25) C.1 C.2.1 dX10_edgeRank_155 (by decide) ?_
              exact ih25 x_7 x_9 μ_8 _ _ _ gx_7 gx_9 X (lv_sub hl [1, 2, 3, 0] rfl) h
            have L54 : ∀ (n54 : Nat) (x_10 : Int) (x_11 : Int) (μ_12 : zMem) (H : Heap) (locs : List Loc) (ls : Array Slot), Rg x_10 → Rg x_11 → zX Ω μ_12 (zfree Ω) s.heap H locs → lv_has ls 8 [(0, zR Ω 101), (1, zI x1), (2, zI x_10), (3, zI x_3), (4, zI x_11)] → (f_X10_edgeRank_L54 x1 (f_X10_edgeRank_K152 x_3 (f_X10_edgeRank_L25 x1 n25)) n54 x_10 x_11 μ_12) = some (r, μ') → W p l e (zrm 0) s m args below meth c H locs 0 0 Q (F0 m 54 ls []) := by
              intro n54
              induction n54 with
              | zero =>
                intro x_10 x_11 μ_12 H locs ls _ _ _ _ h
                cases h
              | succ n54 ih54 =>
                intro x_10 x_11 μ_12 H locs ls gx_10 gx_11 X hl h
                unfold f_X10_edgeRank_L54 at h
                refine lv_iload C.1 C.2.1 dX10_edgeRank_54 (lv_at hl 4 rfl) ?_
                refine z_ifle C gx_11 (tgt := 152) dX10_edgeRank_56 (by decide) (fun hc56 => ?_) (fun hc56 => ?_)
                · rw [if_pos hc56] at h
                  exact K152 x_10 μ_12 _ _ _ gx_10 X (lv_sub hl [0, 1, 2, 3] rfl) h
                · rw [if_neg hc56] at h
                  refine z_iconst C dX10_edgeRank_59 ?_
                  refine lv_istore C.1 C.2.1 (lv' := [(4, zI 0), (0, zR Ω 101), (1, zI x1), (2, zI x_10), (3, zI x_3)]) dX10_edgeRank_60 hl (by decide) rfl (fun ls hl => ?_)
                  refine z_iconst C dX10_edgeRank_62 ?_
                  refine lv_istore C.1 C.2.1 (lv' := [(5, zI 0), (4, zI 0), (0, zR Ω 101), (1, zI x1), (2, zI x_10), (3, zI x_3)]) dX10_edgeRank_63 hl (by decide) rfl (fun ls hl => ?_)
                  have K149 : ∀ (x_13 : Int) (x_14 : Int) (μ_15 : zMem) (H : Heap) (locs : List Loc) (ls : Array Slot), Rg x_13 → Rg x_14 → zX Ω μ_15 (zfree Ω) s.heap H locs → lv_has ls 8 [(0, zR Ω 101), (1, zI x1), (2, zI x_13), (3, zI x_3), (4, zI x_14)] → (f_X10_edgeRank_K149 (f_X10_edgeRank_L54 x1 (f_X10_edgeRank_K152 x_3 (f_X10_edgeRank_L25 x1 n25)) n54)) x_13 x_14 μ_15 = some (r, μ') → W p l e (zrm 0) s m args below meth c H locs 0 0 Q (F0 m 149 ls []) := by
                    intro x_13 x_14 μ_15 H locs ls gx_13 gx_14 X hl h
                    unfold f_X10_edgeRank_K149 at h
                    refine lv_goto (tgt := 54) C.1 C.2.1 dX10_edgeRank_149 (by decide) ?_
                    exact ih54 x_13 x_14 μ_15 _ _ _ gx_13 gx_14 X (lv_sub hl [0, 1, 2, 3, 4] rfl) h
                  have L65 : ∀ (n65 : Nat) (x_16 : Int) (x_17 : Int) (x_18 : Int) (μ_19 : zMem) (H : Heap) (locs : List Loc) (ls : Array Slot), Rg x_16 → Rg x_17 → Rg x_18 → zX Ω μ_19 (zfree Ω) s.heap H locs → lv_has ls 8 [(0, zR Ω 101), (1, zI x1), (2, zI x_16), (3, zI x_3), (4, zI x_17), (5, zI x_18)] → (f_X10_edgeRank_L65 x1 (f_X10_edgeRank_K149 (f_X10_edgeRank_L54 x1 (f_X10_edgeRank_K152 x_3 (f_X10_edgeRank_L25 x1 n25)) n54)) n65 x_16 x_17 x_18 μ_19) = some (r, μ') → W p l e (zrm 0) s m args below meth c H locs 0 0 Q (F0 m 65 ls []) := by
                    intro n65
                    induction n65 with
                    | zero =>
                      intro x_16 x_17 x_18 μ_19 H locs ls _ _ _ _ _ h
                      cases h
                    | succ n65 ih65 =>
                      intro x_16 x_17 x_18 μ_19 H locs ls gx_16 gx_17 gx_18 X hl h
                      unfold f_X10_edgeRank_L65 at h
                      refine lv_iload C.1 C.2.1 dX10_edgeRank_65 (lv_at hl 5 rfl) ?_
                      refine lv_aload_n C.1 C.2.1 dX10_edgeRank_67 rfl (lv_at hl 0 rfl) ?_
                      refine z_get C X zk10 (hI.1 101 (by decide)) rfl 1 (by decide) kw_1033 (zR Ω 103) (zfvF (off := 2) X.2.2.2 (hI.1 101 (by decide)) hI.2 rfl rfl (by decide)) dX10_edgeRank_68 ?_
                      refine lv_iload_n C.1 C.2.1 dX10_edgeRank_71 rfl (lv_at hl 1 rfl) ?_
                      obtain ⟨hc72, h⟩ := chk_some h
                      have g_72 : Rg (μ_19 103 x1) := zrg1 X.2.2.2 (hI.1 103 (by decide)) rfl
                      refine z_iald C X (hI.1 103 (by decide)) rfl hc72 dX10_edgeRank_72 ?_
                      refine z_icmpge C gx_18 g_72 (tgt := 149) dX10_edgeRank_73 (by decide) (fun hc73 => ?_) (fun hc73 => ?_)
                      · rw [if_neg hc73] at h
                        exact K149 x_16 x_17 μ_19 _ _ _ gx_16 gx_17 X (lv_sub hl [0, 1, 2, 3, 4] rfl) h
                      · rw [if_pos hc73] at h
                        refine lv_aload_n C.1 C.2.1 dX10_edgeRank_76 rfl (lv_at hl 0 rfl) ?_
                        refine z_get C X zk10 (hI.1 101 (by decide)) rfl 3 (by decide) kw_1035 (zR Ω 105) (zfvF (off := 4) X.2.2.2 (hI.1 101 (by decide)) hI.2 rfl rfl (by decide)) dX10_edgeRank_77 ?_
                        refine z_bipush C dX10_edgeRank_80 (by decide) ?_
                        refine lv_iload_n C.1 C.2.1 dX10_edgeRank_82 rfl (lv_at hl 1 rfl) ?_
                        refine z_imul C dX10_edgeRank_83 ?_
                        refine lv_iload C.1 C.2.1 dX10_edgeRank_84 (lv_at hl 5 rfl) ?_
                        refine z_iadd C dX10_edgeRank_86 ?_
                        obtain ⟨hc87, h⟩ := chk_some h
                        have g_87 : Rg (μ_19 105 (zw ((zw (48 * x1)) + x_18))) := zrg1 X.2.2.2 (hI.1 105 (by decide)) rfl
                        refine z_iald C X (hI.1 105 (by decide)) rfl hc87 dX10_edgeRank_87 ?_
                        refine zlet_elim h (fun x_20 ex_20 h => ?_)
                        have gx_20 : Rg x_20 := by rw [ex_20]; exact g_87
                        refine z_istore C ex_20 dX10_edgeRank_88 hl (by decide) (lv' := [(6, zI x_20), (0, zR Ω 101), (1, zI x1), (2, zI x_16), (3, zI x_3), (4, zI x_17), (5, zI x_18)]) rfl (fun ls hl => ?_)
                        clear ex_20
                        refine lv_aload_n C.1 C.2.1 dX10_edgeRank_90 rfl (lv_at hl 1 rfl) ?_
                        refine z_get C X zk10 (hI.1 101 (by decide)) rfl 4 (by decide) kw_1036 (zR Ω 106) (zfvF (off := 5) X.2.2.2 (hI.1 101 (by decide)) hI.2 rfl rfl (by decide)) dX10_edgeRank_91 ?_
                        refine z_bipush C dX10_edgeRank_94 (by decide) ?_
                        refine lv_iload_n C.1 C.2.1 dX10_edgeRank_96 rfl (lv_at hl 2 rfl) ?_
                        refine z_imul C dX10_edgeRank_97 ?_
                        refine lv_iload C.1 C.2.1 dX10_edgeRank_98 (lv_at hl 6 rfl) ?_
                        refine z_iadd C dX10_edgeRank_100 ?_
                        obtain ⟨hc101, h⟩ := chk_some h
                        have g_101 : Rg (μ_19 106 (zw ((zw (48 * x1)) + x_18))) := zrg1 X.2.2.2 (hI.1 106 (by decide)) rfl
                        refine z_iald C X (hI.1 106 (by decide)) rfl hc101 dX10_edgeRank_101 ?_
                        refine zlet_elim h (fun x_21 ex_21 h => ?_)
                        have gx_21 : Rg x_21 := by rw [ex_21]; exact g_101
                        refine z_istore C ex_21 dX10_edgeRank_102 hl (by decide) (lv' := [(7, zI x_21), (6, zI x_20), (0, zR Ω 101), (1, zI x1), (2, zI x_16), (3, zI x_3), (4, zI x_17), (5, zI x_18)]) rfl (fun ls hl => ?_)
                        clear ex_21
                        refine lv_aload_n C.1 C.2.1 dX10_edgeRank_104 rfl (lv_at hl 2 rfl) ?_
                        refine z_get C X zk10 (hI.1 101 (by decide)) rfl 18 (by decide) kw_1050 (zR Ω 120) (zfvF (off := 19) X.2.2.2 (hI.1 101 (by decide)) hI.2 rfl rfl (by decide)) dX10_edgeRank_105 ?_
                        refine lv_iload C.1 C.2.1 dX10_edgeRank_108 (lv_at hl 1 rfl) ?_
                        obtain ⟨hc110, h⟩ := chk_some h
                        have g_110 : 0 ≤ (μ_19 120 x_20) ∧ (μ_19 120 x_20) ≤ 1 := zrg3 X.2.2.2 (hI.1 120 (by decide)) rfl
                        refine z_zald C X (hI.1 120 (by decide)) rfl hc110 dX10_edgeRank_110 ?_
                        refine lv_aload_n C.1 C.2.1 dX10_edgeRank_111 rfl (lv_at hl 2 rfl) ?_
                        refine z_get C X zk10 (hI.1 101 (by decide)) rfl 18 (by decide) kw_1050 (zR Ω 120) (zfvF (off := 19) X.2.2.2 (hI.1 101 (by decide)) hI.2 rfl rfl (by decide)) dX10_edgeRank_112 ?_
                        refine lv_iload C.1 C.2.1 dX10_edgeRank_115 (lv_at hl 0 rfl) ?_
                        obtain ⟨hc117, h⟩ := chk_some h
                        have g_117 : 0 ≤ (μ_19 120 x_21) ∧ (μ_19 120 x_21) ≤ 1 := zrg3 X.2.2.2 (hI.1 120 (by decide)) rfl
                        refine z_zald C X (hI.1 120 (by decide)) rfl hc117 dX10_edgeRank_117 ?_
                        refine z_icmpeq C (rgz g_110) (rgz g_117) (tgt := 143) dX10_edgeRank_118 (by decide) (fun hc118 => ?_) (fun hc118 => ?_)
                        · rw [if_pos hc118] at h
                          refine zlet_elim h (fun x_22 ex_22 h => ?_)
                          have gx_22 : Rg x_22 := by rw [ex_22]; exact Rg.w _
                          refine z_iinc C ex_22 dX10_edgeRank_143 hl (k := 7) rfl (by decide) (lv' := [(5, zI x_22), (7, zI x_21), (6, zI x_20), (0, zR Ω 101), (1, zI x1), (2, zI x_16), (3, zI x_3), (4, zI x_17)]) rfl (fun ls hl => ?_)
                          clear ex_22
                          refine lv_goto (tgt := 65) C.1 C.2.1 dX10_edgeRank_146 (by decide) ?_
                          exact ih65 x_16 x_17 x_22 μ_19 _ _ _ gx_16 gx_17 gx_22 X (lv_sub hl [3, 4, 5, 6, 7, 0] rfl) h
                        · rw [if_neg hc118] at h
                          refine lv_aload_n C.1 C.2.1 dX10_edgeRank_121 rfl (lv_at hl 2 rfl) ?_
                          refine z_get C X zk10 (hI.1 101 (by decide)) rfl 18 (by decide) kw_1050 (zR Ω 120) (zfvF (off := 19) X.2.2.2 (hI.1 101 (by decide)) hI.2 rfl rfl (by decide)) dX10_edgeRank_122 ?_
                          refine lv_iload C.1 C.2.1 dX10_edgeRank_125 (lv_at hl 1 rfl) ?_
                          refine z_iconst C dX10_edgeRank_127 ?_
                          obtain ⟨hc128, h⟩ := chk_some h
                          refine zlet_elim h (fun μ_23 em h => ?_)
                          refine z_zast C X (hI.1 120 (by decide)) rfl hc128 (zok3 rfl) em dX10_edgeRank_128 (fun H locs X => ?_)
                          clear em
                          refine lv_aload_n C.1 C.2.1 dX10_edgeRank_129 rfl (lv_at hl 2 rfl) ?_
                          refine z_get C X zk10 (hI.1 101 (by decide)) rfl 18 (by decide) kw_1050 (zR Ω 120) (zfvF (off := 19) X.2.2.2 (hI.1 101 (by decide)) hI.2 rfl rfl (by decide)) dX10_edgeRank_130 ?_
                          refine lv_iload C.1 C.2.1 dX10_edgeRank_133 (lv_at hl 0 rfl) ?_
                          refine z_iconst C dX10_edgeRank_135 ?_
                          obtain ⟨hc136, h⟩ := chk_some h
                          refine zlet_elim h (fun μ_24 em h => ?_)
                          refine z_zast C X (hI.1 120 (by decide)) rfl hc136 (zok3 rfl) em dX10_edgeRank_136 (fun H locs X => ?_)
                          clear em
                          refine zlet_elim h (fun x_25 ex_25 h => ?_)
                          have gx_25 : Rg x_25 := by rw [ex_25]; exact Rg.w _
                          refine z_iinc C ex_25 dX10_edgeRank_137 hl (k := 6) rfl (by decide) (lv' := [(4, zI x_25), (7, zI x_21), (6, zI x_20), (0, zR Ω 101), (1, zI x1), (2, zI x_16), (3, zI x_3), (5, zI x_18)]) rfl (fun ls hl => ?_)
                          clear ex_25
                          refine zlet_elim h (fun x_26 ex_26 h => ?_)
                          have gx_26 : Rg x_26 := by rw [ex_26]; exact Rg.w _
                          refine z_iinc C ex_26 dX10_edgeRank_140 hl (k := 5) rfl (by decide) (lv' := [(2, zI x_26), (4, zI x_25), (7, zI x_21), (6, zI x_20), (0, zR Ω 101), (1, zI x1), (3, zI x_3), (5, zI x_18)]) rfl (fun ls hl => ?_)
                          clear ex_26
                          refine zlet_elim h (fun x_27 ex_27 h => ?_)
                          have gx_27 : Rg x_27 := by rw [ex_27]; exact Rg.w _
                          refine z_iinc C ex_27 dX10_edgeRank_143 hl (k := 7) rfl (by decide) (lv' := [(5, zI x_27), (2, zI x_26), (4, zI x_25), (7, zI x_21), (6, zI x_20), (0, zR Ω 101), (1, zI x1), (3, zI x_3)]) rfl (fun ls hl => ?_)
                          clear ex_27
                          refine lv_goto (tgt := 65) C.1 C.2.1 dX10_edgeRank_146 (by decide) ?_
                          exact ih65 x_26 x_25 x_27 μ_24 _ _ _ gx_26 gx_25 gx_27 X (lv_sub hl [5, 6, 1, 7, 2, 0] rfl) h
                  exact L65 zfu x_10 0 0 μ_12 _ _ _ gx_10 ⟨by decide, by decide⟩ ⟨by decide, by decide⟩ X (lv_sub hl [2, 3, 4, 5, 1, 0] rfl) h
            exact L54 zfu x_2 1 μ_6 _ _ _ gx_2 ⟨by decide, by decide⟩ X (lv_sub hl [1, 2, 3, 4, 0] rfl) h
    exact L25 zfu 0 0 μ_1 _ _ _ ⟨by decide, by decide⟩ ⟨by decide, by decide⟩ X (lv_sub hl [1, 2, 3, 0] rfl) h
  have L4 : ∀ (n4 : Nat) (x_28 : Int) (μ_29 : zMem) (H : Heap) (locs : List Loc) (ls : Array Slot), Rg x_28 → zX Ω μ_29 (zfree Ω) s.heap H locs → lv_has ls 8 [(0, zR Ω 101), (1, zI x1), (2, zI 0), (3, zI x_28)] → (f_X10_edgeRank_L4 (f_X10_edgeRank_K23 x1) n4 x_28 μ_29) = some (r, μ') → W p l e (zrm 0) s m args below meth c H locs 0 0 Q (F0 m 4 ls []) := by
    intro n4
    induction n4 with
    | zero =>
      intro x_28 μ_29 H locs ls _ _ _ h
      cases h
    | succ n4 ih4 =>
      intro x_28 μ_29 H locs ls gx_28 X hl h
      unfold f_X10_edgeRank_L4 at h
      refine lv_iload_n C.1 C.2.1 dX10_edgeRank_4 rfl (lv_at hl 3 rfl) ?_
      refine z_bipush C dX10_edgeRank_5 (by decide) ?_
      refine z_icmpge C gx_28 ⟨by decide, by decide⟩ (tgt := 23) dX10_edgeRank_7 (by decide) (fun hc7 => ?_) (fun hc7 => ?_)
      · rw [if_neg hc7] at h
        exact K23 μ_29 _ _ _ X (lv_sub hl [0, 1, 2] rfl) h
      · rw [if_pos hc7] at h
        refine lv_aload_n C.1 C.2.1 dX10_edgeRank_10 rfl (lv_at hl 0 rfl) ?_
        refine z_get C X zk10 (hI.1 101 (by decide)) rfl 18 (by decide) kw_1050 (zR Ω 120) (zfvF (off := 19) X.2.2.2 (hI.1 101 (by decide)) hI.2 rfl rfl (by decide)) dX10_edgeRank_11 ?_
        refine lv_iload_n C.1 C.2.1 dX10_edgeRank_14 rfl (lv_at hl 3 rfl) ?_
        refine z_iconst C dX10_edgeRank_15 ?_
        obtain ⟨hc16, h⟩ := chk_some h
        refine zlet_elim h (fun μ_30 em h => ?_)
        refine z_zast C X (hI.1 120 (by decide)) rfl hc16 (zok3 rfl) em dX10_edgeRank_16 (fun H locs X => ?_)
        clear em
        refine zlet_elim h (fun x_31 ex_31 h => ?_)
        have gx_31 : Rg x_31 := by rw [ex_31]; exact Rg.w _
        refine z_iinc C ex_31 dX10_edgeRank_17 hl (k := 3) rfl (by decide) (lv' := [(3, zI x_31), (0, zR Ω 101), (1, zI x1), (2, zI 0)]) rfl (fun ls hl => ?_)
        clear ex_31
        refine lv_goto (tgt := 4) C.1 C.2.1 dX10_edgeRank_20 (by decide) ?_
        exact ih4 x_31 μ_30 _ _ _ gx_31 X (lv_sub hl [1, 2, 3, 0] rfl) h
  exact L4 zfu 0 μ _ _ _ ⟨by decide, by decide⟩ X (lv_sub hl [2, 3, 1, 0] rfl) h
theorem zc_X10_edgeRank : zcal yX10_edgeRank cX10_edgeRank 8 (some Jvm.ClassFile.FieldType.int) RX10 1 := ⟨⟨kw_1338, kw_1337, kp_71, kw_12⟩, rfl, by decide, by decide, by decide +kernel⟩

def f_X10_gcd_L28 : Nat → Int → Int → Option Int
  | 0, _, _ => none
  | n + 1, x_3, x_4 =>
    if x_4 = 0 then
      some x_3
    else
      chk (x_4 ≠ 0) <|
      zlet ((Int.tmod x_3 x_4)) fun x_5 =>
      (f_X10_gcd_L28 n) x_4 x_5
def f_X10_gcd_J26 (x_1 : Int) (x_2 : Int) : Option Int :=
  (f_X10_gcd_L28) zfu x_1 x_2
def f_X10_gcd_J12 (x2 : Int) (x_1 : Int) : Option Int :=
  (f_X10_gcd_J26 x_1) (if x2 < 0 then (zl (-x2)) else x2)
def f_X10_gcd (x0 : Int) (x2 : Int) : Option Int :=
  (f_X10_gcd_J12 x2) (if x0 < 0 then (zl (-x0)) else x0)
set_option maxHeartbeats 4000000 in
set_option maxRecDepth 100000 in
theorem M_X10_gcd {l : Launch} {Ω : zO} (hI : zIm Ω) (μ : zMem) (x0 : Int) (x2 : Int) {r : Int} (gx0 : Rl x0) (gx2 : Rl x2) (h : f_X10_gcd x0 x2 = some r) : XMet l yX10_gcd cX10_gcd 10 (some Jvm.ClassFile.FieldType.long) 0 Ω [zJ x0, zJ x2] μ (some (zJ r)) (Rl r) μ := by
  refine XMet.ofJ (by decide) (Nat.le_of_ble_eq_true rfl) ?_
  intro p e s m args below meth c ls Q C rt X hl
  have C : zC p s m args c cX10_gcd RX10 10 Ω := C
  have hl : lv_has ls 10 [(0, zJ x0), (2, zJ x2)] := hl
  unfold f_X10_gcd at h
  skip
  refine lv_lload_n C.1 C.2.1 dX10_gcd_0 rfl (lv_at hl 0 rfl) ?_
  refine z_lconst C 0 rfl dX10_gcd_1 ?_
  have K12 : ∀ (x_1 : Int) (H : Heap) (locs : List Loc) (ls : Array Slot), Rl x_1 → zX Ω μ (zfree Ω) s.heap H locs → lv_has ls 10 [(2, zJ x2)] → (f_X10_gcd_J12 x2) x_1 = some r → W p l e (zrm 0) s m args below meth c H locs 0 0 Q (F0 m 12 ls [zJ x_1]) := by
    intro x_1 H locs ls gx_1 X hl h
    unfold f_X10_gcd_J12 at h
    refine lv_lstore C.1 C.2.1 (lv' := [(4, zJ x_1), (2, zJ x2)]) dX10_gcd_12 hl (by decide) rfl (fun ls hl => ?_)
    refine lv_lload_n C.1 C.2.1 dX10_gcd_14 rfl (lv_at hl 1 rfl) ?_
    refine z_lconst C 0 rfl dX10_gcd_15 ?_
    have K26 : ∀ (x_2 : Int) (H : Heap) (locs : List Loc) (ls : Array Slot), Rl x_2 → zX Ω μ (zfree Ω) s.heap H locs → lv_has ls 10 [(4, zJ x_1)] → (f_X10_gcd_J26 x_1) x_2 = some r → W p l e (zrm 0) s m args below meth c H locs 0 0 Q (F0 m 26 ls [zJ x_2]) := by
      intro x_2 H locs ls gx_2 X hl h
      unfold f_X10_gcd_J26 at h
      refine lv_lstore C.1 C.2.1 (lv' := [(6, zJ x_2), (4, zJ x_1)]) dX10_gcd_26 hl (by decide) rfl (fun ls hl => ?_)
      have L28 : ∀ (n28 : Nat) (x_3 : Int) (x_4 : Int) (H : Heap) (locs : List Loc) (ls : Array Slot), Rl x_3 → Rl x_4 → zX Ω μ (zfree Ω) s.heap H locs → lv_has ls 10 [(4, zJ x_3), (6, zJ x_4)] → (f_X10_gcd_L28 n28 x_3 x_4) = some r → W p l e (zrm 0) s m args below meth c H locs 0 0 Q (F0 m 28 ls []) := by
        intro n28
        induction n28 with
        | zero =>
          intro x_3 x_4 H locs ls _ _ _ _ h
          cases h
        | succ n28 ih28 =>
          intro x_3 x_4 H locs ls gx_3 gx_4 X hl h
          unfold f_X10_gcd_L28 at h
          refine lv_lload C.1 C.2.1 dX10_gcd_28 (lv_at hl 1 rfl) ?_
          refine z_lconst C 0 rfl dX10_gcd_30 ?_
          refine z_leq C gx_4 ⟨by decide, by decide⟩ (tgt := 53) dX10_gcd_31 dX10_gcd_32 (by decide) (fun hc31 => ?_) (fun hc31 => ?_)
          · rw [if_pos hc31] at h
            refine lv_lload C.1 C.2.1 dX10_gcd_53 (lv_at hl 0 rfl) ?_
            obtain rfl := Option.some.inj h
            exact rt X gx_3 dX10_gcd_55
          · rw [if_neg hc31] at h
            refine lv_lload C.1 C.2.1 dX10_gcd_35 (lv_at hl 0 rfl) ?_
            refine lv_lload C.1 C.2.1 dX10_gcd_37 (lv_at hl 1 rfl) ?_
            obtain ⟨hc39, h⟩ := chk_some h
            refine z_lrem C gx_3 gx_4 hc39 dX10_gcd_39 ?_
            refine zlet_elim h (fun x_5 ex_5 h => ?_)
            have gx_5 : Rl x_5 := by rw [ex_5]; exact (Rl.rem gx_3 gx_4)
            refine z_lstore C ex_5 dX10_gcd_40 hl (by decide) (lv' := [(8, zJ x_5), (4, zJ x_3), (6, zJ x_4)]) rfl (fun ls hl => ?_)
            clear ex_5
            refine lv_lload C.1 C.2.1 dX10_gcd_42 (lv_at hl 2 rfl) ?_
            refine lv_lstore C.1 C.2.1 (lv' := [(4, zJ x_4), (8, zJ x_5), (6, zJ x_4)]) dX10_gcd_44 hl (by decide) rfl (fun ls hl => ?_)
            refine lv_lload C.1 C.2.1 dX10_gcd_46 (lv_at hl 1 rfl) ?_
            refine lv_lstore C.1 C.2.1 (lv' := [(6, zJ x_5), (4, zJ x_4), (8, zJ x_5)]) dX10_gcd_48 hl (by decide) rfl (fun ls hl => ?_)
            refine lv_goto (tgt := 28) C.1 C.2.1 dX10_gcd_50 (by decide) ?_
            exact ih28 x_4 x_5 _ _ _ gx_4 gx_5 X (lv_sub hl [1, 0] rfl) h
      exact L28 zfu x_1 x_2 _ _ _ gx_1 gx_2 X (lv_sub hl [1, 0] rfl) h
    refine z_lge C gx2 ⟨by decide, by decide⟩ (tgt := 25) dX10_gcd_16 dX10_gcd_17 (by decide) (fun hc16 => ?_) (fun hc16 => ?_)
    · rw [if_neg hc16] at h
      refine lv_lload_n C.1 C.2.1 dX10_gcd_25 rfl (lv_at hl 1 rfl) ?_
      exact K26 x2 _ _ _ gx2 X (lv_sub hl [0] rfl) h
    · rw [if_pos hc16] at h
      refine lv_lload_n C.1 C.2.1 dX10_gcd_20 rfl (lv_at hl 1 rfl) ?_
      refine z_lneg C dX10_gcd_21 ?_
      refine lv_goto (tgt := 26) C.1 C.2.1 dX10_gcd_22 (by decide) ?_
      exact K26 (zl (-x2)) _ _ _ (Rl.w _) X (lv_sub hl [0] rfl) h
  refine z_lge C gx0 ⟨by decide, by decide⟩ (tgt := 11) dX10_gcd_2 dX10_gcd_3 (by decide) (fun hc2 => ?_) (fun hc2 => ?_)
  · rw [if_neg hc2] at h
    refine lv_lload_n C.1 C.2.1 dX10_gcd_11 rfl (lv_at hl 0 rfl) ?_
    exact K12 x0 _ _ _ gx0 X (lv_sub hl [1] rfl) h
  · rw [if_pos hc2] at h
    refine lv_lload_n C.1 C.2.1 dX10_gcd_6 rfl (lv_at hl 0 rfl) ?_
    refine z_lneg C dX10_gcd_7 ?_
    refine lv_goto (tgt := 12) C.1 C.2.1 dX10_gcd_8 (by decide) ?_
    exact K12 (zl (-x0)) _ _ _ (Rl.w _) X (lv_sub hl [1] rfl) h
theorem zc_X10_gcd : zcas yX10_gcd cX10_gcd 10 (some Jvm.ClassFile.FieldType.long) 2 := ⟨⟨kw_1357, kw_1356, kw_12⟩, by decide, by decide, by decide +kernel⟩

def f_X10_worthOf_J80 (x_1 : Int) (x_2 : Int) (x_3 : Int) (g9 : Int → Int → Int → Option Int) (x_6 : Int) : Option Int :=
  zlet ((zl (x_1 + x_6))) fun x_7 =>
  zlet (zw (x_2 + 1)) fun x_8 =>
  zlet (zw (x_3 + 1)) fun x_9 =>
  g9 x_7 x_8 x_9
def f_X10_worthOf_L9 (x1 : Int) (x2 : Int) (x3 : Int) (x4 : Int) (μ : zMem) : Nat → Int → Int → Int → Option Int
  | 0, _, _, _ => none
  | n + 1, x_1, x_2, x_3 =>
    if x_3 < x4 then
      if (zand (zshr x3 x_3) 1) = 1 then
        chk ((0 : Int) ≤ (zw ((zw (48 * x1)) + x_3)) ∧ (zw ((zw (48 * x1)) + x_3)) < 2304) <|
        chk ((0 : Int) ≤ (zw ((zw (4096 * x2)) + (zand x3 (zxor (zshl 1 x_3) (-1))))) ∧ (zw ((zw (4096 * x2)) + (zand x3 (zxor (zshl 1 x_3) (-1))))) < 36864) <|
        zlet ((zl ((μ 124 (zw ((zw (48 * x1)) + x_3))) * (μ 126 (zw ((zw (4096 * x2)) + (zand x3 (zxor (zshl 1 x_3) (-1))))))))) fun x_5 =>
        (f_X10_worthOf_J80 x_1 x_2 x_3 (f_X10_worthOf_L9 x1 x2 x3 x4 μ n)) (if (Int.tmod (zw (x2 + x_2)) 2) = 0 then x_5 else (zl (-x_5)))
      else
        zlet (zw (x_3 + 1)) fun x_4 =>
        (f_X10_worthOf_L9 x1 x2 x3 x4 μ n) x_1 x_2 x_4
    else
      some x_1
def f_X10_worthOf (x1 : Int) (x2 : Int) (x3 : Int) (x4 : Int) (μ : zMem) : Option Int :=
  (f_X10_worthOf_L9 x1 x2 x3 x4 μ) zfu 0 0 0
set_option maxHeartbeats 4000000 in
set_option maxRecDepth 100000 in
theorem M_X10_worthOf {l : Launch} {Ω : zO} (hI : zIm Ω) (μ : zMem) (x1 : Int) (x2 : Int) (x3 : Int) (x4 : Int) {r : Int} (gx1 : Rg x1) (gx2 : Rg x2) (gx3 : Rg x3) (gx4 : Rg x4) (h : f_X10_worthOf x1 x2 x3 x4 μ = some r) : XMet l yX10_worthOf cX10_worthOf 11 (some Jvm.ClassFile.FieldType.long) 0 Ω [zR Ω 101, zI x1, zI x2, zI x3, zI x4] μ (some (zJ r)) (Rl r) μ := by
  refine XMet.ofJ (by decide) (Nat.le_of_ble_eq_true rfl) ?_
  intro p e s m args below meth c ls Q C rt X hl
  have C : zC p s m args c cX10_worthOf RX10 11 Ω := C
  have hl : lv_has ls 11 [(0, zR Ω 101), (1, zI x1), (2, zI x2), (3, zI x3), (4, zI x4)] := hl
  unfold f_X10_worthOf at h
  skip
  refine z_lconst C 0 rfl dX10_worthOf_0 ?_
  refine lv_lstore C.1 C.2.1 (lv' := [(5, zJ 0), (0, zR Ω 101), (1, zI x1), (2, zI x2), (3, zI x3), (4, zI x4)]) dX10_worthOf_1 hl (by decide) rfl (fun ls hl => ?_)
  refine z_iconst C dX10_worthOf_3 ?_
  refine lv_istore C.1 C.2.1 (lv' := [(7, zI 0), (5, zJ 0), (0, zR Ω 101), (1, zI x1), (2, zI x2), (3, zI x3), (4, zI x4)]) dX10_worthOf_4 hl (by decide) rfl (fun ls hl => ?_)
  refine z_iconst C dX10_worthOf_6 ?_
  refine lv_istore C.1 C.2.1 (lv' := [(8, zI 0), (7, zI 0), (5, zJ 0), (0, zR Ω 101), (1, zI x1), (2, zI x2), (3, zI x3), (4, zI x4)]) dX10_worthOf_7 hl (by decide) rfl (fun ls hl => ?_)
  have L9 : ∀ (n9 : Nat) (x_1 : Int) (x_2 : Int) (x_3 : Int) (H : Heap) (locs : List Loc) (ls : Array Slot), Rl x_1 → Rg x_2 → Rg x_3 → zX Ω μ (zfree Ω) s.heap H locs → lv_has ls 11 [(0, zR Ω 101), (1, zI x1), (2, zI x2), (3, zI x3), (4, zI x4), (5, zJ x_1), (7, zI x_2), (8, zI x_3)] → (f_X10_worthOf_L9 x1 x2 x3 x4 μ n9 x_1 x_2 x_3) = some r → W p l e (zrm 0) s m args below meth c H locs 0 0 Q (F0 m 9 ls []) := by
    intro n9
    induction n9 with
    | zero =>
      intro x_1 x_2 x_3 H locs ls _ _ _ _ _ h
      cases h
    | succ n9 ih9 =>
      intro x_1 x_2 x_3 H locs ls gx_1 gx_2 gx_3 X hl h
      unfold f_X10_worthOf_L9 at h
      refine lv_iload C.1 C.2.1 dX10_worthOf_9 (lv_at hl 7 rfl) ?_
      refine lv_iload C.1 C.2.1 dX10_worthOf_11 (lv_at hl 4 rfl) ?_
      refine z_icmpge C gx_3 gx4 (tgt := 92) dX10_worthOf_13 (by decide) (fun hc13 => ?_) (fun hc13 => ?_)
      · rw [if_neg hc13] at h
        refine lv_lload C.1 C.2.1 dX10_worthOf_92 (lv_at hl 5 rfl) ?_
        obtain rfl := Option.some.inj h
        exact rt X gx_1 dX10_worthOf_94
      · rw [if_pos hc13] at h
        refine lv_iload_n C.1 C.2.1 dX10_worthOf_16 rfl (lv_at hl 3 rfl) ?_
        refine lv_iload C.1 C.2.1 dX10_worthOf_17 (lv_at hl 7 rfl) ?_
        refine z_ishr C dX10_worthOf_19 ?_
        refine z_iconst C dX10_worthOf_20 ?_
        refine z_iand C dX10_worthOf_21 ?_
        refine z_iconst C dX10_worthOf_22 ?_
        refine z_icmpne C (Rg.t _) ⟨by decide, by decide⟩ (tgt := 86) dX10_worthOf_23 (by decide) (fun hc23 => ?_) (fun hc23 => ?_)
        · rw [if_neg hc23] at h
          refine zlet_elim h (fun x_4 ex_4 h => ?_)
          have gx_4 : Rg x_4 := by rw [ex_4]; exact Rg.w _
          refine z_iinc C ex_4 dX10_worthOf_86 hl (k := 7) rfl (by decide) (lv' := [(8, zI x_4), (0, zR Ω 101), (1, zI x1), (2, zI x2), (3, zI x3), (4, zI x4), (5, zJ x_1), (7, zI x_2)]) rfl (fun ls hl => ?_)
          clear ex_4
          refine lv_goto (tgt := 9) C.1 C.2.1 dX10_worthOf_89 (by decide) ?_
          exact ih9 x_1 x_2 x_4 _ _ _ gx_1 gx_2 gx_4 X (lv_sub hl [1, 2, 3, 4, 5, 6, 7, 0] rfl) h
        · rw [if_pos hc23] at h
          refine lv_aload_n C.1 C.2.1 dX10_worthOf_26 rfl (lv_at hl 0 rfl) ?_
          refine z_get C X zk10 (hI.1 101 (by decide)) rfl 22 (by decide) kw_1054 (zR Ω 124) (zfvF (off := 23) X.2.2.2 (hI.1 101 (by decide)) hI.2 rfl rfl (by decide)) dX10_worthOf_27 ?_
          refine z_bipush C dX10_worthOf_30 (by decide) ?_
          refine lv_iload_n C.1 C.2.1 dX10_worthOf_32 rfl (lv_at hl 1 rfl) ?_
          refine z_imul C dX10_worthOf_33 ?_
          refine lv_iload C.1 C.2.1 dX10_worthOf_34 (lv_at hl 7 rfl) ?_
          refine z_iadd C dX10_worthOf_36 ?_
          obtain ⟨hc37, h⟩ := chk_some h
          have g_37 : Rg (μ 124 (zw ((zw (48 * x1)) + x_3))) := zrg1 X.2.2.2 (hI.1 124 (by decide)) rfl
          refine z_iald C X (hI.1 124 (by decide)) rfl hc37 dX10_worthOf_37 ?_
          refine z_i2l C g_37 dX10_worthOf_38 ?_
          refine lv_aload_n C.1 C.2.1 dX10_worthOf_39 rfl (lv_at hl 0 rfl) ?_
          refine z_get C X zk10 (hI.1 101 (by decide)) rfl 24 (by decide) kw_1056 (zR Ω 126) (zfvF (off := 25) X.2.2.2 (hI.1 101 (by decide)) hI.2 rfl rfl (by decide)) dX10_worthOf_40 ?_
          refine z_sipush C dX10_worthOf_43 (by decide) ?_
          refine lv_iload_n C.1 C.2.1 dX10_worthOf_46 rfl (lv_at hl 2 rfl) ?_
          refine z_imul C dX10_worthOf_47 ?_
          refine lv_iload_n C.1 C.2.1 dX10_worthOf_48 rfl (lv_at hl 3 rfl) ?_
          refine z_iconst C dX10_worthOf_49 ?_
          refine lv_iload C.1 C.2.1 dX10_worthOf_50 (lv_at hl 7 rfl) ?_
          refine z_ishl C dX10_worthOf_52 ?_
          refine z_iconst C dX10_worthOf_53 ?_
          refine z_ixor C dX10_worthOf_54 ?_
          refine z_iand C dX10_worthOf_55 ?_
          refine z_iadd C dX10_worthOf_56 ?_
          obtain ⟨hc57, h⟩ := chk_some h
          have g_57 : Rl (μ 126 (zw ((zw (4096 * x2)) + (zand x3 (zxor (zshl 1 x_3) (-1)))))) := zrg2 X.2.2.2 (hI.1 126 (by decide)) rfl
          refine z_lald C X (hI.1 126 (by decide)) rfl hc57 dX10_worthOf_57 ?_
          refine z_lmul C dX10_worthOf_58 ?_
          refine zlet_elim h (fun x_5 ex_5 h => ?_)
          have gx_5 : Rl x_5 := by rw [ex_5]; exact (Rl.w _)
          refine z_lstore C ex_5 dX10_worthOf_59 hl (by decide) (lv' := [(9, zJ x_5), (0, zR Ω 101), (1, zI x1), (2, zI x2), (3, zI x3), (4, zI x4), (5, zJ x_1), (7, zI x_2), (8, zI x_3)]) rfl (fun ls hl => ?_)
          clear ex_5
          refine lv_lload C.1 C.2.1 dX10_worthOf_61 (lv_at hl 6 rfl) ?_
          refine lv_iload_n C.1 C.2.1 dX10_worthOf_63 rfl (lv_at hl 3 rfl) ?_
          refine lv_iload C.1 C.2.1 dX10_worthOf_64 (lv_at hl 7 rfl) ?_
          refine z_iadd C dX10_worthOf_66 ?_
          refine z_iconst C dX10_worthOf_67 ?_
          refine z_irem C (Rg.w _) ⟨by decide, by decide⟩ (by decide) dX10_worthOf_68 ?_
          have K80 : ∀ (x_6 : Int) (H : Heap) (locs : List Loc) (ls : Array Slot), Rl x_6 → zX Ω μ (zfree Ω) s.heap H locs → lv_has ls 11 [(0, zR Ω 101), (1, zI x1), (2, zI x2), (3, zI x3), (4, zI x4), (7, zI x_2), (8, zI x_3)] → (f_X10_worthOf_J80 x_1 x_2 x_3 (f_X10_worthOf_L9 x1 x2 x3 x4 μ n9)) x_6 = some r → W p l e (zrm 0) s m args below meth c H locs 0 0 Q (F0 m 80 ls [zJ x_6, zJ x_1]) := by
            intro x_6 H locs ls gx_6 X hl h
            unfold f_X10_worthOf_J80 at h
            refine z_ladd C dX10_worthOf_80 ?_
            refine zlet_elim h (fun x_7 ex_7 h => ?_)
            have gx_7 : Rl x_7 := by rw [ex_7]; exact (Rl.w _)
            refine z_lstore C ex_7 dX10_worthOf_81 hl (by decide) (lv' := [(5, zJ x_7), (0, zR Ω 101), (1, zI x1), (2, zI x2), (3, zI x3), (4, zI x4), (7, zI x_2), (8, zI x_3)]) rfl (fun ls hl => ?_)
            clear ex_7
            refine zlet_elim h (fun x_8 ex_8 h => ?_)
            have gx_8 : Rg x_8 := by rw [ex_8]; exact Rg.w _
            refine z_iinc C ex_8 dX10_worthOf_83 hl (k := 6) rfl (by decide) (lv' := [(7, zI x_8), (5, zJ x_7), (0, zR Ω 101), (1, zI x1), (2, zI x2), (3, zI x3), (4, zI x4), (8, zI x_3)]) rfl (fun ls hl => ?_)
            clear ex_8
            refine zlet_elim h (fun x_9 ex_9 h => ?_)
            have gx_9 : Rg x_9 := by rw [ex_9]; exact Rg.w _
            refine z_iinc C ex_9 dX10_worthOf_86 hl (k := 7) rfl (by decide) (lv' := [(8, zI x_9), (7, zI x_8), (5, zJ x_7), (0, zR Ω 101), (1, zI x1), (2, zI x2), (3, zI x3), (4, zI x4)]) rfl (fun ls hl => ?_)
            clear ex_9
            refine lv_goto (tgt := 9) C.1 C.2.1 dX10_worthOf_89 (by decide) ?_
            exact ih9 x_7 x_8 x_9 _ _ _ gx_7 gx_8 gx_9 X (lv_sub hl [3, 4, 5, 6, 7, 2, 1, 0] rfl) h
          refine z_ifne C (Rg.rem (Rg.w _) ⟨by decide, by decide⟩) (tgt := 77) dX10_worthOf_69 (by decide) (fun hc69 => ?_) (fun hc69 => ?_)
          · rw [if_neg hc69] at h
            refine lv_lload C.1 C.2.1 dX10_worthOf_77 (lv_at hl 0 rfl) ?_
            refine z_lneg C dX10_worthOf_79 ?_
            exact K80 (zl (-x_5)) _ _ _ (Rl.w _) X (lv_sub hl [1, 2, 3, 4, 5, 7, 8] rfl) h
          · rw [if_pos hc69] at h
            refine lv_lload C.1 C.2.1 dX10_worthOf_72 (lv_at hl 0 rfl) ?_
            refine lv_goto (tgt := 80) C.1 C.2.1 dX10_worthOf_74 (by decide) ?_
            exact K80 x_5 _ _ _ gx_5 X (lv_sub hl [1, 2, 3, 4, 5, 7, 8] rfl) h
  exact L9 zfu 0 0 0 _ _ _ ⟨by decide, by decide⟩ ⟨by decide, by decide⟩ ⟨by decide, by decide⟩ X (lv_sub hl [3, 4, 5, 6, 7, 2, 1, 0] rfl) h
theorem zc_X10_worthOf : zcal yX10_worthOf cX10_worthOf 11 (some Jvm.ClassFile.FieldType.long) RX10 4 := ⟨⟨kw_1354, kw_1353, kp_75, kw_12⟩, rfl, by decide, by decide, by decide +kernel⟩

def f_X10_goRows_K113 (x1 : Int) (x2 : Int) (x3 : Int) (gself : Int → Int → Int → zMem → Option zMem) (μ_3 : zMem) : Option zMem :=
  bnd (gself x1 (zw (x2 + 1)) (zw (x3 + 1)) μ_3) fun μ_4 =>
  some μ_4
def f_X10_goRows_L33 (x1 : Int) (x2 : Int) (x3 : Int) (x_2 : Int) (g113 : zMem → Option zMem) : Nat → Int → zMem → Option zMem
  | 0, _, _ => none
  | n + 1, x_5, μ_6 =>
    if x_5 < x_2 then
      chk ((0 : Int) ≤ x_5 ∧ x_5 < 4096) <|
      if (μ_6 127 x_5) = (zw (x3 + 1)) then
        chk ((0 : Int) ≤ x1 ∧ x1 < 3) <|
        bnd (f_X10_worthOf x2 x3 x_5 (μ_6 103 x1) μ_6) fun x_8 =>
        chk ((0 : Int) ≤ (zw ((zw (4096 * (zw (x3 + 1)))) + x_5)) ∧ (zw ((zw (4096 * (zw (x3 + 1)))) + x_5)) < 36864) <|
        zlet (zup μ_6 126 (zw ((zw (4096 * (zw (x3 + 1)))) + x_5)) x_8) fun μ_9 =>
        chk ((0 : Int) ≤ (zw (x3 + 1)) ∧ (zw (x3 + 1)) < 9) <|
        bnd (f_X10_gcd (μ_9 125 (zw (x3 + 1))) x_8) fun x_10 =>
        chk ((0 : Int) ≤ (zw (x3 + 1)) ∧ (zw (x3 + 1)) < 9) <|
        zlet (zup μ_9 125 (zw (x3 + 1)) x_10) fun μ_11 =>
        zlet (zw (x_5 + 1)) fun x_12 =>
        (f_X10_goRows_L33 x1 x2 x3 x_2 g113 n) x_12 μ_11
      else
        zlet (zw (x_5 + 1)) fun x_7 =>
        (f_X10_goRows_L33 x1 x2 x3 x_2 g113 n) x_7 μ_6
    else
      g113 μ_6
def f_X10_goRows : Nat → Int → Int → Int → zMem → Option zMem
  | 0, _, _, _, _ => none
  | n + 1, x1, x2, x3, μ =>
    chk ((0 : Int) ≤ x1 ∧ x1 < 3) <|
    if x2 = (μ 104 x1) then
      some μ
    else
      bnd ((f_X10_goRows n) x1 (zw (x2 + 1)) x3 μ) fun μ_1 =>
      chk ((0 : Int) ≤ x1 ∧ x1 < 3) <|
      zlet ((zshl 1 (μ_1 103 x1))) fun x_2 =>
      (f_X10_goRows_L33 x1 x2 x3 x_2 (f_X10_goRows_K113 x1 x2 x3 (f_X10_goRows n))) zfu 0 μ_1
theorem zc_X10_goRows : zcal yX10_goRows cX10_goRows 8 none RX10 3 := ⟨⟨kw_1350, kw_1349, kp_74, kw_12⟩, rfl, by decide, by decide, by decide +kernel⟩
set_option maxHeartbeats 4000000 in
set_option maxRecDepth 100000 in
theorem M_X10_goRows {l : Launch} {Ω : zO} (hI : zIm Ω) : ∀ (nS : Nat) (μ : zMem) (x1 : Int) (x2 : Int) (x3 : Int) {μ' : zMem} (gx1 : Rg x1) (gx2 : Rg x2) (gx3 : Rg x3), f_X10_goRows nS x1 x2 x3 μ = some μ' → XMet l yX10_goRows cX10_goRows 8 none (nS + 1) Ω [zR Ω 101, zI x1, zI x2, zI x3] μ none True μ' := by
  intro nS
  induction nS with
  | zero =>
    intro μ x1 x2 x3 μ' gx1 gx2 gx3 h
    cases h
  | succ nS ihs =>
    intro μ x1 x2 x3 μ' gx1 gx2 gx3 h
    refine XMet.ofV (by decide) (Nat.le_of_ble_eq_true rfl) ?_
    intro p e s m args below meth c ls Q C rt X hl
    have C : zC p s m args c cX10_goRows RX10 8 Ω := C
    have hl : lv_has ls 8 [(0, zR Ω 101), (1, zI x1), (2, zI x2), (3, zI x3)] := hl
    unfold f_X10_goRows at h
    skip
    refine lv_iload_n C.1 C.2.1 dX10_goRows_0 rfl (lv_at hl 2 rfl) ?_
    refine lv_aload_n C.1 C.2.1 dX10_goRows_1 rfl (lv_at hl 0 rfl) ?_
    refine z_get C X zk10 (hI.1 101 (by decide)) rfl 2 (by decide) kw_1034 (zR Ω 104) (zfvF (off := 3) X.2.2.2 (hI.1 101 (by decide)) hI.2 rfl rfl (by decide)) dX10_goRows_2 ?_
    refine lv_iload_n C.1 C.2.1 dX10_goRows_5 rfl (lv_at hl 1 rfl) ?_
    obtain ⟨hc6, h⟩ := chk_some h
    have g_6 : Rg (μ 104 x1) := zrg1 X.2.2.2 (hI.1 104 (by decide)) rfl
    refine z_iald C X (hI.1 104 (by decide)) rfl hc6 dX10_goRows_6 ?_
    refine z_icmpne C gx2 g_6 (tgt := 11) dX10_goRows_7 (by decide) (fun hc7 => ?_) (fun hc7 => ?_)
    · rw [if_neg hc7] at h
      refine lv_aload_n C.1 C.2.1 dX10_goRows_11 rfl (lv_at hl 0 rfl) ?_
      refine lv_iload_n C.1 C.2.1 dX10_goRows_12 rfl (lv_at hl 1 rfl) ?_
      refine lv_iload_n C.1 C.2.1 dX10_goRows_13 rfl (lv_at hl 2 rfl) ?_
      refine z_iconst C dX10_goRows_14 ?_
      refine z_iadd C dX10_goRows_15 ?_
      refine lv_iload_n C.1 C.2.1 dX10_goRows_16 rfl (lv_at hl 3 rfl) ?_
      obtain ⟨μ_1, hq17, h⟩ := bnd_some h
      refine z_callV0 C X zk10 (hI.1 101 (by decide)) rfl (As := [zI x1, zI (zw (x2 + 1)), zI x3]) (ihs μ x1 (zw (x2 + 1)) x3 gx1 (Rg.w _) gx3 hq17) zc_X10_goRows kw_1347 (zroom (by omega) (by decide)) rfl hl.1 rfl (Nat.le_of_ble_eq_true rfl) dX10_goRows_17 ⟨Nat.zero_le _, Nat.zero_le _⟩ (fun H locs g_17 X => ?_)
      refine z_iconst C dX10_goRows_20 ?_
      refine lv_aload_n C.1 C.2.1 dX10_goRows_21 rfl (lv_at hl 0 rfl) ?_
      refine z_get C X zk10 (hI.1 101 (by decide)) rfl 1 (by decide) kw_1033 (zR Ω 103) (zfvF (off := 2) X.2.2.2 (hI.1 101 (by decide)) hI.2 rfl rfl (by decide)) dX10_goRows_22 ?_
      refine lv_iload_n C.1 C.2.1 dX10_goRows_25 rfl (lv_at hl 1 rfl) ?_
      obtain ⟨hc26, h⟩ := chk_some h
      have g_26 : Rg (μ_1 103 x1) := zrg1 X.2.2.2 (hI.1 103 (by decide)) rfl
      refine z_iald C X (hI.1 103 (by decide)) rfl hc26 dX10_goRows_26 ?_
      refine z_ishl C dX10_goRows_27 ?_
      refine zlet_elim h (fun x_2 ex_2 h => ?_)
      have gx_2 : Rg x_2 := by rw [ex_2]; exact (Rg.t _)
      refine z_istore C ex_2 dX10_goRows_28 hl (by decide) (lv' := [(4, zI x_2), (0, zR Ω 101), (1, zI x1), (2, zI x2), (3, zI x3)]) rfl (fun ls hl => ?_)
      clear ex_2
      refine z_iconst C dX10_goRows_30 ?_
      refine lv_istore C.1 C.2.1 (lv' := [(5, zI 0), (4, zI x_2), (0, zR Ω 101), (1, zI x1), (2, zI x2), (3, zI x3)]) dX10_goRows_31 hl (by decide) rfl (fun ls hl => ?_)
      have K113 : ∀ (μ_3 : zMem) (H : Heap) (locs : List Loc) (ls : Array Slot), zX Ω μ_3 (zfree Ω) s.heap H locs → lv_has ls 8 [(0, zR Ω 101), (1, zI x1), (2, zI x2), (3, zI x3)] → (f_X10_goRows_K113 x1 x2 x3 (f_X10_goRows nS)) μ_3 = some μ' → W p l e (zrm (nS + 1 + 1)) s m args below meth c H locs 0 0 Q (F0 m 113 ls []) := by
        intro μ_3 H locs ls  X hl h
        unfold f_X10_goRows_K113 at h
        refine lv_aload_n C.1 C.2.1 dX10_goRows_113 rfl (lv_at hl 0 rfl) ?_
        refine lv_iload_n C.1 C.2.1 dX10_goRows_114 rfl (lv_at hl 1 rfl) ?_
        refine lv_iload_n C.1 C.2.1 dX10_goRows_115 rfl (lv_at hl 2 rfl) ?_
        refine z_iconst C dX10_goRows_116 ?_
        refine z_iadd C dX10_goRows_117 ?_
        refine lv_iload_n C.1 C.2.1 dX10_goRows_118 rfl (lv_at hl 3 rfl) ?_
        refine z_iconst C dX10_goRows_119 ?_
        refine z_iadd C dX10_goRows_120 ?_
        obtain ⟨μ_4, hq121, h⟩ := bnd_some h
        refine z_callV0 C X zk10 (hI.1 101 (by decide)) rfl (As := [zI x1, zI (zw (x2 + 1)), zI (zw (x3 + 1))]) (ihs μ_3 x1 (zw (x2 + 1)) (zw (x3 + 1)) gx1 (Rg.w _) (Rg.w _) hq121) zc_X10_goRows kw_1347 (zroom (by omega) (by decide)) rfl hl.1 rfl (Nat.le_of_ble_eq_true rfl) dX10_goRows_121 ⟨Nat.zero_le _, Nat.zero_le _⟩ (fun H locs g_121 X => ?_)
        obtain rfl := Option.some.inj h
        exact rt X dX10_goRows_124
      have L33 : ∀ (n33 : Nat) (x_5 : Int) (μ_6 : zMem) (H : Heap) (locs : List Loc) (ls : Array Slot), Rg x_5 → zX Ω μ_6 (zfree Ω) s.heap H locs → lv_has ls 8 [(0, zR Ω 101), (1, zI x1), (2, zI x2), (3, zI x3), (4, zI x_2), (5, zI x_5)] → (f_X10_goRows_L33 x1 x2 x3 x_2 (f_X10_goRows_K113 x1 x2 x3 (f_X10_goRows nS)) n33 x_5 μ_6) = some μ' → W p l e (zrm (nS + 1 + 1)) s m args below meth c H locs 0 0 Q (F0 m 33 ls []) := by
        intro n33
        induction n33 with
        | zero =>
          intro x_5 μ_6 H locs ls _ _ _ h
          cases h
        | succ n33 ih33 =>
          intro x_5 μ_6 H locs ls gx_5 X hl h
          unfold f_X10_goRows_L33 at h
          refine lv_iload C.1 C.2.1 dX10_goRows_33 (lv_at hl 5 rfl) ?_
          refine lv_iload C.1 C.2.1 dX10_goRows_35 (lv_at hl 4 rfl) ?_
          refine z_icmpge C gx_5 gx_2 (tgt := 113) dX10_goRows_37 (by decide) (fun hc37 => ?_) (fun hc37 => ?_)
          · rw [if_neg hc37] at h
            exact K113 μ_6 _ _ _ X (lv_sub hl [0, 1, 2, 3] rfl) h
          · rw [if_pos hc37] at h
            refine lv_aload_n C.1 C.2.1 dX10_goRows_40 rfl (lv_at hl 0 rfl) ?_
            refine z_get C X zk10 (hI.1 101 (by decide)) rfl 25 (by decide) kw_1057 (zR Ω 127) (zfvF (off := 26) X.2.2.2 (hI.1 101 (by decide)) hI.2 rfl rfl (by decide)) dX10_goRows_41 ?_
            refine lv_iload C.1 C.2.1 dX10_goRows_44 (lv_at hl 5 rfl) ?_
            obtain ⟨hc46, h⟩ := chk_some h
            have g_46 : Rg (μ_6 127 x_5) := zrg1 X.2.2.2 (hI.1 127 (by decide)) rfl
            refine z_iald C X (hI.1 127 (by decide)) rfl hc46 dX10_goRows_46 ?_
            refine lv_iload_n C.1 C.2.1 dX10_goRows_47 rfl (lv_at hl 3 rfl) ?_
            refine z_iconst C dX10_goRows_48 ?_
            refine z_iadd C dX10_goRows_49 ?_
            refine z_icmpne C g_46 (Rg.w _) (tgt := 107) dX10_goRows_50 (by decide) (fun hc50 => ?_) (fun hc50 => ?_)
            · rw [if_neg hc50] at h
              refine zlet_elim h (fun x_7 ex_7 h => ?_)
              have gx_7 : Rg x_7 := by rw [ex_7]; exact Rg.w _
              refine z_iinc C ex_7 dX10_goRows_107 hl (k := 5) rfl (by decide) (lv' := [(5, zI x_7), (0, zR Ω 101), (1, zI x1), (2, zI x2), (3, zI x3), (4, zI x_2)]) rfl (fun ls hl => ?_)
              clear ex_7
              refine lv_goto (tgt := 33) C.1 C.2.1 dX10_goRows_110 (by decide) ?_
              exact ih33 x_7 μ_6 _ _ _ gx_7 X (lv_sub hl [1, 2, 3, 4, 5, 0] rfl) h
            · rw [if_pos hc50] at h
              refine lv_aload_n C.1 C.2.1 dX10_goRows_53 rfl (lv_at hl 0 rfl) ?_
              refine lv_iload_n C.1 C.2.1 dX10_goRows_54 rfl (lv_at hl 2 rfl) ?_
              refine lv_iload_n C.1 C.2.1 dX10_goRows_55 rfl (lv_at hl 3 rfl) ?_
              refine lv_iload C.1 C.2.1 dX10_goRows_56 (lv_at hl 5 rfl) ?_
              refine lv_aload_n C.1 C.2.1 dX10_goRows_58 rfl (lv_at hl 0 rfl) ?_
              refine z_get C X zk10 (hI.1 101 (by decide)) rfl 1 (by decide) kw_1033 (zR Ω 103) (zfvF (off := 2) X.2.2.2 (hI.1 101 (by decide)) hI.2 rfl rfl (by decide)) dX10_goRows_59 ?_
              refine lv_iload_n C.1 C.2.1 dX10_goRows_62 rfl (lv_at hl 1 rfl) ?_
              obtain ⟨hc63, h⟩ := chk_some h
              have g_63 : Rg (μ_6 103 x1) := zrg1 X.2.2.2 (hI.1 103 (by decide)) rfl
              refine z_iald C X (hI.1 103 (by decide)) rfl hc63 dX10_goRows_63 ?_
              obtain ⟨x_8, hq64, h⟩ := bnd_some h
              refine z_callV1 C X zk10 (hI.1 101 (by decide)) rfl (As := [zI x2, zI x3, zI x_5, zI (μ_6 103 x1)]) (M_X10_worthOf hI μ_6 x2 x3 x_5 (μ_6 103 x1) gx2 gx3 gx_5 g_63 hq64) zc_X10_worthOf kw_1351 (zroom (by omega) (by decide)) rfl hl.1 rfl (Nat.le_of_ble_eq_true rfl) dX10_goRows_64 ⟨Nat.zero_le _, Nat.zero_le _⟩ (fun H locs g_64 X => ?_)
              refine lv_lstore C.1 C.2.1 (lv' := [(6, zJ x_8), (0, zR Ω 101), (1, zI x1), (2, zI x2), (3, zI x3), (4, zI x_2), (5, zI x_5)]) dX10_goRows_67 hl (by decide) rfl (fun ls hl => ?_)
              refine lv_aload_n C.1 C.2.1 dX10_goRows_69 rfl (lv_at hl 1 rfl) ?_
              refine z_get C X zk10 (hI.1 101 (by decide)) rfl 24 (by decide) kw_1056 (zR Ω 126) (zfvF (off := 25) X.2.2.2 (hI.1 101 (by decide)) hI.2 rfl rfl (by decide)) dX10_goRows_70 ?_
              refine z_sipush C dX10_goRows_73 (by decide) ?_
              refine lv_iload_n C.1 C.2.1 dX10_goRows_76 rfl (lv_at hl 4 rfl) ?_
              refine z_iconst C dX10_goRows_77 ?_
              refine z_iadd C dX10_goRows_78 ?_
              refine z_imul C dX10_goRows_79 ?_
              refine lv_iload C.1 C.2.1 dX10_goRows_80 (lv_at hl 6 rfl) ?_
              refine z_iadd C dX10_goRows_82 ?_
              refine lv_lload C.1 C.2.1 dX10_goRows_83 (lv_at hl 0 rfl) ?_
              obtain ⟨hc85, h⟩ := chk_some h
              refine zlet_elim h (fun μ_9 em h => ?_)
              refine z_last C X (hI.1 126 (by decide)) rfl hc85 (zok2 rfl g_64) em dX10_goRows_85 (fun H locs X => ?_)
              clear em
              refine lv_aload_n C.1 C.2.1 dX10_goRows_86 rfl (lv_at hl 1 rfl) ?_
              refine z_get C X zk10 (hI.1 101 (by decide)) rfl 23 (by decide) kw_1055 (zR Ω 125) (zfvF (off := 24) X.2.2.2 (hI.1 101 (by decide)) hI.2 rfl rfl (by decide)) dX10_goRows_87 ?_
              refine lv_iload_n C.1 C.2.1 dX10_goRows_90 rfl (lv_at hl 4 rfl) ?_
              refine z_iconst C dX10_goRows_91 ?_
              refine z_iadd C dX10_goRows_92 ?_
              refine lv_aload_n C.1 C.2.1 dX10_goRows_93 rfl (lv_at hl 1 rfl) ?_
              refine z_get C X zk10 (hI.1 101 (by decide)) rfl 23 (by decide) kw_1055 (zR Ω 125) (zfvF (off := 24) X.2.2.2 (hI.1 101 (by decide)) hI.2 rfl rfl (by decide)) dX10_goRows_94 ?_
              refine lv_iload_n C.1 C.2.1 dX10_goRows_97 rfl (lv_at hl 4 rfl) ?_
              refine z_iconst C dX10_goRows_98 ?_
              refine z_iadd C dX10_goRows_99 ?_
              obtain ⟨hc100, h⟩ := chk_some h
              have g_100 : Rl (μ_9 125 (zw (x3 + 1))) := zrg2 X.2.2.2 (hI.1 125 (by decide)) rfl
              refine z_lald C X (hI.1 125 (by decide)) rfl hc100 dX10_goRows_100 ?_
              refine lv_lload C.1 C.2.1 dX10_goRows_101 (lv_at hl 0 rfl) ?_
              obtain ⟨x_10, hq103, h⟩ := bnd_some h
              refine z_callS1 C X (As := [zJ (μ_9 125 (zw (x3 + 1))), zJ x_8]) (M_X10_gcd hI μ_9 (μ_9 125 (zw (x3 + 1))) x_8 g_100 g_64 hq103) zc_X10_gcd kw_1355 (zroom (by omega) (by decide)) rfl hl.1 rfl (Nat.le_of_ble_eq_true rfl) dX10_goRows_103 ⟨Nat.zero_le _, Nat.zero_le _⟩ (fun H locs g_103 X => ?_)
              obtain ⟨hc106, h⟩ := chk_some h
              refine zlet_elim h (fun μ_11 em h => ?_)
              refine z_last C X (hI.1 125 (by decide)) rfl hc106 (zok2 rfl g_103) em dX10_goRows_106 (fun H locs X => ?_)
              clear em
              refine zlet_elim h (fun x_12 ex_12 h => ?_)
              have gx_12 : Rg x_12 := by rw [ex_12]; exact Rg.w _
              refine z_iinc C ex_12 dX10_goRows_107 hl (k := 6) rfl (by decide) (lv' := [(5, zI x_12), (6, zJ x_8), (0, zR Ω 101), (1, zI x1), (2, zI x2), (3, zI x3), (4, zI x_2)]) rfl (fun ls hl => ?_)
              clear ex_12
              refine lv_goto (tgt := 33) C.1 C.2.1 dX10_goRows_110 (by decide) ?_
              exact ih33 x_12 μ_11 _ _ _ gx_12 X (lv_sub hl [2, 3, 4, 5, 6, 0] rfl) h
      exact L33 zfu 0 μ_1 _ _ _ ⟨by decide, by decide⟩ X (lv_sub hl [2, 3, 4, 5, 1, 0] rfl) h
    · rw [if_pos hc7] at h
      obtain rfl := Option.some.inj h
      exact rt X dX10_goRows_10

