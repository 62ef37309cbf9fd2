def f_X6_findNextLayer_L2 : Nat → Int → zMem → Option (Int × zMem)
  | 0, _, _ => none
  | n + 1, x_1, μ_2 =>
    if x_1 < 1000000 then
      bnd2 (f_X6_findNext 1 μ_2) fun x_3 μ_4 =>
      if x_3 = 0 then
        some (0, μ_4)
      else
        bnd (f_X6_isOne μ_4) fun x_5 =>
        if x_5 = 0 then
          zlet (zw (x_1 + 1)) fun x_6 =>
          (f_X6_findNextLayer_L2 n) x_6 μ_4
        else
          some (1, μ_4)
    else
      some (0, μ_2)
def f_X6_findNextLayer (μ : zMem) : Option (Int × zMem) :=
  (f_X6_findNextLayer_L2) zfu 0 μ
set_option maxHeartbeats 4000000 in
set_option maxRecDepth 100000 in
theorem M_X6_findNextLayer {l : Launch} {Ω : zO} (hI : zIc Ω) (μ : zMem) {r : Int} {μ' : zMem} (h : f_X6_findNextLayer μ = some (r, μ')) : XMet l yX6_findNextLayer cX6_findNextLayer 2 (some Jvm.ClassFile.FieldType.boolean) 4 Ω [zR Ω 27] μ (some (zI r)) (0 ≤ r ∧ r ≤ 1) μ' := by
  refine XMet.ofZ (by decide) (Nat.le_of_ble_eq_true rfl) ?_
  intro p e s m args below meth c ls Q C rt X hl
  have C : zC p s m args c cX6_findNextLayer RX6 2 Ω := C
  have hl : lv_has ls 2 [(0, zR Ω 27)] := hl
  unfold f_X6_findNextLayer at h
  skip
  refine z_iconst C dX6_findNextLayer_0 ?_
  refine lv_istore_n C.1 C.2.1 (lv' := [(1, zI 0), (0, zR Ω 27)]) dX6_findNextLayer_1 rfl hl (by decide) rfl (fun ls hl => ?_)
  have L2 : ∀ (n2 : Nat) (x_1 : Int) (μ_2 : zMem) (H : Heap) (locs : List Loc) (ls : Array Slot), Rg x_1 → zX Ω μ_2 (zfree Ω) s.heap H locs → lv_has ls 2 [(0, zR Ω 27), (1, zI x_1)] → (f_X6_findNextLayer_L2 n2 x_1 μ_2) = some (r, μ') → W p l e (zrm 4) s m args below meth c H locs 0 0 Q (F0 m 2 ls []) := by
    intro n2
    induction n2 with
    | zero =>
      intro x_1 μ_2 H locs ls _ _ _ h
      cases h
    | succ n2 ih2 =>
      intro x_1 μ_2 H locs ls gx_1 X hl h
      unfold f_X6_findNextLayer_L2 at h
      refine lv_iload_n C.1 C.2.1 dX6_findNextLayer_2 rfl (lv_at hl 1 rfl) ?_
      refine z_ldc C 1000000 kw_723 (by decide) dX6_findNextLayer_3 ?_
      refine z_icmpge C gx_1 ⟨by decide, by decide⟩ (tgt := 31) dX6_findNextLayer_5 (by decide) (fun hc5 => ?_) (fun hc5 => ?_)
      · rw [if_neg hc5] at h
        refine z_iconst C dX6_findNextLayer_31 ?_
        obtain ⟨rfl, rfl⟩ := Prod.mk.inj (Option.some.inj h)
        exact rt X ⟨by decide, by decide⟩ dX6_findNextLayer_32
      · rw [if_pos hc5] at h
        refine lv_aload_n C.1 C.2.1 dX6_findNextLayer_8 rfl (lv_at hl 0 rfl) ?_
        refine z_iconst C dX6_findNextLayer_9 ?_
        obtain ⟨x_3, μ_4, hq10, h⟩ := bnd2_some h
        refine z_callV1 C X zk6 (hI.1 27 (by decide)) rfl (As := [zI 1]) (M_X6_findNext hI μ_2 1 ⟨by decide, by decide⟩ hq10) zc_X6_findNext kw_758 (zroom (by decide) (by decide)) rfl hl.1 rfl (Nat.le_of_ble_eq_true rfl) dX6_findNextLayer_10 ⟨Nat.zero_le _, Nat.zero_le _⟩ (fun H locs g_10 X => ?_)
        refine z_ifeq C (rgz g_10) (tgt := 31) dX6_findNextLayer_13 (by decide) (fun hc13 => ?_) (fun hc13 => ?_)
        · rw [if_pos hc13] at h
          refine z_iconst C dX6_findNextLayer_31 ?_
          obtain ⟨rfl, rfl⟩ := Prod.mk.inj (Option.some.inj h)
          exact rt X ⟨by decide, by decide⟩ dX6_findNextLayer_32
        · rw [if_neg hc13] at h
          refine lv_aload_n C.1 C.2.1 dX6_findNextLayer_16 rfl (lv_at hl 0 rfl) ?_
          obtain ⟨x_5, hq17, h⟩ := bnd_some h
          refine z_callV1 C X zk6 (hI.1 27 (by decide)) rfl (As := []) (M_X6_isOne hI μ_4 hq17) zc_X6_isOne kw_759 (zroom (by decide) (by decide)) rfl hl.1 rfl (Nat.le_of_ble_eq_true rfl) dX6_findNextLayer_17 ⟨Nat.zero_le _, Nat.zero_le _⟩ (fun H locs g_17 X => ?_)
          refine z_ifeq C (rgz g_17) (tgt := 25) dX6_findNextLayer_20 (by decide) (fun hc20 => ?_) (fun hc20 => ?_)
          · rw [if_pos hc20] at h
            refine zlet_elim h (fun x_6 ex_6 h => ?_)
            have gx_6 : Rg x_6 := by rw [ex_6]; exact Rg.w _
            refine z_iinc C ex_6 dX6_findNextLayer_25 hl (k := 1) rfl (by decide) (lv' := [(1, zI x_6), (0, zR Ω 27)]) rfl (fun ls hl => ?_)
            clear ex_6
            refine lv_goto (tgt := 2) C.1 C.2.1 dX6_findNextLayer_28 (by decide) ?_
            exact ih2 x_6 μ_4 _ _ _ gx_6 X (lv_sub hl [1, 0] rfl) h
          · rw [if_neg hc20] at h
            refine z_iconst C dX6_findNextLayer_23 ?_
            obtain ⟨rfl, rfl⟩ := Prod.mk.inj (Option.some.inj h)
            exact rt X ⟨by decide, by decide⟩ dX6_findNextLayer_24
  exact L2 zfu 0 μ _ _ _ ⟨by decide, by decide⟩ X (lv_sub hl [1, 0] rfl) h
theorem zc_X6_findNextLayer : zcal yX6_findNextLayer cX6_findNextLayer 2 (some Jvm.ClassFile.FieldType.boolean) RX6 0 := ⟨⟨kw_757, kw_755, kw_756, kw_8⟩, rfl, by decide, by decide, by decide +kernel⟩

def f_X6_findLayer_L2 (x1 : Int) : Nat → Int → zMem → Option (Int × zMem)
  | 0, _, _ => none
  | n + 1, x_1, μ_2 =>
    if x_1 < 20000 then
      bnd2 (f_X6_findNextLayer μ_2) fun x_3 μ_4 =>
      if x_3 = 0 then
        some (0, μ_4)
      else
        if x_1 = x1 then
          some (1, μ_4)
        else
          zlet (zw (x_1 + 1)) fun x_5 =>
          (f_X6_findLayer_L2 x1 n) x_5 μ_4
    else
      some (0, μ_2)
def f_X6_findLayer (x1 : Int) (μ : zMem) : Option (Int × zMem) :=
  (f_X6_findLayer_L2 x1) zfu 0 μ
set_option maxHeartbeats 4000000 in
set_option maxRecDepth 100000 in
theorem M_X6_findLayer {l : Launch} {Ω : zO} (hI : zIc Ω) (μ : zMem) (x1 : Int) {r : Int} {μ' : zMem} (gx1 : Rg x1) (h : f_X6_findLayer x1 μ = some (r, μ')) : XMet l yX6_findLayer cX6_findLayer 3 (some Jvm.ClassFile.FieldType.boolean) 5 Ω [zR Ω 27, zI x1] μ (some (zI r)) (0 ≤ r ∧ r ≤ 1) μ' := by
  refine XMet.ofZ (by decide) (Nat.le_of_ble_eq_true rfl) ?_
  intro p e s m args below meth c ls Q C rt X hl
  have C : zC p s m args c cX6_findLayer RX6 3 Ω := C
  have hl : lv_has ls 3 [(0, zR Ω 27), (1, zI x1)] := hl
  unfold f_X6_findLayer at h
  skip
  refine z_iconst C dX6_findLayer_0 ?_
  refine lv_istore_n C.1 C.2.1 (lv' := [(2, zI 0), (0, zR Ω 27), (1, zI x1)]) dX6_findLayer_1 rfl hl (by decide) rfl (fun ls hl => ?_)
  have L2 : ∀ (n2 : Nat) (x_1 : Int) (μ_2 : zMem) (H : Heap) (locs : List Loc) (ls : Array Slot), Rg x_1 → zX Ω μ_2 (zfree Ω) s.heap H locs → lv_has ls 3 [(0, zR Ω 27), (1, zI x1), (2, zI x_1)] → (f_X6_findLayer_L2 x1 n2 x_1 μ_2) = some (r, μ') → W p l e (zrm 5) s m args below meth c H locs 0 0 Q (F0 m 2 ls []) := by
    intro n2
    induction n2 with
    | zero =>
      intro x_1 μ_2 H locs ls _ _ _ h
      cases h
    | succ n2 ih2 =>
      intro x_1 μ_2 H locs ls gx_1 X hl h
      unfold f_X6_findLayer_L2 at h
      refine lv_iload_n C.1 C.2.1 dX6_findLayer_2 rfl (lv_at hl 2 rfl) ?_
      refine z_sipush C dX6_findLayer_3 (by decide) ?_
      refine z_icmpge C gx_1 ⟨by decide, by decide⟩ (tgt := 29) dX6_findLayer_6 (by decide) (fun hc6 => ?_) (fun hc6 => ?_)
      · rw [if_neg hc6] at h
        refine z_iconst C dX6_findLayer_29 ?_
        obtain ⟨rfl, rfl⟩ := Prod.mk.inj (Option.some.inj h)
        exact rt X ⟨by decide, by decide⟩ dX6_findLayer_30
      · rw [if_pos hc6] at h
        refine lv_aload_n C.1 C.2.1 dX6_findLayer_9 rfl (lv_at hl 0 rfl) ?_
        obtain ⟨x_3, μ_4, hq10, h⟩ := bnd2_some h
        refine z_callV1 C X zk6 (hI.1 27 (by decide)) rfl (As := []) (M_X6_findNextLayer hI μ_2 hq10) zc_X6_findNextLayer kw_772 (zroom (by decide) (by decide)) rfl hl.1 rfl (Nat.le_of_ble_eq_true rfl) dX6_findLayer_10 ⟨Nat.zero_le _, Nat.zero_le _⟩ (fun H locs g_10 X => ?_)
        refine z_ifeq C (rgz g_10) (tgt := 29) dX6_findLayer_13 (by decide) (fun hc13 => ?_) (fun hc13 => ?_)
        · rw [if_pos hc13] at h
          refine z_iconst C dX6_findLayer_29 ?_
          obtain ⟨rfl, rfl⟩ := Prod.mk.inj (Option.some.inj h)
          exact rt X ⟨by decide, by decide⟩ dX6_findLayer_30
        · rw [if_neg hc13] at h
          refine lv_iload_n C.1 C.2.1 dX6_findLayer_16 rfl (lv_at hl 2 rfl) ?_
          refine lv_iload_n C.1 C.2.1 dX6_findLayer_17 rfl (lv_at hl 1 rfl) ?_
          refine z_icmpne C gx_1 gx1 (tgt := 23) dX6_findLayer_18 (by decide) (fun hc18 => ?_) (fun hc18 => ?_)
          · rw [if_neg hc18] at h
            refine zlet_elim h (fun x_5 ex_5 h => ?_)
            have gx_5 : Rg x_5 := by rw [ex_5]; exact Rg.w _
            refine z_iinc C ex_5 dX6_findLayer_23 hl (k := 2) rfl (by decide) (lv' := [(2, zI x_5), (0, zR Ω 27), (1, zI x1)]) rfl (fun ls hl => ?_)
            clear ex_5
            refine lv_goto (tgt := 2) C.1 C.2.1 dX6_findLayer_26 (by decide) ?_
            exact ih2 x_5 μ_4 _ _ _ gx_5 X (lv_sub hl [1, 2, 0] rfl) h
          · rw [if_pos hc18] at h
            refine z_iconst C dX6_findLayer_21 ?_
            obtain ⟨rfl, rfl⟩ := Prod.mk.inj (Option.some.inj h)
            exact rt X ⟨by decide, by decide⟩ dX6_findLayer_22
  exact L2 zfu 0 μ _ _ _ ⟨by decide, by decide⟩ X (lv_sub hl [1, 2, 0] rfl) h
theorem zc_X6_findLayer : zcal yX6_findLayer cX6_findLayer 3 (some Jvm.ClassFile.FieldType.boolean) RX6 1 := ⟨⟨kw_771, kw_769, kw_770, kw_8⟩, rfl, by decide, by decide, by decide +kernel⟩

def f_X6_isMovedBySome_L75 (x_1 : Int) : Nat → Int → zMem → Option (Int × zMem)
  | 0, _, _ => none
  | n + 1, x_4, μ_5 =>
    if x_4 < 1000000 then
      bnd2 (f_X6_findNext 0 μ_5) fun x_6 μ_7 =>
      if x_6 = 0 then
        some (0, μ_7)
      else
        bnd (f_X6_moveAlong 32 0 x_1 μ_7) fun x_8 =>
        if x_8 = 0 then
          zlet (zw (x_4 + 1)) fun x_9 =>
          (f_X6_isMovedBySome_L75 x_1 n) x_9 μ_7
        else
          some (1, μ_7)
    else
      some (0, μ_5)
def f_X6_isMovedBySome_K66 (x1 : Int) (x2 : Int) (x_1 : Int) (μ_2 : zMem) : Option (Int × zMem) :=
  bnd (f_X6_begin x1 x2 μ_2) fun μ_3 =>
  (f_X6_isMovedBySome_L75 x_1) zfu 0 μ_3
def f_X6_isMovedBySome_L6 (x1 : Int) (x3 : Int) (g66 : Int → zMem → Option (Int × zMem)) : Nat → Int → Int → zMem → Option (Int × zMem)
  | 0, _, _, _ => none
  | n + 1, x_10, x_11, μ_12 =>
    if x_11 < (μ_12 x3 2) then
      chk ((0 : Int) ≤ x_11 ∧ x_11 < zlen (x3 + 1)) <|
      chk ((0 : Int) ≤ (zshr (μ_12 (x3 + 1) x_11) 1) ∧ (zshr (μ_12 (x3 + 1) x_11) 1) < zlen (x1 + 3)) <|
      zlet ((μ_12 (x1 + 3) (zshr (μ_12 (x3 + 1) x_11) 1))) fun x_13 =>
      if x_13 < 0 then
        zlet (zw (x_11 + 1)) fun x_14 =>
        (f_X6_isMovedBySome_L6 x1 x3 g66 n) x_10 x_14 μ_12
      else
        chk ((0 : Int) ≤ x_11 ∧ x_11 < zlen (x3 + 1)) <|
        chk ((0 : Int) ≤ x_10 ∧ x_10 < 16) <|
        zlet (zup μ_12 32 x_10 (zw ((zw (2 * x_13)) + (zand (μ_12 (x3 + 1) x_11) 1)))) fun μ_15 =>
        zlet (zw (x_10 + 1)) fun x_16 =>
        zlet (zw (x_11 + 1)) fun x_17 =>
        (f_X6_isMovedBySome_L6 x1 x3 g66 n) x_16 x_17 μ_15
    else
      g66 x_10 μ_12
def f_X6_isMovedBySome (x1 : Int) (x2 : Int) (x3 : Int) (μ : zMem) : Option (Int × zMem) :=
  (f_X6_isMovedBySome_L6 x1 x3 (f_X6_isMovedBySome_K66 x1 x2)) zfu 0 0 μ
set_option maxHeartbeats 4000000 in
set_option maxRecDepth 100000 in
theorem M_X6_isMovedBySome {l : Launch} {Ω : zO} (hI : zIc Ω) (μ : zMem) (x1 : Int) (x2 : Int) (x3 : Int) {r : Int} {μ' : zMem} (o_x1 : zob Ω.2.2.1 5 x1) (o_x2 : zob Ω.2.2.1 4 x2) (o_x3 : zob Ω.2.2.1 8 x3) (h : f_X6_isMovedBySome x1 x2 x3 μ = some (r, μ')) : XMet l yX6_isMovedBySome cX6_isMovedBySome 7 (some Jvm.ClassFile.FieldType.boolean) 4 Ω [zR Ω 27, zR Ω x1, zR Ω x2, zR Ω x3] μ (some (zI r)) (0 ≤ r ∧ r ≤ 1) μ' := by
  refine XMet.ofZ (by decide) (Nat.le_of_ble_eq_true rfl) ?_
  intro p e s m args below meth c ls Q C rt X hl
  have C : zC p s m args c cX6_isMovedBySome RX6 7 Ω := C
  have hl : lv_has ls 7 [(0, zR Ω 27), (1, zR Ω x1), (2, zR Ω x2), (3, zR Ω x3)] := hl
  unfold f_X6_isMovedBySome at h
  skip
  refine z_iconst C dX6_isMovedBySome_0 ?_
  refine lv_istore C.1 C.2.1 (lv' := [(4, zI 0), (0, zR Ω 27), (1, zR Ω x1), (2, zR Ω x2), (3, zR Ω x3)]) dX6_isMovedBySome_1 hl (by decide) rfl (fun ls hl => ?_)
  refine z_iconst C dX6_isMovedBySome_3 ?_
  refine lv_istore C.1 C.2.1 (lv' := [(5, zI 0), (4, zI 0), (0, zR Ω 27), (1, zR Ω x1), (2, zR Ω x2), (3, zR Ω x3)]) dX6_isMovedBySome_4 hl (by decide) rfl (fun ls hl => ?_)
  have K66 : ∀ (x_1 : Int) (μ_2 : zMem) (H : Heap) (locs : List Loc) (ls : Array Slot), Rg x_1 → zX Ω μ_2 (zfree Ω) s.heap H locs → lv_has ls 7 [(0, zR Ω 27), (1, zR Ω x1), (2, zR Ω x2), (4, zI x_1)] → (f_X6_isMovedBySome_K66 x1 x2) x_1 μ_2 = some (r, μ') → W p l e (zrm 4) s m args below meth c H locs 0 0 Q (F0 m 66 ls []) := by
    intro x_1 μ_2 H locs ls gx_1 X hl h
    unfold f_X6_isMovedBySome_K66 at h
    refine lv_aload_n C.1 C.2.1 dX6_isMovedBySome_66 rfl (lv_at hl 0 rfl) ?_
    refine lv_aload_n C.1 C.2.1 dX6_isMovedBySome_67 rfl (lv_at hl 1 rfl) ?_
    refine lv_aload_n C.1 C.2.1 dX6_isMovedBySome_68 rfl (lv_at hl 2 rfl) ?_
    obtain ⟨μ_3, hq69, h⟩ := bnd_some h
    refine z_callV0 C X zk6 (hI.1 27 (by decide)) rfl (As := [zR Ω x1, zR Ω x2]) (M_X6_begin hI μ_2 x1 x2 o_x1 o_x2 hq69) zc_X6_begin kw_842 (zroom (by decide) (by decide)) rfl hl.1 rfl (Nat.le_of_ble_eq_true rfl) dX6_isMovedBySome_69 ⟨Nat.zero_le _, Nat.zero_le _⟩ (fun H locs g_69 X => ?_)
    refine z_iconst C dX6_isMovedBySome_72 ?_
    refine lv_istore C.1 C.2.1 (lv' := [(5, zI 0), (0, zR Ω 27), (1, zR Ω x1), (2, zR Ω x2), (4, zI x_1)]) dX6_isMovedBySome_73 hl (by decide) rfl (fun ls hl => ?_)
    have L75 : ∀ (n75 : Nat) (x_4 : Int) (μ_5 : zMem) (H : Heap) (locs : List Loc) (ls : Array Slot), Rg x_4 → zX Ω μ_5 (zfree Ω) s.heap H locs → lv_has ls 7 [(0, zR Ω 27), (4, zI x_1), (5, zI x_4)] → (f_X6_isMovedBySome_L75 x_1 n75 x_4 μ_5) = some (r, μ') → W p l e (zrm 4) s m args below meth c H locs 0 0 Q (F0 m 75 ls []) := by
      intro n75
      induction n75 with
      | zero =>
        intro x_4 μ_5 H locs ls _ _ _ h
        cases h
      | succ n75 ih75 =>
        intro x_4 μ_5 H locs ls gx_4 X hl h
        unfold f_X6_isMovedBySome_L75 at h
        refine lv_iload C.1 C.2.1 dX6_isMovedBySome_75 (lv_at hl 2 rfl) ?_
        refine z_ldc C 1000000 kw_723 (by decide) dX6_isMovedBySome_77 ?_
        refine z_icmpge C gx_4 ⟨by decide, by decide⟩ (tgt := 112) dX6_isMovedBySome_79 (by decide) (fun hc79 => ?_) (fun hc79 => ?_)
        · rw [if_neg hc79] at h
          refine z_iconst C dX6_isMovedBySome_112 ?_
          obtain ⟨rfl, rfl⟩ := Prod.mk.inj (Option.some.inj h)
          exact rt X ⟨by decide, by decide⟩ dX6_isMovedBySome_113
        · rw [if_pos hc79] at h
          refine lv_aload_n C.1 C.2.1 dX6_isMovedBySome_82 rfl (lv_at hl 0 rfl) ?_
          refine z_iconst C dX6_isMovedBySome_83 ?_
          obtain ⟨x_6, μ_7, hq84, h⟩ := bnd2_some h
          refine z_callV1 C X zk6 (hI.1 27 (by decide)) rfl (As := [zI 0]) (M_X6_findNext hI μ_5 0 ⟨by decide, by decide⟩ hq84) zc_X6_findNext kw_758 (zroom (by decide) (by decide)) rfl hl.1 rfl (Nat.le_of_ble_eq_true rfl) dX6_isMovedBySome_84 ⟨Nat.zero_le _, Nat.zero_le _⟩ (fun H locs g_84 X => ?_)
          refine z_ifeq C (rgz g_84) (tgt := 112) dX6_isMovedBySome_87 (by decide) (fun hc87 => ?_) (fun hc87 => ?_)
          · rw [if_pos hc87] at h
            refine z_iconst C dX6_isMovedBySome_112 ?_
            obtain ⟨rfl, rfl⟩ := Prod.mk.inj (Option.some.inj h)
            exact rt X ⟨by decide, by decide⟩ dX6_isMovedBySome_113
          · rw [if_neg hc87] at h
            refine lv_aload_n C.1 C.2.1 dX6_isMovedBySome_90 rfl (lv_at hl 0 rfl) ?_
            refine lv_aload_n C.1 C.2.1 dX6_isMovedBySome_91 rfl (lv_at hl 0 rfl) ?_
            refine z_get C X zk6 (hI.1 27 (by decide)) rfl 4 (by decide) kw_258 (zR Ω 32) (zfvF (off := 5) X.2.2.2 (hI.1 27 (by decide)) (hI.2 27 (by decide)) rfl rfl (by decide)) dX6_isMovedBySome_92 ?_
            refine z_iconst C dX6_isMovedBySome_95 ?_
            refine lv_iload C.1 C.2.1 dX6_isMovedBySome_96 (lv_at hl 1 rfl) ?_
            obtain ⟨x_8, hq98, h⟩ := bnd_some h
            refine z_callV1 C X zk6 (hI.1 27 (by decide)) rfl (As := [zR Ω 32, zI 0, zI x_1]) (M_X6_moveAlong hI μ_7 32 0 x_1 (hI.1 32 (by decide)) rfl ⟨by decide, by decide⟩ gx_1 hq98) zc_X6_moveAlong kw_728 (zroom (by decide) (by decide)) rfl hl.1 rfl (Nat.le_of_ble_eq_true rfl) dX6_isMovedBySome_98 ⟨Nat.zero_le _, Nat.zero_le _⟩ (fun H locs g_98 X => ?_)
            refine z_ifeq C g_98 (tgt := 106) dX6_isMovedBySome_101 (by decide) (fun hc101 => ?_) (fun hc101 => ?_)
            · rw [if_pos hc101] at h
              refine zlet_elim h (fun x_9 ex_9 h => ?_)
              have gx_9 : Rg x_9 := by rw [ex_9]; exact Rg.w _
              refine z_iinc C ex_9 dX6_isMovedBySome_106 hl (k := 2) rfl (by decide) (lv' := [(5, zI x_9), (0, zR Ω 27), (4, zI x_1)]) rfl (fun ls hl => ?_)
              clear ex_9
              refine lv_goto (tgt := 75) C.1 C.2.1 dX6_isMovedBySome_109 (by decide) ?_
              exact ih75 x_9 μ_7 _ _ _ gx_9 X (lv_sub hl [1, 2, 0] rfl) h
            · rw [if_neg hc101] at h
              refine z_iconst C dX6_isMovedBySome_104 ?_
              obtain ⟨rfl, rfl⟩ := Prod.mk.inj (Option.some.inj h)
              exact rt X ⟨by decide, by decide⟩ dX6_isMovedBySome_105
    exact L75 zfu 0 μ_3 _ _ _ ⟨by decide, by decide⟩ X (lv_sub hl [1, 4, 0] rfl) h
  have L6 : ∀ (n6 : Nat) (x_10 : Int) (x_11 : Int) (μ_12 : zMem) (H : Heap) (locs : List Loc) (ls : Array Slot), Rg x_10 → Rg x_11 → zX Ω μ_12 (zfree Ω) s.heap H locs → lv_has ls 7 [(0, zR Ω 27), (1, zR Ω x1), (2, zR Ω x2), (3, zR Ω x3), (4, zI x_10), (5, zI x_11)] → (f_X6_isMovedBySome_L6 x1 x3 (f_X6_isMovedBySome_K66 x1 x2) n6 x_10 x_11 μ_12) = some (r, μ') → W p l e (zrm 4) s m args below meth c H locs 0 0 Q (F0 m 6 ls []) := by
    intro n6
    induction n6 with
    | zero =>
      intro x_10 x_11 μ_12 H locs ls _ _ _ _ h
      cases h
    | succ n6 ih6 =>
      intro x_10 x_11 μ_12 H locs ls gx_10 gx_11 X hl h
      unfold f_X6_isMovedBySome_L6 at h
      refine lv_iload C.1 C.2.1 dX6_isMovedBySome_6 (lv_at hl 5 rfl) ?_
      refine lv_aload_n C.1 C.2.1 dX6_isMovedBySome_8 rfl (lv_at hl 3 rfl) ?_
      have g_9 : Rg (μ_12 x3 2) := zrgf0 (ci := 8) X.2.2.2 (zob.self o_x3) (zo8 o_x3) 2 rfl
      refine z_get C X zk8 (zob.self o_x3) (zo8 o_x3) 2 (by decide) kw_200 (zI (μ_12 x3 2)) rfl dX6_isMovedBySome_9 ?_
      refine z_icmpge C gx_11 g_9 (tgt := 66) dX6_isMovedBySome_12 (by decide) (fun hc12 => ?_) (fun hc12 => ?_)
      · rw [if_neg hc12] at h
        exact K66 x_10 μ_12 _ _ _ gx_10 X (lv_sub hl [0, 1, 2, 4] rfl) h
      · rw [if_pos hc12] at h
        refine lv_aload_n C.1 C.2.1 dX6_isMovedBySome_15 rfl (lv_at hl 1 rfl) ?_
        refine z_get C X zk5 (zob.self o_x1) (zo5 o_x1) 2 (by decide) kw_65 (zR Ω (x1 + 3)) (zfvF (off := 3) X.2.2.2 (zob.self o_x1) o_x1.2.2 (zo5 o_x1) rfl (by rw [zo5_3 o_x1]; decide)) dX6_isMovedBySome_16 ?_
        refine lv_aload_n C.1 C.2.1 dX6_isMovedBySome_19 rfl (lv_at hl 3 rfl) ?_
        refine z_get C X zk8 (zob.self o_x3) (zo8 o_x3) 0 (by decide) kw_192 (zR Ω (x3 + 1)) (zfvF (off := 1) X.2.2.2 (zob.self o_x3) o_x3.2.2 (zo8 o_x3) rfl (by rw [zo8_1 o_x3]; decide)) dX6_isMovedBySome_20 ?_
        refine lv_iload C.1 C.2.1 dX6_isMovedBySome_23 (lv_at hl 5 rfl) ?_
        obtain ⟨hc25, h⟩ := chk_some h
        have g_25 : Rg (μ_12 (x3 + 1) x_11) := zrg1 X.2.2.2 (o_x3.2.1 1 (by decide) (by decide)) (zo8_1 o_x3)
        refine z_iald C X (o_x3.2.1 1 (by decide) (by decide)) (zo8_1 o_x3) hc25 dX6_isMovedBySome_25 ?_
        refine z_iconst C dX6_isMovedBySome_26 ?_
        refine z_ishr C dX6_isMovedBySome_27 ?_
        obtain ⟨hc28, h⟩ := chk_some h
        have g_28 : Rg (μ_12 (x1 + 3) (zshr (μ_12 (x3 + 1) x_11) 1)) := zrg1 X.2.2.2 (o_x1.2.1 3 (by decide) (by decide)) (zo5_3 o_x1)
        refine z_iald C X (o_x1.2.1 3 (by decide) (by decide)) (zo5_3 o_x1) hc28 dX6_isMovedBySome_28 ?_
        refine zlet_elim h (fun x_13 ex_13 h => ?_)
        have gx_13 : Rg x_13 := by rw [ex_13]; exact g_28
        refine z_istore C ex_13 dX6_isMovedBySome_29 hl (by decide) (lv' := [(6, zI x_13), (0, zR Ω 27), (1, zR Ω x1), (2, zR Ω x2), (3, zR Ω x3), (4, zI x_10), (5, zI x_11)]) rfl (fun ls hl => ?_)
        clear ex_13
        refine lv_iload C.1 C.2.1 dX6_isMovedBySome_31 (lv_at hl 0 rfl) ?_
        refine z_iflt C gx_13 (tgt := 60) dX6_isMovedBySome_33 (by decide) (fun hc33 => ?_) (fun hc33 => ?_)
        · rw [if_pos hc33] at h
          refine zlet_elim h (fun x_14 ex_14 h => ?_)
          have gx_14 : Rg x_14 := by rw [ex_14]; exact Rg.w _
          refine z_iinc C ex_14 dX6_isMovedBySome_60 hl (k := 6) rfl (by decide) (lv' := [(5, zI x_14), (6, zI x_13), (0, zR Ω 27), (1, zR Ω x1), (2, zR Ω x2), (3, zR Ω x3), (4, zI x_10)]) rfl (fun ls hl => ?_)
          clear ex_14
          refine lv_goto (tgt := 6) C.1 C.2.1 dX6_isMovedBySome_63 (by decide) ?_
          exact ih6 x_10 x_14 μ_12 _ _ _ gx_10 gx_14 X (lv_sub hl [2, 3, 4, 5, 6, 0] rfl) h
        · rw [if_neg hc33] at h
          refine lv_aload_n C.1 C.2.1 dX6_isMovedBySome_36 rfl (lv_at hl 1 rfl) ?_
          refine z_get C X zk6 (hI.1 27 (by decide)) rfl 4 (by decide) kw_258 (zR Ω 32) (zfvF (off := 5) X.2.2.2 (hI.1 27 (by decide)) (hI.2 27 (by decide)) rfl rfl (by decide)) dX6_isMovedBySome_37 ?_
          refine lv_iload C.1 C.2.1 dX6_isMovedBySome_40 (lv_at hl 5 rfl) ?_
          refine z_iconst C dX6_isMovedBySome_42 ?_
          refine lv_iload C.1 C.2.1 dX6_isMovedBySome_43 (lv_at hl 0 rfl) ?_
          refine z_imul C dX6_isMovedBySome_45 ?_
          refine lv_aload_n C.1 C.2.1 dX6_isMovedBySome_46 rfl (lv_at hl 4 rfl) ?_
          refine z_get C X zk8 (zob.self o_x3) (zo8 o_x3) 0 (by decide) kw_192 (zR Ω (x3 + 1)) (zfvF (off := 1) X.2.2.2 (zob.self o_x3) o_x3.2.2 (zo8 o_x3) rfl (by rw [zo8_1 o_x3]; decide)) dX6_isMovedBySome_47 ?_
          refine lv_iload C.1 C.2.1 dX6_isMovedBySome_50 (lv_at hl 6 rfl) ?_
          obtain ⟨hc52, h⟩ := chk_some h
          have g_52 : Rg (μ_12 (x3 + 1) x_11) := zrg1 X.2.2.2 (o_x3.2.1 1 (by decide) (by decide)) (zo8_1 o_x3)
          refine z_iald C X (o_x3.2.1 1 (by decide) (by decide)) (zo8_1 o_x3) hc52 dX6_isMovedBySome_52 ?_
          refine z_iconst C dX6_isMovedBySome_53 ?_
          refine z_iand C dX6_isMovedBySome_54 ?_
          refine z_iadd C dX6_isMovedBySome_55 ?_
          obtain ⟨hc56, h⟩ := chk_some h
          refine zlet_elim h (fun μ_15 em h => ?_)
          refine z_iast C X (hI.1 32 (by decide)) rfl hc56 (zok1 rfl (Rg.w _)) em dX6_isMovedBySome_56 (fun H locs X => ?_)
          clear em
          refine zlet_elim h (fun x_16 ex_16 h => ?_)
          have gx_16 : Rg x_16 := by rw [ex_16]; exact Rg.w _
          refine z_iinc C ex_16 dX6_isMovedBySome_57 hl (k := 5) rfl (by decide) (lv' := [(4, zI x_16), (6, zI x_13), (0, zR Ω 27), (1, zR Ω x1), (2, zR Ω x2), (3, zR Ω x3), (5, zI x_11)]) rfl (fun ls hl => ?_)
          clear ex_16
          refine zlet_elim h (fun x_17 ex_17 h => ?_)
          have gx_17 : Rg x_17 := by rw [ex_17]; exact Rg.w _
          refine z_iinc C ex_17 dX6_isMovedBySome_60 hl (k := 6) rfl (by decide) (lv' := [(5, zI x_17), (4, zI x_16), (6, zI x_13), (0, zR Ω 27), (1, zR Ω x1), (2, zR Ω x2), (3, zR Ω x3)]) rfl (fun ls hl => ?_)
          clear ex_17
          refine lv_goto (tgt := 6) C.1 C.2.1 dX6_isMovedBySome_63 (by decide) ?_
          exact ih6 x_16 x_17 μ_15 _ _ _ gx_16 gx_17 X (lv_sub hl [3, 4, 5, 6, 1, 0] rfl) h
  exact L6 zfu 0 0 μ _ _ _ ⟨by decide, by decide⟩ ⟨by decide, by decide⟩ X (lv_sub hl [2, 3, 4, 5, 1, 0] rfl) h
theorem zc_X6_isMovedBySome : zcal yX6_isMovedBySome cX6_isMovedBySome 7 (some Jvm.ClassFile.FieldType.boolean) RX6 3 := ⟨⟨kw_841, kw_839, kw_840, kw_8⟩, rfl, by decide, by decide, by decide +kernel⟩

def f_X7_put (x1 : Int) (μ : zMem) : Option zMem :=
  if (μ 19 1) < 120 then
    chk ((0 : Int) ≤ (μ 19 1) ∧ (μ 19 1) < 120) <|
    zlet (zup μ 20 (μ 19 1) (zc (zc x1))) fun μ_1 =>
    zlet (zup μ_1 19 1 (zw ((μ_1 19 1) + 1))) fun μ_2 =>
    some μ_2
  else
    some μ
set_option maxHeartbeats 4000000 in
set_option maxRecDepth 100000 in
theorem M_X7_put {l : Launch} {Ω : zO} (hI : zIc Ω) (μ : zMem) (x1 : Int) {μ' : zMem} (gx1 : Rg x1) (h : f_X7_put x1 μ = some μ') : XMet l yX7_put cX7_put 2 none 0 Ω [zR Ω 19, zI x1] μ none True μ' := by
  refine XMet.ofV (by decide) (Nat.le_of_ble_eq_true rfl) ?_
  intro p e s m args below meth c ls Q C rt X hl
  have C : zC p s m args c cX7_put RX7 2 Ω := C
  have hl : lv_has ls 2 [(0, zR Ω 19), (1, zI x1)] := hl
  unfold f_X7_put at h
  skip
  refine lv_aload_n C.1 C.2.1 dX7_put_0 rfl (lv_at hl 0 rfl) ?_
  have g_1 : Rg (μ 19 1) := zrgf0 (ci := 7) X.2.2.2 (hI.1 19 (by decide)) rfl 1 rfl
  refine z_get C X zk7 (hI.1 19 (by decide)) rfl 1 (by decide) kw_171 (zI (μ 19 1)) rfl dX7_put_1 ?_
  refine z_bipush C dX7_put_4 (by decide) ?_
  refine z_icmpge C g_1 ⟨by decide, by decide⟩ (tgt := 30) dX7_put_6 (by decide) (fun hc6 => ?_) (fun hc6 => ?_)
  · rw [if_neg hc6] at h
    obtain rfl := Option.some.inj h
    exact rt X dX7_put_30
  · rw [if_pos hc6] at h
    refine lv_aload_n C.1 C.2.1 dX7_put_9 rfl (lv_at hl 0 rfl) ?_
    refine z_get C X zk7 (hI.1 19 (by decide)) rfl 0 (by decide) kw_170 (zR Ω 20) (zfvF (off := 1) X.2.2.2 (hI.1 19 (by decide)) (hI.2 19 (by decide)) rfl rfl (by decide)) dX7_put_10 ?_
    refine lv_aload_n C.1 C.2.1 dX7_put_13 rfl (lv_at hl 0 rfl) ?_
    have g_14 : Rg (μ 19 1) := zrgf0 (ci := 7) X.2.2.2 (hI.1 19 (by decide)) rfl 1 rfl
    refine z_get C X zk7 (hI.1 19 (by decide)) rfl 1 (by decide) kw_171 (zI (μ 19 1)) rfl dX7_put_14 ?_
    refine lv_iload_n C.1 C.2.1 dX7_put_17 rfl (lv_at hl 1 rfl) ?_
    refine z_i2c C dX7_put_18 ?_
    obtain ⟨hc19, h⟩ := chk_some h
    refine zlet_elim h (fun μ_1 em h => ?_)
    refine z_cast C X (hI.1 20 (by decide)) rfl hc19 (zok4 rfl) em dX7_put_19 (fun H locs X => ?_)
    clear em
    refine lv_aload_n C.1 C.2.1 dX7_put_20 rfl (lv_at hl 0 rfl) ?_
    refine lv_dup C.1 C.2.1 dX7_put_21 rfl ?_
    have g_22 : Rg (μ_1 19 1) := zrgf0 (ci := 7) X.2.2.2 (hI.1 19 (by decide)) rfl 1 rfl
    refine z_get C X zk7 (hI.1 19 (by decide)) rfl 1 (by decide) kw_171 (zI (μ_1 19 1)) rfl dX7_put_22 ?_
    refine z_iconst C dX7_put_25 ?_
    refine z_iadd C dX7_put_26 ?_
    refine zlet_elim h (fun μ_2 em h => ?_)
    refine z_putI C X zk7 (hI.1 19 (by decide)) rfl 1 (by decide) kw_171 rfl rfl rfl rfl (Rg.w _) em dX7_put_27 (fun H locs X => ?_)
    clear em
    obtain rfl := Option.some.inj h
    exact rt X dX7_put_30
theorem zc_X7_put : zcal yX7_put cX7_put 2 none RX7 1 := ⟨⟨kw_461, kw_459, kw_460, kw_5⟩, rfl, by decide, by decide, by decide +kernel⟩

def f_X7_rewind (μ : zMem) : Option zMem :=
  zlet (zup μ 19 2 0) fun μ_1 =>
  some μ_1
set_option maxHeartbeats 4000000 in
set_option maxRecDepth 100000 in
theorem M_X7_rewind {l : Launch} {Ω : zO} (hI : zIc Ω) (μ : zMem) {μ' : zMem} (h : f_X7_rewind μ = some μ') : XMet l yX7_rewind cX7_rewind 1 none 0 Ω [zR Ω 19] μ none True μ' := by
  refine XMet.ofV (by decide) (Nat.le_of_ble_eq_true rfl) ?_
  intro p e s m args below meth c ls Q C rt X hl
  have C : zC p s m args c cX7_rewind RX7 1 Ω := C
  have hl : lv_has ls 1 [(0, zR Ω 19)] := hl
  unfold f_X7_rewind at h
  skip
  refine lv_aload_n C.1 C.2.1 dX7_rewind_0 rfl (lv_at hl 0 rfl) ?_
  refine z_iconst C dX7_rewind_1 ?_
  refine zlet_elim h (fun μ_1 em h => ?_)
  refine z_putI C X zk7 (hI.1 19 (by decide)) rfl 2 (by decide) kw_173 rfl rfl rfl rfl ⟨by decide, by decide⟩ em dX7_rewind_2 (fun H locs X => ?_)
  clear em
  obtain rfl := Option.some.inj h
  exact rt X dX7_rewind_5
theorem zc_X7_rewind : zcal yX7_rewind cX7_rewind 1 none RX7 0 := ⟨⟨kw_469, kw_467, kw_468, kw_5⟩, rfl, by decide, by decide, by decide +kernel⟩

def f_X7_wipe (μ : zMem) : Option zMem :=
  zlet (zup μ 19 1 0) fun μ_1 =>
  some μ_1
set_option maxHeartbeats 4000000 in
set_option maxRecDepth 100000 in
theorem M_X7_wipe {l : Launch} {Ω : zO} (hI : zIc Ω) (μ : zMem) {μ' : zMem} (h : f_X7_wipe μ = some μ') : XMet l yX7_wipe cX7_wipe 1 none 0 Ω [zR Ω 19] μ none True μ' := by
  refine XMet.ofV (by decide) (Nat.le_of_ble_eq_true rfl) ?_
  intro p e s m args below meth c ls Q C rt X hl
  have C : zC p s m args c cX7_wipe RX7 1 Ω := C
  have hl : lv_has ls 1 [(0, zR Ω 19)] := hl
  unfold f_X7_wipe at h
  skip
  refine lv_aload_n C.1 C.2.1 dX7_wipe_0 rfl (lv_at hl 0 rfl) ?_
  refine z_iconst C dX7_wipe_1 ?_
  refine zlet_elim h (fun μ_1 em h => ?_)
  refine z_putI C X zk7 (hI.1 19 (by decide)) rfl 1 (by decide) kw_171 rfl rfl rfl rfl ⟨by decide, by decide⟩ em dX7_wipe_2 (fun H locs X => ?_)
  clear em
  obtain rfl := Option.some.inj h
  exact rt X dX7_wipe_5
theorem zc_X7_wipe : zcal yX7_wipe cX7_wipe 1 none RX7 0 := ⟨⟨kw_516, kw_514, kw_515, kw_5⟩, rfl, by decide, by decide, by decide +kernel⟩

def f_X7_look_K38 (μ_1 : zMem) : Option (Int × zMem) :=
  if (μ_1 19 2) < (μ_1 19 1) then
    chk ((0 : Int) ≤ (μ_1 19 2) ∧ (μ_1 19 2) < 120) <|
    some ((μ_1 20 (μ_1 19 2)), μ_1)
  else
    some ((-1), μ_1)
def f_X7_look_L0 (g38 : zMem → Option (Int × zMem)) : Nat → zMem → Option (Int × zMem)
  | 0, _ => none
  | n + 1, μ_2 =>
    if (μ_2 19 2) < (μ_2 19 1) then
      chk ((0 : Int) ≤ (μ_2 19 2) ∧ (μ_2 19 2) < 120) <|
      if (μ_2 20 (μ_2 19 2)) = 32 then
        zlet (zup μ_2 19 2 (zw ((μ_2 19 2) + 1))) fun μ_3 =>
        (f_X7_look_L0 g38 n) μ_3
      else
        g38 μ_2
    else
      g38 μ_2
def f_X7_look (μ : zMem) : Option (Int × zMem) :=
  (f_X7_look_L0 f_X7_look_K38) zfu μ
set_option maxHeartbeats 4000000 in
set_option maxRecDepth 100000 in
theorem M_X7_look {l : Launch} {Ω : zO} (hI : zIc Ω) (μ : zMem) {r : Int} {μ' : zMem} (h : f_X7_look μ = some (r, μ')) : XMet l yX7_look cX7_look 1 (some Jvm.ClassFile.FieldType.int) 0 Ω [zR Ω 19] μ (some (zI r)) (Rg r) μ' := by
  refine XMet.ofI (by decide) (Nat.le_of_ble_eq_true rfl) ?_
  intro p e s m args below meth c ls Q C rt X hl
  have C : zC p s m args c cX7_look RX7 1 Ω := C
  have hl : lv_has ls 1 [(0, zR Ω 19)] := hl
  unfold f_X7_look at h
  skip
  have K38 : ∀ (μ_1 : zMem) (H : Heap) (locs : List Loc) (ls : Array Slot), zX Ω μ_1 (zfree Ω) s.heap H locs → lv_has ls 1 [(0, zR Ω 19)] → f_X7_look_K38 μ_1 = some (r, μ') → W p l e (zrm 0) s m args below meth c H locs 0 0 Q (F0 m 38 ls []) := by
    intro μ_1 H locs ls  X hl h
    unfold f_X7_look_K38 at h
    refine lv_aload_n C.1 C.2.1 dX7_look_38 rfl (lv_at hl 0 rfl) ?_
    have g_39 : Rg (μ_1 19 2) := zrgf0 (ci := 7) X.2.2.2 (hI.1 19 (by decide)) rfl 2 rfl
    refine z_get C X zk7 (hI.1 19 (by decide)) rfl 2 (by decide) kw_173 (zI (μ_1 19 2)) rfl dX7_look_39 ?_
    refine lv_aload_n C.1 C.2.1 dX7_look_42 rfl (lv_at hl 0 rfl) ?_
    have g_43 : Rg (μ_1 19 1) := zrgf0 (ci := 7) X.2.2.2 (hI.1 19 (by decide)) rfl 1 rfl
    refine z_get C X zk7 (hI.1 19 (by decide)) rfl 1 (by decide) kw_171 (zI (μ_1 19 1)) rfl dX7_look_43 ?_
    refine z_icmpge C g_39 g_43 (tgt := 61) dX7_look_46 (by decide) (fun hc46 => ?_) (fun hc46 => ?_)
    · rw [if_neg hc46] at h
      refine z_iconst C dX7_look_61 ?_
      obtain ⟨rfl, rfl⟩ := Prod.mk.inj (Option.some.inj h)
      exact rt X ⟨by decide, by decide⟩ dX7_look_62
    · rw [if_pos hc46] at h
      refine lv_aload_n C.1 C.2.1 dX7_look_49 rfl (lv_at hl 0 rfl) ?_
      refine z_get C X zk7 (hI.1 19 (by decide)) rfl 0 (by decide) kw_170 (zR Ω 20) (zfvF (off := 1) X.2.2.2 (hI.1 19 (by decide)) (hI.2 19 (by decide)) rfl rfl (by decide)) dX7_look_50 ?_
      refine lv_aload_n C.1 C.2.1 dX7_look_53 rfl (lv_at hl 0 rfl) ?_
      have g_54 : Rg (μ_1 19 2) := zrgf0 (ci := 7) X.2.2.2 (hI.1 19 (by decide)) rfl 2 rfl
      refine z_get C X zk7 (hI.1 19 (by decide)) rfl 2 (by decide) kw_173 (zI (μ_1 19 2)) rfl dX7_look_54 ?_
      obtain ⟨hc57, h⟩ := chk_some h
      have g_57 : 0 ≤ (μ_1 20 (μ_1 19 2)) ∧ (μ_1 20 (μ_1 19 2)) ≤ 65535 := zrg4 X.2.2.2 (hI.1 20 (by decide)) rfl
      refine z_cald C X (hI.1 20 (by decide)) rfl hc57 dX7_look_57 ?_
      refine lv_goto (tgt := 62) C.1 C.2.1 dX7_look_58 (by decide) ?_
      obtain ⟨rfl, rfl⟩ := Prod.mk.inj (Option.some.inj h)
      exact rt X (rgc g_57) dX7_look_62
  have L0 : ∀ (n0 : Nat) (μ_2 : zMem) (H : Heap) (locs : List Loc) (ls : Array Slot), zX Ω μ_2 (zfree Ω) s.heap H locs → lv_has ls 1 [(0, zR Ω 19)] → (f_X7_look_L0 f_X7_look_K38 n0 μ_2) = some (r, μ') → W p l e (zrm 0) s m args below meth c H locs 0 0 Q (F0 m 0 ls []) := by
    intro n0
    induction n0 with
    | zero =>
      intro μ_2 H locs ls _ _ h
      cases h
    | succ n0 ih0 =>
      intro μ_2 H locs ls  X hl h
      unfold f_X7_look_L0 at h
      refine lv_aload_n C.1 C.2.1 dX7_look_0 rfl (lv_at hl 0 rfl) ?_
      have g_1 : Rg (μ_2 19 2) := zrgf0 (ci := 7) X.2.2.2 (hI.1 19 (by decide)) rfl 2 rfl
      refine z_get C X zk7 (hI.1 19 (by decide)) rfl 2 (by decide) kw_173 (zI (μ_2 19 2)) rfl dX7_look_1 ?_
      refine lv_aload_n C.1 C.2.1 dX7_look_4 rfl (lv_at hl 0 rfl) ?_
      have g_5 : Rg (μ_2 19 1) := zrgf0 (ci := 7) X.2.2.2 (hI.1 19 (by decide)) rfl 1 rfl
      refine z_get C X zk7 (hI.1 19 (by decide)) rfl 1 (by decide) kw_171 (zI (μ_2 19 1)) rfl dX7_look_5 ?_
      refine z_icmpge C g_1 g_5 (tgt := 38) dX7_look_8 (by decide) (fun hc8 => ?_) (fun hc8 => ?_)
      · rw [if_neg hc8] at h
        exact K38 μ_2 _ _ _ X (lv_sub hl [0] rfl) h
      · rw [if_pos hc8] at h
        refine lv_aload_n C.1 C.2.1 dX7_look_11 rfl (lv_at hl 0 rfl) ?_
        refine z_get C X zk7 (hI.1 19 (by decide)) rfl 0 (by decide) kw_170 (zR Ω 20) (zfvF (off := 1) X.2.2.2 (hI.1 19 (by decide)) (hI.2 19 (by decide)) rfl rfl (by decide)) dX7_look_12 ?_
        refine lv_aload_n C.1 C.2.1 dX7_look_15 rfl (lv_at hl 0 rfl) ?_
        have g_16 : Rg (μ_2 19 2) := zrgf0 (ci := 7) X.2.2.2 (hI.1 19 (by decide)) rfl 2 rfl
        refine z_get C X zk7 (hI.1 19 (by decide)) rfl 2 (by decide) kw_173 (zI (μ_2 19 2)) rfl dX7_look_16 ?_
        obtain ⟨hc19, h⟩ := chk_some h
        have g_19 : 0 ≤ (μ_2 20 (μ_2 19 2)) ∧ (μ_2 20 (μ_2 19 2)) ≤ 65535 := zrg4 X.2.2.2 (hI.1 20 (by decide)) rfl
        refine z_cald C X (hI.1 20 (by decide)) rfl hc19 dX7_look_19 ?_
        refine z_bipush C dX7_look_20 (by decide) ?_
        refine z_icmpne C (rgc g_19) ⟨by decide, by decide⟩ (tgt := 38) dX7_look_22 (by decide) (fun hc22 => ?_) (fun hc22 => ?_)
        · rw [if_neg hc22] at h
          exact K38 μ_2 _ _ _ X (lv_sub hl [0] rfl) h
        · rw [if_pos hc22] at h
          refine lv_aload_n C.1 C.2.1 dX7_look_25 rfl (lv_at hl 0 rfl) ?_
          refine lv_dup C.1 C.2.1 dX7_look_26 rfl ?_
          have g_27 : Rg (μ_2 19 2) := zrgf0 (ci := 7) X.2.2.2 (hI.1 19 (by decide)) rfl 2 rfl
          refine z_get C X zk7 (hI.1 19 (by decide)) rfl 2 (by decide) kw_173 (zI (μ_2 19 2)) rfl dX7_look_27 ?_
          refine z_iconst C dX7_look_30 ?_
          refine z_iadd C dX7_look_31 ?_
          refine zlet_elim h (fun μ_3 em h => ?_)
          refine z_putI C X zk7 (hI.1 19 (by decide)) rfl 2 (by decide) kw_173 rfl rfl rfl rfl (Rg.w _) em dX7_look_32 (fun H locs X => ?_)
          clear em
          refine lv_goto (tgt := 0) C.1 C.2.1 dX7_look_35 (by decide) ?_
          exact ih0 μ_3 _ _ _ X (lv_sub hl [0] rfl) h
  exact L0 zfu μ _ _ _ X (lv_sub hl [0] rfl) h
theorem zc_X7_look : zcal yX7_look cX7_look 1 (some Jvm.ClassFile.FieldType.int) RX7 0 := ⟨⟨kw_485, kw_484, kp_5, kw_5⟩, rfl, by decide, by decide, by decide +kernel⟩

def f_X7_pass (x1 : Int) (μ : zMem) : Option (Int × zMem) :=
  bnd2 (f_X7_look μ) fun x_1 μ_2 =>
  if x_1 = x1 then
    zlet (zup μ_2 19 2 (zw ((μ_2 19 2) + 1))) fun μ_3 =>
    some (1, μ_3)
  else
    some (0, μ_2)
set_option maxHeartbeats 4000000 in
set_option maxRecDepth 100000 in
theorem M_X7_pass {l : Launch} {Ω : zO} (hI : zIc Ω) (μ : zMem) (x1 : Int) {r : Int} {μ' : zMem} (gx1 : Rg x1) (h : f_X7_pass x1 μ = some (r, μ')) : XMet l yX7_pass cX7_pass 2 (some Jvm.ClassFile.FieldType.boolean) 1 Ω [zR Ω 19, zI x1] μ (some (zI r)) (0 ≤ r ∧ r ≤ 1) μ' := by
  refine XMet.ofZ (by decide) (Nat.le_of_ble_eq_true rfl) ?_
  intro p e s m args below meth c ls Q C rt X hl
  have C : zC p s m args c cX7_pass RX7 2 Ω := C
  have hl : lv_has ls 2 [(0, zR Ω 19), (1, zI x1)] := hl
  unfold f_X7_pass at h
  skip
  refine lv_aload_n C.1 C.2.1 dX7_pass_0 rfl (lv_at hl 0 rfl) ?_
  obtain ⟨x_1, μ_2, hq1, h⟩ := bnd2_some h
  refine z_callV1 C X zk7 (hI.1 19 (by decide)) rfl (As := []) (M_X7_look hI μ hq1) zc_X7_look kw_482 (zroom (by decide) (by decide)) rfl hl.1 rfl (Nat.le_of_ble_eq_true rfl) dX7_pass_1 ⟨Nat.zero_le _, Nat.zero_le _⟩ (fun H locs g_1 X => ?_)
  refine lv_iload_n C.1 C.2.1 dX7_pass_4 rfl (lv_at hl 1 rfl) ?_
  refine z_icmpeq C g_1 gx1 (tgt := 10) dX7_pass_5 (by decide) (fun hc5 => ?_) (fun hc5 => ?_)
  · rw [if_pos hc5] at h
    refine lv_aload_n C.1 C.2.1 dX7_pass_10 rfl (lv_at hl 0 rfl) ?_
    refine lv_dup C.1 C.2.1 dX7_pass_11 rfl ?_
    have g_12 : Rg (μ_2 19 2) := zrgf0 (ci := 7) X.2.2.2 (hI.1 19 (by decide)) rfl 2 rfl
    refine z_get C X zk7 (hI.1 19 (by decide)) rfl 2 (by decide) kw_173 (zI (μ_2 19 2)) rfl dX7_pass_12 ?_
    refine z_iconst C dX7_pass_15 ?_
    refine z_iadd C dX7_pass_16 ?_
    refine zlet_elim h (fun μ_3 em h => ?_)
    refine z_putI C X zk7 (hI.1 19 (by decide)) rfl 2 (by decide) kw_173 rfl rfl rfl rfl (Rg.w _) em dX7_pass_17 (fun H locs X => ?_)
    clear em
    refine z_iconst C dX7_pass_20 ?_
    obtain ⟨rfl, rfl⟩ := Prod.mk.inj (Option.some.inj h)
    exact rt X ⟨by decide, by decide⟩ dX7_pass_21
  · rw [if_neg hc5] at h
    refine z_iconst C dX7_pass_8 ?_
    obtain ⟨rfl, rfl⟩ := Prod.mk.inj (Option.some.inj h)
    exact rt X ⟨by decide, by decide⟩ dX7_pass_9
theorem zc_X7_pass : zcal yX7_pass cX7_pass 2 (some Jvm.ClassFile.FieldType.boolean) RX7 1 := ⟨⟨kw_541, kw_540, kp_7, kw_5⟩, rfl, by decide, by decide, by decide +kernel⟩

def f_X7_isRead (μ : zMem) : Option (Int × zMem) :=
  bnd2 (f_X7_look μ) fun x_1 μ_2 =>
  if x_1 = (-1) then
    some (1, μ_2)
  else
    some (0, μ_2)
set_option maxHeartbeats 4000000 in
set_option maxRecDepth 100000 in
theorem M_X7_isRead {l : Launch} {Ω : zO} (hI : zIc Ω) (μ : zMem) {r : Int} {μ' : zMem} (h : f_X7_isRead μ = some (r, μ')) : XMet l yX7_isRead cX7_isRead 1 (some Jvm.ClassFile.FieldType.boolean) 1 Ω [zR Ω 19] μ (some (zI r)) (0 ≤ r ∧ r ≤ 1) μ' := by
  refine XMet.ofZ (by decide) (Nat.le_of_ble_eq_true rfl) ?_
  intro p e s m args below meth c ls Q C rt X hl
  have C : zC p s m args c cX7_isRead RX7 1 Ω := C
  have hl : lv_has ls 1 [(0, zR Ω 19)] := hl
  unfold f_X7_isRead at h
  skip
  refine lv_aload_n C.1 C.2.1 dX7_isRead_0 rfl (lv_at hl 0 rfl) ?_
  obtain ⟨x_1, μ_2, hq1, h⟩ := bnd2_some h
  refine z_callV1 C X zk7 (hI.1 19 (by decide)) rfl (As := []) (M_X7_look hI μ hq1) zc_X7_look kw_482 (zroom (by decide) (by decide)) rfl hl.1 rfl (Nat.le_of_ble_eq_true rfl) dX7_isRead_1 ⟨Nat.zero_le _, Nat.zero_le _⟩ (fun H locs g_1 X => ?_)
  refine z_iconst C dX7_isRead_4 ?_
  refine z_icmpne C g_1 ⟨by decide, by decide⟩ (tgt := 12) dX7_isRead_5 (by decide) (fun hc5 => ?_) (fun hc5 => ?_)
  · rw [if_neg hc5] at h
    refine z_iconst C dX7_isRead_12 ?_
    obtain ⟨rfl, rfl⟩ := Prod.mk.inj (Option.some.inj h)
    exact rt X ⟨by decide, by decide⟩ dX7_isRead_13
  · rw [if_pos hc5] at h
    refine z_iconst C dX7_isRead_8 ?_
    refine lv_goto (tgt := 13) C.1 C.2.1 dX7_isRead_9 (by decide) ?_
    obtain ⟨rfl, rfl⟩ := Prod.mk.inj (Option.some.inj h)
    exact rt X ⟨by decide, by decide⟩ dX7_isRead_13
theorem zc_X7_isRead : zcal yX7_isRead cX7_isRead 1 (some Jvm.ClassFile.FieldType.boolean) RX7 0 := ⟨⟨kw_508, kw_506, kw_507, kw_5⟩, rfl, by decide, by decide, by decide +kernel⟩

def f_X7_faultHere (μ : zMem) : Option (Int × zMem) :=
  bnd2 (f_X7_look μ) fun x_1 μ_2 =>
  some ((zw ((-20) - (μ_2 19 2))), μ_2)
set_option maxHeartbeats 4000000 in
set_option maxRecDepth 100000 in
theorem M_X7_faultHere {l : Launch} {Ω : zO} (hI : zIc Ω) (μ : zMem) {r : Int} {μ' : zMem} (h : f_X7_faultHere μ = some (r, μ')) : XMet l yX7_faultHere cX7_faultHere 1 (some Jvm.ClassFile.FieldType.int) 1 Ω [zR Ω 19] μ (some (zI r)) (Rg r) μ' := by
  refine XMet.ofI (by decide) (Nat.le_of_ble_eq_true rfl) ?_
  intro p e s m args below meth c ls Q C rt X hl
  have C : zC p s m args c cX7_faultHere RX7 1 Ω := C
  have hl : lv_has ls 1 [(0, zR Ω 19)] := hl
  unfold f_X7_faultHere at h
  skip
  refine lv_aload_n C.1 C.2.1 dX7_faultHere_0 rfl (lv_at hl 0 rfl) ?_
  obtain ⟨x_1, μ_2, hq1, h⟩ := bnd2_some h
  refine z_callV1 C X zk7 (hI.1 19 (by decide)) rfl (As := []) (M_X7_look hI μ hq1) zc_X7_look kw_482 (zroom (by decide) (by decide)) rfl hl.1 rfl (Nat.le_of_ble_eq_true rfl) dX7_faultHere_1 ⟨Nat.zero_le _, Nat.zero_le _⟩ (fun H locs g_1 X => ?_)
  refine lv_pop C.1 C.2.1 dX7_faultHere_4 rfl ?_
  refine z_bipush C dX7_faultHere_5 (by decide) ?_
  refine lv_aload_n C.1 C.2.1 dX7_faultHere_7 rfl (lv_at hl 0 rfl) ?_
  have g_8 : Rg (μ_2 19 2) := zrgf0 (ci := 7) X.2.2.2 (hI.1 19 (by decide)) rfl 2 rfl
  refine z_get C X zk7 (hI.1 19 (by decide)) rfl 2 (by decide) kw_173 (zI (μ_2 19 2)) rfl dX7_faultHere_8 ?_
  refine z_isub C dX7_faultHere_11 ?_
  obtain ⟨rfl, rfl⟩ := Prod.mk.inj (Option.some.inj h)
  exact rt X (Rg.w _) dX7_faultHere_12
theorem zc_X7_faultHere : zcal yX7_faultHere cX7_faultHere 1 (some Jvm.ClassFile.FieldType.int) RX7 0 := ⟨⟨kw_512, kw_510, kw_511, kw_5⟩, rfl, by decide, by decide, by decide +kernel⟩

def f_X7_readNumber_J114 (x_3 : Int) (μ_6 : zMem) : Option (Int × zMem) :=
  zlet (zup μ_6 19 2 x_3) fun μ_7 =>
  some ((-1), μ_7)
def f_X7_readNumber_K91 (x1 : Int) (x2 : Int) (x_3 : Int) (x_4 : Int) (μ_5 : zMem) : Option (Int × zMem) :=
  if (μ_5 19 2) ≤ x_3 then
    (f_X7_readNumber_J114 x_3) μ_5
  else
    if x_4 < x1 then
      (f_X7_readNumber_J114 x_3) μ_5
    else
      if x_4 ≤ x2 then
        some (x_4, μ_5)
      else
        (f_X7_readNumber_J114 x_3) μ_5
def f_X7_readNumber_L13 (x2 : Int) (g91 : Int → zMem → Option (Int × zMem)) : Nat → Int → zMem → Option (Int × zMem)
  | 0, _, _ => none
  | n + 1, x_8, μ_9 =>
    if (μ_9 19 2) < (μ_9 19 1) then
      chk ((0 : Int) ≤ (μ_9 19 2) ∧ (μ_9 19 2) < 120) <|
      if (μ_9 20 (μ_9 19 2)) < 48 then
        g91 x_8 μ_9
      else
        chk ((0 : Int) ≤ (μ_9 19 2) ∧ (μ_9 19 2) < 120) <|
        if (μ_9 20 (μ_9 19 2)) ≤ 57 then
          chk ((0 : Int) ≤ (μ_9 19 2) ∧ (μ_9 19 2) < 120) <|
          zlet ((zmin (zw ((zw ((zw (10 * x_8)) + (μ_9 20 (μ_9 19 2)))) - 48)) (zw (x2 + 1)))) fun x_10 =>
          zlet (zup μ_9 19 2 (zw ((μ_9 19 2) + 1))) fun μ_11 =>
          (f_X7_readNumber_L13 x2 g91 n) x_10 μ_11
        else
          g91 x_8 μ_9
    else
      g91 x_8 μ_9
def f_X7_readNumber (x1 : Int) (x2 : Int) (μ : zMem) : Option (Int × zMem) :=
  bnd2 (f_X7_look μ) fun x_1 μ_2 =>
  zlet ((μ_2 19 2)) fun x_3 =>
  (f_X7_readNumber_L13 x2 (f_X7_readNumber_K91 x1 x2 x_3)) zfu 0 μ_2
set_option maxHeartbeats 4000000 in
set_option maxRecDepth 100000 in
theorem M_X7_readNumber {l : Launch} {Ω : zO} (hI : zIc Ω) (μ : zMem) (x1 : Int) (x2 : Int) {r : Int} {μ' : zMem} (gx1 : Rg x1) (gx2 : Rg x2) (h : f_X7_readNumber x1 x2 μ = some (r, μ')) : XMet l yX7_readNumber cX7_readNumber 5 (some Jvm.ClassFile.FieldType.int) 1 Ω [zR Ω 19, zI x1, zI x2] μ (some (zI r)) (Rg r) μ' := by
  refine XMet.ofI (by decide) (Nat.le_of_ble_eq_true rfl) ?_
  intro p e s m args below meth c ls Q C rt X hl
  have C : zC p s m args c cX7_readNumber RX7 5 Ω := C
  have hl : lv_has ls 5 [(0, zR Ω 19), (1, zI x1), (2, zI x2)] := hl
  unfold f_X7_readNumber at h
  skip
  refine lv_aload_n C.1 C.2.1 dX7_readNumber_0 rfl (lv_at hl 0 rfl) ?_
  obtain ⟨x_1, μ_2, hq1, h⟩ := bnd2_some h
  refine z_callV1 C X zk7 (hI.1 19 (by decide)) rfl (As := []) (M_X7_look hI μ hq1) zc_X7_look kw_482 (zroom (by decide) (by decide)) rfl hl.1 rfl (Nat.le_of_ble_eq_true rfl) dX7_readNumber_1 ⟨Nat.zero_le _, Nat.zero_le _⟩ (fun H locs g_1 X => ?_)
  refine lv_pop C.1 C.2.1 dX7_readNumber_4 rfl ?_
  refine lv_aload_n C.1 C.2.1 dX7_readNumber_5 rfl (lv_at hl 0 rfl) ?_
  have g_6 : Rg (μ_2 19 2) := zrgf0 (ci := 7) X.2.2.2 (hI.1 19 (by decide)) rfl 2 rfl
  refine z_get C X zk7 (hI.1 19 (by decide)) rfl 2 (by decide) kw_173 (zI (μ_2 19 2)) rfl dX7_readNumber_6 ?_
  refine zlet_elim h (fun x_3 ex_3 h => ?_)
  have gx_3 : Rg x_3 := by rw [ex_3]; exact g_6
  refine z_istore_n C ex_3 dX7_readNumber_9 rfl hl (by decide) (lv' := [(3, zI x_3), (0, zR Ω 19), (1, zI x1), (2, zI x2)]) rfl (fun ls hl => ?_)
  clear ex_3
  refine z_iconst C dX7_readNumber_10 ?_
  refine lv_istore C.1 C.2.1 (lv' := [(4, zI 0), (3, zI x_3), (0, zR Ω 19), (1, zI x1), (2, zI x2)]) dX7_readNumber_11 hl (by decide) rfl (fun ls hl => ?_)
  have K91 : ∀ (x_4 : Int) (μ_5 : zMem) (H : Heap) (locs : List Loc) (ls : Array Slot), Rg x_4 → zX Ω μ_5 (zfree Ω) s.heap H locs → lv_has ls 5 [(0, zR Ω 19), (1, zI x1), (2, zI x2), (3, zI x_3), (4, zI x_4)] → (f_X7_readNumber_K91 x1 x2 x_3) x_4 μ_5 = some (r, μ') → W p l e (zrm 1) s m args below meth c H locs 0 0 Q (F0 m 91 ls []) := by
    intro x_4 μ_5 H locs ls gx_4 X hl h
    unfold f_X7_readNumber_K91 at h
    refine lv_aload_n C.1 C.2.1 dX7_readNumber_91 rfl (lv_at hl 0 rfl) ?_
    have g_92 : Rg (μ_5 19 2) := zrgf0 (ci := 7) X.2.2.2 (hI.1 19 (by decide)) rfl 2 rfl
    refine z_get C X zk7 (hI.1 19 (by decide)) rfl 2 (by decide) kw_173 (zI (μ_5 19 2)) rfl dX7_readNumber_92 ?_
    refine lv_iload_n C.1 C.2.1 dX7_readNumber_95 rfl (lv_at hl 3 rfl) ?_
    have K114 : ∀ (μ_6 : zMem) (H : Heap) (locs : List Loc) (ls : Array Slot), zX Ω μ_6 (zfree Ω) s.heap H locs → lv_has ls 5 [(0, zR Ω 19), (3, zI x_3)] → (f_X7_readNumber_J114 x_3) μ_6 = some (r, μ') → W p l e (zrm 1) s m args below meth c H locs 0 0 Q (F0 m 114 ls []) := by
      intro μ_6 H locs ls  X hl h
      unfold f_X7_readNumber_J114 at h
      refine lv_aload_n C.1 C.2.1 dX7_readNumber_114 rfl (lv_at hl 0 rfl) ?_
      refine lv_iload_n C.1 C.2.1 dX7_readNumber_115 rfl (lv_at hl 1 rfl) ?_
      refine zlet_elim h (fun μ_7 em h => ?_)
      refine z_putI C X zk7 (hI.1 19 (by decide)) rfl 2 (by decide) kw_173 rfl rfl rfl rfl gx_3 em dX7_readNumber_116 (fun H locs X => ?_)
      clear em
      refine z_iconst C dX7_readNumber_119 ?_
      obtain ⟨rfl, rfl⟩ := Prod.mk.inj (Option.some.inj h)
      exact rt X ⟨by decide, by decide⟩ dX7_readNumber_120
    refine z_icmple C g_92 gx_3 (tgt := 114) dX7_readNumber_96 (by decide) (fun hc96 => ?_) (fun hc96 => ?_)
    · rw [if_pos hc96] at h
      exact K114 μ_5 _ _ _ X (lv_sub hl [0, 3] rfl) h
    · rw [if_neg hc96] at h
      refine lv_iload C.1 C.2.1 dX7_readNumber_99 (lv_at hl 4 rfl) ?_
      refine lv_iload_n C.1 C.2.1 dX7_readNumber_101 rfl (lv_at hl 1 rfl) ?_
      refine z_icmplt C gx_4 gx1 (tgt := 114) dX7_readNumber_102 (by decide) (fun hc102 => ?_) (fun hc102 => ?_)
      · rw [if_pos hc102] at h
        exact K114 μ_5 _ _ _ X (lv_sub hl [0, 3] rfl) h
      · rw [if_neg hc102] at h
        refine lv_iload C.1 C.2.1 dX7_readNumber_105 (lv_at hl 4 rfl) ?_
        refine lv_iload_n C.1 C.2.1 dX7_readNumber_107 rfl (lv_at hl 2 rfl) ?_
        refine z_icmpgt C gx_4 gx2 (tgt := 114) dX7_readNumber_108 (by decide) (fun hc108 => ?_) (fun hc108 => ?_)
        · rw [if_neg hc108] at h
          exact K114 μ_5 _ _ _ X (lv_sub hl [0, 3] rfl) h
        · rw [if_pos hc108] at h
          refine lv_iload C.1 C.2.1 dX7_readNumber_111 (lv_at hl 4 rfl) ?_
          obtain ⟨rfl, rfl⟩ := Prod.mk.inj (Option.some.inj h)
          exact rt X gx_4 dX7_readNumber_113
  have L13 : ∀ (n13 : Nat) (x_8 : Int) (μ_9 : zMem) (H : Heap) (locs : List Loc) (ls : Array Slot), Rg x_8 → zX Ω μ_9 (zfree Ω) s.heap H locs → lv_has ls 5 [(0, zR Ω 19), (1, zI x1), (2, zI x2), (3, zI x_3), (4, zI x_8)] → (f_X7_readNumber_L13 x2 (f_X7_readNumber_K91 x1 x2 x_3) n13 x_8 μ_9) = some (r, μ') → W p l e (zrm 1) s m args below meth c H locs 0 0 Q (F0 m 13 ls []) := by
    intro n13
    induction n13 with
    | zero =>
      intro x_8 μ_9 H locs ls _ _ _ h
      cases h
    | succ n13 ih13 =>
      intro x_8 μ_9 H locs ls gx_8 X hl h
      unfold f_X7_readNumber_L13 at h
      refine lv_aload_n C.1 C.2.1 dX7_readNumber_13 rfl (lv_at hl 0 rfl) ?_
      have g_14 : Rg (μ_9 19 2) := zrgf0 (ci := 7) X.2.2.2 (hI.1 19 (by decide)) rfl 2 rfl
      refine z_get C X zk7 (hI.1 19 (by decide)) rfl 2 (by decide) kw_173 (zI (μ_9 19 2)) rfl dX7_readNumber_14 ?_
      refine lv_aload_n C.1 C.2.1 dX7_readNumber_17 rfl (lv_at hl 0 rfl) ?_
      have g_18 : Rg (μ_9 19 1) := zrgf0 (ci := 7) X.2.2.2 (hI.1 19 (by decide)) rfl 1 rfl
      refine z_get C X zk7 (hI.1 19 (by decide)) rfl 1 (by decide) kw_171 (zI (μ_9 19 1)) rfl dX7_readNumber_18 ?_
      refine z_icmpge C g_14 g_18 (tgt := 91) dX7_readNumber_21 (by decide) (fun hc21 => ?_) (fun hc21 => ?_)
      · rw [if_neg hc21] at h
        exact K91 x_8 μ_9 _ _ _ gx_8 X (lv_sub hl [0, 1, 2, 3, 4] rfl) h
      · rw [if_pos hc21] at h
        refine lv_aload_n C.1 C.2.1 dX7_readNumber_24 rfl (lv_at hl 0 rfl) ?_
        refine z_get C X zk7 (hI.1 19 (by decide)) rfl 0 (by decide) kw_170 (zR Ω 20) (zfvF (off := 1) X.2.2.2 (hI.1 19 (by decide)) (hI.2 19 (by decide)) rfl rfl (by decide)) dX7_readNumber_25 ?_
        refine lv_aload_n C.1 C.2.1 dX7_readNumber_28 rfl (lv_at hl 0 rfl) ?_
        have g_29 : Rg (μ_9 19 2) := zrgf0 (ci := 7) X.2.2.2 (hI.1 19 (by decide)) rfl 2 rfl
        refine z_get C X zk7 (hI.1 19 (by decide)) rfl 2 (by decide) kw_173 (zI (μ_9 19 2)) rfl dX7_readNumber_29 ?_
        obtain ⟨hc32, h⟩ := chk_some h
        have g_32 : 0 ≤ (μ_9 20 (μ_9 19 2)) ∧ (μ_9 20 (μ_9 19 2)) ≤ 65535 := zrg4 X.2.2.2 (hI.1 20 (by decide)) rfl
        refine z_cald C X (hI.1 20 (by decide)) rfl hc32 dX7_readNumber_32 ?_
        refine z_bipush C dX7_readNumber_33 (by decide) ?_
        refine z_icmplt C (rgc g_32) ⟨by decide, by decide⟩ (tgt := 91) dX7_readNumber_35 (by decide) (fun hc35 => ?_) (fun hc35 => ?_)
        · rw [if_pos hc35] at h
          exact K91 x_8 μ_9 _ _ _ gx_8 X (lv_sub hl [0, 1, 2, 3, 4] rfl) h
        · rw [if_neg hc35] at h
          refine lv_aload_n C.1 C.2.1 dX7_readNumber_38 rfl (lv_at hl 0 rfl) ?_
          refine z_get C X zk7 (hI.1 19 (by decide)) rfl 0 (by decide) kw_170 (zR Ω 20) (zfvF (off := 1) X.2.2.2 (hI.1 19 (by decide)) (hI.2 19 (by decide)) rfl rfl (by decide)) dX7_readNumber_39 ?_
          refine lv_aload_n C.1 C.2.1 dX7_readNumber_42 rfl (lv_at hl 0 rfl) ?_
          have g_43 : Rg (μ_9 19 2) := zrgf0 (ci := 7) X.2.2.2 (hI.1 19 (by decide)) rfl 2 rfl
          refine z_get C X zk7 (hI.1 19 (by decide)) rfl 2 (by decide) kw_173 (zI (μ_9 19 2)) rfl dX7_readNumber_43 ?_
          obtain ⟨hc46, h⟩ := chk_some h
          have g_46 : 0 ≤ (μ_9 20 (μ_9 19 2)) ∧ (μ_9 20 (μ_9 19 2)) ≤ 65535 := zrg4 X.2.2.2 (hI.1 20 (by decide)) rfl
          refine z_cald C X (hI.1 20 (by decide)) rfl hc46 dX7_readNumber_46 ?_
          refine z_bipush C dX7_readNumber_47 (by decide) ?_
          refine z_icmpgt C (rgc g_46) ⟨by decide, by decide⟩ (tgt := 91) dX7_readNumber_49 (by decide) (fun hc49 => ?_) (fun hc49 => ?_)
          · rw [if_neg hc49] at h
            exact K91 x_8 μ_9 _ _ _ gx_8 X (lv_sub hl [0, 1, 2, 3, 4] rfl) h
          · rw [if_pos hc49] at h
            refine z_bipush C dX7_readNumber_52 (by decide) ?_
            refine lv_iload C.1 C.2.1 dX7_readNumber_54 (lv_at hl 4 rfl) ?_
            refine z_imul C dX7_readNumber_56 ?_
            refine lv_aload_n C.1 C.2.1 dX7_readNumber_57 rfl (lv_at hl 0 rfl) ?_
            refine z_get C X zk7 (hI.1 19 (by decide)) rfl 0 (by decide) kw_170 (zR Ω 20) (zfvF (off := 1) X.2.2.2 (hI.1 19 (by decide)) (hI.2 19 (by decide)) rfl rfl (by decide)) dX7_readNumber_58 ?_
            refine lv_aload_n C.1 C.2.1 dX7_readNumber_61 rfl (lv_at hl 0 rfl) ?_
            have g_62 : Rg (μ_9 19 2) := zrgf0 (ci := 7) X.2.2.2 (hI.1 19 (by decide)) rfl 2 rfl
            refine z_get C X zk7 (hI.1 19 (by decide)) rfl 2 (by decide) kw_173 (zI (μ_9 19 2)) rfl dX7_readNumber_62 ?_
            obtain ⟨hc65, h⟩ := chk_some h
            have g_65 : 0 ≤ (μ_9 20 (μ_9 19 2)) ∧ (μ_9 20 (μ_9 19 2)) ≤ 65535 := zrg4 X.2.2.2 (hI.1 20 (by decide)) rfl
            refine z_cald C X (hI.1 20 (by decide)) rfl hc65 dX7_readNumber_65 ?_
            refine z_iadd C dX7_readNumber_66 ?_
            refine z_bipush C dX7_readNumber_67 (by decide) ?_
            refine z_isub C dX7_readNumber_69 ?_
            refine lv_iload_n C.1 C.2.1 dX7_readNumber_70 rfl (lv_at hl 2 rfl) ?_
            refine z_iconst C dX7_readNumber_71 ?_
            refine z_iadd C dX7_readNumber_72 ?_
            refine z_mmin C (Rg.w _) (Rg.w _) hl.1 kw_536 kw_42 kw_4 kw_43 (by decide) (Nat.le_of_ble_eq_true rfl) (Nat.zero_le _) (Nat.zero_le _) dX7_readNumber_73 ?_
            refine zlet_elim h (fun x_10 ex_10 h => ?_)
            have gx_10 : Rg x_10 := by rw [ex_10]; exact (zmin_rg (Rg.w _) (Rg.w _))
            refine z_istore C ex_10 dX7_readNumber_76 hl (by decide) (lv' := [(4, zI x_10), (0, zR Ω 19), (1, zI x1), (2, zI x2), (3, zI x_3)]) rfl (fun ls hl => ?_)
            clear ex_10
            refine lv_aload_n C.1 C.2.1 dX7_readNumber_78 rfl (lv_at hl 1 rfl) ?_
            refine lv_dup C.1 C.2.1 dX7_readNumber_79 rfl ?_
            have g_80 : Rg (μ_9 19 2) := zrgf0 (ci := 7) X.2.2.2 (hI.1 19 (by decide)) rfl 2 rfl
            refine z_get C X zk7 (hI.1 19 (by decide)) rfl 2 (by decide) kw_173 (zI (μ_9 19 2)) rfl dX7_readNumber_80 ?_
            refine z_iconst C dX7_readNumber_83 ?_
            refine z_iadd C dX7_readNumber_84 ?_
            refine zlet_elim h (fun μ_11 em h => ?_)
            refine z_putI C X zk7 (hI.1 19 (by decide)) rfl 2 (by decide) kw_173 rfl rfl rfl rfl (Rg.w _) em dX7_readNumber_85 (fun H locs X => ?_)
            clear em
            refine lv_goto (tgt := 13) C.1 C.2.1 dX7_readNumber_88 (by decide) ?_
            exact ih13 x_10 μ_11 _ _ _ gx_10 X (lv_sub hl [1, 2, 3, 4, 0] rfl) h
  exact L13 zfu 0 μ_2 _ _ _ ⟨by decide, by decide⟩ X (lv_sub hl [2, 3, 4, 1, 0] rfl) h
theorem zc_X7_readNumber : zcal yX7_readNumber cX7_readNumber 5 (some Jvm.ClassFile.FieldType.int) RX7 2 := ⟨⟨kw_535, kw_534, kp_6, kw_5⟩, rfl, by decide, by decide, by decide +kernel⟩

def f_X7_readEdge (x1 : Int) (μ : zMem) : Option (Int × zMem) :=
  bnd2 (f_X7_pass 61 μ) fun x_1 μ_2 =>
  if x_1 = 0 then
    some (0, μ_2)
  else
    bnd2 (f_X7_readNumber 0 (zw ((μ_2 x1 6) - 1)) μ_2) fun x_3 μ_4 =>
    if x_3 = (-1) then
      some (0, μ_4)
    else
      bnd2 (f_X7_pass 62 μ_4) fun x_5 μ_6 =>
      if x_5 = 0 then
        some (0, μ_6)
      else
        bnd2 (f_X7_readNumber 0 (zw ((μ_6 x1 6) - 1)) μ_6) fun x_7 μ_8 =>
        if x_7 = (-1) then
          some (0, μ_8)
        else
          bnd (f_X5_addEdge x1 x_3 x_7 μ_8) fun μ_9 =>
          some (1, μ_9)
set_option maxHeartbeats 4000000 in
set_option maxRecDepth 100000 in
theorem M_X7_readEdge {l : Launch} {Ω : zO} (hI : zIc Ω) (μ : zMem) (x1 : Int) {r : Int} {μ' : zMem} (o_x1 : zob Ω.2.2.1 5 x1) (h : f_X7_readEdge x1 μ = some (r, μ')) : XMet l yX7_readEdge cX7_readEdge 4 (some Jvm.ClassFile.FieldType.boolean) 2 Ω [zR Ω 19, zR Ω x1] μ (some (zI r)) (0 ≤ r ∧ r ≤ 1) μ' := by
  refine XMet.ofZ (by decide) (Nat.le_of_ble_eq_true rfl) ?_
  intro p e s m args below meth c ls Q C rt X hl
  have C : zC p s m args c cX7_readEdge RX7 4 Ω := C
  have hl : lv_has ls 4 [(0, zR Ω 19), (1, zR Ω x1)] := hl
  unfold f_X7_readEdge at h
  skip
  refine lv_aload_n C.1 C.2.1 dX7_readEdge_0 rfl (lv_at hl 0 rfl) ?_
  refine z_bipush C dX7_readEdge_1 (by decide) ?_
  obtain ⟨x_1, μ_2, hq3, h⟩ := bnd2_some h
  refine z_callV1 C X zk7 (hI.1 19 (by decide)) rfl (As := [zI 61]) (M_X7_pass hI μ 61 ⟨by decide, by decide⟩ hq3) zc_X7_pass kw_538 (zroom (by decide) (by decide)) rfl hl.1 rfl (Nat.le_of_ble_eq_true rfl) dX7_readEdge_3 ⟨Nat.zero_le _, Nat.zero_le _⟩ (fun H locs g_3 X => ?_)
  refine z_ifne C (rgz g_3) (tgt := 11) dX7_readEdge_6 (by decide) (fun hc6 => ?_) (fun hc6 => ?_)
  · rw [if_neg hc6] at h
    refine lv_aload_n C.1 C.2.1 dX7_readEdge_11 rfl (lv_at hl 0 rfl) ?_
    refine z_iconst C dX7_readEdge_12 ?_
    refine lv_aload_n C.1 C.2.1 dX7_readEdge_13 rfl (lv_at hl 1 rfl) ?_
    have g_14 : Rg (μ_2 x1 6) := zrgf0 (ci := 5) X.2.2.2 (zob.self o_x1) (zo5 o_x1) 6 rfl
    refine z_get C X zk5 (zob.self o_x1) (zo5 o_x1) 6 (by decide) kw_81 (zI (μ_2 x1 6)) rfl dX7_readEdge_14 ?_
    refine z_iconst C dX7_readEdge_17 ?_
    refine z_isub C dX7_readEdge_18 ?_
    obtain ⟨x_3, μ_4, hq19, h⟩ := bnd2_some h
    refine z_callV1 C X zk7 (hI.1 19 (by decide)) rfl (As := [zI 0, zI (zw ((μ_2 x1 6) - 1))]) (M_X7_readNumber hI μ_2 0 (zw ((μ_2 x1 6) - 1)) ⟨by decide, by decide⟩ (Rg.w _) hq19) zc_X7_readNumber kw_532 (zroom (by decide) (by decide)) rfl hl.1 rfl (Nat.le_of_ble_eq_true rfl) dX7_readEdge_19 ⟨Nat.zero_le _, Nat.zero_le _⟩ (fun H locs g_19 X => ?_)
    refine lv_istore_n C.1 C.2.1 (lv' := [(2, zI x_3), (0, zR Ω 19), (1, zR Ω x1)]) dX7_readEdge_22 rfl hl (by decide) rfl (fun ls hl => ?_)
    refine lv_iload_n C.1 C.2.1 dX7_readEdge_23 rfl (lv_at hl 0 rfl) ?_
    refine z_iconst C dX7_readEdge_24 ?_
    refine z_icmpeq C g_19 ⟨by decide, by decide⟩ (tgt := 37) dX7_readEdge_25 (by decide) (fun hc25 => ?_) (fun hc25 => ?_)
    · rw [if_pos hc25] at h
      refine z_iconst C dX7_readEdge_37 ?_
      obtain ⟨rfl, rfl⟩ := Prod.mk.inj (Option.some.inj h)
      exact rt X ⟨by decide, by decide⟩ dX7_readEdge_38
    · rw [if_neg hc25] at h
      refine lv_aload_n C.1 C.2.1 dX7_readEdge_28 rfl (lv_at hl 1 rfl) ?_
      refine z_bipush C dX7_readEdge_29 (by decide) ?_
      obtain ⟨x_5, μ_6, hq31, h⟩ := bnd2_some h
      refine z_callV1 C X zk7 (hI.1 19 (by decide)) rfl (As := [zI 62]) (M_X7_pass hI μ_4 62 ⟨by decide, by decide⟩ hq31) zc_X7_pass kw_538 (zroom (by decide) (by decide)) rfl hl.1 rfl (Nat.le_of_ble_eq_true rfl) dX7_readEdge_31 ⟨Nat.zero_le _, Nat.zero_le _⟩ (fun H locs g_31 X => ?_)
      refine z_ifne C (rgz g_31) (tgt := 39) dX7_readEdge_34 (by decide) (fun hc34 => ?_) (fun hc34 => ?_)
      · rw [if_neg hc34] at h
        refine lv_aload_n C.1 C.2.1 dX7_readEdge_39 rfl (lv_at hl 1 rfl) ?_
        refine z_iconst C dX7_readEdge_40 ?_
        refine lv_aload_n C.1 C.2.1 dX7_readEdge_41 rfl (lv_at hl 2 rfl) ?_
        have g_42 : Rg (μ_6 x1 6) := zrgf0 (ci := 5) X.2.2.2 (zob.self o_x1) (zo5 o_x1) 6 rfl
        refine z_get C X zk5 (zob.self o_x1) (zo5 o_x1) 6 (by decide) kw_81 (zI (μ_6 x1 6)) rfl dX7_readEdge_42 ?_
        refine z_iconst C dX7_readEdge_45 ?_
        refine z_isub C dX7_readEdge_46 ?_
        obtain ⟨x_7, μ_8, hq47, h⟩ := bnd2_some h
        refine z_callV1 C X zk7 (hI.1 19 (by decide)) rfl (As := [zI 0, zI (zw ((μ_6 x1 6) - 1))]) (M_X7_readNumber hI μ_6 0 (zw ((μ_6 x1 6) - 1)) ⟨by decide, by decide⟩ (Rg.w _) hq47) zc_X7_readNumber kw_532 (zroom (by decide) (by decide)) rfl hl.1 rfl (Nat.le_of_ble_eq_true rfl) dX7_readEdge_47 ⟨Nat.zero_le _, Nat.zero_le _⟩ (fun H locs g_47 X => ?_)
        refine lv_istore_n C.1 C.2.1 (lv' := [(3, zI x_7), (2, zI x_3), (0, zR Ω 19), (1, zR Ω x1)]) dX7_readEdge_50 rfl hl (by decide) rfl (fun ls hl => ?_)
        refine lv_iload_n C.1 C.2.1 dX7_readEdge_51 rfl (lv_at hl 0 rfl) ?_
        refine z_iconst C dX7_readEdge_52 ?_
        refine z_icmpne C g_47 ⟨by decide, by decide⟩ (tgt := 58) dX7_readEdge_53 (by decide) (fun hc53 => ?_) (fun hc53 => ?_)
        · rw [if_neg hc53] at h
          refine lv_aload_n C.1 C.2.1 dX7_readEdge_58 rfl (lv_at hl 3 rfl) ?_
          refine lv_iload_n C.1 C.2.1 dX7_readEdge_59 rfl (lv_at hl 1 rfl) ?_
          refine lv_iload_n C.1 C.2.1 dX7_readEdge_60 rfl (lv_at hl 0 rfl) ?_
          obtain ⟨μ_9, hq61, h⟩ := bnd_some h
          refine z_callV0 C X zk5 (zob.self o_x1) (zo5 o_x1) (As := [zI x_3, zI x_7]) (M_X5_addEdge μ_8 x1 x_3 x_7 o_x1 g_19 g_47 hq61) zc_X5_addEdge kw_552 (zroom (by decide) (by decide)) rfl hl.1 rfl (Nat.le_of_ble_eq_true rfl) dX7_readEdge_61 ⟨Nat.zero_le _, Nat.zero_le _⟩ (fun H locs g_61 X => ?_)
          refine z_iconst C dX7_readEdge_64 ?_
          obtain ⟨rfl, rfl⟩ := Prod.mk.inj (Option.some.inj h)
          exact rt X ⟨by decide, by decide⟩ dX7_readEdge_65
        · rw [if_pos hc53] at h
          refine z_iconst C dX7_readEdge_56 ?_
          obtain ⟨rfl, rfl⟩ := Prod.mk.inj (Option.some.inj h)
          exact rt X ⟨by decide, by decide⟩ dX7_readEdge_57
      · rw [if_pos hc34] at h
        refine z_iconst C dX7_readEdge_37 ?_
        obtain ⟨rfl, rfl⟩ := Prod.mk.inj (Option.some.inj h)
        exact rt X ⟨by decide, by decide⟩ dX7_readEdge_38
  · rw [if_pos hc6] at h
    refine z_iconst C dX7_readEdge_9 ?_
    obtain ⟨rfl, rfl⟩ := Prod.mk.inj (Option.some.inj h)
    exact rt X ⟨by decide, by decide⟩ dX7_readEdge_10
theorem zc_X7_readEdge : zcal yX7_readEdge cX7_readEdge 4 (some Jvm.ClassFile.FieldType.boolean) RX7 1 := ⟨⟨kw_551, kw_550, kp_9, kw_5⟩, rfl, by decide, by decide, by decide +kernel⟩

