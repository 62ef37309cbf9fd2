def f_X9_toldStep_J16 (x0 : Int) (x_1 : Int) : Int :=
  (zw ((zshr x0 1) + x_1))
def f_X9_toldStep (x0 : Int) : Int :=
  (f_X9_toldStep_J16 x0) (if (zand x0 1) = 1 then 100 else 0)
set_option maxHeartbeats 4000000 in
set_option maxRecDepth 100000 in
theorem M_X9_toldStep {l : Launch} {Ω : zO} (hI : zIc Ω) (μ : zMem) (x0 : Int) (gx0 : Rg x0) : XMet l yX9_toldStep cX9_toldStep 1 (some Jvm.ClassFile.FieldType.int) 0 Ω [zI x0] μ (some (zI (f_X9_toldStep x0))) (Rg (f_X9_toldStep x0)) μ := by
  obtain ⟨r, h⟩ : ∃ r, f_X9_toldStep x0 = r := ⟨_, rfl⟩
  rw [h]
  refine XMet.ofI (by decide) (Nat.le_of_ble_eq_true rfl) ?_
  intro p e s m args below meth c ls Q C rt X hl
  have C : zC p s m args c cX9_toldStep RX9 1 Ω := C
  have hl : lv_has ls 1 [(0, zI x0)] := hl
  unfold f_X9_toldStep at h
  skip
  refine lv_iload_n C.1 C.2.1 dX9_toldStep_0 rfl (lv_at hl 0 rfl) ?_
  refine z_iconst C dX9_toldStep_1 ?_
  refine z_ishr C dX9_toldStep_2 ?_
  refine lv_iload_n C.1 C.2.1 dX9_toldStep_3 rfl (lv_at hl 0 rfl) ?_
  refine z_iconst C dX9_toldStep_4 ?_
  refine z_iand C dX9_toldStep_5 ?_
  refine z_iconst C dX9_toldStep_6 ?_
  have K16 : ∀ (x_1 : Int) (H : Heap) (locs : List Loc) (ls : Array Slot), Rg x_1 → zX Ω μ (zfree Ω) s.heap H locs → lv_has ls 1 [] → (f_X9_toldStep_J16 x0) x_1 = r → W p l e (zrm 0) s m args below meth c H locs 0 0 Q (F0 m 16 ls [zI x_1, zI (zshr x0 1)]) := by
    intro x_1 H locs ls gx_1 X hl h
    unfold f_X9_toldStep_J16 at h
    refine z_iadd C dX9_toldStep_16 ?_
    subst h
    exact rt X (Rg.w _) dX9_toldStep_17
  refine z_icmpne C (Rg.t _) ⟨by decide, by decide⟩ (tgt := 15) dX9_toldStep_7 (by decide) (fun hc7 => ?_) (fun hc7 => ?_)
  · rw [if_neg hc7] at h
    refine z_iconst C dX9_toldStep_15 ?_
    exact K16 0 _ _ _ ⟨by decide, by decide⟩ X (lv_sub hl [] rfl) h
  · rw [if_pos hc7] at h
    refine z_bipush C dX9_toldStep_10 (by decide) ?_
    refine lv_goto (tgt := 16) C.1 C.2.1 dX9_toldStep_12 (by decide) ?_
    exact K16 100 _ _ _ ⟨by decide, by decide⟩ X (lv_sub hl [] rfl) h
theorem zc_X9_toldStep : zcas yX9_toldStep cX9_toldStep 1 (some Jvm.ClassFile.FieldType.int) 1 := ⟨⟨kw_580, kw_579, kw_1⟩, by decide, by decide, by decide +kernel⟩

def f_X9_rim (x1 : Int) (x2 : Int) (x3 : Int) (μ : zMem) : Option Int :=
  bnd (f_X9_seenSpace x1 μ) fun x_1 =>
  if x_1 = 0 then
    some (-1)
  else
    if x2 < 0 then
      some (-1)
    else
      if x2 < (μ x_1 8) then
        if x3 < 0 then
          some (-1)
        else
          chk ((0 : Int) ≤ x2 ∧ x2 < zlen (x_1 + 6)) <|
          if x3 < (μ (x_1 + 6) x2) then
            bnd (f_X5_rimStep x_1 x2 x3 μ) fun x_2 =>
            some (f_X9_toldStep x_2)
          else
            some (-1)
      else
        some (-1)
set_option maxHeartbeats 4000000 in
set_option maxRecDepth 100000 in
theorem M_X9_rim {l : Launch} {Ω : zO} (hI : zIc Ω) (μ : zMem) (x1 : Int) (x2 : Int) (x3 : Int) {r : Int} (gx1 : Rg x1) (gx2 : Rg x2) (gx3 : Rg x3) (h : f_X9_rim x1 x2 x3 μ = some r) : XMet l yX9_rim cX9_rim 5 (some Jvm.ClassFile.FieldType.int) 2 Ω [zR Ω 1, zI x1, zI x2, zI x3] μ (some (zI r)) (Rg r) μ := by
  refine XMet.ofI (by decide) (Nat.le_of_ble_eq_true rfl) ?_
  intro p e s m args below meth c ls Q C rt X hl
  have C : zC p s m args c cX9_rim RX9 5 Ω := C
  have hl : lv_has ls 5 [(0, zR Ω 1), (1, zI x1), (2, zI x2), (3, zI x3)] := hl
  unfold f_X9_rim at h
  skip
  refine lv_aload_n C.1 C.2.1 dX9_rim_0 rfl (lv_at hl 0 rfl) ?_
  refine lv_iload_n C.1 C.2.1 dX9_rim_1 rfl (lv_at hl 1 rfl) ?_
  obtain ⟨x_1, hq2, h⟩ := bnd_some h
  refine z_callV1 C X zk9 (hI.1 1 (by decide)) rfl (As := [zI x1]) (M_X9_seenSpace hI μ x1 gx1 hq2) zc_X9_seenSpace kw_558 (zroom (by decide) (by decide)) rfl hl.1 rfl (Nat.le_of_ble_eq_true rfl) dX9_rim_2 ⟨Nat.zero_le _, Nat.zero_le _⟩ (fun H locs g_2 X => ?_)
  refine z_astoreQ C (lv' := [(4, zQ Ω x_1), (0, zR Ω 1), (1, zI x1), (2, zI x2), (3, zI x3)]) dX9_rim_5 hl (by decide) rfl (fun ls hl => ?_)
  refine z_aloadQ C dX9_rim_7 (lv_at hl 0 rfl) ?_
  refine z_ifnull C (tgt := 40) dX9_rim_9 (by decide) (fun hc9 => ?_) (fun hc9 => ?_)
  · rw [if_pos hc9] at h
    refine z_iconst C dX9_rim_40 ?_
    obtain rfl := Option.some.inj h
    exact rt X ⟨by decide, by decide⟩ dX9_rim_41
  · rw [if_neg hc9] at h
    have o_9 := (g_2).resolve_left hc9
    rw [zQ_pos Ω hc9] at hl
    refine lv_iload_n C.1 C.2.1 dX9_rim_12 rfl (lv_at hl 3 rfl) ?_
    refine z_iflt C gx2 (tgt := 40) dX9_rim_13 (by decide) (fun hc13 => ?_) (fun hc13 => ?_)
    · rw [if_pos hc13] at h
      refine z_iconst C dX9_rim_40 ?_
      obtain rfl := Option.some.inj h
      exact rt X ⟨by decide, by decide⟩ dX9_rim_41
    · rw [if_neg hc13] at h
      refine lv_iload_n C.1 C.2.1 dX9_rim_16 rfl (lv_at hl 3 rfl) ?_
      refine lv_aload C.1 C.2.1 dX9_rim_17 (lv_at hl 0 rfl) ?_
      have g_19 : Rg (μ x_1 8) := zrgf0 (ci := 5) X.2.2.2 (zob.self o_9) (zo5 o_9) 8 rfl
      refine z_get C X zk5 (zob.self o_9) (zo5 o_9) 8 (by decide) kw_91 (zI (μ x_1 8)) rfl dX9_rim_19 ?_
      refine z_icmpge C gx2 g_19 (tgt := 40) dX9_rim_22 (by decide) (fun hc22 => ?_) (fun hc22 => ?_)
      · rw [if_neg hc22] at h
        refine z_iconst C dX9_rim_40 ?_
        obtain rfl := Option.some.inj h
        exact rt X ⟨by decide, by decide⟩ dX9_rim_41
      · rw [if_pos hc22] at h
        refine lv_iload_n C.1 C.2.1 dX9_rim_25 rfl (lv_at hl 4 rfl) ?_
        refine z_iflt C gx3 (tgt := 40) dX9_rim_26 (by decide) (fun hc26 => ?_) (fun hc26 => ?_)
        · rw [if_pos hc26] at h
          refine z_iconst C dX9_rim_40 ?_
          obtain rfl := Option.some.inj h
          exact rt X ⟨by decide, by decide⟩ dX9_rim_41
        · rw [if_neg hc26] at h
          refine lv_iload_n C.1 C.2.1 dX9_rim_29 rfl (lv_at hl 4 rfl) ?_
          refine lv_aload C.1 C.2.1 dX9_rim_30 (lv_at hl 0 rfl) ?_
          refine z_get C X zk5 (zob.self o_9) (zo5 o_9) 5 (by decide) kw_75 (zR Ω (x_1 + 6)) (zfvF (off := 6) X.2.2.2 (zob.self o_9) o_9.2.2 (zo5 o_9) rfl (by rw [zo5_6 o_9]; decide)) dX9_rim_32 ?_
          refine lv_iload_n C.1 C.2.1 dX9_rim_35 rfl (lv_at hl 3 rfl) ?_
          obtain ⟨hc36, h⟩ := chk_some h
          have g_36 : Rg (μ (x_1 + 6) x2) := zrg1 X.2.2.2 (o_9.2.1 6 (by decide) (by decide)) (zo5_6 o_9)
          refine z_iald C X (o_9.2.1 6 (by decide) (by decide)) (zo5_6 o_9) hc36 dX9_rim_36 ?_
          refine z_icmplt C gx3 g_36 (tgt := 42) dX9_rim_37 (by decide) (fun hc37 => ?_) (fun hc37 => ?_)
          · rw [if_pos hc37] at h
            refine lv_aload C.1 C.2.1 dX9_rim_42 (lv_at hl 0 rfl) ?_
            refine lv_iload_n C.1 C.2.1 dX9_rim_44 rfl (lv_at hl 3 rfl) ?_
            refine lv_iload_n C.1 C.2.1 dX9_rim_45 rfl (lv_at hl 4 rfl) ?_
            obtain ⟨x_2, hq46, h⟩ := bnd_some h
            refine z_callV1 C X zk5 (zob.self o_9) (zo5 o_9) (As := [zI x2, zI x3]) (M_X5_rimStep μ x_1 x2 x3 o_9 gx2 gx3 hq46) zc_X5_rimStep kw_574 (zroom (by decide) (by decide)) rfl hl.1 rfl (Nat.le_of_ble_eq_true rfl) dX9_rim_46 ⟨Nat.zero_le _, Nat.zero_le _⟩ (fun H locs g_46 X => ?_)
            refine z_callS1 C X (As := [zI x_2]) (M_X9_toldStep hI μ x_2 g_46) zc_X9_toldStep kw_578 (zroom (by decide) (by decide)) rfl hl.1 rfl (Nat.le_of_ble_eq_true rfl) dX9_rim_49 ⟨Nat.zero_le _, Nat.zero_le _⟩ (fun H locs g_49 X => ?_)
            obtain rfl := Option.some.inj h
            exact rt X g_49 dX9_rim_52
          · rw [if_neg hc37] at h
            refine z_iconst C dX9_rim_40 ?_
            obtain rfl := Option.some.inj h
            exact rt X ⟨by decide, by decide⟩ dX9_rim_41
theorem zc_X9_rim : zcal yX9_rim cX9_rim 5 (some Jvm.ClassFile.FieldType.int) RX9 3 := ⟨⟨kw_573, kw_571, kw_572, kw_1⟩, rfl, by decide, by decide, by decide +kernel⟩

def f_X9_isModulus (x0 : Int) : Int :=
  if x0 = 0 then
    1
  else
    if x0 = 2 then
      1
    else
      if x0 = 3 then
        1
      else
        if x0 = 5 then
          1
        else
          if x0 = 7 then
            1
          else
            0
set_option maxHeartbeats 4000000 in
set_option maxRecDepth 100000 in
theorem M_X9_isModulus {l : Launch} {Ω : zO} (hI : zIc Ω) (μ : zMem) (x0 : Int) (gx0 : Rg x0) : XMet l yX9_isModulus cX9_isModulus 1 (some Jvm.ClassFile.FieldType.boolean) 0 Ω [zI x0] μ (some (zI (f_X9_isModulus x0))) (0 ≤ (f_X9_isModulus x0) ∧ (f_X9_isModulus x0) ≤ 1) μ := by
  obtain ⟨r, h⟩ : ∃ r, f_X9_isModulus x0 = r := ⟨_, rfl⟩
  rw [h]
  refine XMet.ofZ (by decide) (Nat.le_of_ble_eq_true rfl) ?_
  intro p e s m args below meth c ls Q C rt X hl
  have C : zC p s m args c cX9_isModulus RX9 1 Ω := C
  have hl : lv_has ls 1 [(0, zI x0)] := hl
  unfold f_X9_isModulus at h
  skip
  refine lv_iload_n C.1 C.2.1 dX9_isModulus_0 rfl (lv_at hl 0 rfl) ?_
  refine z_ifeq C gx0 (tgt := 25) dX9_isModulus_1 (by decide) (fun hc1 => ?_) (fun hc1 => ?_)
  · rw [if_pos hc1] at h
    refine z_iconst C dX9_isModulus_25 ?_
    refine lv_goto (tgt := 30) C.1 C.2.1 dX9_isModulus_26 (by decide) ?_
    subst h
    exact rt X ⟨by decide, by decide⟩ dX9_isModulus_30
  · rw [if_neg hc1] at h
    refine lv_iload_n C.1 C.2.1 dX9_isModulus_4 rfl (lv_at hl 0 rfl) ?_
    refine z_iconst C dX9_isModulus_5 ?_
    refine z_icmpeq C gx0 ⟨by decide, by decide⟩ (tgt := 25) dX9_isModulus_6 (by decide) (fun hc6 => ?_) (fun hc6 => ?_)
    · rw [if_pos hc6] at h
      refine z_iconst C dX9_isModulus_25 ?_
      refine lv_goto (tgt := 30) C.1 C.2.1 dX9_isModulus_26 (by decide) ?_
      subst h
      exact rt X ⟨by decide, by decide⟩ dX9_isModulus_30
    · rw [if_neg hc6] at h
      refine lv_iload_n C.1 C.2.1 dX9_isModulus_9 rfl (lv_at hl 0 rfl) ?_
      refine z_iconst C dX9_isModulus_10 ?_
      refine z_icmpeq C gx0 ⟨by decide, by decide⟩ (tgt := 25) dX9_isModulus_11 (by decide) (fun hc11 => ?_) (fun hc11 => ?_)
      · rw [if_pos hc11] at h
        refine z_iconst C dX9_isModulus_25 ?_
        refine lv_goto (tgt := 30) C.1 C.2.1 dX9_isModulus_26 (by decide) ?_
        subst h
        exact rt X ⟨by decide, by decide⟩ dX9_isModulus_30
      · rw [if_neg hc11] at h
        refine lv_iload_n C.1 C.2.1 dX9_isModulus_14 rfl (lv_at hl 0 rfl) ?_
        refine z_iconst C dX9_isModulus_15 ?_
        refine z_icmpeq C gx0 ⟨by decide, by decide⟩ (tgt := 25) dX9_isModulus_16 (by decide) (fun hc16 => ?_) (fun hc16 => ?_)
        · rw [if_pos hc16] at h
          refine z_iconst C dX9_isModulus_25 ?_
          refine lv_goto (tgt := 30) C.1 C.2.1 dX9_isModulus_26 (by decide) ?_
          subst h
          exact rt X ⟨by decide, by decide⟩ dX9_isModulus_30
        · rw [if_neg hc16] at h
          refine lv_iload_n C.1 C.2.1 dX9_isModulus_19 rfl (lv_at hl 0 rfl) ?_
          refine z_bipush C dX9_isModulus_20 (by decide) ?_
          refine z_icmpne C gx0 ⟨by decide, by decide⟩ (tgt := 29) dX9_isModulus_22 (by decide) (fun hc22 => ?_) (fun hc22 => ?_)
          · rw [if_neg hc22] at h
            refine z_iconst C dX9_isModulus_29 ?_
            subst h
            exact rt X ⟨by decide, by decide⟩ dX9_isModulus_30
          · rw [if_pos hc22] at h
            refine z_iconst C dX9_isModulus_25 ?_
            refine lv_goto (tgt := 30) C.1 C.2.1 dX9_isModulus_26 (by decide) ?_
            subst h
            exact rt X ⟨by decide, by decide⟩ dX9_isModulus_30
theorem zc_X9_isModulus : zcas yX9_isModulus cX9_isModulus 1 (some Jvm.ClassFile.FieldType.boolean) 1 := ⟨⟨kw_587, kw_586, kw_1⟩, by decide, by decide, by decide +kernel⟩

def f_X9_holes_J39 (x2 : Int) (x3 : Int) (x_1 : Int) (μ_2 : zMem) : Option (Int × zMem) :=
  if x2 = 0 then
    bnd2 (f_X2_rankOfEdges x_1 x3 μ_2) fun x_7 μ_8 =>
    some ((zw ((μ_2 x_1 6) - x_7)), μ_8)
  else
    bnd2 (f_X2_rankOfPanes x_1 x3 μ_2) fun x_3 μ_4 =>
    if x2 = 2 then
      some ((zw ((μ_4 x_1 8) - x_3)), μ_4)
    else
      bnd2 (f_X2_rankOfEdges x_1 x3 μ_4) fun x_5 μ_6 =>
      some ((zw ((zw ((μ_4 x_1 7) - x_5)) - x_3)), μ_6)
def f_X9_holes (x1 : Int) (x2 : Int) (x3 : Int) (μ : zMem) : Option (Int × zMem) :=
  bnd (f_X9_seenSpace x1 μ) fun x_1 =>
  if x_1 = 0 then
    some ((-1), μ)
  else
    if x2 < 0 then
      some ((-1), μ)
    else
      if x2 ≤ 2 then
        if (f_X9_isModulus x3) = 0 then
          some ((-1), μ)
        else
          if x3 = 0 then
            if x1 = 2 then
              some ((-1), μ)
            else
              (f_X9_holes_J39 x2 x3 x_1) μ
          else
            (f_X9_holes_J39 x2 x3 x_1) μ
      else
        some ((-1), μ)
set_option maxHeartbeats 4000000 in
set_option maxRecDepth 100000 in
theorem M_X9_holes {l : Launch} {Ω : zO} (hI : zIc Ω) (μ : zMem) (x1 : Int) (x2 : Int) (x3 : Int) {r : Int} {μ' : zMem} (gx1 : Rg x1) (gx2 : Rg x2) (gx3 : Rg x3) (h : f_X9_holes x1 x2 x3 μ = some (r, μ')) : XMet l yX9_holes cX9_holes 6 (some Jvm.ClassFile.FieldType.int) 4 Ω [zR Ω 1, zI x1, zI x2, zI x3] μ (some (zI r)) (Rg r) μ' := by
  refine XMet.ofI (by decide) (Nat.le_of_ble_eq_true rfl) ?_
  intro p e s m args below meth c ls Q C rt X hl
  have C : zC p s m args c cX9_holes RX9 6 Ω := C
  have hl : lv_has ls 6 [(0, zR Ω 1), (1, zI x1), (2, zI x2), (3, zI x3)] := hl
  unfold f_X9_holes at h
  skip
  refine lv_aload_n C.1 C.2.1 dX9_holes_0 rfl (lv_at hl 0 rfl) ?_
  refine lv_iload_n C.1 C.2.1 dX9_holes_1 rfl (lv_at hl 1 rfl) ?_
  obtain ⟨x_1, hq2, h⟩ := bnd_some h
  refine z_callV1 C X zk9 (hI.1 1 (by decide)) rfl (As := [zI x1]) (M_X9_seenSpace hI μ x1 gx1 hq2) zc_X9_seenSpace kw_558 (zroom (by decide) (by decide)) rfl hl.1 rfl (Nat.le_of_ble_eq_true rfl) dX9_holes_2 ⟨Nat.zero_le _, Nat.zero_le _⟩ (fun H locs g_2 X => ?_)
  refine z_astoreQ C (lv' := [(4, zQ Ω x_1), (0, zR Ω 1), (1, zI x1), (2, zI x2), (3, zI x3)]) dX9_holes_5 hl (by decide) rfl (fun ls hl => ?_)
  refine z_aloadQ C dX9_holes_7 (lv_at hl 0 rfl) ?_
  refine z_ifnull C (tgt := 37) dX9_holes_9 (by decide) (fun hc9 => ?_) (fun hc9 => ?_)
  · rw [if_pos hc9] at h
    refine z_iconst C dX9_holes_37 ?_
    obtain ⟨rfl, rfl⟩ := Prod.mk.inj (Option.some.inj h)
    exact rt X ⟨by decide, by decide⟩ dX9_holes_38
  · rw [if_neg hc9] at h
    have o_9 := (g_2).resolve_left hc9
    rw [zQ_pos Ω hc9] at hl
    refine lv_iload_n C.1 C.2.1 dX9_holes_12 rfl (lv_at hl 3 rfl) ?_
    refine z_iflt C gx2 (tgt := 37) dX9_holes_13 (by decide) (fun hc13 => ?_) (fun hc13 => ?_)
    · rw [if_pos hc13] at h
      refine z_iconst C dX9_holes_37 ?_
      obtain ⟨rfl, rfl⟩ := Prod.mk.inj (Option.some.inj h)
      exact rt X ⟨by decide, by decide⟩ dX9_holes_38
    · rw [if_neg hc13] at h
      refine lv_iload_n C.1 C.2.1 dX9_holes_16 rfl (lv_at hl 3 rfl) ?_
      refine z_iconst C dX9_holes_17 ?_
      refine z_icmpgt C gx2 ⟨by decide, by decide⟩ (tgt := 37) dX9_holes_18 (by decide) (fun hc18 => ?_) (fun hc18 => ?_)
      · rw [if_neg hc18] at h
        refine z_iconst C dX9_holes_37 ?_
        obtain ⟨rfl, rfl⟩ := Prod.mk.inj (Option.some.inj h)
        exact rt X ⟨by decide, by decide⟩ dX9_holes_38
      · rw [if_pos hc18] at h
        refine lv_iload_n C.1 C.2.1 dX9_holes_21 rfl (lv_at hl 4 rfl) ?_
        refine z_callS1 C X (As := [zI x3]) (M_X9_isModulus hI μ x3 gx3) zc_X9_isModulus kw_585 (zroom (by decide) (by decide)) rfl hl.1 rfl (Nat.le_of_ble_eq_true rfl) dX9_holes_22 ⟨Nat.zero_le _, Nat.zero_le _⟩ (fun H locs g_22 X => ?_)
        refine z_ifeq C (rgz g_22) (tgt := 37) dX9_holes_25 (by decide) (fun hc25 => ?_) (fun hc25 => ?_)
        · rw [if_pos hc25] at h
          refine z_iconst C dX9_holes_37 ?_
          obtain ⟨rfl, rfl⟩ := Prod.mk.inj (Option.some.inj h)
          exact rt X ⟨by decide, by decide⟩ dX9_holes_38
        · rw [if_neg hc25] at h
          refine lv_iload_n C.1 C.2.1 dX9_holes_28 rfl (lv_at hl 4 rfl) ?_
          have K39 : ∀ (μ_2 : zMem) (H : Heap) (locs : List Loc) (ls : Array Slot), zX Ω μ_2 (zfree Ω) s.heap H locs → lv_has ls 6 [(0, zR Ω 1), (2, zI x2), (3, zI x3), (4, zR Ω x_1)] → (f_X9_holes_J39 x2 x3 x_1) μ_2 = some (r, μ') → W p l e (zrm 4) s m args below meth c H locs 0 0 Q (F0 m 39 ls []) := by
            intro μ_2 H locs ls  X hl h
            unfold f_X9_holes_J39 at h
            refine lv_iload_n C.1 C.2.1 dX9_holes_39 rfl (lv_at hl 1 rfl) ?_
            refine z_ifne C gx2 (tgt := 60) dX9_holes_40 (by decide) (fun hc40 => ?_) (fun hc40 => ?_)
            · rw [if_neg hc40] at h
              refine lv_aload_n C.1 C.2.1 dX9_holes_60 rfl (lv_at hl 0 rfl) ?_
              refine z_get C X zk9 (hI.1 1 (by decide)) rfl 7 (by decide) kw_396 (zR Ω 23) (zfvF (off := 22) X.2.2.2 (hI.1 1 (by decide)) (hI.2 1 (by decide)) rfl rfl (by decide)) dX9_holes_61 ?_
              refine lv_aload C.1 C.2.1 dX9_holes_64 (lv_at hl 3 rfl) ?_
              refine lv_iload_n C.1 C.2.1 dX9_holes_66 rfl (lv_at hl 2 rfl) ?_
              obtain ⟨x_3, μ_4, hq67, h⟩ := bnd2_some h
              refine z_callV1 C X zk2 (hI.1 23 (by decide)) rfl (As := [zR Ω x_1, zI x3]) (M_X2_rankOfPanes hI μ_2 x_1 x3 o_9 gx3 hq67) zc_X2_rankOfPanes kw_630 (zroom (by decide) (by decide)) rfl hl.1 rfl (Nat.le_of_ble_eq_true rfl) dX9_holes_67 ⟨Nat.zero_le _, Nat.zero_le _⟩ (fun H locs g_67 X => ?_)
              refine lv_istore C.1 C.2.1 (lv' := [(5, zI x_3), (0, zR Ω 1), (2, zI x2), (3, zI x3), (4, zR Ω x_1)]) dX9_holes_70 hl (by decide) rfl (fun ls hl => ?_)
              refine lv_iload_n C.1 C.2.1 dX9_holes_72 rfl (lv_at hl 2 rfl) ?_
              refine z_iconst C dX9_holes_73 ?_
              refine z_icmpne C gx2 ⟨by decide, by decide⟩ (tgt := 86) dX9_holes_74 (by decide) (fun hc74 => ?_) (fun hc74 => ?_)
              · rw [if_neg hc74] at h
                refine lv_aload C.1 C.2.1 dX9_holes_86 (lv_at hl 4 rfl) ?_
                have g_88 : Rg (μ_4 x_1 7) := zrgf0 (ci := 5) X.2.2.2 (zob.self o_9) (zo5 o_9) 7 rfl
                refine z_get C X zk5 (zob.self o_9) (zo5 o_9) 7 (by decide) kw_84 (zI (μ_4 x_1 7)) rfl dX9_holes_88 ?_
                refine lv_aload_n C.1 C.2.1 dX9_holes_91 rfl (lv_at hl 1 rfl) ?_
                refine z_get C X zk9 (hI.1 1 (by decide)) rfl 7 (by decide) kw_396 (zR Ω 23) (zfvF (off := 22) X.2.2.2 (hI.1 1 (by decide)) (hI.2 1 (by decide)) rfl rfl (by decide)) dX9_holes_92 ?_
                refine lv_aload C.1 C.2.1 dX9_holes_95 (lv_at hl 4 rfl) ?_
                refine lv_iload_n C.1 C.2.1 dX9_holes_97 rfl (lv_at hl 3 rfl) ?_
                obtain ⟨x_5, μ_6, hq98, h⟩ := bnd2_some h
                refine z_callV1 C X zk2 (hI.1 23 (by decide)) rfl (As := [zR Ω x_1, zI x3]) (M_X2_rankOfEdges hI μ_4 x_1 x3 o_9 gx3 hq98) zc_X2_rankOfEdges kw_588 (zroom (by decide) (by decide)) rfl hl.1 rfl (Nat.le_of_ble_eq_true rfl) dX9_holes_98 ⟨Nat.zero_le _, Nat.zero_le _⟩ (fun H locs g_98 X => ?_)
                refine z_isub C dX9_holes_101 ?_
                refine lv_iload C.1 C.2.1 dX9_holes_102 (lv_at hl 0 rfl) ?_
                refine z_isub C dX9_holes_104 ?_
                obtain ⟨rfl, rfl⟩ := Prod.mk.inj (Option.some.inj h)
                exact rt X (Rg.w _) dX9_holes_105
              · rw [if_pos hc74] at h
                refine lv_aload C.1 C.2.1 dX9_holes_77 (lv_at hl 4 rfl) ?_
                have g_79 : Rg (μ_4 x_1 8) := zrgf0 (ci := 5) X.2.2.2 (zob.self o_9) (zo5 o_9) 8 rfl
                refine z_get C X zk5 (zob.self o_9) (zo5 o_9) 8 (by decide) kw_91 (zI (μ_4 x_1 8)) rfl dX9_holes_79 ?_
                refine lv_iload C.1 C.2.1 dX9_holes_82 (lv_at hl 0 rfl) ?_
                refine z_isub C dX9_holes_84 ?_
                obtain ⟨rfl, rfl⟩ := Prod.mk.inj (Option.some.inj h)
                exact rt X (Rg.w _) dX9_holes_85
            · rw [if_pos hc40] at h
              refine lv_aload C.1 C.2.1 dX9_holes_43 (lv_at hl 3 rfl) ?_
              have g_45 : Rg (μ_2 x_1 6) := zrgf0 (ci := 5) X.2.2.2 (zob.self o_9) (zo5 o_9) 6 rfl
              refine z_get C X zk5 (zob.self o_9) (zo5 o_9) 6 (by decide) kw_79 (zI (μ_2 x_1 6)) rfl dX9_holes_45 ?_
              refine lv_aload_n C.1 C.2.1 dX9_holes_48 rfl (lv_at hl 0 rfl) ?_
              refine z_get C X zk9 (hI.1 1 (by decide)) rfl 7 (by decide) kw_396 (zR Ω 23) (zfvF (off := 22) X.2.2.2 (hI.1 1 (by decide)) (hI.2 1 (by decide)) rfl rfl (by decide)) dX9_holes_49 ?_
              refine lv_aload C.1 C.2.1 dX9_holes_52 (lv_at hl 3 rfl) ?_
              refine lv_iload_n C.1 C.2.1 dX9_holes_54 rfl (lv_at hl 2 rfl) ?_
              obtain ⟨x_7, μ_8, hq55, h⟩ := bnd2_some h
              refine z_callV1 C X zk2 (hI.1 23 (by decide)) rfl (As := [zR Ω x_1, zI x3]) (M_X2_rankOfEdges hI μ_2 x_1 x3 o_9 gx3 hq55) zc_X2_rankOfEdges kw_588 (zroom (by decide) (by decide)) rfl hl.1 rfl (Nat.le_of_ble_eq_true rfl) dX9_holes_55 ⟨Nat.zero_le _, Nat.zero_le _⟩ (fun H locs g_55 X => ?_)
              refine z_isub C dX9_holes_58 ?_
              obtain ⟨rfl, rfl⟩ := Prod.mk.inj (Option.some.inj h)
              exact rt X (Rg.w _) dX9_holes_59
          refine z_ifne C gx3 (tgt := 39) dX9_holes_29 (by decide) (fun hc29 => ?_) (fun hc29 => ?_)
          · rw [if_neg hc29] at h
            exact K39 μ _ _ _ X (lv_sub hl [1, 3, 4, 0] rfl) h
          · rw [if_pos hc29] at h
            refine lv_iload_n C.1 C.2.1 dX9_holes_32 rfl (lv_at hl 2 rfl) ?_
            refine z_iconst C dX9_holes_33 ?_
            refine z_icmpne C gx1 ⟨by decide, by decide⟩ (tgt := 39) dX9_holes_34 (by decide) (fun hc34 => ?_) (fun hc34 => ?_)
            · rw [if_neg hc34] at h
              exact K39 μ _ _ _ X (lv_sub hl [1, 3, 4, 0] rfl) h
            · rw [if_pos hc34] at h
              refine z_iconst C dX9_holes_37 ?_
              obtain ⟨rfl, rfl⟩ := Prod.mk.inj (Option.some.inj h)
              exact rt X ⟨by decide, by decide⟩ dX9_holes_38
theorem zc_X9_holes : zcal yX9_holes cX9_holes 6 (some Jvm.ClassFile.FieldType.int) RX9 3 := ⟨⟨kw_584, kw_582, kw_583, kw_1⟩, rfl, by decide, by decide, by decide +kernel⟩

def f_X9_bend_J11 (μ_1 : zMem) : Option (Int × zMem) :=
  some ((-1), μ_1)
def f_X9_bend_K82 (μ_5 : zMem) : Option (Int × zMem) :=
  some ((-4), μ_5)
def f_X9_bend_K62 (x_6 : Int) (μ_7 : zMem) : Option (Int × zMem) :=
  chk ((0 : Int) ≤ x_6 ∧ x_6 < 8) <|
  some ((μ_7 25 x_6), μ_7)
def f_X9_bend_L35 (x2 : Int) (x_3 : Int) (g82 : zMem → Option (Int × zMem)) (g62 : Int → zMem → Option (Int × zMem)) : Nat → Int → Int → zMem → Option (Int × zMem)
  | 0, _, _, _ => none
  | n + 1, x_8, x_9, μ_10 =>
    if x_9 < x_3 then
      chk ((0 : Int) ≤ x_9 ∧ x_9 < 8) <|
      if (μ_10 25 x_9) ≤ 1 then
        zlet (zw (x_9 + 1)) fun x_11 =>
        (f_X9_bend_L35 x2 x_3 g82 g62 n) x_8 x_11 μ_10
      else
        if x_8 = x2 then
          g62 x_9 μ_10
        else
          zlet (zw (x_8 + 1)) fun x_12 =>
          zlet (zw (x_9 + 1)) fun x_13 =>
          (f_X9_bend_L35 x2 x_3 g82 g62 n) x_12 x_13 μ_10
    else
      g82 μ_10
def f_X9_bend (x1 : Int) (x2 : Int) (μ : zMem) : Option (Int × zMem) :=
  if (f_X9_isOwn x1) = 0 then
    f_X9_bend_J11 μ
  else
    if x2 < 0 then
      f_X9_bend_J11 μ
    else
      chk ((0 : Int) ≤ x1 ∧ x1 < 2) <|
      chk ((μ 2 x1) ≠ 0) <|
      zlet (μ 2 x1) fun x_2 =>
      bnd2 (f_X2_findFactors x_2 μ) fun x_3 μ_4 =>
      (f_X9_bend_L35 x2 x_3 f_X9_bend_K82 f_X9_bend_K62) zfu 0 0 μ_4
set_option maxHeartbeats 4000000 in
set_option maxRecDepth 100000 in
theorem M_X9_bend {l : Launch} {Ω : zO} (hI : zIc Ω) (μ : zMem) (x1 : Int) (x2 : Int) {r : Int} {μ' : zMem} (gx1 : Rg x1) (gx2 : Rg x2) (h : f_X9_bend x1 x2 μ = some (r, μ')) : XMet l yX9_bend cX9_bend 6 (some Jvm.ClassFile.FieldType.long) 5 Ω [zR Ω 1, zI x1, zI x2] μ (some (zJ r)) (Rl r) μ' := by
  refine XMet.ofJ (by decide) (Nat.le_of_ble_eq_true rfl) ?_
  intro p e s m args below meth c ls Q C rt X hl
  have C : zC p s m args c cX9_bend RX9 6 Ω := C
  have hl : lv_has ls 6 [(0, zR Ω 1), (1, zI x1), (2, zI x2)] := hl
  unfold f_X9_bend at h
  skip
  refine lv_iload_n C.1 C.2.1 dX9_bend_0 rfl (lv_at hl 1 rfl) ?_
  refine z_callS1 C X (As := [zI x1]) (M_X9_isOwn hI μ x1 gx1) zc_X9_isOwn kw_427 (zroom (by decide) (by decide)) rfl hl.1 rfl (Nat.le_of_ble_eq_true rfl) dX9_bend_1 ⟨Nat.zero_le _, Nat.zero_le _⟩ (fun H locs g_1 X => ?_)
  have K11 : ∀ (μ_1 : zMem) (H : Heap) (locs : List Loc) (ls : Array Slot), zX Ω μ_1 (zfree Ω) s.heap H locs → lv_has ls 6 [] → f_X9_bend_J11 μ_1 = some (r, μ') → W p l e (zrm 5) s m args below meth c H locs 0 0 Q (F0 m 11 ls []) := by
    intro μ_1 H locs ls  X hl h
    unfold f_X9_bend_J11 at h
    refine z_ldc2 C (-1) kw_644 (by decide) dX9_bend_11 ?_
    obtain ⟨rfl, rfl⟩ := Prod.mk.inj (Option.some.inj h)
    exact rt X ⟨by decide, by decide⟩ dX9_bend_14
  refine z_ifeq C (rgz g_1) (tgt := 11) dX9_bend_4 (by decide) (fun hc4 => ?_) (fun hc4 => ?_)
  · rw [if_pos hc4] at h
    exact K11 μ _ _ _ X (lv_sub hl [] rfl) h
  · rw [if_neg hc4] at h
    refine lv_iload_n C.1 C.2.1 dX9_bend_7 rfl (lv_at hl 2 rfl) ?_
    refine z_ifge C gx2 (tgt := 15) dX9_bend_8 (by decide) (fun hc8 => ?_) (fun hc8 => ?_)
    · rw [if_neg hc8] at h
      refine lv_aload_n C.1 C.2.1 dX9_bend_15 rfl (lv_at hl 0 rfl) ?_
      refine z_get C X zk9 (hI.1 1 (by decide)) rfl 7 (by decide) kw_396 (zR Ω 23) (zfvF (off := 22) X.2.2.2 (hI.1 1 (by decide)) (hI.2 1 (by decide)) rfl rfl (by decide)) dX9_bend_16 ?_
      refine lv_aload_n C.1 C.2.1 dX9_bend_19 rfl (lv_at hl 0 rfl) ?_
      refine z_get C X zk9 (hI.1 1 (by decide)) rfl 0 (by decide) kw_389 (zR Ω 2) (zfvF (off := 1) X.2.2.2 (hI.1 1 (by decide)) (hI.2 1 (by decide)) rfl rfl (by decide)) dX9_bend_20 ?_
      refine lv_iload_n C.1 C.2.1 dX9_bend_23 rfl (lv_at hl 1 rfl) ?_
      obtain ⟨hc24, h⟩ := chk_some h
      obtain ⟨hn24, h⟩ := chk_some h
      have o_24 := (zrg5 X.2.2.2 (hI.1 2 (by decide)) rfl (i := x1)).resolve_left hn24
      refine z_aald5 C X (hI.1 2 (by decide)) rfl hc24 dX9_bend_24 ?_
      rw [zQ_pos Ω hn24]
      refine zlet_elim h (fun x_2 ex_2 h => ?_)
      rw [← ex_2] at o_24 ⊢
      clear hn24 ex_2
      obtain ⟨x_3, μ_4, hq25, h⟩ := bnd2_some h
      refine z_callV1 C X zk2 (hI.1 23 (by decide)) rfl (As := [zR Ω x_2]) (M_X2_findFactors hI μ x_2 o_24 hq25) zc_X2_findFactors kw_645 (zroom (by decide) (by decide)) rfl hl.1 rfl (Nat.le_of_ble_eq_true rfl) dX9_bend_25 ⟨Nat.zero_le _, Nat.zero_le _⟩ (fun H locs g_25 X => ?_)
      refine lv_istore_n C.1 C.2.1 (lv' := [(3, zI x_3), (0, zR Ω 1), (1, zI x1), (2, zI x2)]) dX9_bend_28 rfl hl (by decide) rfl (fun ls hl => ?_)
      refine z_iconst C dX9_bend_29 ?_
      refine lv_istore C.1 C.2.1 (lv' := [(4, zI 0), (3, zI x_3), (0, zR Ω 1), (1, zI x1), (2, zI x2)]) dX9_bend_30 hl (by decide) rfl (fun ls hl => ?_)
      refine z_iconst C dX9_bend_32 ?_
      refine lv_istore C.1 C.2.1 (lv' := [(5, zI 0), (4, zI 0), (3, zI x_3), (0, zR Ω 1), (1, zI x1), (2, zI x2)]) dX9_bend_33 hl (by decide) rfl (fun ls hl => ?_)
      have K82 : ∀ (μ_5 : zMem) (H : Heap) (locs : List Loc) (ls : Array Slot), zX Ω μ_5 (zfree Ω) s.heap H locs → lv_has ls 6 [] → f_X9_bend_K82 μ_5 = some (r, μ') → W p l e (zrm 5) s m args below meth c H locs 0 0 Q (F0 m 82 ls []) := by
        intro μ_5 H locs ls  X hl h
        unfold f_X9_bend_K82 at h
        refine z_ldc2 C (-4) kw_689 (by decide) dX9_bend_82 ?_
        obtain ⟨rfl, rfl⟩ := Prod.mk.inj (Option.some.inj h)
        exact rt X ⟨by decide, by decide⟩ dX9_bend_85
      have K62 : ∀ (x_6 : Int) (μ_7 : zMem) (H : Heap) (locs : List Loc) (ls : Array Slot), Rg x_6 → zX Ω μ_7 (zfree Ω) s.heap H locs → lv_has ls 6 [(0, zR Ω 1), (5, zI x_6)] → f_X9_bend_K62 x_6 μ_7 = some (r, μ') → W p l e (zrm 5) s m args below meth c H locs 0 0 Q (F0 m 62 ls []) := by
        intro x_6 μ_7 H locs ls gx_6 X hl h
        unfold f_X9_bend_K62 at h
        refine lv_aload_n C.1 C.2.1 dX9_bend_62 rfl (lv_at hl 0 rfl) ?_
        refine z_get C X zk9 (hI.1 1 (by decide)) rfl 7 (by decide) kw_396 (zR Ω 23) (zfvF (off := 22) X.2.2.2 (hI.1 1 (by decide)) (hI.2 1 (by decide)) rfl rfl (by decide)) dX9_bend_63 ?_
        refine z_get C X zk2 (hI.1 23 (by decide)) rfl 1 (by decide) kw_225 (zR Ω 25) (zfvF (off := 2) X.2.2.2 (hI.1 23 (by decide)) (hI.2 23 (by decide)) rfl rfl (by decide)) dX9_bend_66 ?_
        refine lv_iload C.1 C.2.1 dX9_bend_69 (lv_at hl 1 rfl) ?_
        obtain ⟨hc71, h⟩ := chk_some h
        have g_71 : Rl (μ_7 25 x_6) := zrg2 X.2.2.2 (hI.1 25 (by decide)) rfl
        refine z_lald C X (hI.1 25 (by decide)) rfl hc71 dX9_bend_71 ?_
        obtain ⟨rfl, rfl⟩ := Prod.mk.inj (Option.some.inj h)
        exact rt X g_71 dX9_bend_72
      have L35 : ∀ (n35 : Nat) (x_8 : Int) (x_9 : Int) (μ_10 : zMem) (H : Heap) (locs : List Loc) (ls : Array Slot), Rg x_8 → Rg x_9 → zX Ω μ_10 (zfree Ω) s.heap H locs → lv_has ls 6 [(0, zR Ω 1), (2, zI x2), (3, zI x_3), (4, zI x_8), (5, zI x_9)] → (f_X9_bend_L35 x2 x_3 f_X9_bend_K82 f_X9_bend_K62 n35 x_8 x_9 μ_10) = some (r, μ') → W p l e (zrm 5) s m args below meth c H locs 0 0 Q (F0 m 35 ls []) := by
        intro n35
        induction n35 with
        | zero =>
          intro x_8 x_9 μ_10 H locs ls _ _ _ _ h
          cases h
        | succ n35 ih35 =>
          intro x_8 x_9 μ_10 H locs ls gx_8 gx_9 X hl h
          unfold f_X9_bend_L35 at h
          refine lv_iload C.1 C.2.1 dX9_bend_35 (lv_at hl 4 rfl) ?_
          refine lv_iload_n C.1 C.2.1 dX9_bend_37 rfl (lv_at hl 2 rfl) ?_
          refine z_icmpge C gx_9 g_25 (tgt := 82) dX9_bend_38 (by decide) (fun hc38 => ?_) (fun hc38 => ?_)
          · rw [if_neg hc38] at h
            exact K82 μ_10 _ _ _ X (lv_sub hl [] rfl) h
          · rw [if_pos hc38] at h
            refine lv_aload_n C.1 C.2.1 dX9_bend_41 rfl (lv_at hl 0 rfl) ?_
            refine z_get C X zk9 (hI.1 1 (by decide)) rfl 7 (by decide) kw_396 (zR Ω 23) (zfvF (off := 22) X.2.2.2 (hI.1 1 (by decide)) (hI.2 1 (by decide)) rfl rfl (by decide)) dX9_bend_42 ?_
            refine z_get C X zk2 (hI.1 23 (by decide)) rfl 1 (by decide) kw_225 (zR Ω 25) (zfvF (off := 2) X.2.2.2 (hI.1 23 (by decide)) (hI.2 23 (by decide)) rfl rfl (by decide)) dX9_bend_45 ?_
            refine lv_iload C.1 C.2.1 dX9_bend_48 (lv_at hl 4 rfl) ?_
            obtain ⟨hc50, h⟩ := chk_some h
            have g_50 : Rl (μ_10 25 x_9) := zrg2 X.2.2.2 (hI.1 25 (by decide)) rfl
            refine z_lald C X (hI.1 25 (by decide)) rfl hc50 dX9_bend_50 ?_
            refine z_lconst C 1 rfl dX9_bend_51 ?_
            refine z_lle C g_50 ⟨by decide, by decide⟩ (tgt := 76) dX9_bend_52 dX9_bend_53 (by decide) (fun hc52 => ?_) (fun hc52 => ?_)
            · rw [if_pos hc52] at h
              refine zlet_elim h (fun x_11 ex_11 h => ?_)
              have gx_11 : Rg x_11 := by rw [ex_11]; exact Rg.w _
              refine z_iinc C ex_11 dX9_bend_76 hl (k := 4) rfl (by decide) (lv' := [(5, zI x_11), (0, zR Ω 1), (2, zI x2), (3, zI x_3), (4, zI x_8)]) rfl (fun ls hl => ?_)
              clear ex_11
              refine lv_goto (tgt := 35) C.1 C.2.1 dX9_bend_79 (by decide) ?_
              exact ih35 x_8 x_11 μ_10 _ _ _ gx_8 gx_11 X (lv_sub hl [1, 2, 3, 4, 0] rfl) h
            · rw [if_neg hc52] at h
              refine lv_iload C.1 C.2.1 dX9_bend_56 (lv_at hl 3 rfl) ?_
              refine lv_iload_n C.1 C.2.1 dX9_bend_58 rfl (lv_at hl 1 rfl) ?_
              refine z_icmpne C gx_8 gx2 (tgt := 73) dX9_bend_59 (by decide) (fun hc59 => ?_) (fun hc59 => ?_)
              · rw [if_neg hc59] at h
                refine zlet_elim h (fun x_12 ex_12 h => ?_)
                have gx_12 : Rg x_12 := by rw [ex_12]; exact Rg.w _
                refine z_iinc C ex_12 dX9_bend_73 hl (k := 3) rfl (by decide) (lv' := [(4, zI x_12), (0, zR Ω 1), (2, zI x2), (3, zI x_3), (5, zI x_9)]) rfl (fun ls hl => ?_)
                clear ex_12
                refine zlet_elim h (fun x_13 ex_13 h => ?_)
                have gx_13 : Rg x_13 := by rw [ex_13]; exact Rg.w _
                refine z_iinc C ex_13 dX9_bend_76 hl (k := 4) rfl (by decide) (lv' := [(5, zI x_13), (4, zI x_12), (0, zR Ω 1), (2, zI x2), (3, zI x_3)]) rfl (fun ls hl => ?_)
                clear ex_13
                refine lv_goto (tgt := 35) C.1 C.2.1 dX9_bend_79 (by decide) ?_
                exact ih35 x_12 x_13 μ_10 _ _ _ gx_12 gx_13 X (lv_sub hl [2, 3, 4, 1, 0] rfl) h
              · rw [if_pos hc59] at h
                exact K62 x_9 μ_10 _ _ _ gx_9 X (lv_sub hl [0, 4] rfl) h
      exact L35 zfu 0 0 μ_4 _ _ _ ⟨by decide, by decide⟩ ⟨by decide, by decide⟩ X (lv_sub hl [3, 5, 2, 1, 0] rfl) h
    · rw [if_pos hc8] at h
      exact K11 μ _ _ _ X (lv_sub hl [] rfl) h
theorem zc_X9_bend : zcal yX9_bend cX9_bend 6 (some Jvm.ClassFile.FieldType.long) RX9 2 := ⟨⟨kw_643, kw_641, kw_642, kw_1⟩, rfl, by decide, by decide, by decide +kernel⟩

def f_X9_isStoreys (x0 : Int) : Int :=
  if x0 < 2 then
    0
  else
    if x0 ≤ 4 then
      1
    else
      0
set_option maxHeartbeats 4000000 in
set_option maxRecDepth 100000 in
theorem M_X9_isStoreys {l : Launch} {Ω : zO} (hI : zIc Ω) (μ : zMem) (x0 : Int) (gx0 : Rg x0) : XMet l yX9_isStoreys cX9_isStoreys 1 (some Jvm.ClassFile.FieldType.boolean) 0 Ω [zI x0] μ (some (zI (f_X9_isStoreys x0))) (0 ≤ (f_X9_isStoreys x0) ∧ (f_X9_isStoreys x0) ≤ 1) μ := by
  obtain ⟨r, h⟩ : ∃ r, f_X9_isStoreys x0 = r := ⟨_, rfl⟩
  rw [h]
  refine XMet.ofZ (by decide) (Nat.le_of_ble_eq_true rfl) ?_
  intro p e s m args below meth c ls Q C rt X hl
  have C : zC p s m args c cX9_isStoreys RX9 1 Ω := C
  have hl : lv_has ls 1 [(0, zI x0)] := hl
  unfold f_X9_isStoreys at h
  skip
  refine lv_iload_n C.1 C.2.1 dX9_isStoreys_0 rfl (lv_at hl 0 rfl) ?_
  refine z_iconst C dX9_isStoreys_1 ?_
  refine z_icmplt C gx0 ⟨by decide, by decide⟩ (tgt := 14) dX9_isStoreys_2 (by decide) (fun hc2 => ?_) (fun hc2 => ?_)
  · rw [if_pos hc2] at h
    refine z_iconst C dX9_isStoreys_14 ?_
    subst h
    exact rt X ⟨by decide, by decide⟩ dX9_isStoreys_15
  · rw [if_neg hc2] at h
    refine lv_iload_n C.1 C.2.1 dX9_isStoreys_5 rfl (lv_at hl 0 rfl) ?_
    refine z_iconst C dX9_isStoreys_6 ?_
    refine z_icmpgt C gx0 ⟨by decide, by decide⟩ (tgt := 14) dX9_isStoreys_7 (by decide) (fun hc7 => ?_) (fun hc7 => ?_)
    · rw [if_neg hc7] at h
      refine z_iconst C dX9_isStoreys_14 ?_
      subst h
      exact rt X ⟨by decide, by decide⟩ dX9_isStoreys_15
    · rw [if_pos hc7] at h
      refine z_iconst C dX9_isStoreys_10 ?_
      refine lv_goto (tgt := 15) C.1 C.2.1 dX9_isStoreys_11 (by decide) ?_
      subst h
      exact rt X ⟨by decide, by decide⟩ dX9_isStoreys_15
theorem zc_X9_isStoreys : zcas yX9_isStoreys cX9_isStoreys 1 (some Jvm.ClassFile.FieldType.boolean) 1 := ⟨⟨kw_696, kw_695, kw_1⟩, by decide, by decide, by decide +kernel⟩

def f_X9_tables_L62 : Nat → Int → zMem → Option (Int × zMem)
  | 0, _, _ => none
  | n + 1, x_7, μ_8 =>
    if x_7 ≤ 20000 then
      bnd2 (f_X6_findNext 0 μ_8) fun x_9 μ_10 =>
      if x_9 = 0 then
        some (x_7, μ_10)
      else
        zlet (zw (x_7 + 1)) fun x_11 =>
        (f_X9_tables_L62 n) x_11 μ_10
    else
      some (x_7, μ_8)
def f_X9_tables (x1 : Int) (x2 : Int) (μ : zMem) : Option (Int × zMem) :=
  if (f_X9_isOwn x1) = 0 then
    some ((-1), μ)
  else
    if (f_X9_isStoreys x2) = 0 then
      some ((-1), μ)
    else
      chk ((0 : Int) ≤ x1 ∧ x1 < 2) <|
      chk ((μ 2 x1) ≠ 0) <|
      zlet (μ 2 x1) fun x_1 =>
      chk ((0 : Int) ≤ x2 ∧ x2 < 5) <|
      chk ((μ 18 x2) ≠ 0) <|
      zlet (μ 18 x2) fun x_2 =>
      bnd (f_X6_isMany x_1 x_2 μ) fun x_3 =>
      if x_3 = 0 then
        chk ((0 : Int) ≤ x1 ∧ x1 < 2) <|
        chk ((μ 2 x1) ≠ 0) <|
        zlet (μ 2 x1) fun x_4 =>
        chk ((0 : Int) ≤ x2 ∧ x2 < 5) <|
        chk ((μ 18 x2) ≠ 0) <|
        zlet (μ 18 x2) fun x_5 =>
        bnd (f_X6_begin x_4 x_5 μ) fun μ_6 =>
        (f_X9_tables_L62) zfu 0 μ_6
      else
        some ((-2), μ)
set_option maxHeartbeats 4000000 in
set_option maxRecDepth 100000 in
theorem M_X9_tables {l : Launch} {Ω : zO} (hI : zIc Ω) (μ : zMem) (x1 : Int) (x2 : Int) {r : Int} {μ' : zMem} (gx1 : Rg x1) (gx2 : Rg x2) (h : f_X9_tables x1 x2 μ = some (r, μ')) : XMet l yX9_tables cX9_tables 4 (some Jvm.ClassFile.FieldType.int) 4 Ω [zR Ω 1, zI x1, zI x2] μ (some (zI r)) (Rg r) μ' := by
  refine XMet.ofI (by decide) (Nat.le_of_ble_eq_true rfl) ?_
  intro p e s m args below meth c ls Q C rt X hl
  have C : zC p s m args c cX9_tables RX9 4 Ω := C
  have hl : lv_has ls 4 [(0, zR Ω 1), (1, zI x1), (2, zI x2)] := hl
  unfold f_X9_tables at h
  skip
  refine lv_iload_n C.1 C.2.1 dX9_tables_0 rfl (lv_at hl 1 rfl) ?_
  refine z_callS1 C X (As := [zI x1]) (M_X9_isOwn hI μ x1 gx1) zc_X9_isOwn kw_427 (zroom (by decide) (by decide)) rfl hl.1 rfl (Nat.le_of_ble_eq_true rfl) dX9_tables_1 ⟨Nat.zero_le _, Nat.zero_le _⟩ (fun H locs g_1 X => ?_)
  refine z_ifeq C (rgz g_1) (tgt := 14) dX9_tables_4 (by decide) (fun hc4 => ?_) (fun hc4 => ?_)
  · rw [if_pos hc4] at h
    refine z_iconst C dX9_tables_14 ?_
    obtain ⟨rfl, rfl⟩ := Prod.mk.inj (Option.some.inj h)
    exact rt X ⟨by decide, by decide⟩ dX9_tables_15
  · rw [if_neg hc4] at h
    refine lv_iload_n C.1 C.2.1 dX9_tables_7 rfl (lv_at hl 2 rfl) ?_
    refine z_callS1 C X (As := [zI x2]) (M_X9_isStoreys hI μ x2 gx2) zc_X9_isStoreys kw_694 (zroom (by decide) (by decide)) rfl hl.1 rfl (Nat.le_of_ble_eq_true rfl) dX9_tables_8 ⟨Nat.zero_le _, Nat.zero_le _⟩ (fun H locs g_8 X => ?_)
    refine z_ifne C (rgz g_8) (tgt := 16) dX9_tables_11 (by decide) (fun hc11 => ?_) (fun hc11 => ?_)
    · rw [if_neg hc11] at h
      refine lv_aload_n C.1 C.2.1 dX9_tables_16 rfl (lv_at hl 0 rfl) ?_
      refine z_get C X zk9 (hI.1 1 (by decide)) rfl 8 (by decide) kw_397 (zR Ω 27) (zfvF (off := 26) X.2.2.2 (hI.1 1 (by decide)) (hI.2 1 (by decide)) rfl rfl (by decide)) dX9_tables_17 ?_
      refine lv_aload_n C.1 C.2.1 dX9_tables_20 rfl (lv_at hl 0 rfl) ?_
      refine z_get C X zk9 (hI.1 1 (by decide)) rfl 0 (by decide) kw_389 (zR Ω 2) (zfvF (off := 1) X.2.2.2 (hI.1 1 (by decide)) (hI.2 1 (by decide)) rfl rfl (by decide)) dX9_tables_21 ?_
      refine lv_iload_n C.1 C.2.1 dX9_tables_24 rfl (lv_at hl 1 rfl) ?_
      obtain ⟨hc25, h⟩ := chk_some h
      obtain ⟨hn25, h⟩ := chk_some h
      have o_25 := (zrg5 X.2.2.2 (hI.1 2 (by decide)) rfl (i := x1)).resolve_left hn25
      refine z_aald5 C X (hI.1 2 (by decide)) rfl hc25 dX9_tables_25 ?_
      rw [zQ_pos Ω hn25]
      refine zlet_elim h (fun x_1 ex_1 h => ?_)
      rw [← ex_1] at o_25 ⊢
      clear hn25 ex_1
      refine lv_aload_n C.1 C.2.1 dX9_tables_26 rfl (lv_at hl 0 rfl) ?_
      refine z_get C X zk9 (hI.1 1 (by decide)) rfl 4 (by decide) kw_393 (zR Ω 18) (zfvF (off := 17) X.2.2.2 (hI.1 1 (by decide)) (hI.2 1 (by decide)) rfl rfl (by decide)) dX9_tables_27 ?_
      refine lv_iload_n C.1 C.2.1 dX9_tables_30 rfl (lv_at hl 2 rfl) ?_
      obtain ⟨hc31, h⟩ := chk_some h
      obtain ⟨hn31, h⟩ := chk_some h
      have o_31 := (zrg8 X.2.2.2 (hI.1 18 (by decide)) rfl (i := x2)).resolve_left hn31
      refine z_aald8 C X (hI.1 18 (by decide)) rfl hc31 dX9_tables_31 ?_
      rw [zQ_pos Ω hn31]
      refine zlet_elim h (fun x_2 ex_2 h => ?_)
      rw [← ex_2] at o_31 ⊢
      clear hn31 ex_2
      obtain ⟨x_3, hq32, h⟩ := bnd_some h
      refine z_callV1 C X zk6 (hI.1 27 (by decide)) rfl (As := [zR Ω x_1, zR Ω x_2]) (M_X6_isMany hI μ x_1 x_2 o_25 o_31 hq32) zc_X6_isMany kw_697 (zroom (by decide) (by decide)) rfl hl.1 rfl (Nat.le_of_ble_eq_true rfl) dX9_tables_32 ⟨Nat.zero_le _, Nat.zero_le _⟩ (fun H locs g_32 X => ?_)
      refine z_ifeq C (rgz g_32) (tgt := 41) dX9_tables_35 (by decide) (fun hc35 => ?_) (fun hc35 => ?_)
      · rw [if_pos hc35] at h
        refine lv_aload_n C.1 C.2.1 dX9_tables_41 rfl (lv_at hl 0 rfl) ?_
        refine z_get C X zk9 (hI.1 1 (by decide)) rfl 8 (by decide) kw_397 (zR Ω 27) (zfvF (off := 26) X.2.2.2 (hI.1 1 (by decide)) (hI.2 1 (by decide)) rfl rfl (by decide)) dX9_tables_42 ?_
        refine lv_aload_n C.1 C.2.1 dX9_tables_45 rfl (lv_at hl 0 rfl) ?_
        refine z_get C X zk9 (hI.1 1 (by decide)) rfl 0 (by decide) kw_389 (zR Ω 2) (zfvF (off := 1) X.2.2.2 (hI.1 1 (by decide)) (hI.2 1 (by decide)) rfl rfl (by decide)) dX9_tables_46 ?_
        refine lv_iload_n C.1 C.2.1 dX9_tables_49 rfl (lv_at hl 1 rfl) ?_
        obtain ⟨hc50, h⟩ := chk_some h
        obtain ⟨hn50, h⟩ := chk_some h
        have o_50 := (zrg5 X.2.2.2 (hI.1 2 (by decide)) rfl (i := x1)).resolve_left hn50
        refine z_aald5 C X (hI.1 2 (by decide)) rfl hc50 dX9_tables_50 ?_
        rw [zQ_pos Ω hn50]
        refine zlet_elim h (fun x_4 ex_4 h => ?_)
        rw [← ex_4] at o_50 ⊢
        clear hn50 ex_4
        refine lv_aload_n C.1 C.2.1 dX9_tables_51 rfl (lv_at hl 0 rfl) ?_
        refine z_get C X zk9 (hI.1 1 (by decide)) rfl 4 (by decide) kw_393 (zR Ω 18) (zfvF (off := 17) X.2.2.2 (hI.1 1 (by decide)) (hI.2 1 (by decide)) rfl rfl (by decide)) dX9_tables_52 ?_
        refine lv_iload_n C.1 C.2.1 dX9_tables_55 rfl (lv_at hl 2 rfl) ?_
        obtain ⟨hc56, h⟩ := chk_some h
        obtain ⟨hn56, h⟩ := chk_some h
        have o_56 := (zrg8 X.2.2.2 (hI.1 18 (by decide)) rfl (i := x2)).resolve_left hn56
        refine z_aald8 C X (hI.1 18 (by decide)) rfl hc56 dX9_tables_56 ?_
        rw [zQ_pos Ω hn56]
        refine zlet_elim h (fun x_5 ex_5 h => ?_)
        rw [← ex_5] at o_56 ⊢
        clear hn56 ex_5
        obtain ⟨μ_6, hq57, h⟩ := bnd_some h
        refine z_callV0 C X zk6 (hI.1 27 (by decide)) rfl (As := [zR Ω x_4, zR Ω x_5]) (M_X6_begin hI μ x_4 x_5 o_50 o_56 hq57) zc_X6_begin kw_701 (zroom (by decide) (by decide)) rfl hl.1 rfl (Nat.le_of_ble_eq_true rfl) dX9_tables_57 ⟨Nat.zero_le _, Nat.zero_le _⟩ (fun H locs g_57 X => ?_)
        refine z_iconst C dX9_tables_60 ?_
        refine lv_istore_n C.1 C.2.1 (lv' := [(3, zI 0), (0, zR Ω 1), (1, zI x1), (2, zI x2)]) dX9_tables_61 rfl hl (by decide) rfl (fun ls hl => ?_)
        have L62 : ∀ (n62 : Nat) (x_7 : Int) (μ_8 : zMem) (H : Heap) (locs : List Loc) (ls : Array Slot), Rg x_7 → zX Ω μ_8 (zfree Ω) s.heap H locs → lv_has ls 4 [(0, zR Ω 1), (3, zI x_7)] → (f_X9_tables_L62 n62 x_7 μ_8) = some (r, μ') → W p l e (zrm 4) s m args below meth c H locs 0 0 Q (F0 m 62 ls []) := by
          intro n62
          induction n62 with
          | zero =>
            intro x_7 μ_8 H locs ls _ _ _ h
            cases h
          | succ n62 ih62 =>
            intro x_7 μ_8 H locs ls gx_7 X hl h
            unfold f_X9_tables_L62 at h
            refine lv_iload_n C.1 C.2.1 dX9_tables_62 rfl (lv_at hl 1 rfl) ?_
            refine z_sipush C dX9_tables_63 (by decide) ?_
            refine z_icmpgt C gx_7 ⟨by decide, by decide⟩ (tgt := 86) dX9_tables_66 (by decide) (fun hc66 => ?_) (fun hc66 => ?_)
            · rw [if_neg hc66] at h
              refine lv_iload_n C.1 C.2.1 dX9_tables_86 rfl (lv_at hl 1 rfl) ?_
              obtain ⟨rfl, rfl⟩ := Prod.mk.inj (Option.some.inj h)
              exact rt X gx_7 dX9_tables_87
            · rw [if_pos hc66] at h
              refine lv_aload_n C.1 C.2.1 dX9_tables_69 rfl (lv_at hl 0 rfl) ?_
              refine z_get C X zk9 (hI.1 1 (by decide)) rfl 8 (by decide) kw_397 (zR Ω 27) (zfvF (off := 26) X.2.2.2 (hI.1 1 (by decide)) (hI.2 1 (by decide)) rfl rfl (by decide)) dX9_tables_70 ?_
              refine z_iconst C dX9_tables_73 ?_
              obtain ⟨x_9, μ_10, hq74, h⟩ := bnd2_some h
              refine z_callV1 C X zk6 (hI.1 27 (by decide)) rfl (As := [zI 0]) (M_X6_findNext hI μ_8 0 ⟨by decide, by decide⟩ hq74) zc_X6_findNext kw_719 (zroom (by decide) (by decide)) rfl hl.1 rfl (Nat.le_of_ble_eq_true rfl) dX9_tables_74 ⟨Nat.zero_le _, Nat.zero_le _⟩ (fun H locs g_74 X => ?_)
              refine z_ifeq C (rgz g_74) (tgt := 86) dX9_tables_77 (by decide) (fun hc77 => ?_) (fun hc77 => ?_)
              · rw [if_pos hc77] at h
                refine lv_iload_n C.1 C.2.1 dX9_tables_86 rfl (lv_at hl 1 rfl) ?_
                obtain ⟨rfl, rfl⟩ := Prod.mk.inj (Option.some.inj h)
                exact rt X gx_7 dX9_tables_87
              · rw [if_neg hc77] at h
                refine zlet_elim h (fun x_11 ex_11 h => ?_)
                have gx_11 : Rg x_11 := by rw [ex_11]; exact Rg.w _
                refine z_iinc C ex_11 dX9_tables_80 hl (k := 1) rfl (by decide) (lv' := [(3, zI x_11), (0, zR Ω 1)]) rfl (fun ls hl => ?_)
                clear ex_11
                refine lv_goto (tgt := 62) C.1 C.2.1 dX9_tables_83 (by decide) ?_
                exact ih62 x_11 μ_10 _ _ _ gx_11 X (lv_sub hl [1, 0] rfl) h
        exact L62 zfu 0 μ_6 _ _ _ ⟨by decide, by decide⟩ X (lv_sub hl [1, 0] rfl) h
      · rw [if_neg hc35] at h
        refine z_bipush C dX9_tables_38 (by decide) ?_
        obtain ⟨rfl, rfl⟩ := Prod.mk.inj (Option.some.inj h)
        exact rt X ⟨by decide, by decide⟩ dX9_tables_40
    · rw [if_pos hc11] at h
      refine z_iconst C dX9_tables_14 ?_
      obtain ⟨rfl, rfl⟩ := Prod.mk.inj (Option.some.inj h)
      exact rt X ⟨by decide, by decide⟩ dX9_tables_15
theorem zc_X9_tables : zcal yX9_tables cX9_tables 4 (some Jvm.ClassFile.FieldType.int) RX9 2 := ⟨⟨kw_693, kw_691, kw_692, kw_1⟩, rfl, by decide, by decide, by decide +kernel⟩

def f_X9_layers_L62 : Nat → Int → zMem → Option (Int × zMem)
  | 0, _, _ => none
  | n + 1, x_7, μ_8 =>
    if x_7 ≤ 20000 then
      bnd2 (f_X6_findNextLayer μ_8) fun x_9 μ_10 =>
      if x_9 = 0 then
        some (x_7, μ_10)
      else
        zlet (zw (x_7 + 1)) fun x_11 =>
        (f_X9_layers_L62 n) x_11 μ_10
    else
      some (x_7, μ_8)
def f_X9_layers (x1 : Int) (x2 : Int) (μ : zMem) : Option (Int × zMem) :=
  if (f_X9_isOwn x1) = 0 then
    some ((-1), μ)
  else
    if (f_X9_isStoreys x2) = 0 then
      some ((-1), μ)
    else
      chk ((0 : Int) ≤ x1 ∧ x1 < 2) <|
      chk ((μ 2 x1) ≠ 0) <|
      zlet (μ 2 x1) fun x_1 =>
      chk ((0 : Int) ≤ x2 ∧ x2 < 5) <|
      chk ((μ 18 x2) ≠ 0) <|
      zlet (μ 18 x2) fun x_2 =>
      bnd (f_X6_isMany x_1 x_2 μ) fun x_3 =>
      if x_3 = 0 then
        chk ((0 : Int) ≤ x1 ∧ x1 < 2) <|
        chk ((μ 2 x1) ≠ 0) <|
        zlet (μ 2 x1) fun x_4 =>
        chk ((0 : Int) ≤ x2 ∧ x2 < 5) <|
        chk ((μ 18 x2) ≠ 0) <|
        zlet (μ 18 x2) fun x_5 =>
        bnd (f_X6_begin x_4 x_5 μ) fun μ_6 =>
        (f_X9_layers_L62) zfu 0 μ_6
      else
        some ((-2), μ)
set_option maxHeartbeats 4000000 in
set_option maxRecDepth 100000 in
theorem M_X9_layers {l : Launch} {Ω : zO} (hI : zIc Ω) (μ : zMem) (x1 : Int) (x2 : Int) {r : Int} {μ' : zMem} (gx1 : Rg x1) (gx2 : Rg x2) (h : f_X9_layers x1 x2 μ = some (r, μ')) : XMet l yX9_layers cX9_layers 4 (some Jvm.ClassFile.FieldType.int) 5 Ω [zR Ω 1, zI x1, zI x2] μ (some (zI r)) (Rg r) μ' := by
  refine XMet.ofI (by decide) (Nat.le_of_ble_eq_true rfl) ?_
  intro p e s m args below meth c ls Q C rt X hl
  have C : zC p s m args c cX9_layers RX9 4 Ω := C
  have hl : lv_has ls 4 [(0, zR Ω 1), (1, zI x1), (2, zI x2)] := hl
  unfold f_X9_layers at h
  skip
  refine lv_iload_n C.1 C.2.1 dX9_layers_0 rfl (lv_at hl 1 rfl) ?_
  refine z_callS1 C X (As := [zI x1]) (M_X9_isOwn hI μ x1 gx1) zc_X9_isOwn kw_427 (zroom (by decide) (by decide)) rfl hl.1 rfl (Nat.le_of_ble_eq_true rfl) dX9_layers_1 ⟨Nat.zero_le _, Nat.zero_le _⟩ (fun H locs g_1 X => ?_)
  refine z_ifeq C (rgz g_1) (tgt := 14) dX9_layers_4 (by decide) (fun hc4 => ?_) (fun hc4 => ?_)
  · rw [if_pos hc4] at h
    refine z_iconst C dX9_layers_14 ?_
    obtain ⟨rfl, rfl⟩ := Prod.mk.inj (Option.some.inj h)
    exact rt X ⟨by decide, by decide⟩ dX9_layers_15
  · rw [if_neg hc4] at h
    refine lv_iload_n C.1 C.2.1 dX9_layers_7 rfl (lv_at hl 2 rfl) ?_
    refine z_callS1 C X (As := [zI x2]) (M_X9_isStoreys hI μ x2 gx2) zc_X9_isStoreys kw_694 (zroom (by decide) (by decide)) rfl hl.1 rfl (Nat.le_of_ble_eq_true rfl) dX9_layers_8 ⟨Nat.zero_le _, Nat.zero_le _⟩ (fun H locs g_8 X => ?_)
    refine z_ifne C (rgz g_8) (tgt := 16) dX9_layers_11 (by decide) (fun hc11 => ?_) (fun hc11 => ?_)
    · rw [if_neg hc11] at h
      refine lv_aload_n C.1 C.2.1 dX9_layers_16 rfl (lv_at hl 0 rfl) ?_
      refine z_get C X zk9 (hI.1 1 (by decide)) rfl 8 (by decide) kw_397 (zR Ω 27) (zfvF (off := 26) X.2.2.2 (hI.1 1 (by decide)) (hI.2 1 (by decide)) rfl rfl (by decide)) dX9_layers_17 ?_
      refine lv_aload_n C.1 C.2.1 dX9_layers_20 rfl (lv_at hl 0 rfl) ?_
      refine z_get C X zk9 (hI.1 1 (by decide)) rfl 0 (by decide) kw_389 (zR Ω 2) (zfvF (off := 1) X.2.2.2 (hI.1 1 (by decide)) (hI.2 1 (by decide)) rfl rfl (by decide)) dX9_layers_21 ?_
      refine lv_iload_n C.1 C.2.1 dX9_layers_24 rfl (lv_at hl 1 rfl) ?_
      obtain ⟨hc25, h⟩ := chk_some h
      obtain ⟨hn25, h⟩ := chk_some h
      have o_25 := (zrg5 X.2.2.2 (hI.1 2 (by decide)) rfl (i := x1)).resolve_left hn25
      refine z_aald5 C X (hI.1 2 (by decide)) rfl hc25 dX9_layers_25 ?_
      rw [zQ_pos Ω hn25]
      refine zlet_elim h (fun x_1 ex_1 h => ?_)
      rw [← ex_1] at o_25 ⊢
      clear hn25 ex_1
      refine lv_aload_n C.1 C.2.1 dX9_layers_26 rfl (lv_at hl 0 rfl) ?_
      refine z_get C X zk9 (hI.1 1 (by decide)) rfl 4 (by decide) kw_393 (zR Ω 18) (zfvF (off := 17) X.2.2.2 (hI.1 1 (by decide)) (hI.2 1 (by decide)) rfl rfl (by decide)) dX9_layers_27 ?_
      refine lv_iload_n C.1 C.2.1 dX9_layers_30 rfl (lv_at hl 2 rfl) ?_
      obtain ⟨hc31, h⟩ := chk_some h
      obtain ⟨hn31, h⟩ := chk_some h
      have o_31 := (zrg8 X.2.2.2 (hI.1 18 (by decide)) rfl (i := x2)).resolve_left hn31
      refine z_aald8 C X (hI.1 18 (by decide)) rfl hc31 dX9_layers_31 ?_
      rw [zQ_pos Ω hn31]
      refine zlet_elim h (fun x_2 ex_2 h => ?_)
      rw [← ex_2] at o_31 ⊢
      clear hn31 ex_2
      obtain ⟨x_3, hq32, h⟩ := bnd_some h
      refine z_callV1 C X zk6 (hI.1 27 (by decide)) rfl (As := [zR Ω x_1, zR Ω x_2]) (M_X6_isMany hI μ x_1 x_2 o_25 o_31 hq32) zc_X6_isMany kw_697 (zroom (by decide) (by decide)) rfl hl.1 rfl (Nat.le_of_ble_eq_true rfl) dX9_layers_32 ⟨Nat.zero_le _, Nat.zero_le _⟩ (fun H locs g_32 X => ?_)
      refine z_ifeq C (rgz g_32) (tgt := 41) dX9_layers_35 (by decide) (fun hc35 => ?_) (fun hc35 => ?_)
      · rw [if_pos hc35] at h
        refine lv_aload_n C.1 C.2.1 dX9_layers_41 rfl (lv_at hl 0 rfl) ?_
        refine z_get C X zk9 (hI.1 1 (by decide)) rfl 8 (by decide) kw_397 (zR Ω 27) (zfvF (off := 26) X.2.2.2 (hI.1 1 (by decide)) (hI.2 1 (by decide)) rfl rfl (by decide)) dX9_layers_42 ?_
        refine lv_aload_n C.1 C.2.1 dX9_layers_45 rfl (lv_at hl 0 rfl) ?_
        refine z_get C X zk9 (hI.1 1 (by decide)) rfl 0 (by decide) kw_389 (zR Ω 2) (zfvF (off := 1) X.2.2.2 (hI.1 1 (by decide)) (hI.2 1 (by decide)) rfl rfl (by decide)) dX9_layers_46 ?_
        refine lv_iload_n C.1 C.2.1 dX9_layers_49 rfl (lv_at hl 1 rfl) ?_
        obtain ⟨hc50, h⟩ := chk_some h
        obtain ⟨hn50, h⟩ := chk_some h
        have o_50 := (zrg5 X.2.2.2 (hI.1 2 (by decide)) rfl (i := x1)).resolve_left hn50
        refine z_aald5 C X (hI.1 2 (by decide)) rfl hc50 dX9_layers_50 ?_
        rw [zQ_pos Ω hn50]
        refine zlet_elim h (fun x_4 ex_4 h => ?_)
        rw [← ex_4] at o_50 ⊢
        clear hn50 ex_4
        refine lv_aload_n C.1 C.2.1 dX9_layers_51 rfl (lv_at hl 0 rfl) ?_
        refine z_get C X zk9 (hI.1 1 (by decide)) rfl 4 (by decide) kw_393 (zR Ω 18) (zfvF (off := 17) X.2.2.2 (hI.1 1 (by decide)) (hI.2 1 (by decide)) rfl rfl (by decide)) dX9_layers_52 ?_
        refine lv_iload_n C.1 C.2.1 dX9_layers_55 rfl (lv_at hl 2 rfl) ?_
        obtain ⟨hc56, h⟩ := chk_some h
        obtain ⟨hn56, h⟩ := chk_some h
        have o_56 := (zrg8 X.2.2.2 (hI.1 18 (by decide)) rfl (i := x2)).resolve_left hn56
        refine z_aald8 C X (hI.1 18 (by decide)) rfl hc56 dX9_layers_56 ?_
        rw [zQ_pos Ω hn56]
        refine zlet_elim h (fun x_5 ex_5 h => ?_)
        rw [← ex_5] at o_56 ⊢
        clear hn56 ex_5
        obtain ⟨μ_6, hq57, h⟩ := bnd_some h
        refine z_callV0 C X zk6 (hI.1 27 (by decide)) rfl (As := [zR Ω x_4, zR Ω x_5]) (M_X6_begin hI μ x_4 x_5 o_50 o_56 hq57) zc_X6_begin kw_701 (zroom (by decide) (by decide)) rfl hl.1 rfl (Nat.le_of_ble_eq_true rfl) dX9_layers_57 ⟨Nat.zero_le _, Nat.zero_le _⟩ (fun H locs g_57 X => ?_)
        refine z_iconst C dX9_layers_60 ?_
        refine lv_istore_n C.1 C.2.1 (lv' := [(3, zI 0), (0, zR Ω 1), (1, zI x1), (2, zI x2)]) dX9_layers_61 rfl hl (by decide) rfl (fun ls hl => ?_)
        have L62 : ∀ (n62 : Nat) (x_7 : Int) (μ_8 : zMem) (H : Heap) (locs : List Loc) (ls : Array Slot), Rg x_7 → zX Ω μ_8 (zfree Ω) s.heap H locs → lv_has ls 4 [(0, zR Ω 1), (3, zI x_7)] → (f_X9_layers_L62 n62 x_7 μ_8) = some (r, μ') → W p l e (zrm 5) s m args below meth c H locs 0 0 Q (F0 m 62 ls []) := by
          intro n62
          induction n62 with
          | zero =>
            intro x_7 μ_8 H locs ls _ _ _ h
            cases h
          | succ n62 ih62 =>
            intro x_7 μ_8 H locs ls gx_7 X hl h
            unfold f_X9_layers_L62 at h
            refine lv_iload_n C.1 C.2.1 dX9_layers_62 rfl (lv_at hl 1 rfl) ?_
            refine z_sipush C dX9_layers_63 (by decide) ?_
            refine z_icmpgt C gx_7 ⟨by decide, by decide⟩ (tgt := 85) dX9_layers_66 (by decide) (fun hc66 => ?_) (fun hc66 => ?_)
            · rw [if_neg hc66] at h
              refine lv_iload_n C.1 C.2.1 dX9_layers_85 rfl (lv_at hl 1 rfl) ?_
              obtain ⟨rfl, rfl⟩ := Prod.mk.inj (Option.some.inj h)
              exact rt X gx_7 dX9_layers_86
            · rw [if_pos hc66] at h
              refine lv_aload_n C.1 C.2.1 dX9_layers_69 rfl (lv_at hl 0 rfl) ?_
              refine z_get C X zk9 (hI.1 1 (by decide)) rfl 8 (by decide) kw_397 (zR Ω 27) (zfvF (off := 26) X.2.2.2 (hI.1 1 (by decide)) (hI.2 1 (by decide)) rfl rfl (by decide)) dX9_layers_70 ?_
              obtain ⟨x_9, μ_10, hq73, h⟩ := bnd2_some h
              refine z_callV1 C X zk6 (hI.1 27 (by decide)) rfl (As := []) (M_X6_findNextLayer hI μ_8 hq73) zc_X6_findNextLayer kw_754 (zroom (by decide) (by decide)) rfl hl.1 rfl (Nat.le_of_ble_eq_true rfl) dX9_layers_73 ⟨Nat.zero_le _, Nat.zero_le _⟩ (fun H locs g_73 X => ?_)
              refine z_ifeq C (rgz g_73) (tgt := 85) dX9_layers_76 (by decide) (fun hc76 => ?_) (fun hc76 => ?_)
              · rw [if_pos hc76] at h
                refine lv_iload_n C.1 C.2.1 dX9_layers_85 rfl (lv_at hl 1 rfl) ?_
                obtain ⟨rfl, rfl⟩ := Prod.mk.inj (Option.some.inj h)
                exact rt X gx_7 dX9_layers_86
              · rw [if_neg hc76] at h
                refine zlet_elim h (fun x_11 ex_11 h => ?_)
                have gx_11 : Rg x_11 := by rw [ex_11]; exact Rg.w _
                refine z_iinc C ex_11 dX9_layers_79 hl (k := 1) rfl (by decide) (lv' := [(3, zI x_11), (0, zR Ω 1)]) rfl (fun ls hl => ?_)
                clear ex_11
                refine lv_goto (tgt := 62) C.1 C.2.1 dX9_layers_82 (by decide) ?_
                exact ih62 x_11 μ_10 _ _ _ gx_11 X (lv_sub hl [1, 0] rfl) h
        exact L62 zfu 0 μ_6 _ _ _ ⟨by decide, by decide⟩ X (lv_sub hl [1, 0] rfl) h
      · rw [if_neg hc35] at h
        refine z_bipush C dX9_layers_38 (by decide) ?_
        obtain ⟨rfl, rfl⟩ := Prod.mk.inj (Option.some.inj h)
        exact rt X ⟨by decide, by decide⟩ dX9_layers_40
    · rw [if_pos hc11] at h
      refine z_iconst C dX9_layers_14 ?_
      obtain ⟨rfl, rfl⟩ := Prod.mk.inj (Option.some.inj h)
      exact rt X ⟨by decide, by decide⟩ dX9_layers_15
theorem zc_X9_layers : zcal yX9_layers cX9_layers 4 (some Jvm.ClassFile.FieldType.int) RX9 2 := ⟨⟨kw_753, kw_751, kw_752, kw_1⟩, rfl, by decide, by decide, by decide +kernel⟩

def f_X9_layer (x1 : Int) (x2 : Int) (x3 : Int) (μ : zMem) : Option (Int × zMem) :=
  if (f_X9_isOwn x1) = 0 then
    some ((-1), μ)
  else
    if (f_X9_isStoreys x2) = 0 then
      some ((-1), μ)
    else
      if x3 < 0 then
        some ((-1), μ)
      else
        chk ((0 : Int) ≤ x1 ∧ x1 < 2) <|
        chk ((μ 2 x1) ≠ 0) <|
        zlet (μ 2 x1) fun x_1 =>
        chk ((0 : Int) ≤ x2 ∧ x2 < 5) <|
        chk ((μ 18 x2) ≠ 0) <|
        zlet (μ 18 x2) fun x_2 =>
        bnd (f_X6_isMany x_1 x_2 μ) fun x_3 =>
        if x_3 = 0 then
          chk ((0 : Int) ≤ x1 ∧ x1 < 2) <|
          chk ((μ 2 x1) ≠ 0) <|
          zlet (μ 2 x1) fun x_4 =>
          chk ((0 : Int) ≤ x2 ∧ x2 < 5) <|
          chk ((μ 18 x2) ≠ 0) <|
          zlet (μ 18 x2) fun x_5 =>
          bnd (f_X6_begin x_4 x_5 μ) fun μ_6 =>
          bnd2 (f_X6_findLayer x3 μ_6) fun x_7 μ_8 =>
          if x_7 = 0 then
            some ((-1), μ_8)
          else
            chk ((0 : Int) ≤ x1 ∧ x1 < 2) <|
            chk ((μ_8 2 x1) ≠ 0) <|
            zlet (μ_8 2 x1) fun x_9 =>
            bnd (f_X1_lay x_9 x1 μ_8) fun μ_10 =>
            some ((μ_10 4 10), μ_10)
        else
          some ((-2), μ)
set_option maxHeartbeats 4000000 in
set_option maxRecDepth 100000 in
theorem M_X9_layer {l : Launch} {Ω : zO} (hI : zIc Ω) (μ : zMem) (x1 : Int) (x2 : Int) (x3 : Int) {r : Int} {μ' : zMem} (gx1 : Rg x1) (gx2 : Rg x2) (gx3 : Rg x3) (h : f_X9_layer x1 x2 x3 μ = some (r, μ')) : XMet l yX9_layer cX9_layer 4 (some Jvm.ClassFile.FieldType.int) 6 Ω [zR Ω 1, zI x1, zI x2, zI x3] μ (some (zI r)) (Rg r) μ' := by
  refine XMet.ofI (by decide) (Nat.le_of_ble_eq_true rfl) ?_
  intro p e s m args below meth c ls Q C rt X hl
  have C : zC p s m args c cX9_layer RX9 4 Ω := C
  have hl : lv_has ls 4 [(0, zR Ω 1), (1, zI x1), (2, zI x2), (3, zI x3)] := hl
  unfold f_X9_layer at h
  skip
  refine lv_iload_n C.1 C.2.1 dX9_layer_0 rfl (lv_at hl 1 rfl) ?_
  refine z_callS1 C X (As := [zI x1]) (M_X9_isOwn hI μ x1 gx1) zc_X9_isOwn kw_427 (zroom (by decide) (by decide)) rfl hl.1 rfl (Nat.le_of_ble_eq_true rfl) dX9_layer_1 ⟨Nat.zero_le _, Nat.zero_le _⟩ (fun H locs g_1 X => ?_)
  refine z_ifeq C (rgz g_1) (tgt := 18) dX9_layer_4 (by decide) (fun hc4 => ?_) (fun hc4 => ?_)
  · rw [if_pos hc4] at h
    refine z_iconst C dX9_layer_18 ?_
    obtain ⟨rfl, rfl⟩ := Prod.mk.inj (Option.some.inj h)
    exact rt X ⟨by decide, by decide⟩ dX9_layer_19
  · rw [if_neg hc4] at h
    refine lv_iload_n C.1 C.2.1 dX9_layer_7 rfl (lv_at hl 2 rfl) ?_
    refine z_callS1 C X (As := [zI x2]) (M_X9_isStoreys hI μ x2 gx2) zc_X9_isStoreys kw_694 (zroom (by decide) (by decide)) rfl hl.1 rfl (Nat.le_of_ble_eq_true rfl) dX9_layer_8 ⟨Nat.zero_le _, Nat.zero_le _⟩ (fun H locs g_8 X => ?_)
    refine z_ifeq C (rgz g_8) (tgt := 18) dX9_layer_11 (by decide) (fun hc11 => ?_) (fun hc11 => ?_)
    · rw [if_pos hc11] at h
      refine z_iconst C dX9_layer_18 ?_
      obtain ⟨rfl, rfl⟩ := Prod.mk.inj (Option.some.inj h)
      exact rt X ⟨by decide, by decide⟩ dX9_layer_19
    · rw [if_neg hc11] at h
      refine lv_iload_n C.1 C.2.1 dX9_layer_14 rfl (lv_at hl 3 rfl) ?_
      refine z_ifge C gx3 (tgt := 20) dX9_layer_15 (by decide) (fun hc15 => ?_) (fun hc15 => ?_)
      · rw [if_neg hc15] at h
        refine lv_aload_n C.1 C.2.1 dX9_layer_20 rfl (lv_at hl 0 rfl) ?_
        refine z_get C X zk9 (hI.1 1 (by decide)) rfl 8 (by decide) kw_397 (zR Ω 27) (zfvF (off := 26) X.2.2.2 (hI.1 1 (by decide)) (hI.2 1 (by decide)) rfl rfl (by decide)) dX9_layer_21 ?_
        refine lv_aload_n C.1 C.2.1 dX9_layer_24 rfl (lv_at hl 0 rfl) ?_
        refine z_get C X zk9 (hI.1 1 (by decide)) rfl 0 (by decide) kw_389 (zR Ω 2) (zfvF (off := 1) X.2.2.2 (hI.1 1 (by decide)) (hI.2 1 (by decide)) rfl rfl (by decide)) dX9_layer_25 ?_
        refine lv_iload_n C.1 C.2.1 dX9_layer_28 rfl (lv_at hl 1 rfl) ?_
        obtain ⟨hc29, h⟩ := chk_some h
        obtain ⟨hn29, h⟩ := chk_some h
        have o_29 := (zrg5 X.2.2.2 (hI.1 2 (by decide)) rfl (i := x1)).resolve_left hn29
        refine z_aald5 C X (hI.1 2 (by decide)) rfl hc29 dX9_layer_29 ?_
        rw [zQ_pos Ω hn29]
        refine zlet_elim h (fun x_1 ex_1 h => ?_)
        rw [← ex_1] at o_29 ⊢
        clear hn29 ex_1
        refine lv_aload_n C.1 C.2.1 dX9_layer_30 rfl (lv_at hl 0 rfl) ?_
        refine z_get C X zk9 (hI.1 1 (by decide)) rfl 4 (by decide) kw_393 (zR Ω 18) (zfvF (off := 17) X.2.2.2 (hI.1 1 (by decide)) (hI.2 1 (by decide)) rfl rfl (by decide)) dX9_layer_31 ?_
        refine lv_iload_n C.1 C.2.1 dX9_layer_34 rfl (lv_at hl 2 rfl) ?_
        obtain ⟨hc35, h⟩ := chk_some h
        obtain ⟨hn35, h⟩ := chk_some h
        have o_35 := (zrg8 X.2.2.2 (hI.1 18 (by decide)) rfl (i := x2)).resolve_left hn35
        refine z_aald8 C X (hI.1 18 (by decide)) rfl hc35 dX9_layer_35 ?_
        rw [zQ_pos Ω hn35]
        refine zlet_elim h (fun x_2 ex_2 h => ?_)
        rw [← ex_2] at o_35 ⊢
        clear hn35 ex_2
        obtain ⟨x_3, hq36, h⟩ := bnd_some h
        refine z_callV1 C X zk6 (hI.1 27 (by decide)) rfl (As := [zR Ω x_1, zR Ω x_2]) (M_X6_isMany hI μ x_1 x_2 o_29 o_35 hq36) zc_X6_isMany kw_697 (zroom (by decide) (by decide)) rfl hl.1 rfl (Nat.le_of_ble_eq_true rfl) dX9_layer_36 ⟨Nat.zero_le _, Nat.zero_le _⟩ (fun H locs g_36 X => ?_)
        refine z_ifeq C (rgz g_36) (tgt := 45) dX9_layer_39 (by decide) (fun hc39 => ?_) (fun hc39 => ?_)
        · rw [if_pos hc39] at h
          refine lv_aload_n C.1 C.2.1 dX9_layer_45 rfl (lv_at hl 0 rfl) ?_
          refine z_get C X zk9 (hI.1 1 (by decide)) rfl 8 (by decide) kw_397 (zR Ω 27) (zfvF (off := 26) X.2.2.2 (hI.1 1 (by decide)) (hI.2 1 (by decide)) rfl rfl (by decide)) dX9_layer_46 ?_
          refine lv_aload_n C.1 C.2.1 dX9_layer_49 rfl (lv_at hl 0 rfl) ?_
          refine z_get C X zk9 (hI.1 1 (by decide)) rfl 0 (by decide) kw_389 (zR Ω 2) (zfvF (off := 1) X.2.2.2 (hI.1 1 (by decide)) (hI.2 1 (by decide)) rfl rfl (by decide)) dX9_layer_50 ?_
          refine lv_iload_n C.1 C.2.1 dX9_layer_53 rfl (lv_at hl 1 rfl) ?_
          obtain ⟨hc54, h⟩ := chk_some h
          obtain ⟨hn54, h⟩ := chk_some h
          have o_54 := (zrg5 X.2.2.2 (hI.1 2 (by decide)) rfl (i := x1)).resolve_left hn54
          refine z_aald5 C X (hI.1 2 (by decide)) rfl hc54 dX9_layer_54 ?_
          rw [zQ_pos Ω hn54]
          refine zlet_elim h (fun x_4 ex_4 h => ?_)
          rw [← ex_4] at o_54 ⊢
          clear hn54 ex_4
          refine lv_aload_n C.1 C.2.1 dX9_layer_55 rfl (lv_at hl 0 rfl) ?_
          refine z_get C X zk9 (hI.1 1 (by decide)) rfl 4 (by decide) kw_393 (zR Ω 18) (zfvF (off := 17) X.2.2.2 (hI.1 1 (by decide)) (hI.2 1 (by decide)) rfl rfl (by decide)) dX9_layer_56 ?_
          refine lv_iload_n C.1 C.2.1 dX9_layer_59 rfl (lv_at hl 2 rfl) ?_
          obtain ⟨hc60, h⟩ := chk_some h
          obtain ⟨hn60, h⟩ := chk_some h
          have o_60 := (zrg8 X.2.2.2 (hI.1 18 (by decide)) rfl (i := x2)).resolve_left hn60
          refine z_aald8 C X (hI.1 18 (by decide)) rfl hc60 dX9_layer_60 ?_
          rw [zQ_pos Ω hn60]
          refine zlet_elim h (fun x_5 ex_5 h => ?_)
          rw [← ex_5] at o_60 ⊢
          clear hn60 ex_5
          obtain ⟨μ_6, hq61, h⟩ := bnd_some h
          refine z_callV0 C X zk6 (hI.1 27 (by decide)) rfl (As := [zR Ω x_4, zR Ω x_5]) (M_X6_begin hI μ x_4 x_5 o_54 o_60 hq61) zc_X6_begin kw_701 (zroom (by decide) (by decide)) rfl hl.1 rfl (Nat.le_of_ble_eq_true rfl) dX9_layer_61 ⟨Nat.zero_le _, Nat.zero_le _⟩ (fun H locs g_61 X => ?_)
          refine lv_aload_n C.1 C.2.1 dX9_layer_64 rfl (lv_at hl 0 rfl) ?_
          refine z_get C X zk9 (hI.1 1 (by decide)) rfl 8 (by decide) kw_397 (zR Ω 27) (zfvF (off := 26) X.2.2.2 (hI.1 1 (by decide)) (hI.2 1 (by decide)) rfl rfl (by decide)) dX9_layer_65 ?_
          refine lv_iload_n C.1 C.2.1 dX9_layer_68 rfl (lv_at hl 3 rfl) ?_
          obtain ⟨x_7, μ_8, hq69, h⟩ := bnd2_some h
          refine z_callV1 C X zk6 (hI.1 27 (by decide)) rfl (As := [zI x3]) (M_X6_findLayer hI μ_6 x3 gx3 hq69) zc_X6_findLayer kw_768 (zroom (by decide) (by decide)) rfl hl.1 rfl (Nat.le_of_ble_eq_true rfl) dX9_layer_69 ⟨Nat.zero_le _, Nat.zero_le _⟩ (fun H locs g_69 X => ?_)
          refine z_ifne C (rgz g_69) (tgt := 77) dX9_layer_72 (by decide) (fun hc72 => ?_) (fun hc72 => ?_)
          · rw [if_neg hc72] at h
            refine lv_aload_n C.1 C.2.1 dX9_layer_77 rfl (lv_at hl 0 rfl) ?_
            refine z_get C X zk9 (hI.1 1 (by decide)) rfl 1 (by decide) kw_390 (zR Ω 3) (zfvF (off := 2) X.2.2.2 (hI.1 1 (by decide)) (hI.2 1 (by decide)) rfl rfl (by decide)) dX9_layer_78 ?_
            refine lv_aload_n C.1 C.2.1 dX9_layer_81 rfl (lv_at hl 0 rfl) ?_
            refine z_get C X zk9 (hI.1 1 (by decide)) rfl 0 (by decide) kw_389 (zR Ω 2) (zfvF (off := 1) X.2.2.2 (hI.1 1 (by decide)) (hI.2 1 (by decide)) rfl rfl (by decide)) dX9_layer_82 ?_
            refine lv_iload_n C.1 C.2.1 dX9_layer_85 rfl (lv_at hl 1 rfl) ?_
            obtain ⟨hc86, h⟩ := chk_some h
            obtain ⟨hn86, h⟩ := chk_some h
            have o_86 := (zrg5 X.2.2.2 (hI.1 2 (by decide)) rfl (i := x1)).resolve_left hn86
            refine z_aald5 C X (hI.1 2 (by decide)) rfl hc86 dX9_layer_86 ?_
            rw [zQ_pos Ω hn86]
            refine zlet_elim h (fun x_9 ex_9 h => ?_)
            rw [← ex_9] at o_86 ⊢
            clear hn86 ex_9
            refine lv_iload_n C.1 C.2.1 dX9_layer_87 rfl (lv_at hl 1 rfl) ?_
            refine lv_aload_n C.1 C.2.1 dX9_layer_88 rfl (lv_at hl 0 rfl) ?_
            refine z_get C X zk9 (hI.1 1 (by decide)) rfl 8 (by decide) kw_397 (zR Ω 27) (zfvF (off := 26) X.2.2.2 (hI.1 1 (by decide)) (hI.2 1 (by decide)) rfl rfl (by decide)) dX9_layer_89 ?_
            obtain ⟨μ_10, hq92, h⟩ := bnd_some h
            refine z_callV0 C X zk1 (hI.1 3 (by decide)) rfl (As := [zR Ω x_9, zI x1, zR Ω 27]) (M_X1_lay hI μ_8 x_9 x1 o_86 gx1 hq92) zc_X1_lay kw_773 (zroom (by decide) (by decide)) rfl hl.1 rfl (Nat.le_of_ble_eq_true rfl) dX9_layer_92 ⟨Nat.zero_le _, Nat.zero_le _⟩ (fun H locs g_92 X => ?_)
            refine lv_aload_n C.1 C.2.1 dX9_layer_95 rfl (lv_at hl 0 rfl) ?_
            refine z_get C X zk9 (hI.1 1 (by decide)) rfl 1 (by decide) kw_390 (zR Ω 3) (zfvF (off := 2) X.2.2.2 (hI.1 1 (by decide)) (hI.2 1 (by decide)) rfl rfl (by decide)) dX9_layer_96 ?_
            refine z_get C X zk1 (hI.1 3 (by decide)) rfl 0 (by decide) kw_126 (zR Ω 4) (zfvF (off := 1) X.2.2.2 (hI.1 3 (by decide)) (hI.2 3 (by decide)) rfl rfl (by decide)) dX9_layer_99 ?_
            have g_102 : Rg (μ_10 4 10) := zrgf0 (ci := 5) X.2.2.2 (hI.1 4 (by decide)) rfl 10 rfl
            refine z_get C X zk5 (hI.1 4 (by decide)) rfl 10 (by decide) kw_98 (zI (μ_10 4 10)) rfl dX9_layer_102 ?_
            obtain ⟨rfl, rfl⟩ := Prod.mk.inj (Option.some.inj h)
            exact rt X g_102 dX9_layer_105
          · rw [if_pos hc72] at h
            refine z_iconst C dX9_layer_75 ?_
            obtain ⟨rfl, rfl⟩ := Prod.mk.inj (Option.some.inj h)
            exact rt X ⟨by decide, by decide⟩ dX9_layer_76
        · rw [if_neg hc39] at h
          refine z_bipush C dX9_layer_42 (by decide) ?_
          obtain ⟨rfl, rfl⟩ := Prod.mk.inj (Option.some.inj h)
          exact rt X ⟨by decide, by decide⟩ dX9_layer_44
      · rw [if_pos hc15] at h
        refine z_iconst C dX9_layer_18 ?_
        obtain ⟨rfl, rfl⟩ := Prod.mk.inj (Option.some.inj h)
        exact rt X ⟨by decide, by decide⟩ dX9_layer_19
theorem zc_X9_layer : zcal yX9_layer cX9_layer 4 (some Jvm.ClassFile.FieldType.int) RX9 3 := ⟨⟨kw_767, kw_765, kw_766, kw_1⟩, rfl, by decide, by decide, by decide +kernel⟩

