def f_X2_rankOfPanes (x1 : Int) (x2 : Int) (μ : zMem) : Option (Int × zMem) :=
  bnd (f_X2_fillPanes x1 μ) fun μ_1 =>
  if x2 = 0 then
    bnd2 (f_X2_rankOfFractions μ_1) fun x_4 μ_5 =>
    some (x_4, μ_5)
  else
    bnd2 (f_X2_rankModulo x2 μ_1) fun x_2 μ_3 =>
    some (x_2, μ_3)
set_option maxHeartbeats 4000000 in
set_option maxRecDepth 100000 in
theorem M_X2_rankOfPanes {l : Launch} {Ω : zO} (hI : zIc Ω) (μ : zMem) (x1 : Int) (x2 : Int) {r : Int} {μ' : zMem} (o_x1 : zob Ω.2.2.1 5 x1) (gx2 : Rg x2) (h : f_X2_rankOfPanes x1 x2 μ = some (r, μ')) : XMet l yX2_rankOfPanes cX2_rankOfPanes 3 (some Jvm.ClassFile.FieldType.int) 3 Ω [zR Ω 23, zR Ω x1, zI x2] μ (some (zI r)) (Rg r) μ' := by
  refine XMet.ofI (by decide) (Nat.le_of_ble_eq_true rfl) ?_
  intro p e s m args below meth c ls Q C rt X hl
  have C : zC p s m args c cX2_rankOfPanes RX2 3 Ω := C
  have hl : lv_has ls 3 [(0, zR Ω 23), (1, zR Ω x1), (2, zI x2)] := hl
  unfold f_X2_rankOfPanes at h
  skip
  refine lv_aload_n C.1 C.2.1 dX2_rankOfPanes_0 rfl (lv_at hl 0 rfl) ?_
  refine lv_aload_n C.1 C.2.1 dX2_rankOfPanes_1 rfl (lv_at hl 1 rfl) ?_
  obtain ⟨μ_1, hq2, h⟩ := bnd_some h
  refine z_callV0 C X zk2 (hI.1 23 (by decide)) rfl (As := [zR Ω x1]) (M_X2_fillPanes hI μ x1 o_x1 hq2) zc_X2_fillPanes kw_634 (zroom (by decide) (by decide)) rfl hl.1 rfl (Nat.le_of_ble_eq_true rfl) dX2_rankOfPanes_2 ⟨Nat.zero_le _, Nat.zero_le _⟩ (fun H locs g_2 X => ?_)
  refine lv_iload_n C.1 C.2.1 dX2_rankOfPanes_5 rfl (lv_at hl 2 rfl) ?_
  refine z_ifne C gx2 (tgt := 16) dX2_rankOfPanes_6 (by decide) (fun hc6 => ?_) (fun hc6 => ?_)
  · rw [if_neg hc6] at h
    refine lv_aload_n C.1 C.2.1 dX2_rankOfPanes_16 rfl (lv_at hl 0 rfl) ?_
    refine lv_iload_n C.1 C.2.1 dX2_rankOfPanes_17 rfl (lv_at hl 2 rfl) ?_
    obtain ⟨x_2, μ_3, hq18, h⟩ := bnd2_some h
    refine z_callV1 C X zk2 (hI.1 23 (by decide)) rfl (As := [zI x2]) (M_X2_rankModulo hI μ_1 x2 gx2 hq18) zc_X2_rankModulo kw_615 (zroom (by decide) (by decide)) rfl hl.1 rfl (Nat.le_of_ble_eq_true rfl) dX2_rankOfPanes_18 ⟨Nat.zero_le _, Nat.zero_le _⟩ (fun H locs g_18 X => ?_)
    obtain ⟨rfl, rfl⟩ := Prod.mk.inj (Option.some.inj h)
    exact rt X g_18 dX2_rankOfPanes_21
  · rw [if_pos hc6] at h
    refine lv_aload_n C.1 C.2.1 dX2_rankOfPanes_9 rfl (lv_at hl 0 rfl) ?_
    obtain ⟨x_4, μ_5, hq10, h⟩ := bnd2_some h
    refine z_callV1 C X zk2 (hI.1 23 (by decide)) rfl (As := []) (M_X2_rankOfFractions hI μ_1 hq10) zc_X2_rankOfFractions kw_599 (zroom (by decide) (by decide)) rfl hl.1 rfl (Nat.le_of_ble_eq_true rfl) dX2_rankOfPanes_10 ⟨Nat.zero_le _, Nat.zero_le _⟩ (fun H locs g_10 X => ?_)
    refine lv_goto (tgt := 21) C.1 C.2.1 dX2_rankOfPanes_13 (by decide) ?_
    obtain ⟨rfl, rfl⟩ := Prod.mk.inj (Option.some.inj h)
    exact rt X g_10 dX2_rankOfPanes_21
theorem zc_X2_rankOfPanes : zcal yX2_rankOfPanes cX2_rankOfPanes 3 (some Jvm.ClassFile.FieldType.int) RX2 2 := ⟨⟨kw_633, kw_631, kw_632, kw_7⟩, rfl, by decide, by decide, by decide +kernel⟩

def f_X2_takeOut (x1 : Int) (x2 : Int) (x4 : Int) (μ : zMem) : Option zMem :=
  chk ((0 : Int) ≤ x1 ∧ x1 < 1536) <|
  chk ((0 : Int) ≤ x4 ∧ x4 < 1536) <|
  chk ((μ 23 6) ≠ 0) <|
  chk ((0 : Int) ≤ x1 ∧ x1 < 1536) <|
  zlet (zup μ 24 x1 (zfmod (zl ((μ 24 x1) - (zl (x2 * (μ 24 x4))))) (μ 23 6))) fun μ_1 =>
  some μ_1
set_option maxHeartbeats 4000000 in
set_option maxRecDepth 100000 in
theorem M_X2_takeOut {l : Launch} {Ω : zO} (hI : zIc Ω) (μ : zMem) (x1 : Int) (x2 : Int) (x4 : Int) {μ' : zMem} (gx1 : Rg x1) (gx2 : Rl x2) (gx4 : Rg x4) (h : f_X2_takeOut x1 x2 x4 μ = some μ') : XMet l yX2_takeOut cX2_takeOut 5 none 0 Ω [zR Ω 23, zI x1, zJ x2, zI x4] μ none True μ' := by
  refine XMet.ofV (by decide) (Nat.le_of_ble_eq_true rfl) ?_
  intro p e s m args below meth c ls Q C rt X hl
  have C : zC p s m args c cX2_takeOut RX2 5 Ω := C
  have hl : lv_has ls 5 [(0, zR Ω 23), (1, zI x1), (2, zJ x2), (4, zI x4)] := hl
  unfold f_X2_takeOut at h
  skip
  refine lv_aload_n C.1 C.2.1 dX2_takeOut_0 rfl (lv_at hl 0 rfl) ?_
  refine z_get C X zk2 (hI.1 23 (by decide)) rfl 0 (by decide) kw_223 (zR Ω 24) (zfvF (off := 1) X.2.2.2 (hI.1 23 (by decide)) (hI.2 23 (by decide)) rfl rfl (by decide)) dX2_takeOut_1 ?_
  refine lv_iload_n C.1 C.2.1 dX2_takeOut_4 rfl (lv_at hl 1 rfl) ?_
  refine lv_aload_n C.1 C.2.1 dX2_takeOut_5 rfl (lv_at hl 0 rfl) ?_
  refine z_get C X zk2 (hI.1 23 (by decide)) rfl 0 (by decide) kw_223 (zR Ω 24) (zfvF (off := 1) X.2.2.2 (hI.1 23 (by decide)) (hI.2 23 (by decide)) rfl rfl (by decide)) dX2_takeOut_6 ?_
  refine lv_iload_n C.1 C.2.1 dX2_takeOut_9 rfl (lv_at hl 1 rfl) ?_
  obtain ⟨hc10, h⟩ := chk_some h
  have g_10 : Rl (μ 24 x1) := zrg2 X.2.2.2 (hI.1 24 (by decide)) rfl
  refine z_lald C X (hI.1 24 (by decide)) rfl hc10 dX2_takeOut_10 ?_
  refine lv_lload_n C.1 C.2.1 dX2_takeOut_11 rfl (lv_at hl 2 rfl) ?_
  refine lv_aload_n C.1 C.2.1 dX2_takeOut_12 rfl (lv_at hl 0 rfl) ?_
  refine z_get C X zk2 (hI.1 23 (by decide)) rfl 0 (by decide) kw_223 (zR Ω 24) (zfvF (off := 1) X.2.2.2 (hI.1 23 (by decide)) (hI.2 23 (by decide)) rfl rfl (by decide)) dX2_takeOut_13 ?_
  refine lv_iload C.1 C.2.1 dX2_takeOut_16 (lv_at hl 3 rfl) ?_
  obtain ⟨hc18, h⟩ := chk_some h
  have g_18 : Rl (μ 24 x4) := zrg2 X.2.2.2 (hI.1 24 (by decide)) rfl
  refine z_lald C X (hI.1 24 (by decide)) rfl hc18 dX2_takeOut_18 ?_
  refine z_lmul C dX2_takeOut_19 ?_
  refine z_lsub C dX2_takeOut_20 ?_
  refine lv_aload_n C.1 C.2.1 dX2_takeOut_21 rfl (lv_at hl 0 rfl) ?_
  have g_22 : Rl (μ 23 6) := zrgf1 (ci := 2) X.2.2.2 (hI.1 23 (by decide)) rfl 6 rfl
  refine z_get C X zk2 (hI.1 23 (by decide)) rfl 6 (by decide) kw_230 (zJ (μ 23 6)) rfl dX2_takeOut_22 ?_
  obtain ⟨hc25, h⟩ := chk_some h
  refine z_fmod C g_22 hc25 hl.1 kw_623 kw_624 kw_4 kw_625 (by decide) (Nat.le_of_ble_eq_true rfl) (Nat.zero_le _) (Nat.zero_le _) dX2_takeOut_25 ?_
  obtain ⟨hc28, h⟩ := chk_some h
  refine zlet_elim h (fun μ_1 em h => ?_)
  refine z_last C X (hI.1 24 (by decide)) rfl hc28 (zok2 rfl (Rl.t _)) em dX2_takeOut_28 (fun H locs X => ?_)
  clear em
  obtain rfl := Option.some.inj h
  exact rt X dX2_takeOut_29
theorem zc_X2_takeOut : zcal yX2_takeOut cX2_takeOut 5 none RX2 3 := ⟨⟨kw_677, kw_676, kp_24, kw_7⟩, rfl, by decide, by decide, by decide +kernel⟩

def f_X2_addRow_L2 (x1 : Int) (x2 : Int) : Nat → Int → zMem → Option zMem
  | 0, _, _ => none
  | n + 1, x_1, μ_2 =>
    if x_1 < (μ_2 23 4) then
      bnd (f_X2_takeOut (zw ((zw (x2 * (μ_2 23 4))) + x_1)) (-1) (zw ((zw (x1 * (μ_2 23 4))) + x_1)) μ_2) fun μ_3 =>
      zlet (zw (x_1 + 1)) fun x_4 =>
      (f_X2_addRow_L2 x1 x2 n) x_4 μ_3
    else
      some μ_2
def f_X2_addRow (x1 : Int) (x2 : Int) (μ : zMem) : Option zMem :=
  (f_X2_addRow_L2 x1 x2) zfu x2 μ
set_option maxHeartbeats 4000000 in
set_option maxRecDepth 100000 in
theorem M_X2_addRow {l : Launch} {Ω : zO} (hI : zIc Ω) (μ : zMem) (x1 : Int) (x2 : Int) {μ' : zMem} (gx1 : Rg x1) (gx2 : Rg x2) (h : f_X2_addRow x1 x2 μ = some μ') : XMet l yX2_addRow cX2_addRow 4 none 1 Ω [zR Ω 23, zI x1, zI x2] μ none True μ' := by
  refine XMet.ofV (by decide) (Nat.le_of_ble_eq_true rfl) ?_
  intro p e s m args below meth c ls Q C rt X hl
  have C : zC p s m args c cX2_addRow RX2 4 Ω := C
  have hl : lv_has ls 4 [(0, zR Ω 23), (1, zI x1), (2, zI x2)] := hl
  unfold f_X2_addRow at h
  skip
  refine lv_iload_n C.1 C.2.1 dX2_addRow_0 rfl (lv_at hl 2 rfl) ?_
  refine lv_istore_n C.1 C.2.1 (lv' := [(3, zI x2), (0, zR Ω 23), (1, zI x1), (2, zI x2)]) dX2_addRow_1 rfl hl (by decide) rfl (fun ls hl => ?_)
  have L2 : ∀ (n2 : Nat) (x_1 : Int) (μ_2 : zMem) (H : Heap) (locs : List Loc) (ls : Array Slot), Rg x_1 → zX Ω μ_2 (zfree Ω) s.heap H locs → lv_has ls 4 [(0, zR Ω 23), (1, zI x1), (2, zI x2), (3, zI x_1)] → (f_X2_addRow_L2 x1 x2 n2 x_1 μ_2) = some μ' → W p l e (zrm 1) s m args below meth c H locs 0 0 Q (F0 m 2 ls []) := by
    intro n2
    induction n2 with
    | zero =>
      intro x_1 μ_2 H locs ls _ _ _ h
      cases h
    | succ n2 ih2 =>
      intro x_1 μ_2 H locs ls gx_1 X hl h
      unfold f_X2_addRow_L2 at h
      refine lv_iload_n C.1 C.2.1 dX2_addRow_2 rfl (lv_at hl 3 rfl) ?_
      refine lv_aload_n C.1 C.2.1 dX2_addRow_3 rfl (lv_at hl 0 rfl) ?_
      have g_4 : Rg (μ_2 23 4) := zrgf0 (ci := 2) X.2.2.2 (hI.1 23 (by decide)) rfl 4 rfl
      refine z_get C X zk2 (hI.1 23 (by decide)) rfl 4 (by decide) kw_228 (zI (μ_2 23 4)) rfl dX2_addRow_4 ?_
      refine z_icmpge C gx_1 g_4 (tgt := 39) dX2_addRow_7 (by decide) (fun hc7 => ?_) (fun hc7 => ?_)
      · rw [if_neg hc7] at h
        obtain rfl := Option.some.inj h
        exact rt X dX2_addRow_39
      · rw [if_pos hc7] at h
        refine lv_aload_n C.1 C.2.1 dX2_addRow_10 rfl (lv_at hl 0 rfl) ?_
        refine lv_iload_n C.1 C.2.1 dX2_addRow_11 rfl (lv_at hl 2 rfl) ?_
        refine lv_aload_n C.1 C.2.1 dX2_addRow_12 rfl (lv_at hl 0 rfl) ?_
        have g_13 : Rg (μ_2 23 4) := zrgf0 (ci := 2) X.2.2.2 (hI.1 23 (by decide)) rfl 4 rfl
        refine z_get C X zk2 (hI.1 23 (by decide)) rfl 4 (by decide) kw_228 (zI (μ_2 23 4)) rfl dX2_addRow_13 ?_
        refine z_imul C dX2_addRow_16 ?_
        refine lv_iload_n C.1 C.2.1 dX2_addRow_17 rfl (lv_at hl 3 rfl) ?_
        refine z_iadd C dX2_addRow_18 ?_
        refine z_ldc2 C (-1) kw_639 (by decide) dX2_addRow_19 ?_
        refine lv_iload_n C.1 C.2.1 dX2_addRow_22 rfl (lv_at hl 1 rfl) ?_
        refine lv_aload_n C.1 C.2.1 dX2_addRow_23 rfl (lv_at hl 0 rfl) ?_
        have g_24 : Rg (μ_2 23 4) := zrgf0 (ci := 2) X.2.2.2 (hI.1 23 (by decide)) rfl 4 rfl
        refine z_get C X zk2 (hI.1 23 (by decide)) rfl 4 (by decide) kw_228 (zI (μ_2 23 4)) rfl dX2_addRow_24 ?_
        refine z_imul C dX2_addRow_27 ?_
        refine lv_iload_n C.1 C.2.1 dX2_addRow_28 rfl (lv_at hl 3 rfl) ?_
        refine z_iadd C dX2_addRow_29 ?_
        obtain ⟨μ_3, hq30, h⟩ := bnd_some h
        refine z_callV0 C X zk2 (hI.1 23 (by decide)) rfl (As := [zI (zw ((zw (x2 * (μ_2 23 4))) + x_1)), zJ (-1), zI (zw ((zw (x1 * (μ_2 23 4))) + x_1))]) (M_X2_takeOut hI μ_2 (zw ((zw (x2 * (μ_2 23 4))) + x_1)) (-1) (zw ((zw (x1 * (μ_2 23 4))) + x_1)) (Rg.w _) ⟨by decide, by decide⟩ (Rg.w _) hq30) zc_X2_takeOut kw_674 (zroom (by decide) (by decide)) rfl hl.1 rfl (Nat.le_of_ble_eq_true rfl) dX2_addRow_30 ⟨Nat.zero_le _, Nat.zero_le _⟩ (fun H locs g_30 X => ?_)
        refine zlet_elim h (fun x_4 ex_4 h => ?_)
        have gx_4 : Rg x_4 := by rw [ex_4]; exact Rg.w _
        refine z_iinc C ex_4 dX2_addRow_33 hl (k := 3) rfl (by decide) (lv' := [(3, zI x_4), (0, zR Ω 23), (1, zI x1), (2, zI x2)]) rfl (fun ls hl => ?_)
        clear ex_4
        refine lv_goto (tgt := 2) C.1 C.2.1 dX2_addRow_36 (by decide) ?_
        exact ih2 x_4 μ_3 _ _ _ gx_4 X (lv_sub hl [1, 2, 3, 0] rfl) h
  exact L2 zfu x2 μ _ _ _ gx2 X (lv_sub hl [1, 2, 3, 0] rfl) h
theorem zc_X2_addRow : zcal yX2_addRow cX2_addRow 4 none RX2 2 := ⟨⟨kw_688, kw_687, kp_26, kw_7⟩, rfl, by decide, by decide, by decide +kernel⟩

def f_X2_swapColumns_L2 (x1 : Int) (x2 : Int) : Nat → Int → zMem → Option zMem
  | 0, _, _ => none
  | n + 1, x_1, μ_2 =>
    if x_1 < (μ_2 23 3) then
      if x1 = x2 then
        some μ_2
      else
        chk ((0 : Int) ≤ (zw ((zw (x_1 * (μ_2 23 4))) + x1)) ∧ (zw ((zw (x_1 * (μ_2 23 4))) + x1)) < 1536) <|
        zlet ((μ_2 24 (zw ((zw (x_1 * (μ_2 23 4))) + x1)))) fun x_3 =>
        chk ((0 : Int) ≤ (zw ((zw (x_1 * (μ_2 23 4))) + x2)) ∧ (zw ((zw (x_1 * (μ_2 23 4))) + x2)) < 1536) <|
        chk ((0 : Int) ≤ (zw ((zw (x_1 * (μ_2 23 4))) + x1)) ∧ (zw ((zw (x_1 * (μ_2 23 4))) + x1)) < 1536) <|
        zlet (zup μ_2 24 (zw ((zw (x_1 * (μ_2 23 4))) + x1)) (μ_2 24 (zw ((zw (x_1 * (μ_2 23 4))) + x2)))) fun μ_4 =>
        chk ((0 : Int) ≤ (zw ((zw (x_1 * (μ_4 23 4))) + x2)) ∧ (zw ((zw (x_1 * (μ_4 23 4))) + x2)) < 1536) <|
        zlet (zup μ_4 24 (zw ((zw (x_1 * (μ_4 23 4))) + x2)) x_3) fun μ_5 =>
        zlet (zw (x_1 + 1)) fun x_6 =>
        (f_X2_swapColumns_L2 x1 x2 n) x_6 μ_5
    else
      some μ_2
def f_X2_swapColumns (x1 : Int) (x2 : Int) (μ : zMem) : Option zMem :=
  (f_X2_swapColumns_L2 x1 x2) zfu 0 μ
set_option maxHeartbeats 4000000 in
set_option maxRecDepth 100000 in
theorem M_X2_swapColumns {l : Launch} {Ω : zO} (hI : zIc Ω) (μ : zMem) (x1 : Int) (x2 : Int) {μ' : zMem} (gx1 : Rg x1) (gx2 : Rg x2) (h : f_X2_swapColumns x1 x2 μ = some μ') : XMet l yX2_swapColumns cX2_swapColumns 6 none 0 Ω [zR Ω 23, zI x1, zI x2] μ none True μ' := by
  refine XMet.ofV (by decide) (Nat.le_of_ble_eq_true rfl) ?_
  intro p e s m args below meth c ls Q C rt X hl
  have C : zC p s m args c cX2_swapColumns RX2 6 Ω := C
  have hl : lv_has ls 6 [(0, zR Ω 23), (1, zI x1), (2, zI x2)] := hl
  unfold f_X2_swapColumns at h
  skip
  refine z_iconst C dX2_swapColumns_0 ?_
  refine lv_istore_n C.1 C.2.1 (lv' := [(3, zI 0), (0, zR Ω 23), (1, zI x1), (2, zI x2)]) dX2_swapColumns_1 rfl hl (by decide) rfl (fun ls hl => ?_)
  have L2 : ∀ (n2 : Nat) (x_1 : Int) (μ_2 : zMem) (H : Heap) (locs : List Loc) (ls : Array Slot), Rg x_1 → zX Ω μ_2 (zfree Ω) s.heap H locs → lv_has ls 6 [(0, zR Ω 23), (1, zI x1), (2, zI x2), (3, zI x_1)] → (f_X2_swapColumns_L2 x1 x2 n2 x_1 μ_2) = some μ' → W p l e (zrm 0) s m args below meth c H locs 0 0 Q (F0 m 2 ls []) := by
    intro n2
    induction n2 with
    | zero =>
      intro x_1 μ_2 H locs ls _ _ _ h
      cases h
    | succ n2 ih2 =>
      intro x_1 μ_2 H locs ls gx_1 X hl h
      unfold f_X2_swapColumns_L2 at h
      refine lv_iload_n C.1 C.2.1 dX2_swapColumns_2 rfl (lv_at hl 3 rfl) ?_
      refine lv_aload_n C.1 C.2.1 dX2_swapColumns_3 rfl (lv_at hl 0 rfl) ?_
      have g_4 : Rg (μ_2 23 3) := zrgf0 (ci := 2) X.2.2.2 (hI.1 23 (by decide)) rfl 3 rfl
      refine z_get C X zk2 (hI.1 23 (by decide)) rfl 3 (by decide) kw_227 (zI (μ_2 23 3)) rfl dX2_swapColumns_4 ?_
      refine z_icmpge C gx_1 g_4 (tgt := 77) dX2_swapColumns_7 (by decide) (fun hc7 => ?_) (fun hc7 => ?_)
      · rw [if_neg hc7] at h
        obtain rfl := Option.some.inj h
        exact rt X dX2_swapColumns_77
      · rw [if_pos hc7] at h
        refine lv_iload_n C.1 C.2.1 dX2_swapColumns_10 rfl (lv_at hl 1 rfl) ?_
        refine lv_iload_n C.1 C.2.1 dX2_swapColumns_11 rfl (lv_at hl 2 rfl) ?_
        refine z_icmpeq C gx1 gx2 (tgt := 77) dX2_swapColumns_12 (by decide) (fun hc12 => ?_) (fun hc12 => ?_)
        · rw [if_pos hc12] at h
          obtain rfl := Option.some.inj h
          exact rt X dX2_swapColumns_77
        · rw [if_neg hc12] at h
          refine lv_aload_n C.1 C.2.1 dX2_swapColumns_15 rfl (lv_at hl 0 rfl) ?_
          refine z_get C X zk2 (hI.1 23 (by decide)) rfl 0 (by decide) kw_223 (zR Ω 24) (zfvF (off := 1) X.2.2.2 (hI.1 23 (by decide)) (hI.2 23 (by decide)) rfl rfl (by decide)) dX2_swapColumns_16 ?_
          refine lv_iload_n C.1 C.2.1 dX2_swapColumns_19 rfl (lv_at hl 3 rfl) ?_
          refine lv_aload_n C.1 C.2.1 dX2_swapColumns_20 rfl (lv_at hl 0 rfl) ?_
          have g_21 : Rg (μ_2 23 4) := zrgf0 (ci := 2) X.2.2.2 (hI.1 23 (by decide)) rfl 4 rfl
          refine z_get C X zk2 (hI.1 23 (by decide)) rfl 4 (by decide) kw_228 (zI (μ_2 23 4)) rfl dX2_swapColumns_21 ?_
          refine z_imul C dX2_swapColumns_24 ?_
          refine lv_iload_n C.1 C.2.1 dX2_swapColumns_25 rfl (lv_at hl 1 rfl) ?_
          refine z_iadd C dX2_swapColumns_26 ?_
          obtain ⟨hc27, h⟩ := chk_some h
          have g_27 : Rl (μ_2 24 (zw ((zw (x_1 * (μ_2 23 4))) + x1))) := zrg2 X.2.2.2 (hI.1 24 (by decide)) rfl
          refine z_lald C X (hI.1 24 (by decide)) rfl hc27 dX2_swapColumns_27 ?_
          refine zlet_elim h (fun x_3 ex_3 h => ?_)
          have gx_3 : Rl x_3 := by rw [ex_3]; exact g_27
          refine z_lstore C ex_3 dX2_swapColumns_28 hl (by decide) (lv' := [(4, zJ x_3), (0, zR Ω 23), (1, zI x1), (2, zI x2), (3, zI x_1)]) rfl (fun ls hl => ?_)
          clear ex_3
          refine lv_aload_n C.1 C.2.1 dX2_swapColumns_30 rfl (lv_at hl 1 rfl) ?_
          refine z_get C X zk2 (hI.1 23 (by decide)) rfl 0 (by decide) kw_223 (zR Ω 24) (zfvF (off := 1) X.2.2.2 (hI.1 23 (by decide)) (hI.2 23 (by decide)) rfl rfl (by decide)) dX2_swapColumns_31 ?_
          refine lv_iload_n C.1 C.2.1 dX2_swapColumns_34 rfl (lv_at hl 4 rfl) ?_
          refine lv_aload_n C.1 C.2.1 dX2_swapColumns_35 rfl (lv_at hl 1 rfl) ?_
          have g_36 : Rg (μ_2 23 4) := zrgf0 (ci := 2) X.2.2.2 (hI.1 23 (by decide)) rfl 4 rfl
          refine z_get C X zk2 (hI.1 23 (by decide)) rfl 4 (by decide) kw_228 (zI (μ_2 23 4)) rfl dX2_swapColumns_36 ?_
          refine z_imul C dX2_swapColumns_39 ?_
          refine lv_iload_n C.1 C.2.1 dX2_swapColumns_40 rfl (lv_at hl 2 rfl) ?_
          refine z_iadd C dX2_swapColumns_41 ?_
          refine lv_aload_n C.1 C.2.1 dX2_swapColumns_42 rfl (lv_at hl 1 rfl) ?_
          refine z_get C X zk2 (hI.1 23 (by decide)) rfl 0 (by decide) kw_223 (zR Ω 24) (zfvF (off := 1) X.2.2.2 (hI.1 23 (by decide)) (hI.2 23 (by decide)) rfl rfl (by decide)) dX2_swapColumns_43 ?_
          refine lv_iload_n C.1 C.2.1 dX2_swapColumns_46 rfl (lv_at hl 4 rfl) ?_
          refine lv_aload_n C.1 C.2.1 dX2_swapColumns_47 rfl (lv_at hl 1 rfl) ?_
          have g_48 : Rg (μ_2 23 4) := zrgf0 (ci := 2) X.2.2.2 (hI.1 23 (by decide)) rfl 4 rfl
          refine z_get C X zk2 (hI.1 23 (by decide)) rfl 4 (by decide) kw_228 (zI (μ_2 23 4)) rfl dX2_swapColumns_48 ?_
          refine z_imul C dX2_swapColumns_51 ?_
          refine lv_iload_n C.1 C.2.1 dX2_swapColumns_52 rfl (lv_at hl 3 rfl) ?_
          refine z_iadd C dX2_swapColumns_53 ?_
          obtain ⟨hc54, h⟩ := chk_some h
          have g_54 : Rl (μ_2 24 (zw ((zw (x_1 * (μ_2 23 4))) + x2))) := zrg2 X.2.2.2 (hI.1 24 (by decide)) rfl
          refine z_lald C X (hI.1 24 (by decide)) rfl hc54 dX2_swapColumns_54 ?_
          obtain ⟨hc55, h⟩ := chk_some h
          refine zlet_elim h (fun μ_4 em h => ?_)
          refine z_last C X (hI.1 24 (by decide)) rfl hc55 (zok2 rfl g_54) em dX2_swapColumns_55 (fun H locs X => ?_)
          clear em
          refine lv_aload_n C.1 C.2.1 dX2_swapColumns_56 rfl (lv_at hl 1 rfl) ?_
          refine z_get C X zk2 (hI.1 23 (by decide)) rfl 0 (by decide) kw_223 (zR Ω 24) (zfvF (off := 1) X.2.2.2 (hI.1 23 (by decide)) (hI.2 23 (by decide)) rfl rfl (by decide)) dX2_swapColumns_57 ?_
          refine lv_iload_n C.1 C.2.1 dX2_swapColumns_60 rfl (lv_at hl 4 rfl) ?_
          refine lv_aload_n C.1 C.2.1 dX2_swapColumns_61 rfl (lv_at hl 1 rfl) ?_
          have g_62 : Rg (μ_4 23 4) := zrgf0 (ci := 2) X.2.2.2 (hI.1 23 (by decide)) rfl 4 rfl
          refine z_get C X zk2 (hI.1 23 (by decide)) rfl 4 (by decide) kw_228 (zI (μ_4 23 4)) rfl dX2_swapColumns_62 ?_
          refine z_imul C dX2_swapColumns_65 ?_
          refine lv_iload_n C.1 C.2.1 dX2_swapColumns_66 rfl (lv_at hl 3 rfl) ?_
          refine z_iadd C dX2_swapColumns_67 ?_
          refine lv_lload C.1 C.2.1 dX2_swapColumns_68 (lv_at hl 0 rfl) ?_
          obtain ⟨hc70, h⟩ := chk_some h
          refine zlet_elim h (fun μ_5 em h => ?_)
          refine z_last C X (hI.1 24 (by decide)) rfl hc70 (zok2 rfl gx_3) em dX2_swapColumns_70 (fun H locs X => ?_)
          clear em
          refine zlet_elim h (fun x_6 ex_6 h => ?_)
          have gx_6 : Rg x_6 := by rw [ex_6]; exact Rg.w _
          refine z_iinc C ex_6 dX2_swapColumns_71 hl (k := 4) rfl (by decide) (lv' := [(3, zI x_6), (4, zJ x_3), (0, zR Ω 23), (1, zI x1), (2, zI x2)]) rfl (fun ls hl => ?_)
          clear ex_6
          refine lv_goto (tgt := 2) C.1 C.2.1 dX2_swapColumns_74 (by decide) ?_
          exact ih2 x_6 μ_5 _ _ _ gx_6 X (lv_sub hl [2, 3, 4, 0] rfl) h
  exact L2 zfu 0 μ _ _ _ ⟨by decide, by decide⟩ X (lv_sub hl [1, 2, 3, 0] rfl) h
theorem zc_X2_swapColumns : zcal yX2_swapColumns cX2_swapColumns 6 none RX2 2 := ⟨⟨kw_669, kw_668, kp_22, kw_7⟩, rfl, by decide, by decide, by decide +kernel⟩

def f_X2_bringLeast_K84 (x1 : Int) (x_1 : Int) (μ_2 : zMem) : Option (Int × zMem) :=
  if x_1 = (-1) then
    some (0, μ_2)
  else
    chk ((μ_2 23 4) ≠ 0) <|
    bnd (f_X2_swapRows (zw (Int.tdiv x_1 (μ_2 23 4))) x1 μ_2) fun μ_3 =>
    chk ((μ_3 23 4) ≠ 0) <|
    bnd (f_X2_swapColumns (Int.tmod x_1 (μ_3 23 4)) x1 μ_3) fun μ_4 =>
    some (1, μ_4)
def f_X2_bringLeast_K78 (x_6 : Int) (g4 : Int → Int → zMem → Option (Int × zMem)) (x_8 : Int) (μ_9 : zMem) : Option (Int × zMem) :=
  zlet (zw (x_6 + 1)) fun x_10 =>
  g4 x_8 x_10 μ_9
def f_X2_bringLeast_J69 (x_12 : Int) (x_14 : Int) (g15 : Int → Int → zMem → Option (Int × zMem)) (μ_16 : zMem) : Option (Int × zMem) :=
  zlet (zw (x_12 + 1)) fun x_17 =>
  g15 x_14 x_17 μ_16
def f_X2_bringLeast_L15 (x_6 : Int) (g78 : Int → zMem → Option (Int × zMem)) : Nat → Int → Int → zMem → Option (Int × zMem)
  | 0, _, _, _ => none
  | n + 1, x_11, x_12, μ_13 =>
    if x_12 < (μ_13 23 4) then
      zlet ((zw ((zw (x_6 * (μ_13 23 4))) + x_12))) fun x_14 =>
      chk ((0 : Int) ≤ x_14 ∧ x_14 < 1536) <|
      if (μ_13 24 x_14) = 0 then
        zlet (zw (x_12 + 1)) fun x_15 =>
        (f_X2_bringLeast_L15 x_6 g78 n) x_11 x_15 μ_13
      else
        if x_11 = (-1) then
          (f_X2_bringLeast_J69 x_12 x_14 (f_X2_bringLeast_L15 x_6 g78 n)) μ_13
        else
          chk ((0 : Int) ≤ x_14 ∧ x_14 < 1536) <|
          chk ((0 : Int) ≤ x_11 ∧ x_11 < 1536) <|
          if (μ_13 24 x_14) < (μ_13 24 x_11) then
            (f_X2_bringLeast_J69 x_12 x_14 (f_X2_bringLeast_L15 x_6 g78 n)) μ_13
          else
            zlet (zw (x_12 + 1)) fun x_18 =>
            (f_X2_bringLeast_L15 x_6 g78 n) x_11 x_18 μ_13
    else
      g78 x_11 μ_13
def f_X2_bringLeast_L4 (x1 : Int) (g84 : Int → zMem → Option (Int × zMem)) : Nat → Int → Int → zMem → Option (Int × zMem)
  | 0, _, _, _ => none
  | n + 1, x_5, x_6, μ_7 =>
    if x_6 < (μ_7 23 3) then
      (f_X2_bringLeast_L15 x_6 (f_X2_bringLeast_K78 x_6 (f_X2_bringLeast_L4 x1 g84 n))) zfu x_5 x1 μ_7
    else
      g84 x_5 μ_7
def f_X2_bringLeast (x1 : Int) (μ : zMem) : Option (Int × zMem) :=
  (f_X2_bringLeast_L4 x1 (f_X2_bringLeast_K84 x1)) zfu (-1) x1 μ
set_option maxHeartbeats 4000000 in
set_option maxRecDepth 100000 in
theorem M_X2_bringLeast {l : Launch} {Ω : zO} (hI : zIc Ω) (μ : zMem) (x1 : Int) {r : Int} {μ' : zMem} (gx1 : Rg x1) (h : f_X2_bringLeast x1 μ = some (r, μ')) : XMet l yX2_bringLeast cX2_bringLeast 6 (some Jvm.ClassFile.FieldType.boolean) 1 Ω [zR Ω 23, zI x1] μ (some (zI r)) (0 ≤ r ∧ r ≤ 1) μ' := by
  refine XMet.ofZ (by decide) (Nat.le_of_ble_eq_true rfl) ?_
  intro p e s m args below meth c ls Q C rt X hl
  have C : zC p s m args c cX2_bringLeast RX2 6 Ω := C
  have hl : lv_has ls 6 [(0, zR Ω 23), (1, zI x1)] := hl
  unfold f_X2_bringLeast at h
  skip
  refine z_iconst C dX2_bringLeast_0 ?_
  refine lv_istore_n C.1 C.2.1 (lv' := [(2, zI (-1)), (0, zR Ω 23), (1, zI x1)]) dX2_bringLeast_1 rfl hl (by decide) rfl (fun ls hl => ?_)
  refine lv_iload_n C.1 C.2.1 dX2_bringLeast_2 rfl (lv_at hl 2 rfl) ?_
  refine lv_istore_n C.1 C.2.1 (lv' := [(3, zI x1), (2, zI (-1)), (0, zR Ω 23), (1, zI x1)]) dX2_bringLeast_3 rfl hl (by decide) rfl (fun ls hl => ?_)
  have K84 : ∀ (x_1 : Int) (μ_2 : zMem) (H : Heap) (locs : List Loc) (ls : Array Slot), Rg x_1 → zX Ω μ_2 (zfree Ω) s.heap H locs → lv_has ls 6 [(0, zR Ω 23), (1, zI x1), (2, zI x_1)] → (f_X2_bringLeast_K84 x1) x_1 μ_2 = some (r, μ') → W p l e (zrm 1) s m args below meth c H locs 0 0 Q (F0 m 84 ls []) := by
    intro x_1 μ_2 H locs ls gx_1 X hl h
    unfold f_X2_bringLeast_K84 at h
    refine lv_iload_n C.1 C.2.1 dX2_bringLeast_84 rfl (lv_at hl 2 rfl) ?_
    refine z_iconst C dX2_bringLeast_85 ?_
    refine z_icmpne C gx_1 ⟨by decide, by decide⟩ (tgt := 91) dX2_bringLeast_86 (by decide) (fun hc86 => ?_) (fun hc86 => ?_)
    · rw [if_neg hc86] at h
      refine lv_aload_n C.1 C.2.1 dX2_bringLeast_91 rfl (lv_at hl 0 rfl) ?_
      refine lv_iload_n C.1 C.2.1 dX2_bringLeast_92 rfl (lv_at hl 2 rfl) ?_
      refine lv_aload_n C.1 C.2.1 dX2_bringLeast_93 rfl (lv_at hl 0 rfl) ?_
      have g_94 : Rg (μ_2 23 4) := zrgf0 (ci := 2) X.2.2.2 (hI.1 23 (by decide)) rfl 4 rfl
      refine z_get C X zk2 (hI.1 23 (by decide)) rfl 4 (by decide) kw_228 (zI (μ_2 23 4)) rfl dX2_bringLeast_94 ?_
      obtain ⟨hc97, h⟩ := chk_some h
      refine z_idiv C gx_1 g_94 hc97 dX2_bringLeast_97 ?_
      refine lv_iload_n C.1 C.2.1 dX2_bringLeast_98 rfl (lv_at hl 1 rfl) ?_
      obtain ⟨μ_3, hq99, h⟩ := bnd_some h
      refine z_callV0 C X zk2 (hI.1 23 (by decide)) rfl (As := [zI (zw (Int.tdiv x_1 (μ_2 23 4))), zI x1]) (M_X2_swapRows hI μ_2 (zw (Int.tdiv x_1 (μ_2 23 4))) x1 (Rg.w _) gx1 hq99) zc_X2_swapRows kw_607 (zroom (by decide) (by decide)) rfl hl.1 rfl (Nat.le_of_ble_eq_true rfl) dX2_bringLeast_99 ⟨Nat.zero_le _, Nat.zero_le _⟩ (fun H locs g_99 X => ?_)
      refine lv_aload_n C.1 C.2.1 dX2_bringLeast_102 rfl (lv_at hl 0 rfl) ?_
      refine lv_iload_n C.1 C.2.1 dX2_bringLeast_103 rfl (lv_at hl 2 rfl) ?_
      refine lv_aload_n C.1 C.2.1 dX2_bringLeast_104 rfl (lv_at hl 0 rfl) ?_
      have g_105 : Rg (μ_3 23 4) := zrgf0 (ci := 2) X.2.2.2 (hI.1 23 (by decide)) rfl 4 rfl
      refine z_get C X zk2 (hI.1 23 (by decide)) rfl 4 (by decide) kw_228 (zI (μ_3 23 4)) rfl dX2_bringLeast_105 ?_
      obtain ⟨hc108, h⟩ := chk_some h
      refine z_irem C gx_1 g_105 hc108 dX2_bringLeast_108 ?_
      refine lv_iload_n C.1 C.2.1 dX2_bringLeast_109 rfl (lv_at hl 1 rfl) ?_
      obtain ⟨μ_4, hq110, h⟩ := bnd_some h
      refine z_callV0 C X zk2 (hI.1 23 (by decide)) rfl (As := [zI (Int.tmod x_1 (μ_3 23 4)), zI x1]) (M_X2_swapColumns hI μ_3 (Int.tmod x_1 (μ_3 23 4)) x1 (Rg.rem gx_1 g_105) gx1 hq110) zc_X2_swapColumns kw_666 (zroom (by decide) (by decide)) rfl hl.1 rfl (Nat.le_of_ble_eq_true rfl) dX2_bringLeast_110 ⟨Nat.zero_le _, Nat.zero_le _⟩ (fun H locs g_110 X => ?_)
      refine z_iconst C dX2_bringLeast_113 ?_
      obtain ⟨rfl, rfl⟩ := Prod.mk.inj (Option.some.inj h)
      exact rt X ⟨by decide, by decide⟩ dX2_bringLeast_114
    · rw [if_pos hc86] at h
      refine z_iconst C dX2_bringLeast_89 ?_
      obtain ⟨rfl, rfl⟩ := Prod.mk.inj (Option.some.inj h)
      exact rt X ⟨by decide, by decide⟩ dX2_bringLeast_90
  have L4 : ∀ (n4 : Nat) (x_5 : Int) (x_6 : Int) (μ_7 : zMem) (H : Heap) (locs : List Loc) (ls : Array Slot), Rg x_5 → Rg x_6 → zX Ω μ_7 (zfree Ω) s.heap H locs → lv_has ls 6 [(0, zR Ω 23), (1, zI x1), (2, zI x_5), (3, zI x_6)] → (f_X2_bringLeast_L4 x1 (f_X2_bringLeast_K84 x1) n4 x_5 x_6 μ_7) = some (r, μ') → W p l e (zrm 1) s m args below meth c H locs 0 0 Q (F0 m 4 ls []) := by
    intro n4
    induction n4 with
    | zero =>
      intro x_5 x_6 μ_7 H locs ls _ _ _ _ h
      cases h
    | succ n4 ih4 =>
      intro x_5 x_6 μ_7 H locs ls gx_5 gx_6 X hl h
      unfold f_X2_bringLeast_L4 at h
      refine lv_iload_n C.1 C.2.1 dX2_bringLeast_4 rfl (lv_at hl 3 rfl) ?_
      refine lv_aload_n C.1 C.2.1 dX2_bringLeast_5 rfl (lv_at hl 0 rfl) ?_
      have g_6 : Rg (μ_7 23 3) := zrgf0 (ci := 2) X.2.2.2 (hI.1 23 (by decide)) rfl 3 rfl
      refine z_get C X zk2 (hI.1 23 (by decide)) rfl 3 (by decide) kw_227 (zI (μ_7 23 3)) rfl dX2_bringLeast_6 ?_
      refine z_icmpge C gx_6 g_6 (tgt := 84) dX2_bringLeast_9 (by decide) (fun hc9 => ?_) (fun hc9 => ?_)
      · rw [if_neg hc9] at h
        exact K84 x_5 μ_7 _ _ _ gx_5 X (lv_sub hl [0, 1, 2] rfl) h
      · rw [if_pos hc9] at h
        refine lv_iload_n C.1 C.2.1 dX2_bringLeast_12 rfl (lv_at hl 1 rfl) ?_
        refine lv_istore C.1 C.2.1 (lv' := [(4, zI x1), (0, zR Ω 23), (1, zI x1), (2, zI x_5), (3, zI x_6)]) dX2_bringLeast_13 hl (by decide) rfl (fun ls hl => ?_)
        have K78 : ∀ (x_8 : Int) (μ_9 : zMem) (H : Heap) (locs : List Loc) (ls : Array Slot), Rg x_8 → zX Ω μ_9 (zfree Ω) s.heap H locs → lv_has ls 6 [(0, zR Ω 23), (1, zI x1), (2, zI x_8), (3, zI x_6)] → (f_X2_bringLeast_K78 x_6 (f_X2_bringLeast_L4 x1 (f_X2_bringLeast_K84 x1) n4)) x_8 μ_9 = some (r, μ') → W p l e (zrm 1) s m args below meth c H locs 0 0 Q (F0 m 78 ls []) := by
          intro x_8 μ_9 H locs ls gx_8 X hl h
          unfold f_X2_bringLeast_K78 at h
          refine zlet_elim h (fun x_10 ex_10 h => ?_)
          have gx_10 : Rg x_10 := by rw [ex_10]; exact Rg.w _
          refine z_iinc C ex_10 dX2_bringLeast_78 hl (k := 3) rfl (by decide) (lv' := [(3, zI x_10), (0, zR Ω 23), (1, zI x1), (2, zI x_8)]) rfl (fun ls hl => ?_)
          clear ex_10
          refine lv_goto (tgt := 4) C.1 C.2.1 dX2_bringLeast_81 (by decide) ?_
          exact ih4 x_8 x_10 μ_9 _ _ _ gx_8 gx_10 X (lv_sub hl [1, 2, 3, 0] rfl) h
        have L15 : ∀ (n15 : Nat) (x_11 : Int) (x_12 : Int) (μ_13 : zMem) (H : Heap) (locs : List Loc) (ls : Array Slot), Rg x_11 → Rg x_12 → zX Ω μ_13 (zfree Ω) s.heap H locs → lv_has ls 6 [(0, zR Ω 23), (1, zI x1), (2, zI x_11), (3, zI x_6), (4, zI x_12)] → (f_X2_bringLeast_L15 x_6 (f_X2_bringLeast_K78 x_6 (f_X2_bringLeast_L4 x1 (f_X2_bringLeast_K84 x1) n4)) n15 x_11 x_12 μ_13) = some (r, μ') → W p l e (zrm 1) s m args below meth c H locs 0 0 Q (F0 m 15 ls []) := by
          intro n15
          induction n15 with
          | zero =>
            intro x_11 x_12 μ_13 H locs ls _ _ _ _ h
            cases h
          | succ n15 ih15 =>
            intro x_11 x_12 μ_13 H locs ls gx_11 gx_12 X hl h
            unfold f_X2_bringLeast_L15 at h
            refine lv_iload C.1 C.2.1 dX2_bringLeast_15 (lv_at hl 4 rfl) ?_
            refine lv_aload_n C.1 C.2.1 dX2_bringLeast_17 rfl (lv_at hl 0 rfl) ?_
            have g_18 : Rg (μ_13 23 4) := zrgf0 (ci := 2) X.2.2.2 (hI.1 23 (by decide)) rfl 4 rfl
            refine z_get C X zk2 (hI.1 23 (by decide)) rfl 4 (by decide) kw_228 (zI (μ_13 23 4)) rfl dX2_bringLeast_18 ?_
            refine z_icmpge C gx_12 g_18 (tgt := 78) dX2_bringLeast_21 (by decide) (fun hc21 => ?_) (fun hc21 => ?_)
            · rw [if_neg hc21] at h
              exact K78 x_11 μ_13 _ _ _ gx_11 X (lv_sub hl [0, 1, 2, 3] rfl) h
            · rw [if_pos hc21] at h
              refine lv_iload_n C.1 C.2.1 dX2_bringLeast_24 rfl (lv_at hl 3 rfl) ?_
              refine lv_aload_n C.1 C.2.1 dX2_bringLeast_25 rfl (lv_at hl 0 rfl) ?_
              have g_26 : Rg (μ_13 23 4) := zrgf0 (ci := 2) X.2.2.2 (hI.1 23 (by decide)) rfl 4 rfl
              refine z_get C X zk2 (hI.1 23 (by decide)) rfl 4 (by decide) kw_228 (zI (μ_13 23 4)) rfl dX2_bringLeast_26 ?_
              refine z_imul C dX2_bringLeast_29 ?_
              refine lv_iload C.1 C.2.1 dX2_bringLeast_30 (lv_at hl 4 rfl) ?_
              refine z_iadd C dX2_bringLeast_32 ?_
              refine zlet_elim h (fun x_14 ex_14 h => ?_)
              have gx_14 : Rg x_14 := by rw [ex_14]; exact (Rg.w _)
              refine z_istore C ex_14 dX2_bringLeast_33 hl (by decide) (lv' := [(5, zI x_14), (0, zR Ω 23), (1, zI x1), (2, zI x_11), (3, zI x_6), (4, zI x_12)]) rfl (fun ls hl => ?_)
              clear ex_14
              refine lv_aload_n C.1 C.2.1 dX2_bringLeast_35 rfl (lv_at hl 1 rfl) ?_
              refine z_get C X zk2 (hI.1 23 (by decide)) rfl 0 (by decide) kw_223 (zR Ω 24) (zfvF (off := 1) X.2.2.2 (hI.1 23 (by decide)) (hI.2 23 (by decide)) rfl rfl (by decide)) dX2_bringLeast_36 ?_
              refine lv_iload C.1 C.2.1 dX2_bringLeast_39 (lv_at hl 0 rfl) ?_
              obtain ⟨hc41, h⟩ := chk_some h
              have g_41 : Rl (μ_13 24 x_14) := zrg2 X.2.2.2 (hI.1 24 (by decide)) rfl
              refine z_lald C X (hI.1 24 (by decide)) rfl hc41 dX2_bringLeast_41 ?_
              refine z_lconst C 0 rfl dX2_bringLeast_42 ?_
              refine z_leq C g_41 ⟨by decide, by decide⟩ (tgt := 72) dX2_bringLeast_43 dX2_bringLeast_44 (by decide) (fun hc43 => ?_) (fun hc43 => ?_)
              · rw [if_pos hc43] at h
                refine zlet_elim h (fun x_15 ex_15 h => ?_)
                have gx_15 : Rg x_15 := by rw [ex_15]; exact Rg.w _
                refine z_iinc C ex_15 dX2_bringLeast_72 hl (k := 5) rfl (by decide) (lv' := [(4, zI x_15), (5, zI x_14), (0, zR Ω 23), (1, zI x1), (2, zI x_11), (3, zI x_6)]) rfl (fun ls hl => ?_)
                clear ex_15
                refine lv_goto (tgt := 15) C.1 C.2.1 dX2_bringLeast_75 (by decide) ?_
                exact ih15 x_11 x_15 μ_13 _ _ _ gx_11 gx_15 X (lv_sub hl [2, 3, 4, 5, 0] rfl) h
              · rw [if_neg hc43] at h
                refine lv_iload_n C.1 C.2.1 dX2_bringLeast_47 rfl (lv_at hl 3 rfl) ?_
                refine z_iconst C dX2_bringLeast_48 ?_
                have K69 : ∀ (μ_16 : zMem) (H : Heap) (locs : List Loc) (ls : Array Slot), zX Ω μ_16 (zfree Ω) s.heap H locs → lv_has ls 6 [(0, zR Ω 23), (1, zI x1), (3, zI x_6), (4, zI x_12), (5, zI x_14)] → (f_X2_bringLeast_J69 x_12 x_14 (f_X2_bringLeast_L15 x_6 (f_X2_bringLeast_K78 x_6 (f_X2_bringLeast_L4 x1 (f_X2_bringLeast_K84 x1) n4)) n15)) μ_16 = some (r, μ') → W p l e (zrm 1) s m args below meth c H locs 0 0 Q (F0 m 69 ls []) := by
                  intro μ_16 H locs ls  X hl h
                  unfold f_X2_bringLeast_J69 at h
                  refine lv_iload C.1 C.2.1 dX2_bringLeast_69 (lv_at hl 4 rfl) ?_
                  refine lv_istore_n C.1 C.2.1 (lv' := [(2, zI x_14), (0, zR Ω 23), (1, zI x1), (3, zI x_6), (4, zI x_12), (5, zI x_14)]) dX2_bringLeast_71 rfl hl (by decide) rfl (fun ls hl => ?_)
                  refine zlet_elim h (fun x_17 ex_17 h => ?_)
                  have gx_17 : Rg x_17 := by rw [ex_17]; exact Rg.w _
                  refine z_iinc C ex_17 dX2_bringLeast_72 hl (k := 4) rfl (by decide) (lv' := [(4, zI x_17), (2, zI x_14), (0, zR Ω 23), (1, zI x1), (3, zI x_6), (5, zI x_14)]) rfl (fun ls hl => ?_)
                  clear ex_17
                  refine lv_goto (tgt := 15) C.1 C.2.1 dX2_bringLeast_75 (by decide) ?_
                  exact ih15 x_14 x_17 μ_16 _ _ _ gx_14 gx_17 X (lv_sub hl [2, 3, 1, 4, 0] rfl) h
                refine z_icmpeq C gx_11 ⟨by decide, by decide⟩ (tgt := 69) dX2_bringLeast_49 (by decide) (fun hc49 => ?_) (fun hc49 => ?_)
                · rw [if_pos hc49] at h
                  exact K69 μ_13 _ _ _ X (lv_sub hl [1, 2, 4, 5, 0] rfl) h
                · rw [if_neg hc49] at h
                  refine lv_aload_n C.1 C.2.1 dX2_bringLeast_52 rfl (lv_at hl 1 rfl) ?_
                  refine z_get C X zk2 (hI.1 23 (by decide)) rfl 0 (by decide) kw_223 (zR Ω 24) (zfvF (off := 1) X.2.2.2 (hI.1 23 (by decide)) (hI.2 23 (by decide)) rfl rfl (by decide)) dX2_bringLeast_53 ?_
                  refine lv_iload C.1 C.2.1 dX2_bringLeast_56 (lv_at hl 0 rfl) ?_
                  obtain ⟨hc58, h⟩ := chk_some h
                  have g_58 : Rl (μ_13 24 x_14) := zrg2 X.2.2.2 (hI.1 24 (by decide)) rfl
                  refine z_lald C X (hI.1 24 (by decide)) rfl hc58 dX2_bringLeast_58 ?_
                  refine lv_aload_n C.1 C.2.1 dX2_bringLeast_59 rfl (lv_at hl 1 rfl) ?_
                  refine z_get C X zk2 (hI.1 23 (by decide)) rfl 0 (by decide) kw_223 (zR Ω 24) (zfvF (off := 1) X.2.2.2 (hI.1 23 (by decide)) (hI.2 23 (by decide)) rfl rfl (by decide)) dX2_bringLeast_60 ?_
                  refine lv_iload_n C.1 C.2.1 dX2_bringLeast_63 rfl (lv_at hl 3 rfl) ?_
                  obtain ⟨hc64, h⟩ := chk_some h
                  have g_64 : Rl (μ_13 24 x_11) := zrg2 X.2.2.2 (hI.1 24 (by decide)) rfl
                  refine z_lald C X (hI.1 24 (by decide)) rfl hc64 dX2_bringLeast_64 ?_
                  refine z_lge C g_58 g_64 (tgt := 72) dX2_bringLeast_65 dX2_bringLeast_66 (by decide) (fun hc65 => ?_) (fun hc65 => ?_)
                  · rw [if_neg hc65] at h
                    refine zlet_elim h (fun x_18 ex_18 h => ?_)
                    have gx_18 : Rg x_18 := by rw [ex_18]; exact Rg.w _
                    refine z_iinc C ex_18 dX2_bringLeast_72 hl (k := 5) rfl (by decide) (lv' := [(4, zI x_18), (5, zI x_14), (0, zR Ω 23), (1, zI x1), (2, zI x_11), (3, zI x_6)]) rfl (fun ls hl => ?_)
                    clear ex_18
                    refine lv_goto (tgt := 15) C.1 C.2.1 dX2_bringLeast_75 (by decide) ?_
                    exact ih15 x_11 x_18 μ_13 _ _ _ gx_11 gx_18 X (lv_sub hl [2, 3, 4, 5, 0] rfl) h
                  · rw [if_pos hc65] at h
                    exact K69 μ_13 _ _ _ X (lv_sub hl [1, 2, 4, 5, 0] rfl) h
        exact L15 zfu x_5 x1 μ_7 _ _ _ gx_5 gx1 X (lv_sub hl [1, 2, 3, 4, 0] rfl) h
  exact L4 zfu (-1) x1 μ _ _ _ ⟨by decide, by decide⟩ gx1 X (lv_sub hl [2, 3, 1, 0] rfl) h
theorem zc_X2_bringLeast : zcal yX2_bringLeast cX2_bringLeast 6 (some Jvm.ClassFile.FieldType.boolean) RX2 1 := ⟨⟨kw_665, kw_664, kp_21, kw_7⟩, rfl, by decide, by decide, by decide +kernel⟩

def f_X2_clearLines_J250 (x_6 : Int) (x_7 : Int) (g147 : Int → Int → zMem → Option (Int × zMem)) (x_11 : Int) (μ_12 : zMem) : Option (Int × zMem) :=
  zlet ((zand x_6 x_11)) fun x_13 =>
  zlet (zw (x_7 + 1)) fun x_14 =>
  g147 x_13 x_14 μ_12
def f_X2_clearLines_K224 (x1 : Int) (x_6 : Int) (x_7 : Int) (g147 : Int → Int → zMem → Option (Int × zMem)) (μ_10 : zMem) : Option (Int × zMem) :=
  chk ((0 : Int) ≤ (zw ((zw (x1 * (μ_10 23 4))) + x_7)) ∧ (zw ((zw (x1 * (μ_10 23 4))) + x_7)) < 1536) <|
  (f_X2_clearLines_J250 x_6 x_7 g147) (if (μ_10 24 (zw ((zw (x1 * (μ_10 23 4))) + x_7))) = 0 then 1 else 0) μ_10
def f_X2_clearLines_L177 (x1 : Int) (x_7 : Int) (x_9 : Int) (g224 : zMem → Option (Int × zMem)) : Nat → Int → zMem → Option (Int × zMem)
  | 0, _, _ => none
  | n + 1, x_15, μ_16 =>
    if x_15 < (μ_16 23 3) then
      if x_9 = 0 then
        g224 μ_16
      else
        bnd (f_X2_takeOut (zw ((zw (x_15 * (μ_16 23 4))) + x_7)) x_9 (zw ((zw (x_15 * (μ_16 23 4))) + x1)) μ_16) fun μ_17 =>
        zlet (zw (x_15 + 1)) fun x_18 =>
        (f_X2_clearLines_L177 x1 x_7 x_9 g224 n) x_18 μ_17
    else
      g224 μ_16
def f_X2_clearLines_L147 (x1 : Int) (x_1 : Int) : Nat → Int → Int → zMem → Option (Int × zMem)
  | 0, _, _, _ => none
  | n + 1, x_6, x_7, μ_8 =>
    if x_7 < (μ_8 23 4) then
      chk ((0 : Int) ≤ (zw ((zw (x1 * (μ_8 23 4))) + x_7)) ∧ (zw ((zw (x1 * (μ_8 23 4))) + x_7)) < 1536) <|
      chk (x_1 ≠ 0) <|
      zlet ((zl (Int.tdiv (μ_8 24 (zw ((zw (x1 * (μ_8 23 4))) + x_7))) x_1))) fun x_9 =>
      (f_X2_clearLines_L177 x1 x_7 x_9 (f_X2_clearLines_K224 x1 x_6 x_7 (f_X2_clearLines_L147 x1 x_1 n))) zfu x1 μ_8
    else
      chk (0 ≤ x_6 ∧ x_6 ≤ 1) <|
      some (x_6, μ_8)
def f_X2_clearLines_K142 (x1 : Int) (x_1 : Int) (x_3 : Int) (μ_4 : zMem) : Option (Int × zMem) :=
  zlet ((zw (x1 + 1))) fun x_5 =>
  (f_X2_clearLines_L147 x1 x_1) zfu x_3 x_5 μ_4
def f_X2_clearLines_J133 (x_19 : Int) (x_20 : Int) (g30 : Int → Int → zMem → Option (Int × zMem)) (x_24 : Int) (μ_25 : zMem) : Option (Int × zMem) :=
  zlet ((zand x_19 x_24)) fun x_26 =>
  zlet (zw (x_20 + 1)) fun x_27 =>
  g30 x_26 x_27 μ_25
def f_X2_clearLines_K107 (x1 : Int) (x_19 : Int) (x_20 : Int) (g30 : Int → Int → zMem → Option (Int × zMem)) (μ_23 : zMem) : Option (Int × zMem) :=
  chk ((0 : Int) ≤ (zw ((zw (x_20 * (μ_23 23 4))) + x1)) ∧ (zw ((zw (x_20 * (μ_23 23 4))) + x1)) < 1536) <|
  (f_X2_clearLines_J133 x_19 x_20 g30) (if (μ_23 24 (zw ((zw (x_20 * (μ_23 23 4))) + x1))) = 0 then 1 else 0) μ_23
def f_X2_clearLines_L60 (x1 : Int) (x_20 : Int) (x_22 : Int) (g107 : zMem → Option (Int × zMem)) : Nat → Int → zMem → Option (Int × zMem)
  | 0, _, _ => none
  | n + 1, x_28, μ_29 =>
    if x_28 < (μ_29 23 4) then
      if x_22 = 0 then
        g107 μ_29
      else
        bnd (f_X2_takeOut (zw ((zw (x_20 * (μ_29 23 4))) + x_28)) x_22 (zw ((zw (x1 * (μ_29 23 4))) + x_28)) μ_29) fun μ_30 =>
        zlet (zw (x_28 + 1)) fun x_31 =>
        (f_X2_clearLines_L60 x1 x_20 x_22 g107 n) x_31 μ_30
    else
      g107 μ_29
def f_X2_clearLines_L30 (x1 : Int) (x_1 : Int) (g142 : Int → zMem → Option (Int × zMem)) : Nat → Int → Int → zMem → Option (Int × zMem)
  | 0, _, _, _ => none
  | n + 1, x_19, x_20, μ_21 =>
    if x_20 < (μ_21 23 3) then
      chk ((0 : Int) ≤ (zw ((zw (x_20 * (μ_21 23 4))) + x1)) ∧ (zw ((zw (x_20 * (μ_21 23 4))) + x1)) < 1536) <|
      chk (x_1 ≠ 0) <|
      zlet ((zl (Int.tdiv (μ_21 24 (zw ((zw (x_20 * (μ_21 23 4))) + x1))) x_1))) fun x_22 =>
      (f_X2_clearLines_L60 x1 x_20 x_22 (f_X2_clearLines_K107 x1 x_19 x_20 (f_X2_clearLines_L30 x1 x_1 g142 n))) zfu x1 μ_21
    else
      g142 x_19 μ_21
def f_X2_clearLines (x1 : Int) (μ : zMem) : Option (Int × zMem) :=
  chk ((0 : Int) ≤ (zw ((zw (x1 * (μ 23 4))) + x1)) ∧ (zw ((zw (x1 * (μ 23 4))) + x1)) < 1536) <|
  zlet ((μ 24 (zw ((zw (x1 * (μ 23 4))) + x1)))) fun x_1 =>
  if x_1 = 0 then
    some (0, μ)
  else
    zlet ((zw (x1 + 1))) fun x_2 =>
    (f_X2_clearLines_L30 x1 x_1 (f_X2_clearLines_K142 x1 x_1)) zfu 1 x_2 μ
set_option maxHeartbeats 4000000 in
set_option maxRecDepth 100000 in
theorem M_X2_clearLines {l : Launch} {Ω : zO} (hI : zIc Ω) (μ : zMem) (x1 : Int) {r : Int} {μ' : zMem} (gx1 : Rg x1) (h : f_X2_clearLines x1 μ = some (r, μ')) : XMet l yX2_clearLines cX2_clearLines 9 (some Jvm.ClassFile.FieldType.boolean) 1 Ω [zR Ω 23, zI x1] μ (some (zI r)) (0 ≤ r ∧ r ≤ 1) μ' := by
  refine XMet.ofZ (by decide) (Nat.le_of_ble_eq_true rfl) ?_
  intro p e s m args below meth c ls Q C rt X hl
  have C : zC p s m args c cX2_clearLines RX2 9 Ω := C
  have hl : lv_has ls 9 [(0, zR Ω 23), (1, zI x1)] := hl
  unfold f_X2_clearLines at h
  skip
  refine lv_aload_n C.1 C.2.1 dX2_clearLines_0 rfl (lv_at hl 0 rfl) ?_
  refine z_get C X zk2 (hI.1 23 (by decide)) rfl 0 (by decide) kw_223 (zR Ω 24) (zfvF (off := 1) X.2.2.2 (hI.1 23 (by decide)) (hI.2 23 (by decide)) rfl rfl (by decide)) dX2_clearLines_1 ?_
  refine lv_iload_n C.1 C.2.1 dX2_clearLines_4 rfl (lv_at hl 1 rfl) ?_
  refine lv_aload_n C.1 C.2.1 dX2_clearLines_5 rfl (lv_at hl 0 rfl) ?_
  have g_6 : Rg (μ 23 4) := zrgf0 (ci := 2) X.2.2.2 (hI.1 23 (by decide)) rfl 4 rfl
  refine z_get C X zk2 (hI.1 23 (by decide)) rfl 4 (by decide) kw_228 (zI (μ 23 4)) rfl dX2_clearLines_6 ?_
  refine z_imul C dX2_clearLines_9 ?_
  refine lv_iload_n C.1 C.2.1 dX2_clearLines_10 rfl (lv_at hl 1 rfl) ?_
  refine z_iadd C dX2_clearLines_11 ?_
  obtain ⟨hc12, h⟩ := chk_some h
  have g_12 : Rl (μ 24 (zw ((zw (x1 * (μ 23 4))) + x1))) := zrg2 X.2.2.2 (hI.1 24 (by decide)) rfl
  refine z_lald C X (hI.1 24 (by decide)) rfl hc12 dX2_clearLines_12 ?_
  refine zlet_elim h (fun x_1 ex_1 h => ?_)
  have gx_1 : Rl x_1 := by rw [ex_1]; exact g_12
  refine z_lstore_n C ex_1 dX2_clearLines_13 rfl hl (by decide) (lv' := [(2, zJ x_1), (0, zR Ω 23), (1, zI x1)]) rfl (fun ls hl => ?_)
  clear ex_1
  refine lv_lload_n C.1 C.2.1 dX2_clearLines_14 rfl (lv_at hl 0 rfl) ?_
  refine z_lconst C 0 rfl dX2_clearLines_15 ?_
  refine z_lne C gx_1 ⟨by decide, by decide⟩ (tgt := 22) dX2_clearLines_16 dX2_clearLines_17 (by decide) (fun hc16 => ?_) (fun hc16 => ?_)
  · rw [if_neg hc16] at h
    refine z_iconst C dX2_clearLines_22 ?_
    refine lv_istore C.1 C.2.1 (lv' := [(4, zI 1), (2, zJ x_1), (0, zR Ω 23), (1, zI x1)]) dX2_clearLines_23 hl (by decide) rfl (fun ls hl => ?_)
    refine lv_iload_n C.1 C.2.1 dX2_clearLines_25 rfl (lv_at hl 3 rfl) ?_
    refine z_iconst C dX2_clearLines_26 ?_
    refine z_iadd C dX2_clearLines_27 ?_
    refine zlet_elim h (fun x_2 ex_2 h => ?_)
    have gx_2 : Rg x_2 := by rw [ex_2]; exact (Rg.w _)
    refine z_istore C ex_2 dX2_clearLines_28 hl (by decide) (lv' := [(5, zI x_2), (4, zI 1), (2, zJ x_1), (0, zR Ω 23), (1, zI x1)]) rfl (fun ls hl => ?_)
    clear ex_2
    have K142 : ∀ (x_3 : Int) (μ_4 : zMem) (H : Heap) (locs : List Loc) (ls : Array Slot), Rg x_3 → zX Ω μ_4 (zfree Ω) s.heap H locs → lv_has ls 9 [(0, zR Ω 23), (1, zI x1), (2, zJ x_1), (4, zI x_3)] → (f_X2_clearLines_K142 x1 x_1) x_3 μ_4 = some (r, μ') → W p l e (zrm 1) s m args below meth c H locs 0 0 Q (F0 m 142 ls []) := by
      intro x_3 μ_4 H locs ls gx_3 X hl h
      unfold f_X2_clearLines_K142 at h
      refine lv_iload_n C.1 C.2.1 dX2_clearLines_142 rfl (lv_at hl 1 rfl) ?_
      refine z_iconst C dX2_clearLines_143 ?_
      refine z_iadd C dX2_clearLines_144 ?_
      refine zlet_elim h (fun x_5 ex_5 h => ?_)
      have gx_5 : Rg x_5 := by rw [ex_5]; exact (Rg.w _)
      refine z_istore C ex_5 dX2_clearLines_145 hl (by decide) (lv' := [(5, zI x_5), (0, zR Ω 23), (1, zI x1), (2, zJ x_1), (4, zI x_3)]) rfl (fun ls hl => ?_)
      clear ex_5
      have L147 : ∀ (n147 : Nat) (x_6 : Int) (x_7 : Int) (μ_8 : zMem) (H : Heap) (locs : List Loc) (ls : Array Slot), Rg x_6 → Rg x_7 → zX Ω μ_8 (zfree Ω) s.heap H locs → lv_has ls 9 [(0, zR Ω 23), (1, zI x1), (2, zJ x_1), (4, zI x_6), (5, zI x_7)] → (f_X2_clearLines_L147 x1 x_1 n147 x_6 x_7 μ_8) = some (r, μ') → W p l e (zrm 1) s m args below meth c H locs 0 0 Q (F0 m 147 ls []) := by
        intro n147
        induction n147 with
        | zero =>
          intro x_6 x_7 μ_8 H locs ls _ _ _ _ h
          cases h
        | succ n147 ih147 =>
          intro x_6 x_7 μ_8 H locs ls gx_6 gx_7 X hl h
          unfold f_X2_clearLines_L147 at h
          refine lv_iload C.1 C.2.1 dX2_clearLines_147 (lv_at hl 4 rfl) ?_
          refine lv_aload_n C.1 C.2.1 dX2_clearLines_149 rfl (lv_at hl 0 rfl) ?_
          have g_150 : Rg (μ_8 23 4) := zrgf0 (ci := 2) X.2.2.2 (hI.1 23 (by decide)) rfl 4 rfl
          refine z_get C X zk2 (hI.1 23 (by decide)) rfl 4 (by decide) kw_228 (zI (μ_8 23 4)) rfl dX2_clearLines_150 ?_
          refine z_icmpge C gx_7 g_150 (tgt := 259) dX2_clearLines_153 (by decide) (fun hc153 => ?_) (fun hc153 => ?_)
          · rw [if_neg hc153] at h
            refine lv_iload C.1 C.2.1 dX2_clearLines_259 (lv_at hl 3 rfl) ?_
            obtain ⟨hz261, h⟩ := chk_some h
            obtain ⟨rfl, rfl⟩ := Prod.mk.inj (Option.some.inj h)
            exact rt X hz261 dX2_clearLines_261
          · rw [if_pos hc153] at h
            refine lv_aload_n C.1 C.2.1 dX2_clearLines_156 rfl (lv_at hl 0 rfl) ?_
            refine z_get C X zk2 (hI.1 23 (by decide)) rfl 0 (by decide) kw_223 (zR Ω 24) (zfvF (off := 1) X.2.2.2 (hI.1 23 (by decide)) (hI.2 23 (by decide)) rfl rfl (by decide)) dX2_clearLines_157 ?_
            refine lv_iload_n C.1 C.2.1 dX2_clearLines_160 rfl (lv_at hl 1 rfl) ?_
            refine lv_aload_n C.1 C.2.1 dX2_clearLines_161 rfl (lv_at hl 0 rfl) ?_
            have g_162 : Rg (μ_8 23 4) := zrgf0 (ci := 2) X.2.2.2 (hI.1 23 (by decide)) rfl 4 rfl
            refine z_get C X zk2 (hI.1 23 (by decide)) rfl 4 (by decide) kw_228 (zI (μ_8 23 4)) rfl dX2_clearLines_162 ?_
            refine z_imul C dX2_clearLines_165 ?_
            refine lv_iload C.1 C.2.1 dX2_clearLines_166 (lv_at hl 4 rfl) ?_
            refine z_iadd C dX2_clearLines_168 ?_
            obtain ⟨hc169, h⟩ := chk_some h
            have g_169 : Rl (μ_8 24 (zw ((zw (x1 * (μ_8 23 4))) + x_7))) := zrg2 X.2.2.2 (hI.1 24 (by decide)) rfl
            refine z_lald C X (hI.1 24 (by decide)) rfl hc169 dX2_clearLines_169 ?_
            refine lv_lload_n C.1 C.2.1 dX2_clearLines_170 rfl (lv_at hl 2 rfl) ?_
            obtain ⟨hc171, h⟩ := chk_some h
            refine z_ldiv C g_169 gx_1 hc171 dX2_clearLines_171 ?_
            refine zlet_elim h (fun x_9 ex_9 h => ?_)
            have gx_9 : Rl x_9 := by rw [ex_9]; exact (Rl.w _)
            refine z_lstore C ex_9 dX2_clearLines_172 hl (by decide) (lv' := [(6, zJ x_9), (0, zR Ω 23), (1, zI x1), (2, zJ x_1), (4, zI x_6), (5, zI x_7)]) rfl (fun ls hl => ?_)
            clear ex_9
            refine lv_iload_n C.1 C.2.1 dX2_clearLines_174 rfl (lv_at hl 2 rfl) ?_
            refine lv_istore C.1 C.2.1 (lv' := [(8, zI x1), (6, zJ x_9), (0, zR Ω 23), (1, zI x1), (2, zJ x_1), (4, zI x_6), (5, zI x_7)]) dX2_clearLines_175 hl (by decide) rfl (fun ls hl => ?_)
            have K224 : ∀ (μ_10 : zMem) (H : Heap) (locs : List Loc) (ls : Array Slot), zX Ω μ_10 (zfree Ω) s.heap H locs → lv_has ls 9 [(0, zR Ω 23), (1, zI x1), (2, zJ x_1), (4, zI x_6), (5, zI x_7)] → (f_X2_clearLines_K224 x1 x_6 x_7 (f_X2_clearLines_L147 x1 x_1 n147)) μ_10 = some (r, μ') → W p l e (zrm 1) s m args below meth c H locs 0 0 Q (F0 m 224 ls []) := by
              intro μ_10 H locs ls  X hl h
              unfold f_X2_clearLines_K224 at h
              refine lv_iload C.1 C.2.1 dX2_clearLines_224 (lv_at hl 3 rfl) ?_
              refine lv_aload_n C.1 C.2.1 dX2_clearLines_226 rfl (lv_at hl 0 rfl) ?_
              refine z_get C X zk2 (hI.1 23 (by decide)) rfl 0 (by decide) kw_223 (zR Ω 24) (zfvF (off := 1) X.2.2.2 (hI.1 23 (by decide)) (hI.2 23 (by decide)) rfl rfl (by decide)) dX2_clearLines_227 ?_
              refine lv_iload_n C.1 C.2.1 dX2_clearLines_230 rfl (lv_at hl 1 rfl) ?_
              refine lv_aload_n C.1 C.2.1 dX2_clearLines_231 rfl (lv_at hl 0 rfl) ?_
              have g_232 : Rg (μ_10 23 4) := zrgf0 (ci := 2) X.2.2.2 (hI.1 23 (by decide)) rfl 4 rfl
              refine z_get C X zk2 (hI.1 23 (by decide)) rfl 4 (by decide) kw_228 (zI (μ_10 23 4)) rfl dX2_clearLines_232 ?_
              refine z_imul C dX2_clearLines_235 ?_
              refine lv_iload C.1 C.2.1 dX2_clearLines_236 (lv_at hl 4 rfl) ?_
              refine z_iadd C dX2_clearLines_238 ?_
              obtain ⟨hc239, h⟩ := chk_some h
              have g_239 : Rl (μ_10 24 (zw ((zw (x1 * (μ_10 23 4))) + x_7))) := zrg2 X.2.2.2 (hI.1 24 (by decide)) rfl
              refine z_lald C X (hI.1 24 (by decide)) rfl hc239 dX2_clearLines_239 ?_
              refine z_lconst C 0 rfl dX2_clearLines_240 ?_
              have K250 : ∀ (x_11 : Int) (μ_12 : zMem) (H : Heap) (locs : List Loc) (ls : Array Slot), Rg x_11 → zX Ω μ_12 (zfree Ω) s.heap H locs → lv_has ls 9 [(0, zR Ω 23), (1, zI x1), (2, zJ x_1), (5, zI x_7)] → (f_X2_clearLines_J250 x_6 x_7 (f_X2_clearLines_L147 x1 x_1 n147)) x_11 μ_12 = some (r, μ') → W p l e (zrm 1) s m args below meth c H locs 0 0 Q (F0 m 250 ls [zI x_11, zI x_6]) := by
                intro x_11 μ_12 H locs ls gx_11 X hl h
                unfold f_X2_clearLines_J250 at h
                refine z_iand C dX2_clearLines_250 ?_
                refine zlet_elim h (fun x_13 ex_13 h => ?_)
                have gx_13 : Rg x_13 := by rw [ex_13]; exact (Rg.t _)
                refine z_istore C ex_13 dX2_clearLines_251 hl (by decide) (lv' := [(4, zI x_13), (0, zR Ω 23), (1, zI x1), (2, zJ x_1), (5, zI x_7)]) rfl (fun ls hl => ?_)
                clear ex_13
                refine zlet_elim h (fun x_14 ex_14 h => ?_)
                have gx_14 : Rg x_14 := by rw [ex_14]; exact Rg.w _
                refine z_iinc C ex_14 dX2_clearLines_253 hl (k := 4) rfl (by decide) (lv' := [(5, zI x_14), (4, zI x_13), (0, zR Ω 23), (1, zI x1), (2, zJ x_1)]) rfl (fun ls hl => ?_)
                clear ex_14
                refine lv_goto (tgt := 147) C.1 C.2.1 dX2_clearLines_256 (by decide) ?_
                exact ih147 x_13 x_14 μ_12 _ _ _ gx_13 gx_14 X (lv_sub hl [2, 3, 4, 1, 0] rfl) h
              refine z_lne C g_239 ⟨by decide, by decide⟩ (tgt := 249) dX2_clearLines_241 dX2_clearLines_242 (by decide) (fun hc241 => ?_) (fun hc241 => ?_)
              · rw [if_neg hc241] at h
                refine z_iconst C dX2_clearLines_249 ?_
                exact K250 0 μ_10 _ _ _ ⟨by decide, by decide⟩ X (lv_sub hl [0, 1, 2, 4] rfl) h
              · rw [if_pos hc241] at h
                refine z_iconst C dX2_clearLines_245 ?_
                refine lv_goto (tgt := 250) C.1 C.2.1 dX2_clearLines_246 (by decide) ?_
                exact K250 1 μ_10 _ _ _ ⟨by decide, by decide⟩ X (lv_sub hl [0, 1, 2, 4] rfl) h
            have L177 : ∀ (n177 : Nat) (x_15 : Int) (μ_16 : zMem) (H : Heap) (locs : List Loc) (ls : Array Slot), Rg x_15 → zX Ω μ_16 (zfree Ω) s.heap H locs → lv_has ls 9 [(0, zR Ω 23), (1, zI x1), (2, zJ x_1), (4, zI x_6), (5, zI x_7), (6, zJ x_9), (8, zI x_15)] → (f_X2_clearLines_L177 x1 x_7 x_9 (f_X2_clearLines_K224 x1 x_6 x_7 (f_X2_clearLines_L147 x1 x_1 n147)) n177 x_15 μ_16) = some (r, μ') → W p l e (zrm 1) s m args below meth c H locs 0 0 Q (F0 m 177 ls []) := by
              intro n177
              induction n177 with
              | zero =>
                intro x_15 μ_16 H locs ls _ _ _ h
                cases h
              | succ n177 ih177 =>
                intro x_15 μ_16 H locs ls gx_15 X hl h
                unfold f_X2_clearLines_L177 at h
                refine lv_iload C.1 C.2.1 dX2_clearLines_177 (lv_at hl 6 rfl) ?_
                refine lv_aload_n C.1 C.2.1 dX2_clearLines_179 rfl (lv_at hl 0 rfl) ?_
                have g_180 : Rg (μ_16 23 3) := zrgf0 (ci := 2) X.2.2.2 (hI.1 23 (by decide)) rfl 3 rfl
                refine z_get C X zk2 (hI.1 23 (by decide)) rfl 3 (by decide) kw_227 (zI (μ_16 23 3)) rfl dX2_clearLines_180 ?_
                refine z_icmpge C gx_15 g_180 (tgt := 224) dX2_clearLines_183 (by decide) (fun hc183 => ?_) (fun hc183 => ?_)
                · rw [if_neg hc183] at h
                  exact K224 μ_16 _ _ _ X (lv_sub hl [0, 1, 2, 3, 4] rfl) h
                · rw [if_pos hc183] at h
                  refine lv_lload C.1 C.2.1 dX2_clearLines_186 (lv_at hl 5 rfl) ?_
                  refine z_lconst C 0 rfl dX2_clearLines_188 ?_
                  refine z_leq C gx_9 ⟨by decide, by decide⟩ (tgt := 224) dX2_clearLines_189 dX2_clearLines_190 (by decide) (fun hc189 => ?_) (fun hc189 => ?_)
                  · rw [if_pos hc189] at h
                    exact K224 μ_16 _ _ _ X (lv_sub hl [0, 1, 2, 3, 4] rfl) h
                  · rw [if_neg hc189] at h
                    refine lv_aload_n C.1 C.2.1 dX2_clearLines_193 rfl (lv_at hl 0 rfl) ?_
                    refine lv_iload C.1 C.2.1 dX2_clearLines_194 (lv_at hl 6 rfl) ?_
                    refine lv_aload_n C.1 C.2.1 dX2_clearLines_196 rfl (lv_at hl 0 rfl) ?_
                    have g_197 : Rg (μ_16 23 4) := zrgf0 (ci := 2) X.2.2.2 (hI.1 23 (by decide)) rfl 4 rfl
                    refine z_get C X zk2 (hI.1 23 (by decide)) rfl 4 (by decide) kw_228 (zI (μ_16 23 4)) rfl dX2_clearLines_197 ?_
                    refine z_imul C dX2_clearLines_200 ?_
                    refine lv_iload C.1 C.2.1 dX2_clearLines_201 (lv_at hl 4 rfl) ?_
                    refine z_iadd C dX2_clearLines_203 ?_
                    refine lv_lload C.1 C.2.1 dX2_clearLines_204 (lv_at hl 5 rfl) ?_
                    refine lv_iload C.1 C.2.1 dX2_clearLines_206 (lv_at hl 6 rfl) ?_
                    refine lv_aload_n C.1 C.2.1 dX2_clearLines_208 rfl (lv_at hl 0 rfl) ?_
                    have g_209 : Rg (μ_16 23 4) := zrgf0 (ci := 2) X.2.2.2 (hI.1 23 (by decide)) rfl 4 rfl
                    refine z_get C X zk2 (hI.1 23 (by decide)) rfl 4 (by decide) kw_228 (zI (μ_16 23 4)) rfl dX2_clearLines_209 ?_
                    refine z_imul C dX2_clearLines_212 ?_
                    refine lv_iload_n C.1 C.2.1 dX2_clearLines_213 rfl (lv_at hl 1 rfl) ?_
                    refine z_iadd C dX2_clearLines_214 ?_
                    obtain ⟨μ_17, hq215, h⟩ := bnd_some h
                    refine z_callV0 C X zk2 (hI.1 23 (by decide)) rfl (As := [zI (zw ((zw (x_15 * (μ_16 23 4))) + x_7)), zJ x_9, zI (zw ((zw (x_15 * (μ_16 23 4))) + x1))]) (M_X2_takeOut hI μ_16 (zw ((zw (x_15 * (μ_16 23 4))) + x_7)) x_9 (zw ((zw (x_15 * (μ_16 23 4))) + x1)) (Rg.w _) gx_9 (Rg.w _) hq215) zc_X2_takeOut kw_674 (zroom (by decide) (by decide)) rfl hl.1 rfl (Nat.le_of_ble_eq_true rfl) dX2_clearLines_215 ⟨Nat.zero_le _, Nat.zero_le _⟩ (fun H locs g_215 X => ?_)
                    refine zlet_elim h (fun x_18 ex_18 h => ?_)
                    have gx_18 : Rg x_18 := by rw [ex_18]; exact Rg.w _
                    refine z_iinc C ex_18 dX2_clearLines_218 hl (k := 6) rfl (by decide) (lv' := [(8, zI x_18), (0, zR Ω 23), (1, zI x1), (2, zJ x_1), (4, zI x_6), (5, zI x_7), (6, zJ x_9)]) rfl (fun ls hl => ?_)
                    clear ex_18
                    refine lv_goto (tgt := 177) C.1 C.2.1 dX2_clearLines_221 (by decide) ?_
                    exact ih177 x_18 μ_17 _ _ _ gx_18 X (lv_sub hl [1, 2, 3, 4, 5, 6, 0] rfl) h
            exact L177 zfu x1 μ_8 _ _ _ gx1 X (lv_sub hl [2, 3, 4, 5, 6, 1, 0] rfl) h
      exact L147 zfu x_3 x_5 μ_4 _ _ _ gx_3 gx_5 X (lv_sub hl [1, 2, 3, 4, 0] rfl) h
    have L30 : ∀ (n30 : Nat) (x_19 : Int) (x_20 : Int) (μ_21 : zMem) (H : Heap) (locs : List Loc) (ls : Array Slot), Rg x_19 → Rg x_20 → zX Ω μ_21 (zfree Ω) s.heap H locs → lv_has ls 9 [(0, zR Ω 23), (1, zI x1), (2, zJ x_1), (4, zI x_19), (5, zI x_20)] → (f_X2_clearLines_L30 x1 x_1 (f_X2_clearLines_K142 x1 x_1) n30 x_19 x_20 μ_21) = some (r, μ') → W p l e (zrm 1) s m args below meth c H locs 0 0 Q (F0 m 30 ls []) := by
      intro n30
      induction n30 with
      | zero =>
        intro x_19 x_20 μ_21 H locs ls _ _ _ _ h
        cases h
      | succ n30 ih30 =>
        intro x_19 x_20 μ_21 H locs ls gx_19 gx_20 X hl h
        unfold f_X2_clearLines_L30 at h
        refine lv_iload C.1 C.2.1 dX2_clearLines_30 (lv_at hl 4 rfl) ?_
        refine lv_aload_n C.1 C.2.1 dX2_clearLines_32 rfl (lv_at hl 0 rfl) ?_
        have g_33 : Rg (μ_21 23 3) := zrgf0 (ci := 2) X.2.2.2 (hI.1 23 (by decide)) rfl 3 rfl
        refine z_get C X zk2 (hI.1 23 (by decide)) rfl 3 (by decide) kw_227 (zI (μ_21 23 3)) rfl dX2_clearLines_33 ?_
        refine z_icmpge C gx_20 g_33 (tgt := 142) dX2_clearLines_36 (by decide) (fun hc36 => ?_) (fun hc36 => ?_)
        · rw [if_neg hc36] at h
          exact K142 x_19 μ_21 _ _ _ gx_19 X (lv_sub hl [0, 1, 2, 3] rfl) h
        · rw [if_pos hc36] at h
          refine lv_aload_n C.1 C.2.1 dX2_clearLines_39 rfl (lv_at hl 0 rfl) ?_
          refine z_get C X zk2 (hI.1 23 (by decide)) rfl 0 (by decide) kw_223 (zR Ω 24) (zfvF (off := 1) X.2.2.2 (hI.1 23 (by decide)) (hI.2 23 (by decide)) rfl rfl (by decide)) dX2_clearLines_40 ?_
          refine lv_iload C.1 C.2.1 dX2_clearLines_43 (lv_at hl 4 rfl) ?_
          refine lv_aload_n C.1 C.2.1 dX2_clearLines_45 rfl (lv_at hl 0 rfl) ?_
          have g_46 : Rg (μ_21 23 4) := zrgf0 (ci := 2) X.2.2.2 (hI.1 23 (by decide)) rfl 4 rfl
          refine z_get C X zk2 (hI.1 23 (by decide)) rfl 4 (by decide) kw_228 (zI (μ_21 23 4)) rfl dX2_clearLines_46 ?_
          refine z_imul C dX2_clearLines_49 ?_
          refine lv_iload_n C.1 C.2.1 dX2_clearLines_50 rfl (lv_at hl 1 rfl) ?_
          refine z_iadd C dX2_clearLines_51 ?_
          obtain ⟨hc52, h⟩ := chk_some h
          have g_52 : Rl (μ_21 24 (zw ((zw (x_20 * (μ_21 23 4))) + x1))) := zrg2 X.2.2.2 (hI.1 24 (by decide)) rfl
          refine z_lald C X (hI.1 24 (by decide)) rfl hc52 dX2_clearLines_52 ?_
          refine lv_lload_n C.1 C.2.1 dX2_clearLines_53 rfl (lv_at hl 2 rfl) ?_
          obtain ⟨hc54, h⟩ := chk_some h
          refine z_ldiv C g_52 gx_1 hc54 dX2_clearLines_54 ?_
          refine zlet_elim h (fun x_22 ex_22 h => ?_)
          have gx_22 : Rl x_22 := by rw [ex_22]; exact (Rl.w _)
          refine z_lstore C ex_22 dX2_clearLines_55 hl (by decide) (lv' := [(6, zJ x_22), (0, zR Ω 23), (1, zI x1), (2, zJ x_1), (4, zI x_19), (5, zI x_20)]) rfl (fun ls hl => ?_)
          clear ex_22
          refine lv_iload_n C.1 C.2.1 dX2_clearLines_57 rfl (lv_at hl 2 rfl) ?_
          refine lv_istore C.1 C.2.1 (lv' := [(8, zI x1), (6, zJ x_22), (0, zR Ω 23), (1, zI x1), (2, zJ x_1), (4, zI x_19), (5, zI x_20)]) dX2_clearLines_58 hl (by decide) rfl (fun ls hl => ?_)
          have K107 : ∀ (μ_23 : zMem) (H : Heap) (locs : List Loc) (ls : Array Slot), zX Ω μ_23 (zfree Ω) s.heap H locs → lv_has ls 9 [(0, zR Ω 23), (1, zI x1), (2, zJ x_1), (4, zI x_19), (5, zI x_20)] → (f_X2_clearLines_K107 x1 x_19 x_20 (f_X2_clearLines_L30 x1 x_1 (f_X2_clearLines_K142 x1 x_1) n30)) μ_23 = some (r, μ') → W p l e (zrm 1) s m args below meth c H locs 0 0 Q (F0 m 107 ls []) := by
            intro μ_23 H locs ls  X hl h
            unfold f_X2_clearLines_K107 at h
            refine lv_iload C.1 C.2.1 dX2_clearLines_107 (lv_at hl 3 rfl) ?_
            refine lv_aload_n C.1 C.2.1 dX2_clearLines_109 rfl (lv_at hl 0 rfl) ?_
            refine z_get C X zk2 (hI.1 23 (by decide)) rfl 0 (by decide) kw_223 (zR Ω 24) (zfvF (off := 1) X.2.2.2 (hI.1 23 (by decide)) (hI.2 23 (by decide)) rfl rfl (by decide)) dX2_clearLines_110 ?_
            refine lv_iload C.1 C.2.1 dX2_clearLines_113 (lv_at hl 4 rfl) ?_
            refine lv_aload_n C.1 C.2.1 dX2_clearLines_115 rfl (lv_at hl 0 rfl) ?_
            have g_116 : Rg (μ_23 23 4) := zrgf0 (ci := 2) X.2.2.2 (hI.1 23 (by decide)) rfl 4 rfl
            refine z_get C X zk2 (hI.1 23 (by decide)) rfl 4 (by decide) kw_228 (zI (μ_23 23 4)) rfl dX2_clearLines_116 ?_
            refine z_imul C dX2_clearLines_119 ?_
            refine lv_iload_n C.1 C.2.1 dX2_clearLines_120 rfl (lv_at hl 1 rfl) ?_
            refine z_iadd C dX2_clearLines_121 ?_
            obtain ⟨hc122, h⟩ := chk_some h
            have g_122 : Rl (μ_23 24 (zw ((zw (x_20 * (μ_23 23 4))) + x1))) := zrg2 X.2.2.2 (hI.1 24 (by decide)) rfl
            refine z_lald C X (hI.1 24 (by decide)) rfl hc122 dX2_clearLines_122 ?_
            refine z_lconst C 0 rfl dX2_clearLines_123 ?_
            have K133 : ∀ (x_24 : Int) (μ_25 : zMem) (H : Heap) (locs : List Loc) (ls : Array Slot), Rg x_24 → zX Ω μ_25 (zfree Ω) s.heap H locs → lv_has ls 9 [(0, zR Ω 23), (1, zI x1), (2, zJ x_1), (5, zI x_20)] → (f_X2_clearLines_J133 x_19 x_20 (f_X2_clearLines_L30 x1 x_1 (f_X2_clearLines_K142 x1 x_1) n30)) x_24 μ_25 = some (r, μ') → W p l e (zrm 1) s m args below meth c H locs 0 0 Q (F0 m 133 ls [zI x_24, zI x_19]) := by
              intro x_24 μ_25 H locs ls gx_24 X hl h
              unfold f_X2_clearLines_J133 at h
              refine z_iand C dX2_clearLines_133 ?_
              refine zlet_elim h (fun x_26 ex_26 h => ?_)
              have gx_26 : Rg x_26 := by rw [ex_26]; exact (Rg.t _)
              refine z_istore C ex_26 dX2_clearLines_134 hl (by decide) (lv' := [(4, zI x_26), (0, zR Ω 23), (1, zI x1), (2, zJ x_1), (5, zI x_20)]) rfl (fun ls hl => ?_)
              clear ex_26
              refine zlet_elim h (fun x_27 ex_27 h => ?_)
              have gx_27 : Rg x_27 := by rw [ex_27]; exact Rg.w _
              refine z_iinc C ex_27 dX2_clearLines_136 hl (k := 4) rfl (by decide) (lv' := [(5, zI x_27), (4, zI x_26), (0, zR Ω 23), (1, zI x1), (2, zJ x_1)]) rfl (fun ls hl => ?_)
              clear ex_27
              refine lv_goto (tgt := 30) C.1 C.2.1 dX2_clearLines_139 (by decide) ?_
              exact ih30 x_26 x_27 μ_25 _ _ _ gx_26 gx_27 X (lv_sub hl [2, 3, 4, 1, 0] rfl) h
            refine z_lne C g_122 ⟨by decide, by decide⟩ (tgt := 132) dX2_clearLines_124 dX2_clearLines_125 (by decide) (fun hc124 => ?_) (fun hc124 => ?_)
            · rw [if_neg hc124] at h
              refine z_iconst C dX2_clearLines_132 ?_
              exact K133 0 μ_23 _ _ _ ⟨by decide, by decide⟩ X (lv_sub hl [0, 1, 2, 4] rfl) h
            · rw [if_pos hc124] at h
              refine z_iconst C dX2_clearLines_128 ?_
              refine lv_goto (tgt := 133) C.1 C.2.1 dX2_clearLines_129 (by decide) ?_
              exact K133 1 μ_23 _ _ _ ⟨by decide, by decide⟩ X (lv_sub hl [0, 1, 2, 4] rfl) h
          have L60 : ∀ (n60 : Nat) (x_28 : Int) (μ_29 : zMem) (H : Heap) (locs : List Loc) (ls : Array Slot), Rg x_28 → zX Ω μ_29 (zfree Ω) s.heap H locs → lv_has ls 9 [(0, zR Ω 23), (1, zI x1), (2, zJ x_1), (4, zI x_19), (5, zI x_20), (6, zJ x_22), (8, zI x_28)] → (f_X2_clearLines_L60 x1 x_20 x_22 (f_X2_clearLines_K107 x1 x_19 x_20 (f_X2_clearLines_L30 x1 x_1 (f_X2_clearLines_K142 x1 x_1) n30)) n60 x_28 μ_29) = some (r, μ') → W p l e (zrm 1) s m args below meth c H locs 0 0 Q (F0 m 60 ls []) := by
            intro n60
            induction n60 with
            | zero =>
              intro x_28 μ_29 H locs ls _ _ _ h
              cases h
            | succ n60 ih60 =>
              intro x_28 μ_29 H locs ls gx_28 X hl h
              unfold f_X2_clearLines_L60 at h
              refine lv_iload C.1 C.2.1 dX2_clearLines_60 (lv_at hl 6 rfl) ?_
              refine lv_aload_n C.1 C.2.1 dX2_clearLines_62 rfl (lv_at hl 0 rfl) ?_
              have g_63 : Rg (μ_29 23 4) := zrgf0 (ci := 2) X.2.2.2 (hI.1 23 (by decide)) rfl 4 rfl
              refine z_get C X zk2 (hI.1 23 (by decide)) rfl 4 (by decide) kw_228 (zI (μ_29 23 4)) rfl dX2_clearLines_63 ?_
              refine z_icmpge C gx_28 g_63 (tgt := 107) dX2_clearLines_66 (by decide) (fun hc66 => ?_) (fun hc66 => ?_)
              · rw [if_neg hc66] at h
                exact K107 μ_29 _ _ _ X (lv_sub hl [0, 1, 2, 3, 4] rfl) h
              · rw [if_pos hc66] at h
                refine lv_lload C.1 C.2.1 dX2_clearLines_69 (lv_at hl 5 rfl) ?_
                refine z_lconst C 0 rfl dX2_clearLines_71 ?_
                refine z_leq C gx_22 ⟨by decide, by decide⟩ (tgt := 107) dX2_clearLines_72 dX2_clearLines_73 (by decide) (fun hc72 => ?_) (fun hc72 => ?_)
                · rw [if_pos hc72] at h
                  exact K107 μ_29 _ _ _ X (lv_sub hl [0, 1, 2, 3, 4] rfl) h
                · rw [if_neg hc72] at h
                  refine lv_aload_n C.1 C.2.1 dX2_clearLines_76 rfl (lv_at hl 0 rfl) ?_
                  refine lv_iload C.1 C.2.1 dX2_clearLines_77 (lv_at hl 4 rfl) ?_
                  refine lv_aload_n C.1 C.2.1 dX2_clearLines_79 rfl (lv_at hl 0 rfl) ?_
                  have g_80 : Rg (μ_29 23 4) := zrgf0 (ci := 2) X.2.2.2 (hI.1 23 (by decide)) rfl 4 rfl
                  refine z_get C X zk2 (hI.1 23 (by decide)) rfl 4 (by decide) kw_228 (zI (μ_29 23 4)) rfl dX2_clearLines_80 ?_
                  refine z_imul C dX2_clearLines_83 ?_
                  refine lv_iload C.1 C.2.1 dX2_clearLines_84 (lv_at hl 6 rfl) ?_
                  refine z_iadd C dX2_clearLines_86 ?_
                  refine lv_lload C.1 C.2.1 dX2_clearLines_87 (lv_at hl 5 rfl) ?_
                  refine lv_iload_n C.1 C.2.1 dX2_clearLines_89 rfl (lv_at hl 1 rfl) ?_
                  refine lv_aload_n C.1 C.2.1 dX2_clearLines_90 rfl (lv_at hl 0 rfl) ?_
                  have g_91 : Rg (μ_29 23 4) := zrgf0 (ci := 2) X.2.2.2 (hI.1 23 (by decide)) rfl 4 rfl
                  refine z_get C X zk2 (hI.1 23 (by decide)) rfl 4 (by decide) kw_228 (zI (μ_29 23 4)) rfl dX2_clearLines_91 ?_
                  refine z_imul C dX2_clearLines_94 ?_
                  refine lv_iload C.1 C.2.1 dX2_clearLines_95 (lv_at hl 6 rfl) ?_
                  refine z_iadd C dX2_clearLines_97 ?_
                  obtain ⟨μ_30, hq98, h⟩ := bnd_some h
                  refine z_callV0 C X zk2 (hI.1 23 (by decide)) rfl (As := [zI (zw ((zw (x_20 * (μ_29 23 4))) + x_28)), zJ x_22, zI (zw ((zw (x1 * (μ_29 23 4))) + x_28))]) (M_X2_takeOut hI μ_29 (zw ((zw (x_20 * (μ_29 23 4))) + x_28)) x_22 (zw ((zw (x1 * (μ_29 23 4))) + x_28)) (Rg.w _) gx_22 (Rg.w _) hq98) zc_X2_takeOut kw_674 (zroom (by decide) (by decide)) rfl hl.1 rfl (Nat.le_of_ble_eq_true rfl) dX2_clearLines_98 ⟨Nat.zero_le _, Nat.zero_le _⟩ (fun H locs g_98 X => ?_)
                  refine zlet_elim h (fun x_31 ex_31 h => ?_)
                  have gx_31 : Rg x_31 := by rw [ex_31]; exact Rg.w _
                  refine z_iinc C ex_31 dX2_clearLines_101 hl (k := 6) rfl (by decide) (lv' := [(8, zI x_31), (0, zR Ω 23), (1, zI x1), (2, zJ x_1), (4, zI x_19), (5, zI x_20), (6, zJ x_22)]) rfl (fun ls hl => ?_)
                  clear ex_31
                  refine lv_goto (tgt := 60) C.1 C.2.1 dX2_clearLines_104 (by decide) ?_
                  exact ih60 x_31 μ_30 _ _ _ gx_31 X (lv_sub hl [1, 2, 3, 4, 5, 6, 0] rfl) h
          exact L60 zfu x1 μ_21 _ _ _ gx1 X (lv_sub hl [2, 3, 4, 5, 6, 1, 0] rfl) h
    exact L30 zfu 1 x_2 μ _ _ _ ⟨by decide, by decide⟩ gx_2 X (lv_sub hl [3, 4, 2, 1, 0] rfl) h
  · rw [if_pos hc16] at h
    refine z_iconst C dX2_clearLines_20 ?_
    obtain ⟨rfl, rfl⟩ := Prod.mk.inj (Option.some.inj h)
    exact rt X ⟨by decide, by decide⟩ dX2_clearLines_21
theorem zc_X2_clearLines : zcal yX2_clearLines cX2_clearLines 9 (some Jvm.ClassFile.FieldType.boolean) RX2 1 := ⟨⟨kw_673, kw_672, kp_23, kw_7⟩, rfl, by decide, by decide, by decide +kernel⟩

