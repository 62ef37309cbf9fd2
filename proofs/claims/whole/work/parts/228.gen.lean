def f_X10_isListed_J51 (x_2 : Int) (g7 : Int → Int → Option Int) (x_3 : Int) : Option Int :=
  zlet (zw (x_2 + 1)) fun x_4 =>
  g7 x_3 x_4
def f_X10_isListed_J50 (g51 : Int → Option Int) : Option Int :=
  g51 0
def f_X10_isListed_L7 (x1 : Int) (x3 : Int) (x5 : Int) (x6 : Int) (μ : zMem) : Nat → Int → Int → Option Int
  | 0, _, _ => none
  | n + 1, x_1, x_2 =>
    if x_2 < (zw (x5 + x6)) then
      if x_1 = 0 then
        chk ((0 : Int) ≤ x_2 ∧ x_2 < 4800) <|
        if (μ 156 x_2) = x1 then
          chk ((0 : Int) ≤ x_2 ∧ x_2 < 4800) <|
          if (μ 157 x_2) = x3 then
            (f_X10_isListed_J51 x_2 (f_X10_isListed_L7 x1 x3 x5 x6 μ n)) 1
          else
            (f_X10_isListed_J50 (f_X10_isListed_J51 x_2 (f_X10_isListed_L7 x1 x3 x5 x6 μ n)))
        else
          (f_X10_isListed_J50 (f_X10_isListed_J51 x_2 (f_X10_isListed_L7 x1 x3 x5 x6 μ n)))
      else
        chk (0 ≤ x_1 ∧ x_1 ≤ 1) <|
        some x_1
    else
      chk (0 ≤ x_1 ∧ x_1 ≤ 1) <|
      some x_1
def f_X10_isListed (x1 : Int) (x3 : Int) (x5 : Int) (x6 : Int) (μ : zMem) : Option Int :=
  (f_X10_isListed_L7 x1 x3 x5 x6 μ) zfu 0 x5
set_option maxHeartbeats 4000000 in
set_option maxRecDepth 100000 in
theorem M_X10_isListed {l : Launch} {Ω : zO} (hI : zIm Ω) (μ : zMem) (x1 : Int) (x3 : Int) (x5 : Int) (x6 : Int) {r : Int} (gx1 : Rl x1) (gx3 : Rl x3) (gx5 : Rg x5) (gx6 : Rg x6) (h : f_X10_isListed x1 x3 x5 x6 μ = some r) : XMet l yX10_isListed cX10_isListed 9 (some Jvm.ClassFile.FieldType.boolean) 0 Ω [zR Ω 101, zJ x1, zJ x3, zI x5, zI x6] μ (some (zI r)) (0 ≤ r ∧ r ≤ 1) μ := by
  refine XMet.ofZ (by decide) (Nat.le_of_ble_eq_true rfl) ?_
  intro p e s m args below meth c ls Q C rt X hl
  have C : zC p s m args c cX10_isListed RX10 9 Ω := C
  have hl : lv_has ls 9 [(0, zR Ω 101), (1, zJ x1), (3, zJ x3), (5, zI x5), (6, zI x6)] := hl
  unfold f_X10_isListed at h
  skip
  refine z_iconst C dX10_isListed_0 ?_
  refine lv_istore C.1 C.2.1 (lv' := [(7, zI 0), (0, zR Ω 101), (1, zJ x1), (3, zJ x3), (5, zI x5), (6, zI x6)]) dX10_isListed_1 hl (by decide) rfl (fun ls hl => ?_)
  refine lv_iload C.1 C.2.1 dX10_isListed_3 (lv_at hl 4 rfl) ?_
  refine lv_istore C.1 C.2.1 (lv' := [(8, zI x5), (7, zI 0), (0, zR Ω 101), (1, zJ x1), (3, zJ x3), (5, zI x5), (6, zI x6)]) dX10_isListed_5 hl (by decide) rfl (fun ls hl => ?_)
  have L7 : ∀ (n7 : Nat) (x_1 : Int) (x_2 : Int) (H : Heap) (locs : List Loc) (ls : Array Slot), Rg x_1 → Rg x_2 → zX Ω μ (zfree Ω) s.heap H locs → lv_has ls 9 [(0, zR Ω 101), (1, zJ x1), (3, zJ x3), (5, zI x5), (6, zI x6), (7, zI x_1), (8, zI x_2)] → (f_X10_isListed_L7 x1 x3 x5 x6 μ n7 x_1 x_2) = some r → W p l e (zrm 0) s m args below meth c H locs 0 0 Q (F0 m 7 ls []) := by
    intro n7
    induction n7 with
    | zero =>
      intro x_1 x_2 H locs ls _ _ _ _ h
      cases h
    | succ n7 ih7 =>
      intro x_1 x_2 H locs ls gx_1 gx_2 X hl h
      unfold f_X10_isListed_L7 at h
      refine lv_iload C.1 C.2.1 dX10_isListed_7 (lv_at hl 6 rfl) ?_
      refine lv_iload C.1 C.2.1 dX10_isListed_9 (lv_at hl 3 rfl) ?_
      refine lv_iload C.1 C.2.1 dX10_isListed_11 (lv_at hl 4 rfl) ?_
      refine z_iadd C dX10_isListed_13 ?_
      refine z_icmpge C gx_2 (Rg.w _) (tgt := 59) dX10_isListed_14 (by decide) (fun hc14 => ?_) (fun hc14 => ?_)
      · rw [if_neg hc14] at h
        refine lv_iload C.1 C.2.1 dX10_isListed_59 (lv_at hl 5 rfl) ?_
        obtain ⟨hz61, h⟩ := chk_some h
        obtain rfl := Option.some.inj h
        exact rt X hz61 dX10_isListed_61
      · rw [if_pos hc14] at h
        refine lv_iload C.1 C.2.1 dX10_isListed_17 (lv_at hl 5 rfl) ?_
        refine z_ifne C gx_1 (tgt := 59) dX10_isListed_19 (by decide) (fun hc19 => ?_) (fun hc19 => ?_)
        · rw [if_neg hc19] at h
          refine lv_iload C.1 C.2.1 dX10_isListed_59 (lv_at hl 5 rfl) ?_
          obtain ⟨hz61, h⟩ := chk_some h
          obtain rfl := Option.some.inj h
          exact rt X hz61 dX10_isListed_61
        · rw [if_pos hc19] at h
          refine lv_aload_n C.1 C.2.1 dX10_isListed_22 rfl (lv_at hl 0 rfl) ?_
          refine z_get C X zk10 (hI.1 101 (by decide)) rfl 54 (by decide) kw_1086 (zR Ω 156) (zfvF (off := 55) X.2.2.2 (hI.1 101 (by decide)) hI.2 rfl rfl (by decide)) dX10_isListed_23 ?_
          refine lv_iload C.1 C.2.1 dX10_isListed_26 (lv_at hl 6 rfl) ?_
          obtain ⟨hc28, h⟩ := chk_some h
          have g_28 : Rl (μ 156 x_2) := zrg2 X.2.2.2 (hI.1 156 (by decide)) rfl
          refine z_lald C X (hI.1 156 (by decide)) rfl hc28 dX10_isListed_28 ?_
          refine lv_lload_n C.1 C.2.1 dX10_isListed_29 rfl (lv_at hl 1 rfl) ?_
          have K51 : ∀ (x_3 : Int) (H : Heap) (locs : List Loc) (ls : Array Slot), Rg x_3 → zX Ω μ (zfree Ω) s.heap H locs → lv_has ls 9 [(0, zR Ω 101), (1, zJ x1), (3, zJ x3), (5, zI x5), (6, zI x6), (8, zI x_2)] → (f_X10_isListed_J51 x_2 (f_X10_isListed_L7 x1 x3 x5 x6 μ n7)) x_3 = some r → W p l e (zrm 0) s m args below meth c H locs 0 0 Q (F0 m 51 ls [zI x_3]) := by
            intro x_3 H locs ls gx_3 X hl h
            unfold f_X10_isListed_J51 at h
            refine lv_istore C.1 C.2.1 (lv' := [(7, zI x_3), (0, zR Ω 101), (1, zJ x1), (3, zJ x3), (5, zI x5), (6, zI x6), (8, zI x_2)]) dX10_isListed_51 hl (by decide) rfl (fun ls hl => ?_)
            refine zlet_elim h (fun x_4 ex_4 h => ?_)
            have gx_4 : Rg x_4 := by rw [ex_4]; exact Rg.w _
            refine z_iinc C ex_4 dX10_isListed_53 hl (k := 6) rfl (by decide) (lv' := [(8, zI x_4), (7, zI x_3), (0, zR Ω 101), (1, zJ x1), (3, zJ x3), (5, zI x5), (6, zI x6)]) rfl (fun ls hl => ?_)
            clear ex_4
            refine lv_goto (tgt := 7) C.1 C.2.1 dX10_isListed_56 (by decide) ?_
            exact ih7 x_3 x_4 _ _ _ gx_3 gx_4 X (lv_sub hl [2, 3, 4, 5, 6, 1, 0] rfl) h
          have K50 : ∀ (H : Heap) (locs : List Loc) (ls : Array Slot), zX Ω μ (zfree Ω) s.heap H locs → lv_has ls 9 [(0, zR Ω 101), (1, zJ x1), (3, zJ x3), (5, zI x5), (6, zI x6), (8, zI x_2)] → (f_X10_isListed_J50 (f_X10_isListed_J51 x_2 (f_X10_isListed_L7 x1 x3 x5 x6 μ n7))) = some r → W p l e (zrm 0) s m args below meth c H locs 0 0 Q (F0 m 50 ls []) := by
            intro  H locs ls  X hl h
            unfold f_X10_isListed_J50 at h
            refine z_iconst C dX10_isListed_50 ?_
            exact K51 0 _ _ _ ⟨by decide, by decide⟩ X (lv_sub hl [0, 1, 2, 3, 4, 5] rfl) h
          refine z_lne C g_28 gx1 (tgt := 50) dX10_isListed_30 dX10_isListed_31 (by decide) (fun hc30 => ?_) (fun hc30 => ?_)
          · rw [if_neg hc30] at h
            exact K50 _ _ _ X (lv_sub hl [0, 1, 2, 3, 4, 6] rfl) h
          · rw [if_pos hc30] at h
            refine lv_aload_n C.1 C.2.1 dX10_isListed_34 rfl (lv_at hl 0 rfl) ?_
            refine z_get C X zk10 (hI.1 101 (by decide)) rfl 55 (by decide) kw_1087 (zR Ω 157) (zfvF (off := 56) X.2.2.2 (hI.1 101 (by decide)) hI.2 rfl rfl (by decide)) dX10_isListed_35 ?_
            refine lv_iload C.1 C.2.1 dX10_isListed_38 (lv_at hl 6 rfl) ?_
            obtain ⟨hc40, h⟩ := chk_some h
            have g_40 : Rl (μ 157 x_2) := zrg2 X.2.2.2 (hI.1 157 (by decide)) rfl
            refine z_lald C X (hI.1 157 (by decide)) rfl hc40 dX10_isListed_40 ?_
            refine lv_lload_n C.1 C.2.1 dX10_isListed_41 rfl (lv_at hl 2 rfl) ?_
            refine z_lne C g_40 gx3 (tgt := 50) dX10_isListed_42 dX10_isListed_43 (by decide) (fun hc42 => ?_) (fun hc42 => ?_)
            · rw [if_neg hc42] at h
              exact K50 _ _ _ X (lv_sub hl [0, 1, 2, 3, 4, 6] rfl) h
            · rw [if_pos hc42] at h
              refine z_iconst C dX10_isListed_46 ?_
              refine lv_goto (tgt := 51) C.1 C.2.1 dX10_isListed_47 (by decide) ?_
              exact K51 1 _ _ _ ⟨by decide, by decide⟩ X (lv_sub hl [0, 1, 2, 3, 4, 6] rfl) h
  exact L7 zfu 0 x5 _ _ _ ⟨by decide, by decide⟩ gx5 X (lv_sub hl [2, 3, 4, 5, 6, 1, 0] rfl) h
theorem zc_X10_isListed : zcal yX10_isListed cX10_isListed 9 (some Jvm.ClassFile.FieldType.boolean) RX10 4 := ⟨⟨kw_1518, kw_1517, kp_99, kw_12⟩, rfl, by decide, by decide, by decide +kernel⟩

def f_X10_makeSlot_L7 (x1 : Int) : Nat → Int → zMem → Option zMem
  | 0, _, _ => none
  | n + 1, x_2, μ_3 =>
    chk ((0 : Int) ≤ x1 ∧ x1 < 4) <|
    if x_2 < (μ_3 149 x1) then
      chk ((0 : Int) ≤ (zw ((zw (16 * x1)) + x_2)) ∧ (zw ((zw (16 * x1)) + x_2)) < 64) <|
      bnd (f_X10_put (μ_3 152 (zw ((zw (16 * x1)) + x_2))) μ_3) fun μ_4 =>
      zlet (zw (x_2 + 1)) fun x_5 =>
      (f_X10_makeSlot_L7 x1 n) x_5 μ_4
    else
      some μ_3
def f_X10_makeSlot (x1 : Int) (μ : zMem) : Option zMem :=
  zlet (zup μ 101 51 0) fun μ_1 =>
  (f_X10_makeSlot_L7 x1) zfu 0 μ_1
set_option maxHeartbeats 4000000 in
set_option maxRecDepth 100000 in
theorem M_X10_makeSlot {l : Launch} {Ω : zO} (hI : zIm Ω) (μ : zMem) (x1 : Int) {μ' : zMem} (gx1 : Rg x1) (h : f_X10_makeSlot x1 μ = some μ') : XMet l yX10_makeSlot cX10_makeSlot 3 none 1 Ω [zR Ω 101, zI x1] μ none True μ' := by
  refine XMet.ofV (by decide) (Nat.le_of_ble_eq_true rfl) ?_
  intro p e s m args below meth c ls Q C rt X hl
  have C : zC p s m args c cX10_makeSlot RX10 3 Ω := C
  have hl : lv_has ls 3 [(0, zR Ω 101), (1, zI x1)] := hl
  unfold f_X10_makeSlot at h
  skip
  refine lv_aload_n C.1 C.2.1 dX10_makeSlot_0 rfl (lv_at hl 0 rfl) ?_
  refine z_iconst C dX10_makeSlot_1 ?_
  refine zlet_elim h (fun μ_1 em h => ?_)
  refine z_putI C X zk10 (hI.1 101 (by decide)) rfl 51 (by decide) kw_1083 rfl rfl rfl rfl ⟨by decide, by decide⟩ em dX10_makeSlot_2 (fun H locs X => ?_)
  clear em
  refine z_iconst C dX10_makeSlot_5 ?_
  refine lv_istore_n C.1 C.2.1 (lv' := [(2, zI 0), (0, zR Ω 101), (1, zI x1)]) dX10_makeSlot_6 rfl hl (by decide) rfl (fun ls hl => ?_)
  have L7 : ∀ (n7 : Nat) (x_2 : Int) (μ_3 : zMem) (H : Heap) (locs : List Loc) (ls : Array Slot), Rg x_2 → zX Ω μ_3 (zfree Ω) s.heap H locs → lv_has ls 3 [(0, zR Ω 101), (1, zI x1), (2, zI x_2)] → (f_X10_makeSlot_L7 x1 n7 x_2 μ_3) = some μ' → W p l e (zrm 1) s m args below meth c H locs 0 0 Q (F0 m 7 ls []) := by
    intro n7
    induction n7 with
    | zero =>
      intro x_2 μ_3 H locs ls _ _ _ h
      cases h
    | succ n7 ih7 =>
      intro x_2 μ_3 H locs ls gx_2 X hl h
      unfold f_X10_makeSlot_L7 at h
      refine lv_iload_n C.1 C.2.1 dX10_makeSlot_7 rfl (lv_at hl 2 rfl) ?_
      refine lv_aload_n C.1 C.2.1 dX10_makeSlot_8 rfl (lv_at hl 0 rfl) ?_
      refine z_get C X zk10 (hI.1 101 (by decide)) rfl 47 (by decide) kw_1079 (zR Ω 149) (zfvF (off := 48) X.2.2.2 (hI.1 101 (by decide)) hI.2 rfl rfl (by decide)) dX10_makeSlot_9 ?_
      refine lv_iload_n C.1 C.2.1 dX10_makeSlot_12 rfl (lv_at hl 1 rfl) ?_
      obtain ⟨hc13, h⟩ := chk_some h
      have g_13 : Rg (μ_3 149 x1) := zrg1 X.2.2.2 (hI.1 149 (by decide)) rfl
      refine z_iald C X (hI.1 149 (by decide)) rfl hc13 dX10_makeSlot_13 ?_
      refine z_icmpge C gx_2 g_13 (tgt := 38) dX10_makeSlot_14 (by decide) (fun hc14 => ?_) (fun hc14 => ?_)
      · rw [if_neg hc14] at h
        obtain rfl := Option.some.inj h
        exact rt X dX10_makeSlot_38
      · rw [if_pos hc14] at h
        refine lv_aload_n C.1 C.2.1 dX10_makeSlot_17 rfl (lv_at hl 0 rfl) ?_
        refine lv_aload_n C.1 C.2.1 dX10_makeSlot_18 rfl (lv_at hl 0 rfl) ?_
        refine z_get C X zk10 (hI.1 101 (by decide)) rfl 50 (by decide) kw_1082 (zR Ω 152) (zfvF (off := 51) X.2.2.2 (hI.1 101 (by decide)) hI.2 rfl rfl (by decide)) dX10_makeSlot_19 ?_
        refine z_bipush C dX10_makeSlot_22 (by decide) ?_
        refine lv_iload_n C.1 C.2.1 dX10_makeSlot_24 rfl (lv_at hl 1 rfl) ?_
        refine z_imul C dX10_makeSlot_25 ?_
        refine lv_iload_n C.1 C.2.1 dX10_makeSlot_26 rfl (lv_at hl 2 rfl) ?_
        refine z_iadd C dX10_makeSlot_27 ?_
        obtain ⟨hc28, h⟩ := chk_some h
        have g_28 : Rg (μ_3 152 (zw ((zw (16 * x1)) + x_2))) := zrg1 X.2.2.2 (hI.1 152 (by decide)) rfl
        refine z_iald C X (hI.1 152 (by decide)) rfl hc28 dX10_makeSlot_28 ?_
        obtain ⟨μ_4, hq29, h⟩ := bnd_some h
        refine z_callV0 C X zk10 (hI.1 101 (by decide)) rfl (As := [zI (μ_3 152 (zw ((zw (16 * x1)) + x_2)))]) (M_X10_put hI μ_3 (μ_3 152 (zw ((zw (16 * x1)) + x_2))) g_28 hq29) zc_X10_put kw_1470 (zroom (by decide) (by decide)) rfl hl.1 rfl (Nat.le_of_ble_eq_true rfl) dX10_makeSlot_29 ⟨Nat.zero_le _, Nat.zero_le _⟩ (fun H locs g_29 X => ?_)
        refine zlet_elim h (fun x_5 ex_5 h => ?_)
        have gx_5 : Rg x_5 := by rw [ex_5]; exact Rg.w _
        refine z_iinc C ex_5 dX10_makeSlot_32 hl (k := 2) rfl (by decide) (lv' := [(2, zI x_5), (0, zR Ω 101), (1, zI x1)]) rfl (fun ls hl => ?_)
        clear ex_5
        refine lv_goto (tgt := 7) C.1 C.2.1 dX10_makeSlot_35 (by decide) ?_
        exact ih7 x_5 μ_4 _ _ _ gx_5 X (lv_sub hl [1, 2, 0] rfl) h
  exact L7 zfu 0 μ_1 _ _ _ ⟨by decide, by decide⟩ X (lv_sub hl [1, 2, 0] rfl) h
theorem zc_X10_makeSlot : zcal yX10_makeSlot cX10_makeSlot 3 none RX10 1 := ⟨⟨kw_1496, kw_1495, kp_94, kw_12⟩, rfl, by decide, by decide, by decide +kernel⟩

def f_X10_drawn_L221 (x_13 : Int) : Nat → Int → zMem → Option (Int × zMem)
  | 0, _, _ => none
  | n + 1, x_17, μ_18 =>
    if x_17 < x_13 then
      chk ((0 : Int) ≤ x_17 ∧ x_17 < 4800) <|
      chk ((0 : Int) ≤ x_17 ∧ x_17 < 4800) <|
      bnd (f_X10_isListed (μ_18 156 x_17) (μ_18 157 x_17) 2400 (μ_18 101 53) μ_18) fun x_19 =>
      if x_19 = 0 then
        zlet (zw (x_17 + 1)) fun x_20 =>
        (f_X10_drawn_L221 x_13 n) x_20 μ_18
      else
        some (2, μ_18)
    else
      some ((-5), μ_18)
def f_X10_drawn_J164 (x1 : Int) (x2 : Int) (x_5 : Int) (x_6 : Int) (x_9 : Int) (x_10 : Int) (μ_11 : zMem) : Option (Int × zMem) :=
  bnd (f_X10_layNext x1 0 μ_11) fun μ_12 =>
  zlet ((μ_12 101 53)) fun x_13 =>
  bnd (f_X10_layNext x2 2400 μ_12) fun μ_14 =>
  bnd (f_X10_isListed x_9 x_10 0 x_13 μ_14) fun x_15 =>
  if x_15 = 0 then
    bnd (f_X10_isListed x_5 x_6 2400 (μ_14 101 53) μ_14) fun x_16 =>
    if x_16 = 0 then
      (f_X10_drawn_L221 x_13) zfu 0 μ_14
    else
      some (1, μ_14)
  else
    some (1, μ_14)
def f_X10_drawn_J75 (x1 : Int) (x2 : Int) (x_1 : Int) (μ_2 : zMem) : Option (Int × zMem) :=
  if x_1 = 0 then
    some ((-2), μ_2)
  else
    bnd (f_X10_makeSlot x1 μ_2) fun μ_3 =>
    bnd (f_X10_list 4799 μ_3) fun μ_4 =>
    zlet ((μ_4 156 4799)) fun x_5 =>
    zlet ((μ_4 157 4799)) fun x_6 =>
    bnd (f_X10_makeSlot x2 μ_4) fun μ_7 =>
    bnd (f_X10_list 4799 μ_7) fun μ_8 =>
    zlet ((μ_8 156 4799)) fun x_9 =>
    zlet ((μ_8 157 4799)) fun x_10 =>
    if x_5 = x_9 then
      if x_6 = x_10 then
        some (0, μ_8)
      else
        (f_X10_drawn_J164 x1 x2 x_5 x_6 x_9 x_10) μ_8
    else
      (f_X10_drawn_J164 x1 x2 x_5 x_6 x_9 x_10) μ_8
def f_X10_drawn_J74 (g75 : Int → zMem → Option (Int × zMem)) (μ_21 : zMem) : Option (Int × zMem) :=
  g75 0 μ_21
def f_X10_drawn (x1 : Int) (x2 : Int) (μ : zMem) : Option (Int × zMem) :=
  if (f_X10_isSlot x1) = 0 then
    some ((-1), μ)
  else
    if (f_X10_isSlot x2) = 0 then
      some ((-1), μ)
    else
      chk ((0 : Int) ≤ x1 ∧ x1 < 4) <|
      if (μ 148 x1) < 0 then
        (f_X10_drawn_J74 (f_X10_drawn_J75 x1 x2)) μ
      else
        chk ((0 : Int) ≤ x1 ∧ x1 < 4) <|
        chk ((0 : Int) ≤ x2 ∧ x2 < 4) <|
        if (μ 148 x1) = (μ 148 x2) then
          chk ((0 : Int) ≤ x1 ∧ x1 < 4) <|
          chk ((0 : Int) ≤ x2 ∧ x2 < 4) <|
          if (μ 150 x1) = (μ 150 x2) then
            chk ((0 : Int) ≤ x1 ∧ x1 < 4) <|
            chk ((0 : Int) ≤ x2 ∧ x2 < 4) <|
            if (μ 151 x1) = (μ 151 x2) then
              (f_X10_drawn_J75 x1 x2) 1 μ
            else
              (f_X10_drawn_J74 (f_X10_drawn_J75 x1 x2)) μ
          else
            (f_X10_drawn_J74 (f_X10_drawn_J75 x1 x2)) μ
        else
          (f_X10_drawn_J74 (f_X10_drawn_J75 x1 x2)) μ
set_option maxHeartbeats 4000000 in
set_option maxRecDepth 100000 in
theorem M_X10_drawn {l : Launch} {Ω : zO} (hI : zIm Ω) (μ : zMem) (x1 : Int) (x2 : Int) {r : Int} {μ' : zMem} (gx1 : Rg x1) (gx2 : Rg x2) (h : f_X10_drawn x1 x2 μ = some (r, μ')) : XMet l yX10_drawn cX10_drawn 15 (some Jvm.ClassFile.FieldType.int) 4 Ω [zR Ω 101, zI x1, zI x2] μ (some (zI r)) (Rg r) μ' := by
  refine XMet.ofI (by decide) (Nat.le_of_ble_eq_true rfl) ?_
  intro p e s m args below meth c ls Q C rt X hl
  have C : zC p s m args c cX10_drawn RX10 15 Ω := C
  have hl : lv_has ls 15 [(0, zR Ω 101), (1, zI x1), (2, zI x2)] := hl
  unfold f_X10_drawn at h
  skip
  refine lv_iload_n C.1 C.2.1 dX10_drawn_0 rfl (lv_at hl 1 rfl) ?_
  refine z_callS1 C X (As := [zI x1]) (M_X10_isSlot hI μ x1 gx1) zc_X10_isSlot kw_1455 (zroom (by decide) (by decide)) rfl hl.1 rfl (Nat.le_of_ble_eq_true rfl) dX10_drawn_1 ⟨Nat.zero_le _, Nat.zero_le _⟩ (fun H locs g_1 X => ?_)
  refine z_ifeq C (rgz g_1) (tgt := 14) dX10_drawn_4 (by decide) (fun hc4 => ?_) (fun hc4 => ?_)
  · rw [if_pos hc4] at h
    refine z_iconst C dX10_drawn_14 ?_
    obtain ⟨rfl, rfl⟩ := Prod.mk.inj (Option.some.inj h)
    exact rt X ⟨by decide, by decide⟩ dX10_drawn_15
  · rw [if_neg hc4] at h
    refine lv_iload_n C.1 C.2.1 dX10_drawn_7 rfl (lv_at hl 2 rfl) ?_
    refine z_callS1 C X (As := [zI x2]) (M_X10_isSlot hI μ x2 gx2) zc_X10_isSlot kw_1455 (zroom (by decide) (by decide)) rfl hl.1 rfl (Nat.le_of_ble_eq_true rfl) dX10_drawn_8 ⟨Nat.zero_le _, Nat.zero_le _⟩ (fun H locs g_8 X => ?_)
    refine z_ifne C (rgz g_8) (tgt := 16) dX10_drawn_11 (by decide) (fun hc11 => ?_) (fun hc11 => ?_)
    · rw [if_neg hc11] at h
      refine lv_aload_n C.1 C.2.1 dX10_drawn_16 rfl (lv_at hl 0 rfl) ?_
      refine z_get C X zk10 (hI.1 101 (by decide)) rfl 46 (by decide) kw_1078 (zR Ω 148) (zfvF (off := 47) X.2.2.2 (hI.1 101 (by decide)) hI.2 rfl rfl (by decide)) dX10_drawn_17 ?_
      refine lv_iload_n C.1 C.2.1 dX10_drawn_20 rfl (lv_at hl 1 rfl) ?_
      obtain ⟨hc21, h⟩ := chk_some h
      have g_21 : Rg (μ 148 x1) := zrg1 X.2.2.2 (hI.1 148 (by decide)) rfl
      refine z_iald C X (hI.1 148 (by decide)) rfl hc21 dX10_drawn_21 ?_
      have K75 : ∀ (x_1 : Int) (μ_2 : zMem) (H : Heap) (locs : List Loc) (ls : Array Slot), Rg x_1 → zX Ω μ_2 (zfree Ω) s.heap H locs → lv_has ls 15 [(0, zR Ω 101), (1, zI x1), (2, zI x2)] → (f_X10_drawn_J75 x1 x2) x_1 μ_2 = some (r, μ') → W p l e (zrm 4) s m args below meth c H locs 0 0 Q (F0 m 75 ls [zI x_1]) := by
        intro x_1 μ_2 H locs ls gx_1 X hl h
        unfold f_X10_drawn_J75 at h
        refine lv_istore_n C.1 C.2.1 (lv' := [(3, zI x_1), (0, zR Ω 101), (1, zI x1), (2, zI x2)]) dX10_drawn_75 rfl hl (by decide) rfl (fun ls hl => ?_)
        refine lv_iload_n C.1 C.2.1 dX10_drawn_76 rfl (lv_at hl 0 rfl) ?_
        refine z_ifne C gx_1 (tgt := 83) dX10_drawn_77 (by decide) (fun hc77 => ?_) (fun hc77 => ?_)
        · rw [if_neg hc77] at h
          refine z_sipush C dX10_drawn_83 (by decide) ?_
          refine lv_istore C.1 C.2.1 (lv' := [(4, zI 4799), (3, zI x_1), (0, zR Ω 101), (1, zI x1), (2, zI x2)]) dX10_drawn_86 hl (by decide) rfl (fun ls hl => ?_)
          refine lv_aload_n C.1 C.2.1 dX10_drawn_88 rfl (lv_at hl 2 rfl) ?_
          refine lv_iload_n C.1 C.2.1 dX10_drawn_89 rfl (lv_at hl 3 rfl) ?_
          obtain ⟨μ_3, hq90, h⟩ := bnd_some h
          refine z_callV0 C X zk10 (hI.1 101 (by decide)) rfl (As := [zI x1]) (M_X10_makeSlot hI μ_2 x1 gx1 hq90) zc_X10_makeSlot kw_1493 (zroom (by decide) (by decide)) rfl hl.1 rfl (Nat.le_of_ble_eq_true rfl) dX10_drawn_90 ⟨Nat.zero_le _, Nat.zero_le _⟩ (fun H locs g_90 X => ?_)
          refine lv_aload_n C.1 C.2.1 dX10_drawn_93 rfl (lv_at hl 2 rfl) ?_
          refine lv_iload C.1 C.2.1 dX10_drawn_94 (lv_at hl 0 rfl) ?_
          obtain ⟨μ_4, hq96, h⟩ := bnd_some h
          refine z_callV0 C X zk10 (hI.1 101 (by decide)) rfl (As := [zI 4799]) (M_X10_list hI μ_3 4799 ⟨by decide, by decide⟩ hq96) zc_X10_list kw_1497 (zroom (by decide) (by decide)) rfl hl.1 rfl (Nat.le_of_ble_eq_true rfl) dX10_drawn_96 ⟨Nat.zero_le _, Nat.zero_le _⟩ (fun H locs g_96 X => ?_)
          refine lv_aload_n C.1 C.2.1 dX10_drawn_99 rfl (lv_at hl 2 rfl) ?_
          refine z_get C X zk10 (hI.1 101 (by decide)) rfl 54 (by decide) kw_1086 (zR Ω 156) (zfvF (off := 55) X.2.2.2 (hI.1 101 (by decide)) hI.2 rfl rfl (by decide)) dX10_drawn_100 ?_
          refine lv_iload C.1 C.2.1 dX10_drawn_103 (lv_at hl 0 rfl) ?_
          have g_105 : Rl (μ_4 156 4799) := zrg2 X.2.2.2 (hI.1 156 (by decide)) rfl
          refine z_lald C X (hI.1 156 (by decide)) rfl (by decide) dX10_drawn_105 ?_
          refine zlet_elim h (fun x_5 ex_5 h => ?_)
          have gx_5 : Rl x_5 := by rw [ex_5]; exact g_105
          refine z_lstore C ex_5 dX10_drawn_106 hl (by decide) (lv' := [(5, zJ x_5), (4, zI 4799), (3, zI x_1), (0, zR Ω 101), (1, zI x1), (2, zI x2)]) rfl (fun ls hl => ?_)
          clear ex_5
          refine lv_aload_n C.1 C.2.1 dX10_drawn_108 rfl (lv_at hl 3 rfl) ?_
          refine z_get C X zk10 (hI.1 101 (by decide)) rfl 55 (by decide) kw_1087 (zR Ω 157) (zfvF (off := 56) X.2.2.2 (hI.1 101 (by decide)) hI.2 rfl rfl (by decide)) dX10_drawn_109 ?_
          refine lv_iload C.1 C.2.1 dX10_drawn_112 (lv_at hl 1 rfl) ?_
          have g_114 : Rl (μ_4 157 4799) := zrg2 X.2.2.2 (hI.1 157 (by decide)) rfl
          refine z_lald C X (hI.1 157 (by decide)) rfl (by decide) dX10_drawn_114 ?_
          refine zlet_elim h (fun x_6 ex_6 h => ?_)
          have gx_6 : Rl x_6 := by rw [ex_6]; exact g_114
          refine z_lstore C ex_6 dX10_drawn_115 hl (by decide) (lv' := [(7, zJ x_6), (5, zJ x_5), (4, zI 4799), (3, zI x_1), (0, zR Ω 101), (1, zI x1), (2, zI x2)]) rfl (fun ls hl => ?_)
          clear ex_6
          refine lv_aload_n C.1 C.2.1 dX10_drawn_117 rfl (lv_at hl 4 rfl) ?_
          refine lv_iload_n C.1 C.2.1 dX10_drawn_118 rfl (lv_at hl 6 rfl) ?_
          obtain ⟨μ_7, hq119, h⟩ := bnd_some h
          refine z_callV0 C X zk10 (hI.1 101 (by decide)) rfl (As := [zI x2]) (M_X10_makeSlot hI μ_4 x2 gx2 hq119) zc_X10_makeSlot kw_1493 (zroom (by decide) (by decide)) rfl hl.1 rfl (Nat.le_of_ble_eq_true rfl) dX10_drawn_119 ⟨Nat.zero_le _, Nat.zero_le _⟩ (fun H locs g_119 X => ?_)
          refine lv_aload_n C.1 C.2.1 dX10_drawn_122 rfl (lv_at hl 4 rfl) ?_
          refine lv_iload C.1 C.2.1 dX10_drawn_123 (lv_at hl 2 rfl) ?_
          obtain ⟨μ_8, hq125, h⟩ := bnd_some h
          refine z_callV0 C X zk10 (hI.1 101 (by decide)) rfl (As := [zI 4799]) (M_X10_list hI μ_7 4799 ⟨by decide, by decide⟩ hq125) zc_X10_list kw_1497 (zroom (by decide) (by decide)) rfl hl.1 rfl (Nat.le_of_ble_eq_true rfl) dX10_drawn_125 ⟨Nat.zero_le _, Nat.zero_le _⟩ (fun H locs g_125 X => ?_)
          refine lv_aload_n C.1 C.2.1 dX10_drawn_128 rfl (lv_at hl 4 rfl) ?_
          refine z_get C X zk10 (hI.1 101 (by decide)) rfl 54 (by decide) kw_1086 (zR Ω 156) (zfvF (off := 55) X.2.2.2 (hI.1 101 (by decide)) hI.2 rfl rfl (by decide)) dX10_drawn_129 ?_
          refine lv_iload C.1 C.2.1 dX10_drawn_132 (lv_at hl 2 rfl) ?_
          have g_134 : Rl (μ_8 156 4799) := zrg2 X.2.2.2 (hI.1 156 (by decide)) rfl
          refine z_lald C X (hI.1 156 (by decide)) rfl (by decide) dX10_drawn_134 ?_
          refine zlet_elim h (fun x_9 ex_9 h => ?_)
          have gx_9 : Rl x_9 := by rw [ex_9]; exact g_134
          refine z_lstore C ex_9 dX10_drawn_135 hl (by decide) (lv' := [(9, zJ x_9), (7, zJ x_6), (5, zJ x_5), (4, zI 4799), (3, zI x_1), (0, zR Ω 101), (1, zI x1), (2, zI x2)]) rfl (fun ls hl => ?_)
          clear ex_9
          refine lv_aload_n C.1 C.2.1 dX10_drawn_137 rfl (lv_at hl 5 rfl) ?_
          refine z_get C X zk10 (hI.1 101 (by decide)) rfl 55 (by decide) kw_1087 (zR Ω 157) (zfvF (off := 56) X.2.2.2 (hI.1 101 (by decide)) hI.2 rfl rfl (by decide)) dX10_drawn_138 ?_
          refine lv_iload C.1 C.2.1 dX10_drawn_141 (lv_at hl 3 rfl) ?_
          have g_143 : Rl (μ_8 157 4799) := zrg2 X.2.2.2 (hI.1 157 (by decide)) rfl
          refine z_lald C X (hI.1 157 (by decide)) rfl (by decide) dX10_drawn_143 ?_
          refine zlet_elim h (fun x_10 ex_10 h => ?_)
          have gx_10 : Rl x_10 := by rw [ex_10]; exact g_143
          refine z_lstore C ex_10 dX10_drawn_144 hl (by decide) (lv' := [(11, zJ x_10), (9, zJ x_9), (7, zJ x_6), (5, zJ x_5), (4, zI 4799), (3, zI x_1), (0, zR Ω 101), (1, zI x1), (2, zI x2)]) rfl (fun ls hl => ?_)
          clear ex_10
          refine lv_lload C.1 C.2.1 dX10_drawn_146 (lv_at hl 3 rfl) ?_
          refine lv_lload C.1 C.2.1 dX10_drawn_148 (lv_at hl 1 rfl) ?_
          have K164 : ∀ (μ_11 : zMem) (H : Heap) (locs : List Loc) (ls : Array Slot), zX Ω μ_11 (zfree Ω) s.heap H locs → lv_has ls 15 [(0, zR Ω 101), (1, zI x1), (2, zI x2), (5, zJ x_5), (7, zJ x_6), (9, zJ x_9), (11, zJ x_10)] → (f_X10_drawn_J164 x1 x2 x_5 x_6 x_9 x_10) μ_11 = some (r, μ') → W p l e (zrm 4) s m args below meth c H locs 0 0 Q (F0 m 164 ls []) := by
            intro μ_11 H locs ls  X hl h
            unfold f_X10_drawn_J164 at h
            refine lv_aload_n C.1 C.2.1 dX10_drawn_164 rfl (lv_at hl 0 rfl) ?_
            refine lv_iload_n C.1 C.2.1 dX10_drawn_165 rfl (lv_at hl 1 rfl) ?_
            refine z_iconst C dX10_drawn_166 ?_
            obtain ⟨μ_12, hq167, h⟩ := bnd_some h
            refine z_callV0 C X zk10 (hI.1 101 (by decide)) rfl (As := [zI x1, zI 0]) (M_X10_layNext hI μ_11 x1 0 gx1 ⟨by decide, by decide⟩ hq167) zc_X10_layNext kw_1503 (zroom (by decide) (by decide)) rfl hl.1 rfl (Nat.le_of_ble_eq_true rfl) dX10_drawn_167 ⟨Nat.zero_le _, Nat.zero_le _⟩ (fun H locs g_167 X => ?_)
            refine lv_aload_n C.1 C.2.1 dX10_drawn_170 rfl (lv_at hl 0 rfl) ?_
            have g_171 : Rg (μ_12 101 53) := zrgf0 (ci := 10) X.2.2.2 (hI.1 101 (by decide)) rfl 53 rfl
            refine z_get C X zk10 (hI.1 101 (by decide)) rfl 53 (by decide) kw_1085 (zI (μ_12 101 53)) rfl dX10_drawn_171 ?_
            refine zlet_elim h (fun x_13 ex_13 h => ?_)
            have gx_13 : Rg x_13 := by rw [ex_13]; exact g_171
            refine z_istore C ex_13 dX10_drawn_174 hl (by decide) (lv' := [(13, zI x_13), (0, zR Ω 101), (1, zI x1), (2, zI x2), (5, zJ x_5), (7, zJ x_6), (9, zJ x_9), (11, zJ x_10)]) rfl (fun ls hl => ?_)
            clear ex_13
            refine lv_aload_n C.1 C.2.1 dX10_drawn_176 rfl (lv_at hl 1 rfl) ?_
            refine lv_iload_n C.1 C.2.1 dX10_drawn_177 rfl (lv_at hl 3 rfl) ?_
            refine z_sipush C dX10_drawn_178 (by decide) ?_
            obtain ⟨μ_14, hq181, h⟩ := bnd_some h
            refine z_callV0 C X zk10 (hI.1 101 (by decide)) rfl (As := [zI x2, zI 2400]) (M_X10_layNext hI μ_12 x2 2400 gx2 ⟨by decide, by decide⟩ hq181) zc_X10_layNext kw_1503 (zroom (by decide) (by decide)) rfl hl.1 rfl (Nat.le_of_ble_eq_true rfl) dX10_drawn_181 ⟨Nat.zero_le _, Nat.zero_le _⟩ (fun H locs g_181 X => ?_)
            refine lv_aload_n C.1 C.2.1 dX10_drawn_184 rfl (lv_at hl 1 rfl) ?_
            refine lv_lload C.1 C.2.1 dX10_drawn_185 (lv_at hl 6 rfl) ?_
            refine lv_lload C.1 C.2.1 dX10_drawn_187 (lv_at hl 7 rfl) ?_
            refine z_iconst C dX10_drawn_189 ?_
            refine lv_iload C.1 C.2.1 dX10_drawn_190 (lv_at hl 0 rfl) ?_
            obtain ⟨x_15, hq192, h⟩ := bnd_some h
            refine z_callV1 C X zk10 (hI.1 101 (by decide)) rfl (As := [zJ x_9, zJ x_10, zI 0, zI x_13]) (M_X10_isListed hI μ_14 x_9 x_10 0 x_13 gx_9 gx_10 ⟨by decide, by decide⟩ gx_13 hq192) zc_X10_isListed kw_1515 (zroom (by decide) (by decide)) rfl hl.1 rfl (Nat.le_of_ble_eq_true rfl) dX10_drawn_192 ⟨Nat.zero_le _, Nat.zero_le _⟩ (fun H locs g_192 X => ?_)
            refine z_ifne C (rgz g_192) (tgt := 216) dX10_drawn_195 (by decide) (fun hc195 => ?_) (fun hc195 => ?_)
            · rw [if_neg hc195] at h
              refine z_iconst C dX10_drawn_216 ?_
              obtain ⟨rfl, rfl⟩ := Prod.mk.inj (Option.some.inj h)
              exact rt X ⟨by decide, by decide⟩ dX10_drawn_217
            · rw [if_pos hc195] at h
              refine lv_aload_n C.1 C.2.1 dX10_drawn_198 rfl (lv_at hl 1 rfl) ?_
              refine lv_lload C.1 C.2.1 dX10_drawn_199 (lv_at hl 4 rfl) ?_
              refine lv_lload C.1 C.2.1 dX10_drawn_201 (lv_at hl 5 rfl) ?_
              refine z_sipush C dX10_drawn_203 (by decide) ?_
              refine lv_aload_n C.1 C.2.1 dX10_drawn_206 rfl (lv_at hl 1 rfl) ?_
              have g_207 : Rg (μ_14 101 53) := zrgf0 (ci := 10) X.2.2.2 (hI.1 101 (by decide)) rfl 53 rfl
              refine z_get C X zk10 (hI.1 101 (by decide)) rfl 53 (by decide) kw_1085 (zI (μ_14 101 53)) rfl dX10_drawn_207 ?_
              obtain ⟨x_16, hq210, h⟩ := bnd_some h
              refine z_callV1 C X zk10 (hI.1 101 (by decide)) rfl (As := [zJ x_5, zJ x_6, zI 2400, zI (μ_14 101 53)]) (M_X10_isListed hI μ_14 x_5 x_6 2400 (μ_14 101 53) gx_5 gx_6 ⟨by decide, by decide⟩ g_207 hq210) zc_X10_isListed kw_1515 (zroom (by decide) (by decide)) rfl hl.1 rfl (Nat.le_of_ble_eq_true rfl) dX10_drawn_210 ⟨Nat.zero_le _, Nat.zero_le _⟩ (fun H locs g_210 X => ?_)
              refine z_ifeq C (rgz g_210) (tgt := 218) dX10_drawn_213 (by decide) (fun hc213 => ?_) (fun hc213 => ?_)
              · rw [if_pos hc213] at h
                refine z_iconst C dX10_drawn_218 ?_
                refine lv_istore C.1 C.2.1 (lv' := [(14, zI 0), (13, zI x_13), (0, zR Ω 101), (1, zI x1), (2, zI x2), (5, zJ x_5), (7, zJ x_6), (9, zJ x_9), (11, zJ x_10)]) dX10_drawn_219 hl (by decide) rfl (fun ls hl => ?_)
                have L221 : ∀ (n221 : Nat) (x_17 : Int) (μ_18 : zMem) (H : Heap) (locs : List Loc) (ls : Array Slot), Rg x_17 → zX Ω μ_18 (zfree Ω) s.heap H locs → lv_has ls 15 [(0, zR Ω 101), (13, zI x_13), (14, zI x_17)] → (f_X10_drawn_L221 x_13 n221 x_17 μ_18) = some (r, μ') → W p l e (zrm 4) s m args below meth c H locs 0 0 Q (F0 m 221 ls []) := by
                  intro n221
                  induction n221 with
                  | zero =>
                    intro x_17 μ_18 H locs ls _ _ _ h
                    cases h
                  | succ n221 ih221 =>
                    intro x_17 μ_18 H locs ls gx_17 X hl h
                    unfold f_X10_drawn_L221 at h
                    refine lv_iload C.1 C.2.1 dX10_drawn_221 (lv_at hl 2 rfl) ?_
                    refine lv_iload C.1 C.2.1 dX10_drawn_223 (lv_at hl 1 rfl) ?_
                    refine z_icmpge C gx_17 gx_13 (tgt := 264) dX10_drawn_225 (by decide) (fun hc225 => ?_) (fun hc225 => ?_)
                    · rw [if_neg hc225] at h
                      refine z_bipush C dX10_drawn_264 (by decide) ?_
                      obtain ⟨rfl, rfl⟩ := Prod.mk.inj (Option.some.inj h)
                      exact rt X ⟨by decide, by decide⟩ dX10_drawn_266
                    · rw [if_pos hc225] at h
                      refine lv_aload_n C.1 C.2.1 dX10_drawn_228 rfl (lv_at hl 0 rfl) ?_
                      refine lv_aload_n C.1 C.2.1 dX10_drawn_229 rfl (lv_at hl 0 rfl) ?_
                      refine z_get C X zk10 (hI.1 101 (by decide)) rfl 54 (by decide) kw_1086 (zR Ω 156) (zfvF (off := 55) X.2.2.2 (hI.1 101 (by decide)) hI.2 rfl rfl (by decide)) dX10_drawn_230 ?_
                      refine lv_iload C.1 C.2.1 dX10_drawn_233 (lv_at hl 2 rfl) ?_
                      obtain ⟨hc235, h⟩ := chk_some h
                      have g_235 : Rl (μ_18 156 x_17) := zrg2 X.2.2.2 (hI.1 156 (by decide)) rfl
                      refine z_lald C X (hI.1 156 (by decide)) rfl hc235 dX10_drawn_235 ?_
                      refine lv_aload_n C.1 C.2.1 dX10_drawn_236 rfl (lv_at hl 0 rfl) ?_
                      refine z_get C X zk10 (hI.1 101 (by decide)) rfl 55 (by decide) kw_1087 (zR Ω 157) (zfvF (off := 56) X.2.2.2 (hI.1 101 (by decide)) hI.2 rfl rfl (by decide)) dX10_drawn_237 ?_
                      refine lv_iload C.1 C.2.1 dX10_drawn_240 (lv_at hl 2 rfl) ?_
                      obtain ⟨hc242, h⟩ := chk_some h
                      have g_242 : Rl (μ_18 157 x_17) := zrg2 X.2.2.2 (hI.1 157 (by decide)) rfl
                      refine z_lald C X (hI.1 157 (by decide)) rfl hc242 dX10_drawn_242 ?_
                      refine z_sipush C dX10_drawn_243 (by decide) ?_
                      refine lv_aload_n C.1 C.2.1 dX10_drawn_246 rfl (lv_at hl 0 rfl) ?_
                      have g_247 : Rg (μ_18 101 53) := zrgf0 (ci := 10) X.2.2.2 (hI.1 101 (by decide)) rfl 53 rfl
                      refine z_get C X zk10 (hI.1 101 (by decide)) rfl 53 (by decide) kw_1085 (zI (μ_18 101 53)) rfl dX10_drawn_247 ?_
                      obtain ⟨x_19, hq250, h⟩ := bnd_some h
                      refine z_callV1 C X zk10 (hI.1 101 (by decide)) rfl (As := [zJ (μ_18 156 x_17), zJ (μ_18 157 x_17), zI 2400, zI (μ_18 101 53)]) (M_X10_isListed hI μ_18 (μ_18 156 x_17) (μ_18 157 x_17) 2400 (μ_18 101 53) g_235 g_242 ⟨by decide, by decide⟩ g_247 hq250) zc_X10_isListed kw_1515 (zroom (by decide) (by decide)) rfl hl.1 rfl (Nat.le_of_ble_eq_true rfl) dX10_drawn_250 ⟨Nat.zero_le _, Nat.zero_le _⟩ (fun H locs g_250 X => ?_)
                      refine z_ifeq C (rgz g_250) (tgt := 258) dX10_drawn_253 (by decide) (fun hc253 => ?_) (fun hc253 => ?_)
                      · rw [if_pos hc253] at h
                        refine zlet_elim h (fun x_20 ex_20 h => ?_)
                        have gx_20 : Rg x_20 := by rw [ex_20]; exact Rg.w _
                        refine z_iinc C ex_20 dX10_drawn_258 hl (k := 2) rfl (by decide) (lv' := [(14, zI x_20), (0, zR Ω 101), (13, zI x_13)]) rfl (fun ls hl => ?_)
                        clear ex_20
                        refine lv_goto (tgt := 221) C.1 C.2.1 dX10_drawn_261 (by decide) ?_
                        exact ih221 x_20 μ_18 _ _ _ gx_20 X (lv_sub hl [1, 2, 0] rfl) h
                      · rw [if_neg hc253] at h
                        refine z_iconst C dX10_drawn_256 ?_
                        obtain ⟨rfl, rfl⟩ := Prod.mk.inj (Option.some.inj h)
                        exact rt X ⟨by decide, by decide⟩ dX10_drawn_257
                exact L221 zfu 0 μ_14 _ _ _ ⟨by decide, by decide⟩ X (lv_sub hl [2, 1, 0] rfl) h
              · rw [if_neg hc213] at h
                refine z_iconst C dX10_drawn_216 ?_
                obtain ⟨rfl, rfl⟩ := Prod.mk.inj (Option.some.inj h)
                exact rt X ⟨by decide, by decide⟩ dX10_drawn_217
          refine z_lne C gx_5 gx_9 (tgt := 164) dX10_drawn_150 dX10_drawn_151 (by decide) (fun hc150 => ?_) (fun hc150 => ?_)
          · rw [if_neg hc150] at h
            exact K164 μ_8 _ _ _ X (lv_sub hl [6, 7, 8, 3, 2, 1, 0] rfl) h
          · rw [if_pos hc150] at h
            refine lv_lload C.1 C.2.1 dX10_drawn_154 (lv_at hl 2 rfl) ?_
            refine lv_lload C.1 C.2.1 dX10_drawn_156 (lv_at hl 0 rfl) ?_
            refine z_lne C gx_6 gx_10 (tgt := 164) dX10_drawn_158 dX10_drawn_159 (by decide) (fun hc158 => ?_) (fun hc158 => ?_)
            · rw [if_neg hc158] at h
              exact K164 μ_8 _ _ _ X (lv_sub hl [6, 7, 8, 3, 2, 1, 0] rfl) h
            · rw [if_pos hc158] at h
              refine z_iconst C dX10_drawn_162 ?_
              obtain ⟨rfl, rfl⟩ := Prod.mk.inj (Option.some.inj h)
              exact rt X ⟨by decide, by decide⟩ dX10_drawn_163
        · rw [if_pos hc77] at h
          refine z_bipush C dX10_drawn_80 (by decide) ?_
          obtain ⟨rfl, rfl⟩ := Prod.mk.inj (Option.some.inj h)
          exact rt X ⟨by decide, by decide⟩ dX10_drawn_82
      have K74 : ∀ (μ_21 : zMem) (H : Heap) (locs : List Loc) (ls : Array Slot), zX Ω μ_21 (zfree Ω) s.heap H locs → lv_has ls 15 [(0, zR Ω 101), (1, zI x1), (2, zI x2)] → (f_X10_drawn_J74 (f_X10_drawn_J75 x1 x2)) μ_21 = some (r, μ') → W p l e (zrm 4) s m args below meth c H locs 0 0 Q (F0 m 74 ls []) := by
        intro μ_21 H locs ls  X hl h
        unfold f_X10_drawn_J74 at h
        refine z_iconst C dX10_drawn_74 ?_
        exact K75 0 μ_21 _ _ _ ⟨by decide, by decide⟩ X (lv_sub hl [0, 1, 2] rfl) h
      refine z_iflt C g_21 (tgt := 74) dX10_drawn_22 (by decide) (fun hc22 => ?_) (fun hc22 => ?_)
      · rw [if_pos hc22] at h
        exact K74 μ _ _ _ X (lv_sub hl [0, 1, 2] rfl) h
      · rw [if_neg hc22] at h
        refine lv_aload_n C.1 C.2.1 dX10_drawn_25 rfl (lv_at hl 0 rfl) ?_
        refine z_get C X zk10 (hI.1 101 (by decide)) rfl 46 (by decide) kw_1078 (zR Ω 148) (zfvF (off := 47) X.2.2.2 (hI.1 101 (by decide)) hI.2 rfl rfl (by decide)) dX10_drawn_26 ?_
        refine lv_iload_n C.1 C.2.1 dX10_drawn_29 rfl (lv_at hl 1 rfl) ?_
        obtain ⟨hc30, h⟩ := chk_some h
        have g_30 : Rg (μ 148 x1) := zrg1 X.2.2.2 (hI.1 148 (by decide)) rfl
        refine z_iald C X (hI.1 148 (by decide)) rfl hc30 dX10_drawn_30 ?_
        refine lv_aload_n C.1 C.2.1 dX10_drawn_31 rfl (lv_at hl 0 rfl) ?_
        refine z_get C X zk10 (hI.1 101 (by decide)) rfl 46 (by decide) kw_1078 (zR Ω 148) (zfvF (off := 47) X.2.2.2 (hI.1 101 (by decide)) hI.2 rfl rfl (by decide)) dX10_drawn_32 ?_
        refine lv_iload_n C.1 C.2.1 dX10_drawn_35 rfl (lv_at hl 2 rfl) ?_
        obtain ⟨hc36, h⟩ := chk_some h
        have g_36 : Rg (μ 148 x2) := zrg1 X.2.2.2 (hI.1 148 (by decide)) rfl
        refine z_iald C X (hI.1 148 (by decide)) rfl hc36 dX10_drawn_36 ?_
        refine z_icmpne C g_30 g_36 (tgt := 74) dX10_drawn_37 (by decide) (fun hc37 => ?_) (fun hc37 => ?_)
        · rw [if_neg hc37] at h
          exact K74 μ _ _ _ X (lv_sub hl [0, 1, 2] rfl) h
        · rw [if_pos hc37] at h
          refine lv_aload_n C.1 C.2.1 dX10_drawn_40 rfl (lv_at hl 0 rfl) ?_
          refine z_get C X zk10 (hI.1 101 (by decide)) rfl 48 (by decide) kw_1080 (zR Ω 150) (zfvF (off := 49) X.2.2.2 (hI.1 101 (by decide)) hI.2 rfl rfl (by decide)) dX10_drawn_41 ?_
          refine lv_iload_n C.1 C.2.1 dX10_drawn_44 rfl (lv_at hl 1 rfl) ?_
          obtain ⟨hc45, h⟩ := chk_some h
          have g_45 : Rg (μ 150 x1) := zrg1 X.2.2.2 (hI.1 150 (by decide)) rfl
          refine z_iald C X (hI.1 150 (by decide)) rfl hc45 dX10_drawn_45 ?_
          refine lv_aload_n C.1 C.2.1 dX10_drawn_46 rfl (lv_at hl 0 rfl) ?_
          refine z_get C X zk10 (hI.1 101 (by decide)) rfl 48 (by decide) kw_1080 (zR Ω 150) (zfvF (off := 49) X.2.2.2 (hI.1 101 (by decide)) hI.2 rfl rfl (by decide)) dX10_drawn_47 ?_
          refine lv_iload_n C.1 C.2.1 dX10_drawn_50 rfl (lv_at hl 2 rfl) ?_
          obtain ⟨hc51, h⟩ := chk_some h
          have g_51 : Rg (μ 150 x2) := zrg1 X.2.2.2 (hI.1 150 (by decide)) rfl
          refine z_iald C X (hI.1 150 (by decide)) rfl hc51 dX10_drawn_51 ?_
          refine z_icmpne C g_45 g_51 (tgt := 74) dX10_drawn_52 (by decide) (fun hc52 => ?_) (fun hc52 => ?_)
          · rw [if_neg hc52] at h
            exact K74 μ _ _ _ X (lv_sub hl [0, 1, 2] rfl) h
          · rw [if_pos hc52] at h
            refine lv_aload_n C.1 C.2.1 dX10_drawn_55 rfl (lv_at hl 0 rfl) ?_
            refine z_get C X zk10 (hI.1 101 (by decide)) rfl 49 (by decide) kw_1081 (zR Ω 151) (zfvF (off := 50) X.2.2.2 (hI.1 101 (by decide)) hI.2 rfl rfl (by decide)) dX10_drawn_56 ?_
            refine lv_iload_n C.1 C.2.1 dX10_drawn_59 rfl (lv_at hl 1 rfl) ?_
            obtain ⟨hc60, h⟩ := chk_some h
            have g_60 : Rg (μ 151 x1) := zrg1 X.2.2.2 (hI.1 151 (by decide)) rfl
            refine z_iald C X (hI.1 151 (by decide)) rfl hc60 dX10_drawn_60 ?_
            refine lv_aload_n C.1 C.2.1 dX10_drawn_61 rfl (lv_at hl 0 rfl) ?_
            refine z_get C X zk10 (hI.1 101 (by decide)) rfl 49 (by decide) kw_1081 (zR Ω 151) (zfvF (off := 50) X.2.2.2 (hI.1 101 (by decide)) hI.2 rfl rfl (by decide)) dX10_drawn_62 ?_
            refine lv_iload_n C.1 C.2.1 dX10_drawn_65 rfl (lv_at hl 2 rfl) ?_
            obtain ⟨hc66, h⟩ := chk_some h
            have g_66 : Rg (μ 151 x2) := zrg1 X.2.2.2 (hI.1 151 (by decide)) rfl
            refine z_iald C X (hI.1 151 (by decide)) rfl hc66 dX10_drawn_66 ?_
            refine z_icmpne C g_60 g_66 (tgt := 74) dX10_drawn_67 (by decide) (fun hc67 => ?_) (fun hc67 => ?_)
            · rw [if_neg hc67] at h
              exact K74 μ _ _ _ X (lv_sub hl [0, 1, 2] rfl) h
            · rw [if_pos hc67] at h
              refine z_iconst C dX10_drawn_70 ?_
              refine lv_goto (tgt := 75) C.1 C.2.1 dX10_drawn_71 (by decide) ?_
              exact K75 1 μ _ _ _ ⟨by decide, by decide⟩ X (lv_sub hl [0, 1, 2] rfl) h
    · rw [if_pos hc11] at h
      refine z_iconst C dX10_drawn_14 ?_
      obtain ⟨rfl, rfl⟩ := Prod.mk.inj (Option.some.inj h)
      exact rt X ⟨by decide, by decide⟩ dX10_drawn_15
theorem zc_X10_drawn : zcal yX10_drawn cX10_drawn 15 (some Jvm.ClassFile.FieldType.int) RX10 2 := ⟨⟨kw_1492, kw_1490, kw_1491, kw_12⟩, rfl, by decide, by decide, by decide +kernel⟩

def f_X10_areBits (x0 : Int) (x1 : Int) : Int :=
  if x0 < 0 then
    0
  else
    if x0 < (zshl 1 x1) then
      1
    else
      0
set_option maxHeartbeats 4000000 in
set_option maxRecDepth 100000 in
theorem M_X10_areBits {l : Launch} {Ω : zO} (hI : zIm Ω) (μ : zMem) (x0 : Int) (x1 : Int) (gx0 : Rg x0) (gx1 : Rg x1) : XMet l yX10_areBits cX10_areBits 2 (some Jvm.ClassFile.FieldType.boolean) 0 Ω [zI x0, zI x1] μ (some (zI (f_X10_areBits x0 x1))) (0 ≤ (f_X10_areBits x0 x1) ∧ (f_X10_areBits x0 x1) ≤ 1) μ := by
  obtain ⟨r, h⟩ : ∃ r, f_X10_areBits x0 x1 = r := ⟨_, rfl⟩
  rw [h]
  refine XMet.ofZ (by decide) (Nat.le_of_ble_eq_true rfl) ?_
  intro p e s m args below meth c ls Q C rt X hl
  have C : zC p s m args c cX10_areBits RX10 2 Ω := C
  have hl : lv_has ls 2 [(0, zI x0), (1, zI x1)] := hl
  unfold f_X10_areBits at h
  skip
  refine lv_iload_n C.1 C.2.1 dX10_areBits_0 rfl (lv_at hl 0 rfl) ?_
  refine z_iflt C gx0 (tgt := 15) dX10_areBits_1 (by decide) (fun hc1 => ?_) (fun hc1 => ?_)
  · rw [if_pos hc1] at h
    refine z_iconst C dX10_areBits_15 ?_
    subst h
    exact rt X ⟨by decide, by decide⟩ dX10_areBits_16
  · rw [if_neg hc1] at h
    refine lv_iload_n C.1 C.2.1 dX10_areBits_4 rfl (lv_at hl 0 rfl) ?_
    refine z_iconst C dX10_areBits_5 ?_
    refine lv_iload_n C.1 C.2.1 dX10_areBits_6 rfl (lv_at hl 1 rfl) ?_
    refine z_ishl C dX10_areBits_7 ?_
    refine z_icmpge C gx0 (Rg.t _) (tgt := 15) dX10_areBits_8 (by decide) (fun hc8 => ?_) (fun hc8 => ?_)
    · rw [if_neg hc8] at h
      refine z_iconst C dX10_areBits_15 ?_
      subst h
      exact rt X ⟨by decide, by decide⟩ dX10_areBits_16
    · rw [if_pos hc8] at h
      refine z_iconst C dX10_areBits_11 ?_
      refine lv_goto (tgt := 16) C.1 C.2.1 dX10_areBits_12 (by decide) ?_
      subst h
      exact rt X ⟨by decide, by decide⟩ dX10_areBits_16
theorem zc_X10_areBits : zcas yX10_areBits cX10_areBits 2 (some Jvm.ClassFile.FieldType.boolean) 2 := ⟨⟨kw_1525, kw_1524, kw_12⟩, by decide, by decide, by decide +kernel⟩

def f_X10_edgeOf (x0 : Int) : Int :=
  if x0 ≤ 0 then
    (zw ((zw (-x0)) - 1))
  else
    (zw (x0 - 1))
set_option maxHeartbeats 4000000 in
set_option maxRecDepth 100000 in
theorem M_X10_edgeOf {l : Launch} {Ω : zO} (hI : zIm Ω) (μ : zMem) (x0 : Int) (gx0 : Rg x0) : XMet l yX10_edgeOf cX10_edgeOf 1 (some Jvm.ClassFile.FieldType.int) 0 Ω [zI x0] μ (some (zI (f_X10_edgeOf x0))) (Rg (f_X10_edgeOf x0)) μ := by
  obtain ⟨r, h⟩ : ∃ r, f_X10_edgeOf x0 = r := ⟨_, rfl⟩
  rw [h]
  refine XMet.ofI (by decide) (Nat.le_of_ble_eq_true rfl) ?_
  intro p e s m args below meth c ls Q C rt X hl
  have C : zC p s m args c cX10_edgeOf RX10 1 Ω := C
  have hl : lv_has ls 1 [(0, zI x0)] := hl
  unfold f_X10_edgeOf at h
  skip
  refine lv_iload_n C.1 C.2.1 dX10_edgeOf_0 rfl (lv_at hl 0 rfl) ?_
  refine z_ifle C gx0 (tgt := 10) dX10_edgeOf_1 (by decide) (fun hc1 => ?_) (fun hc1 => ?_)
  · rw [if_pos hc1] at h
    refine lv_iload_n C.1 C.2.1 dX10_edgeOf_10 rfl (lv_at hl 0 rfl) ?_
    refine z_ineg C dX10_edgeOf_11 ?_
    refine z_iconst C dX10_edgeOf_12 ?_
    refine z_isub C dX10_edgeOf_13 ?_
    subst h
    exact rt X (Rg.w _) dX10_edgeOf_14
  · rw [if_neg hc1] at h
    refine lv_iload_n C.1 C.2.1 dX10_edgeOf_4 rfl (lv_at hl 0 rfl) ?_
    refine z_iconst C dX10_edgeOf_5 ?_
    refine z_isub C dX10_edgeOf_6 ?_
    refine lv_goto (tgt := 14) C.1 C.2.1 dX10_edgeOf_7 (by decide) ?_
    subst h
    exact rt X (Rg.w _) dX10_edgeOf_14
theorem zc_X10_edgeOf : zcas yX10_edgeOf cX10_edgeOf 1 (some Jvm.ClassFile.FieldType.int) 1 := ⟨⟨kw_1532, kw_1531, kw_12⟩, by decide, by decide, by decide +kernel⟩

def f_X10_oddFaces_K66 (x_1 : Int) (x_2 : Int) (g5 : Int → Int → Option Int) (x_3 : Int) : Option Int :=
  zlet ((zor x_1 (zshl (Int.tmod x_3 2) x_2))) fun x_4 =>
  zlet (zw (x_2 + 1)) fun x_5 =>
  g5 x_4 x_5
def f_X10_oddFaces_L22 (x1 : Int) (x2 : Int) (μ : zMem) (x_2 : Int) (g66 : Int → Option Int) : Nat → Int → Int → Option Int
  | 0, _, _ => none
  | n + 1, x_6, x_7 =>
    chk ((0 : Int) ≤ (zw ((zw (32 * x1)) + x_2)) ∧ (zw ((zw (32 * x1)) + x_2)) < 96) <|
    if x_7 < (μ 107 (zw ((zw (32 * x1)) + x_2))) then
      bnd (f_X10_rimAt x1 x_2 x_7 μ) fun x_8 =>
      zlet ((zw (x_6 + (zand (zshr x2 (f_X10_edgeOf x_8)) 1)))) fun x_9 =>
      zlet (zw (x_7 + 1)) fun x_10 =>
      (f_X10_oddFaces_L22 x1 x2 μ x_2 g66 n) x_9 x_10
    else
      g66 x_6
def f_X10_oddFaces_L5 (x1 : Int) (x2 : Int) (μ : zMem) : Nat → Int → Int → Option Int
  | 0, _, _ => none
  | n + 1, x_1, x_2 =>
    chk ((0 : Int) ≤ x1 ∧ x1 < 3) <|
    if x_2 < (μ 104 x1) then
      (f_X10_oddFaces_L22 x1 x2 μ x_2 (f_X10_oddFaces_K66 x_1 x_2 (f_X10_oddFaces_L5 x1 x2 μ n))) zfu 0 0
    else
      some x_1
def f_X10_oddFaces (x1 : Int) (x2 : Int) (μ : zMem) : Option Int :=
  (f_X10_oddFaces_L5 x1 x2 μ) zfu 0 0
set_option maxHeartbeats 4000000 in
set_option maxRecDepth 100000 in
theorem M_X10_oddFaces {l : Launch} {Ω : zO} (hI : zIm Ω) (μ : zMem) (x1 : Int) (x2 : Int) {r : Int} (gx1 : Rg x1) (gx2 : Rg x2) (h : f_X10_oddFaces x1 x2 μ = some r) : XMet l yX10_oddFaces cX10_oddFaces 7 (some Jvm.ClassFile.FieldType.int) 1 Ω [zR Ω 101, zI x1, zI x2] μ (some (zI r)) (Rg r) μ := by
  refine XMet.ofI (by decide) (Nat.le_of_ble_eq_true rfl) ?_
  intro p e s m args below meth c ls Q C rt X hl
  have C : zC p s m args c cX10_oddFaces RX10 7 Ω := C
  have hl : lv_has ls 7 [(0, zR Ω 101), (1, zI x1), (2, zI x2)] := hl
  unfold f_X10_oddFaces at h
  skip
  refine z_iconst C dX10_oddFaces_0 ?_
  refine lv_istore_n C.1 C.2.1 (lv' := [(3, zI 0), (0, zR Ω 101), (1, zI x1), (2, zI x2)]) dX10_oddFaces_1 rfl hl (by decide) rfl (fun ls hl => ?_)
  refine z_iconst C dX10_oddFaces_2 ?_
  refine lv_istore C.1 C.2.1 (lv' := [(4, zI 0), (3, zI 0), (0, zR Ω 101), (1, zI x1), (2, zI x2)]) dX10_oddFaces_3 hl (by decide) rfl (fun ls hl => ?_)
  have L5 : ∀ (n5 : Nat) (x_1 : Int) (x_2 : Int) (H : Heap) (locs : List Loc) (ls : Array Slot), Rg x_1 → Rg x_2 → zX Ω μ (zfree Ω) s.heap H locs → lv_has ls 7 [(0, zR Ω 101), (1, zI x1), (2, zI x2), (3, zI x_1), (4, zI x_2)] → (f_X10_oddFaces_L5 x1 x2 μ n5 x_1 x_2) = some r → W p l e (zrm 1) s m args below meth c H locs 0 0 Q (F0 m 5 ls []) := by
    intro n5
    induction n5 with
    | zero =>
      intro x_1 x_2 H locs ls _ _ _ _ h
      cases h
    | succ n5 ih5 =>
      intro x_1 x_2 H locs ls gx_1 gx_2 X hl h
      unfold f_X10_oddFaces_L5 at h
      refine lv_iload C.1 C.2.1 dX10_oddFaces_5 (lv_at hl 4 rfl) ?_
      refine lv_aload_n C.1 C.2.1 dX10_oddFaces_7 rfl (lv_at hl 0 rfl) ?_
      refine z_get C X zk10 (hI.1 101 (by decide)) rfl 2 (by decide) kw_1034 (zR Ω 104) (zfvF (off := 3) X.2.2.2 (hI.1 101 (by decide)) hI.2 rfl rfl (by decide)) dX10_oddFaces_8 ?_
      refine lv_iload_n C.1 C.2.1 dX10_oddFaces_11 rfl (lv_at hl 1 rfl) ?_
      obtain ⟨hc12, h⟩ := chk_some h
      have g_12 : Rg (μ 104 x1) := zrg1 X.2.2.2 (hI.1 104 (by decide)) rfl
      refine z_iald C X (hI.1 104 (by decide)) rfl hc12 dX10_oddFaces_12 ?_
      refine z_icmpge C gx_2 g_12 (tgt := 82) dX10_oddFaces_13 (by decide) (fun hc13 => ?_) (fun hc13 => ?_)
      · rw [if_neg hc13] at h
        refine lv_iload_n C.1 C.2.1 dX10_oddFaces_82 rfl (lv_at hl 3 rfl) ?_
        obtain rfl := Option.some.inj h
        exact rt X gx_1 dX10_oddFaces_83
      · rw [if_pos hc13] at h
        refine z_iconst C dX10_oddFaces_16 ?_
        refine lv_istore C.1 C.2.1 (lv' := [(5, zI 0), (0, zR Ω 101), (1, zI x1), (2, zI x2), (3, zI x_1), (4, zI x_2)]) dX10_oddFaces_17 hl (by decide) rfl (fun ls hl => ?_)
        refine z_iconst C dX10_oddFaces_19 ?_
        refine lv_istore C.1 C.2.1 (lv' := [(6, zI 0), (5, zI 0), (0, zR Ω 101), (1, zI x1), (2, zI x2), (3, zI x_1), (4, zI x_2)]) dX10_oddFaces_20 hl (by decide) rfl (fun ls hl => ?_)
        have K66 : ∀ (x_3 : Int) (H : Heap) (locs : List Loc) (ls : Array Slot), Rg x_3 → zX Ω μ (zfree Ω) s.heap H locs → lv_has ls 7 [(0, zR Ω 101), (1, zI x1), (2, zI x2), (3, zI x_1), (4, zI x_2), (5, zI x_3)] → (f_X10_oddFaces_K66 x_1 x_2 (f_X10_oddFaces_L5 x1 x2 μ n5)) x_3 = some r → W p l e (zrm 1) s m args below meth c H locs 0 0 Q (F0 m 66 ls []) := by
          intro x_3 H locs ls gx_3 X hl h
          unfold f_X10_oddFaces_K66 at h
          refine lv_iload_n C.1 C.2.1 dX10_oddFaces_66 rfl (lv_at hl 3 rfl) ?_
          refine lv_iload C.1 C.2.1 dX10_oddFaces_67 (lv_at hl 5 rfl) ?_
          refine z_iconst C dX10_oddFaces_69 ?_
          refine z_irem C gx_3 ⟨by decide, by decide⟩ (by decide) dX10_oddFaces_70 ?_
          refine lv_iload C.1 C.2.1 dX10_oddFaces_71 (lv_at hl 4 rfl) ?_
          refine z_ishl C dX10_oddFaces_73 ?_
          refine z_ior C dX10_oddFaces_74 ?_
          refine zlet_elim h (fun x_4 ex_4 h => ?_)
          have gx_4 : Rg x_4 := by rw [ex_4]; exact (Rg.t _)
          refine z_istore_n C ex_4 dX10_oddFaces_75 rfl hl (by decide) (lv' := [(3, zI x_4), (0, zR Ω 101), (1, zI x1), (2, zI x2), (4, zI x_2), (5, zI x_3)]) rfl (fun ls hl => ?_)
          clear ex_4
          refine zlet_elim h (fun x_5 ex_5 h => ?_)
          have gx_5 : Rg x_5 := by rw [ex_5]; exact Rg.w _
          refine z_iinc C ex_5 dX10_oddFaces_76 hl (k := 4) rfl (by decide) (lv' := [(4, zI x_5), (3, zI x_4), (0, zR Ω 101), (1, zI x1), (2, zI x2), (5, zI x_3)]) rfl (fun ls hl => ?_)
          clear ex_5
          refine lv_goto (tgt := 5) C.1 C.2.1 dX10_oddFaces_79 (by decide) ?_
          exact ih5 x_4 x_5 _ _ _ gx_4 gx_5 X (lv_sub hl [2, 3, 4, 1, 0] rfl) h
        have L22 : ∀ (n22 : Nat) (x_6 : Int) (x_7 : Int) (H : Heap) (locs : List Loc) (ls : Array Slot), Rg x_6 → Rg x_7 → zX Ω μ (zfree Ω) s.heap H locs → lv_has ls 7 [(0, zR Ω 101), (1, zI x1), (2, zI x2), (3, zI x_1), (4, zI x_2), (5, zI x_6), (6, zI x_7)] → (f_X10_oddFaces_L22 x1 x2 μ x_2 (f_X10_oddFaces_K66 x_1 x_2 (f_X10_oddFaces_L5 x1 x2 μ n5)) n22 x_6 x_7) = some r → W p l e (zrm 1) s m args below meth c H locs 0 0 Q (F0 m 22 ls []) := by
          intro n22
          induction n22 with
          | zero =>
            intro x_6 x_7 H locs ls _ _ _ _ h
            cases h
          | succ n22 ih22 =>
            intro x_6 x_7 H locs ls gx_6 gx_7 X hl h
            unfold f_X10_oddFaces_L22 at h
            refine lv_iload C.1 C.2.1 dX10_oddFaces_22 (lv_at hl 6 rfl) ?_
            refine lv_aload_n C.1 C.2.1 dX10_oddFaces_24 rfl (lv_at hl 0 rfl) ?_
            refine z_get C X zk10 (hI.1 101 (by decide)) rfl 5 (by decide) kw_1037 (zR Ω 107) (zfvF (off := 6) X.2.2.2 (hI.1 101 (by decide)) hI.2 rfl rfl (by decide)) dX10_oddFaces_25 ?_
            refine z_bipush C dX10_oddFaces_28 (by decide) ?_
            refine lv_iload_n C.1 C.2.1 dX10_oddFaces_30 rfl (lv_at hl 1 rfl) ?_
            refine z_imul C dX10_oddFaces_31 ?_
            refine lv_iload C.1 C.2.1 dX10_oddFaces_32 (lv_at hl 4 rfl) ?_
            refine z_iadd C dX10_oddFaces_34 ?_
            obtain ⟨hc35, h⟩ := chk_some h
            have g_35 : Rg (μ 107 (zw ((zw (32 * x1)) + x_2))) := zrg1 X.2.2.2 (hI.1 107 (by decide)) rfl
            refine z_iald C X (hI.1 107 (by decide)) rfl hc35 dX10_oddFaces_35 ?_
            refine z_icmpge C gx_7 g_35 (tgt := 66) dX10_oddFaces_36 (by decide) (fun hc36 => ?_) (fun hc36 => ?_)
            · rw [if_neg hc36] at h
              exact K66 x_6 _ _ _ gx_6 X (lv_sub hl [0, 1, 2, 3, 4, 5] rfl) h
            · rw [if_pos hc36] at h
              refine lv_iload C.1 C.2.1 dX10_oddFaces_39 (lv_at hl 5 rfl) ?_
              refine lv_iload_n C.1 C.2.1 dX10_oddFaces_41 rfl (lv_at hl 2 rfl) ?_
              refine lv_aload_n C.1 C.2.1 dX10_oddFaces_42 rfl (lv_at hl 0 rfl) ?_
              refine lv_iload_n C.1 C.2.1 dX10_oddFaces_43 rfl (lv_at hl 1 rfl) ?_
              refine lv_iload C.1 C.2.1 dX10_oddFaces_44 (lv_at hl 4 rfl) ?_
              refine lv_iload C.1 C.2.1 dX10_oddFaces_46 (lv_at hl 6 rfl) ?_
              obtain ⟨x_8, hq48, h⟩ := bnd_some h
              refine z_callV1 C X zk10 (hI.1 101 (by decide)) rfl (As := [zI x1, zI x_2, zI x_7]) (M_X10_rimAt hI μ x1 x_2 x_7 gx1 gx_2 gx_7 hq48) zc_X10_rimAt kw_1321 (zroom (by decide) (by decide)) rfl hl.1 rfl (Nat.le_of_ble_eq_true rfl) dX10_oddFaces_48 ⟨Nat.zero_le _, Nat.zero_le _⟩ (fun H locs g_48 X => ?_)
              refine z_callS1 C X (As := [zI x_8]) (M_X10_edgeOf hI μ x_8 g_48) zc_X10_edgeOf kw_1530 (zroom (by decide) (by decide)) rfl hl.1 rfl (Nat.le_of_ble_eq_true rfl) dX10_oddFaces_51 ⟨Nat.zero_le _, Nat.zero_le _⟩ (fun H locs g_51 X => ?_)
              refine z_ishr C dX10_oddFaces_54 ?_
              refine z_iconst C dX10_oddFaces_55 ?_
              refine z_iand C dX10_oddFaces_56 ?_
              refine z_iadd C dX10_oddFaces_57 ?_
              refine zlet_elim h (fun x_9 ex_9 h => ?_)
              have gx_9 : Rg x_9 := by rw [ex_9]; exact (Rg.w _)
              refine z_istore C ex_9 dX10_oddFaces_58 hl (by decide) (lv' := [(5, zI x_9), (0, zR Ω 101), (1, zI x1), (2, zI x2), (3, zI x_1), (4, zI x_2), (6, zI x_7)]) rfl (fun ls hl => ?_)
              clear ex_9
              refine zlet_elim h (fun x_10 ex_10 h => ?_)
              have gx_10 : Rg x_10 := by rw [ex_10]; exact Rg.w _
              refine z_iinc C ex_10 dX10_oddFaces_60 hl (k := 6) rfl (by decide) (lv' := [(6, zI x_10), (5, zI x_9), (0, zR Ω 101), (1, zI x1), (2, zI x2), (3, zI x_1), (4, zI x_2)]) rfl (fun ls hl => ?_)
              clear ex_10
              refine lv_goto (tgt := 22) C.1 C.2.1 dX10_oddFaces_63 (by decide) ?_
              exact ih22 x_9 x_10 _ _ _ gx_9 gx_10 X (lv_sub hl [2, 3, 4, 5, 6, 1, 0] rfl) h
        exact L22 zfu 0 0 _ _ _ ⟨by decide, by decide⟩ ⟨by decide, by decide⟩ X (lv_sub hl [2, 3, 4, 5, 6, 1, 0] rfl) h
  exact L5 zfu 0 0 _ _ _ ⟨by decide, by decide⟩ ⟨by decide, by decide⟩ X (lv_sub hl [2, 3, 4, 1, 0] rfl) h
theorem zc_X10_oddFaces : zcal yX10_oddFaces cX10_oddFaces 7 (some Jvm.ClassFile.FieldType.int) RX10 2 := ⟨⟨kw_1529, kw_1528, kp_100, kw_12⟩, rfl, by decide, by decide, by decide +kernel⟩

def f_X10_product_K181 (x_3 : Int) (x_4 : Int) (g62 : Int → Int → Option Int) (x_5 : Int) : Option Int :=
  zlet ((zor x_3 (zshl (Int.tmod x_5 2) x_4))) fun x_6 =>
  zlet (zw (x_4 + 1)) fun x_7 =>
  g62 x_6 x_7
def f_X10_product_J165 (x_9 : Int) (x_10 : Int) (x_12 : Int) (x_15 : Int) (g82 : Int → Int → Int → Option Int) (x_16 : Int) : Option Int :=
  zlet ((zw (x_15 + x_16))) fun x_17 =>
  zlet ((zw (x_9 + x_12))) fun x_18 =>
  zlet (zw (x_10 + 1)) fun x_19 =>
  g82 x_17 x_18 x_19
def f_X10_product_J146 (x_8 : Int) (x_9 : Int) (x_10 : Int) (x_11 : Int) (x_12 : Int) (x_13 : Int) (g82 : Int → Int → Int → Option Int) (x_14 : Int) : Option Int :=
  zlet ((zw (x_8 + x_14))) fun x_15 =>
  (f_X10_product_J165 x_9 x_10 x_12 x_15 g82) (if x_11 < 0 then (zw (x_12 * x_13)) else 0)
def f_X10_product_L82 (x1 : Int) (x2 : Int) (x3 : Int) (μ : zMem) (x_4 : Int) (g181 : Int → Option Int) : Nat → Int → Int → Int → Option Int
  | 0, _, _, _ => none
  | n + 1, x_8, x_9, x_10 =>
    chk ((0 : Int) ≤ (zw ((zw (32 * x1)) + x_4)) ∧ (zw ((zw (32 * x1)) + x_4)) < 96) <|
    if x_10 < (μ 107 (zw ((zw (32 * x1)) + x_4))) then
      bnd (f_X10_rimAt x1 x_4 x_10 μ) fun x_11 =>
      zlet ((zand (zshr x2 (f_X10_edgeOf x_11)) 1)) fun x_12 =>
      zlet ((zand (zshr x3 (f_X10_edgeOf x_11)) 1)) fun x_13 =>
      (f_X10_product_J146 x_8 x_9 x_10 x_11 x_12 x_13 (f_X10_product_L82 x1 x2 x3 μ x_4 g181 n)) (if x_13 = 1 then x_9 else 0)
    else
      g181 x_8
def f_X10_product_L62 (x1 : Int) (x2 : Int) (x3 : Int) (μ : zMem) : Nat → Int → Int → Option Int
  | 0, _, _ => none
  | n + 1, x_3, x_4 =>
    chk ((0 : Int) ≤ x1 ∧ x1 < 3) <|
    if x_4 < (μ 104 x1) then
      (f_X10_product_L82 x1 x2 x3 μ x_4 (f_X10_product_K181 x_3 x_4 (f_X10_product_L62 x1 x2 x3 μ n))) zfu 0 0 0
    else
      some x_3
def f_X10_product (x1 : Int) (x2 : Int) (x3 : Int) (μ : zMem) : Option Int :=
  if (f_X10_isSpace x1) = 0 then
    some (-1)
  else
    chk ((0 : Int) ≤ x1 ∧ x1 < 3) <|
    if (f_X10_areBits x2 (μ 103 x1)) = 0 then
      some (-1)
    else
      chk ((0 : Int) ≤ x1 ∧ x1 < 3) <|
      if (f_X10_areBits x3 (μ 103 x1)) = 0 then
        some (-1)
      else
        bnd (f_X10_oddFaces x1 x2 μ) fun x_1 =>
        if x_1 = 0 then
          bnd (f_X10_oddFaces x1 x3 μ) fun x_2 =>
          if x_2 = 0 then
            (f_X10_product_L62 x1 x2 x3 μ) zfu 0 0
          else
            some (-2)
        else
          some (-2)
set_option maxHeartbeats 4000000 in
set_option maxRecDepth 100000 in
theorem M_X10_product {l : Launch} {Ω : zO} (hI : zIm Ω) (μ : zMem) (x1 : Int) (x2 : Int) (x3 : Int) {r : Int} (gx1 : Rg x1) (gx2 : Rg x2) (gx3 : Rg x3) (h : f_X10_product x1 x2 x3 μ = some r) : XMet l yX10_product cX10_product 12 (some Jvm.ClassFile.FieldType.int) 2 Ω [zR Ω 101, zI x1, zI x2, zI x3] μ (some (zI r)) (Rg r) μ := by
  refine XMet.ofI (by decide) (Nat.le_of_ble_eq_true rfl) ?_
  intro p e s m args below meth c ls Q C rt X hl
  have C : zC p s m args c cX10_product RX10 12 Ω := C
  have hl : lv_has ls 12 [(0, zR Ω 101), (1, zI x1), (2, zI x2), (3, zI x3)] := hl
  unfold f_X10_product at h
  skip
  refine lv_iload_n C.1 C.2.1 dX10_product_0 rfl (lv_at hl 1 rfl) ?_
  refine z_callS1 C X (As := [zI x1]) (M_X10_isSpace hI μ x1 gx1) zc_X10_isSpace kw_1214 (zroom (by decide) (by decide)) rfl hl.1 rfl (Nat.le_of_ble_eq_true rfl) dX10_product_1 ⟨Nat.zero_le _, Nat.zero_le _⟩ (fun H locs g_1 X => ?_)
  refine z_ifeq C (rgz g_1) (tgt := 33) dX10_product_4 (by decide) (fun hc4 => ?_) (fun hc4 => ?_)
  · rw [if_pos hc4] at h
    refine z_iconst C dX10_product_33 ?_
    obtain rfl := Option.some.inj h
    exact rt X ⟨by decide, by decide⟩ dX10_product_34
  · rw [if_neg hc4] at h
    refine lv_iload_n C.1 C.2.1 dX10_product_7 rfl (lv_at hl 2 rfl) ?_
    refine lv_aload_n C.1 C.2.1 dX10_product_8 rfl (lv_at hl 0 rfl) ?_
    refine z_get C X zk10 (hI.1 101 (by decide)) rfl 1 (by decide) kw_1033 (zR Ω 103) (zfvF (off := 2) X.2.2.2 (hI.1 101 (by decide)) hI.2 rfl rfl (by decide)) dX10_product_9 ?_
    refine lv_iload_n C.1 C.2.1 dX10_product_12 rfl (lv_at hl 1 rfl) ?_
    obtain ⟨hc13, h⟩ := chk_some h
    have g_13 : Rg (μ 103 x1) := zrg1 X.2.2.2 (hI.1 103 (by decide)) rfl
    refine z_iald C X (hI.1 103 (by decide)) rfl hc13 dX10_product_13 ?_
    refine z_callS1 C X (As := [zI x2, zI (μ 103 x1)]) (M_X10_areBits hI μ x2 (μ 103 x1) gx2 g_13) zc_X10_areBits kw_1523 (zroom (by decide) (by decide)) rfl hl.1 rfl (Nat.le_of_ble_eq_true rfl) dX10_product_14 ⟨Nat.zero_le _, Nat.zero_le _⟩ (fun H locs g_14 X => ?_)
    refine z_ifeq C (rgz g_14) (tgt := 33) dX10_product_17 (by decide) (fun hc17 => ?_) (fun hc17 => ?_)
    · rw [if_pos hc17] at h
      refine z_iconst C dX10_product_33 ?_
      obtain rfl := Option.some.inj h
      exact rt X ⟨by decide, by decide⟩ dX10_product_34
    · rw [if_neg hc17] at h
      refine lv_iload_n C.1 C.2.1 dX10_product_20 rfl (lv_at hl 3 rfl) ?_
      refine lv_aload_n C.1 C.2.1 dX10_product_21 rfl (lv_at hl 0 rfl) ?_
      refine z_get C X zk10 (hI.1 101 (by decide)) rfl 1 (by decide) kw_1033 (zR Ω 103) (zfvF (off := 2) X.2.2.2 (hI.1 101 (by decide)) hI.2 rfl rfl (by decide)) dX10_product_22 ?_
      refine lv_iload_n C.1 C.2.1 dX10_product_25 rfl (lv_at hl 1 rfl) ?_
      obtain ⟨hc26, h⟩ := chk_some h
      have g_26 : Rg (μ 103 x1) := zrg1 X.2.2.2 (hI.1 103 (by decide)) rfl
      refine z_iald C X (hI.1 103 (by decide)) rfl hc26 dX10_product_26 ?_
      refine z_callS1 C X (As := [zI x3, zI (μ 103 x1)]) (M_X10_areBits hI μ x3 (μ 103 x1) gx3 g_26) zc_X10_areBits kw_1523 (zroom (by decide) (by decide)) rfl hl.1 rfl (Nat.le_of_ble_eq_true rfl) dX10_product_27 ⟨Nat.zero_le _, Nat.zero_le _⟩ (fun H locs g_27 X => ?_)
      refine z_ifne C (rgz g_27) (tgt := 35) dX10_product_30 (by decide) (fun hc30 => ?_) (fun hc30 => ?_)
      · rw [if_neg hc30] at h
        refine lv_aload_n C.1 C.2.1 dX10_product_35 rfl (lv_at hl 0 rfl) ?_
        refine lv_iload_n C.1 C.2.1 dX10_product_36 rfl (lv_at hl 1 rfl) ?_
        refine lv_iload_n C.1 C.2.1 dX10_product_37 rfl (lv_at hl 2 rfl) ?_
        obtain ⟨x_1, hq38, h⟩ := bnd_some h
        refine z_callV1 C X zk10 (hI.1 101 (by decide)) rfl (As := [zI x1, zI x2]) (M_X10_oddFaces hI μ x1 x2 gx1 gx2 hq38) zc_X10_oddFaces kw_1526 (zroom (by decide) (by decide)) rfl hl.1 rfl (Nat.le_of_ble_eq_true rfl) dX10_product_38 ⟨Nat.zero_le _, Nat.zero_le _⟩ (fun H locs g_38 X => ?_)
        refine z_ifne C g_38 (tgt := 53) dX10_product_41 (by decide) (fun hc41 => ?_) (fun hc41 => ?_)
        · rw [if_neg hc41] at h
          refine z_bipush C dX10_product_53 (by decide) ?_
          obtain rfl := Option.some.inj h
          exact rt X ⟨by decide, by decide⟩ dX10_product_55
        · rw [if_pos hc41] at h
          refine lv_aload_n C.1 C.2.1 dX10_product_44 rfl (lv_at hl 0 rfl) ?_
          refine lv_iload_n C.1 C.2.1 dX10_product_45 rfl (lv_at hl 1 rfl) ?_
          refine lv_iload_n C.1 C.2.1 dX10_product_46 rfl (lv_at hl 3 rfl) ?_
          obtain ⟨x_2, hq47, h⟩ := bnd_some h
          refine z_callV1 C X zk10 (hI.1 101 (by decide)) rfl (As := [zI x1, zI x3]) (M_X10_oddFaces hI μ x1 x3 gx1 gx3 hq47) zc_X10_oddFaces kw_1526 (zroom (by decide) (by decide)) rfl hl.1 rfl (Nat.le_of_ble_eq_true rfl) dX10_product_47 ⟨Nat.zero_le _, Nat.zero_le _⟩ (fun H locs g_47 X => ?_)
          refine z_ifeq C g_47 (tgt := 56) dX10_product_50 (by decide) (fun hc50 => ?_) (fun hc50 => ?_)
          · rw [if_pos hc50] at h
            refine z_iconst C dX10_product_56 ?_
            refine lv_istore C.1 C.2.1 (lv' := [(4, zI 0), (0, zR Ω 101), (1, zI x1), (2, zI x2), (3, zI x3)]) dX10_product_57 hl (by decide) rfl (fun ls hl => ?_)
            refine z_iconst C dX10_product_59 ?_
            refine lv_istore C.1 C.2.1 (lv' := [(5, zI 0), (4, zI 0), (0, zR Ω 101), (1, zI x1), (2, zI x2), (3, zI x3)]) dX10_product_60 hl (by decide) rfl (fun ls hl => ?_)
            have L62 : ∀ (n62 : Nat) (x_3 : Int) (x_4 : Int) (H : Heap) (locs : List Loc) (ls : Array Slot), Rg x_3 → Rg x_4 → zX Ω μ (zfree Ω) s.heap H locs → lv_has ls 12 [(0, zR Ω 101), (1, zI x1), (2, zI x2), (3, zI x3), (4, zI x_3), (5, zI x_4)] → (f_X10_product_L62 x1 x2 x3 μ n62 x_3 x_4) = some r → W p l e (zrm 2) s m args below meth c H locs 0 0 Q (F0 m 62 ls []) := by
              intro n62
              induction n62 with
              | zero =>
                intro x_3 x_4 H locs ls _ _ _ _ h
                cases h
              | succ n62 ih62 =>
                intro x_3 x_4 H locs ls gx_3 gx_4 X hl h
                unfold f_X10_product_L62 at h
                refine lv_iload C.1 C.2.1 dX10_product_62 (lv_at hl 5 rfl) ?_
                refine lv_aload_n C.1 C.2.1 dX10_product_64 rfl (lv_at hl 0 rfl) ?_
                refine z_get C X zk10 (hI.1 101 (by decide)) rfl 2 (by decide) kw_1034 (zR Ω 104) (zfvF (off := 3) X.2.2.2 (hI.1 101 (by decide)) hI.2 rfl rfl (by decide)) dX10_product_65 ?_
                refine lv_iload_n C.1 C.2.1 dX10_product_68 rfl (lv_at hl 1 rfl) ?_
                obtain ⟨hc69, h⟩ := chk_some h
                have g_69 : Rg (μ 104 x1) := zrg1 X.2.2.2 (hI.1 104 (by decide)) rfl
                refine z_iald C X (hI.1 104 (by decide)) rfl hc69 dX10_product_69 ?_
                refine z_icmpge C gx_4 g_69 (tgt := 199) dX10_product_70 (by decide) (fun hc70 => ?_) (fun hc70 => ?_)
                · rw [if_neg hc70] at h
                  refine lv_iload C.1 C.2.1 dX10_product_199 (lv_at hl 4 rfl) ?_
                  obtain rfl := Option.some.inj h
                  exact rt X gx_3 dX10_product_201
                · rw [if_pos hc70] at h
                  refine z_iconst C dX10_product_73 ?_
                  refine lv_istore C.1 C.2.1 (lv' := [(6, zI 0), (0, zR Ω 101), (1, zI x1), (2, zI x2), (3, zI x3), (4, zI x_3), (5, zI x_4)]) dX10_product_74 hl (by decide) rfl (fun ls hl => ?_)
                  refine z_iconst C dX10_product_76 ?_
                  refine lv_istore C.1 C.2.1 (lv' := [(7, zI 0), (6, zI 0), (0, zR Ω 101), (1, zI x1), (2, zI x2), (3, zI x3), (4, zI x_3), (5, zI x_4)]) dX10_product_77 hl (by decide) rfl (fun ls hl => ?_)
                  refine z_iconst C dX10_product_79 ?_
                  refine lv_istore C.1 C.2.1 (lv' := [(8, zI 0), (7, zI 0), (6, zI 0), (0, zR Ω 101), (1, zI x1), (2, zI x2), (3, zI x3), (4, zI x_3), (5, zI x_4)]) dX10_product_80 hl (by decide) rfl (fun ls hl => ?_)
                  have K181 : ∀ (x_5 : Int) (H : Heap) (locs : List Loc) (ls : Array Slot), Rg x_5 → zX Ω μ (zfree Ω) s.heap H locs → lv_has ls 12 [(0, zR Ω 101), (1, zI x1), (2, zI x2), (3, zI x3), (4, zI x_3), (5, zI x_4), (6, zI x_5)] → (f_X10_product_K181 x_3 x_4 (f_X10_product_L62 x1 x2 x3 μ n62)) x_5 = some r → W p l e (zrm 2) s m args below meth c H locs 0 0 Q (F0 m 181 ls []) := by
                    intro x_5 H locs ls gx_5 X hl h
                    unfold f_X10_product_K181 at h
                    refine lv_iload C.1 C.2.1 dX10_product_181 (lv_at hl 4 rfl) ?_
                    refine lv_iload C.1 C.2.1 dX10_product_183 (lv_at hl 6 rfl) ?_
                    refine z_iconst C dX10_product_185 ?_
                    refine z_irem C gx_5 ⟨by decide, by decide⟩ (by decide) dX10_product_186 ?_
                    refine lv_iload C.1 C.2.1 dX10_product_187 (lv_at hl 5 rfl) ?_
                    refine z_ishl C dX10_product_189 ?_
                    refine z_ior C dX10_product_190 ?_
                    refine zlet_elim h (fun x_6 ex_6 h => ?_)
                    have gx_6 : Rg x_6 := by rw [ex_6]; exact (Rg.t _)
                    refine z_istore C ex_6 dX10_product_191 hl (by decide) (lv' := [(4, zI x_6), (0, zR Ω 101), (1, zI x1), (2, zI x2), (3, zI x3), (5, zI x_4), (6, zI x_5)]) rfl (fun ls hl => ?_)
                    clear ex_6
                    refine zlet_elim h (fun x_7 ex_7 h => ?_)
                    have gx_7 : Rg x_7 := by rw [ex_7]; exact Rg.w _
                    refine z_iinc C ex_7 dX10_product_193 hl (k := 5) rfl (by decide) (lv' := [(5, zI x_7), (4, zI x_6), (0, zR Ω 101), (1, zI x1), (2, zI x2), (3, zI x3), (6, zI x_5)]) rfl (fun ls hl => ?_)
                    clear ex_7
                    refine lv_goto (tgt := 62) C.1 C.2.1 dX10_product_196 (by decide) ?_
                    exact ih62 x_6 x_7 _ _ _ gx_6 gx_7 X (lv_sub hl [2, 3, 4, 5, 1, 0] rfl) h
                  have L82 : ∀ (n82 : Nat) (x_8 : Int) (x_9 : Int) (x_10 : Int) (H : Heap) (locs : List Loc) (ls : Array Slot), Rg x_8 → Rg x_9 → Rg x_10 → zX Ω μ (zfree Ω) s.heap H locs → lv_has ls 12 [(0, zR Ω 101), (1, zI x1), (2, zI x2), (3, zI x3), (4, zI x_3), (5, zI x_4), (6, zI x_8), (7, zI x_9), (8, zI x_10)] → (f_X10_product_L82 x1 x2 x3 μ x_4 (f_X10_product_K181 x_3 x_4 (f_X10_product_L62 x1 x2 x3 μ n62)) n82 x_8 x_9 x_10) = some r → W p l e (zrm 2) s m args below meth c H locs 0 0 Q (F0 m 82 ls []) := by
                    intro n82
                    induction n82 with
                    | zero =>
                      intro x_8 x_9 x_10 H locs ls _ _ _ _ _ h
                      cases h
                    | succ n82 ih82 =>
                      intro x_8 x_9 x_10 H locs ls gx_8 gx_9 gx_10 X hl h
                      unfold f_X10_product_L82 at h
                      refine lv_iload C.1 C.2.1 dX10_product_82 (lv_at hl 8 rfl) ?_
                      refine lv_aload_n C.1 C.2.1 dX10_product_84 rfl (lv_at hl 0 rfl) ?_
                      refine z_get C X zk10 (hI.1 101 (by decide)) rfl 5 (by decide) kw_1037 (zR Ω 107) (zfvF (off := 6) X.2.2.2 (hI.1 101 (by decide)) hI.2 rfl rfl (by decide)) dX10_product_85 ?_
                      refine z_bipush C dX10_product_88 (by decide) ?_
                      refine lv_iload_n C.1 C.2.1 dX10_product_90 rfl (lv_at hl 1 rfl) ?_
                      refine z_imul C dX10_product_91 ?_
                      refine lv_iload C.1 C.2.1 dX10_product_92 (lv_at hl 5 rfl) ?_
                      refine z_iadd C dX10_product_94 ?_
                      obtain ⟨hc95, h⟩ := chk_some h
                      have g_95 : Rg (μ 107 (zw ((zw (32 * x1)) + x_4))) := zrg1 X.2.2.2 (hI.1 107 (by decide)) rfl
                      refine z_iald C X (hI.1 107 (by decide)) rfl hc95 dX10_product_95 ?_
                      refine z_icmpge C gx_10 g_95 (tgt := 181) dX10_product_96 (by decide) (fun hc96 => ?_) (fun hc96 => ?_)
                      · rw [if_neg hc96] at h
                        exact K181 x_8 _ _ _ gx_8 X (lv_sub hl [0, 1, 2, 3, 4, 5, 6] rfl) h
                      · rw [if_pos hc96] at h
                        refine lv_aload_n C.1 C.2.1 dX10_product_99 rfl (lv_at hl 0 rfl) ?_
                        refine lv_iload_n C.1 C.2.1 dX10_product_100 rfl (lv_at hl 1 rfl) ?_
                        refine lv_iload C.1 C.2.1 dX10_product_101 (lv_at hl 5 rfl) ?_
                        refine lv_iload C.1 C.2.1 dX10_product_103 (lv_at hl 8 rfl) ?_
                        obtain ⟨x_11, hq105, h⟩ := bnd_some h
                        refine z_callV1 C X zk10 (hI.1 101 (by decide)) rfl (As := [zI x1, zI x_4, zI x_10]) (M_X10_rimAt hI μ x1 x_4 x_10 gx1 gx_4 gx_10 hq105) zc_X10_rimAt kw_1321 (zroom (by decide) (by decide)) rfl hl.1 rfl (Nat.le_of_ble_eq_true rfl) dX10_product_105 ⟨Nat.zero_le _, Nat.zero_le _⟩ (fun H locs g_105 X => ?_)
                        refine lv_istore C.1 C.2.1 (lv' := [(9, zI x_11), (0, zR Ω 101), (1, zI x1), (2, zI x2), (3, zI x3), (4, zI x_3), (5, zI x_4), (6, zI x_8), (7, zI x_9), (8, zI x_10)]) dX10_product_108 hl (by decide) rfl (fun ls hl => ?_)
                        refine lv_iload_n C.1 C.2.1 dX10_product_110 rfl (lv_at hl 3 rfl) ?_
                        refine lv_iload C.1 C.2.1 dX10_product_111 (lv_at hl 0 rfl) ?_
                        refine z_callS1 C X (As := [zI x_11]) (M_X10_edgeOf hI μ x_11 g_105) zc_X10_edgeOf kw_1530 (zroom (by decide) (by decide)) rfl hl.1 rfl (Nat.le_of_ble_eq_true rfl) dX10_product_113 ⟨Nat.zero_le _, Nat.zero_le _⟩ (fun H locs g_113 X => ?_)
                        refine z_ishr C dX10_product_116 ?_
                        refine z_iconst C dX10_product_117 ?_
                        refine z_iand C dX10_product_118 ?_
                        refine zlet_elim h (fun x_12 ex_12 h => ?_)
                        have gx_12 : Rg x_12 := by rw [ex_12]; exact (Rg.t _)
                        refine z_istore C ex_12 dX10_product_119 hl (by decide) (lv' := [(10, zI x_12), (9, zI x_11), (0, zR Ω 101), (1, zI x1), (2, zI x2), (3, zI x3), (4, zI x_3), (5, zI x_4), (6, zI x_8), (7, zI x_9), (8, zI x_10)]) rfl (fun ls hl => ?_)
                        clear ex_12
                        refine lv_iload_n C.1 C.2.1 dX10_product_121 rfl (lv_at hl 5 rfl) ?_
                        refine lv_iload C.1 C.2.1 dX10_product_122 (lv_at hl 1 rfl) ?_
                        refine z_callS1 C X (As := [zI x_11]) (M_X10_edgeOf hI μ x_11 g_105) zc_X10_edgeOf kw_1530 (zroom (by decide) (by decide)) rfl hl.1 rfl (Nat.le_of_ble_eq_true rfl) dX10_product_124 ⟨Nat.zero_le _, Nat.zero_le _⟩ (fun H locs g_124 X => ?_)
                        refine z_ishr C dX10_product_127 ?_
                        refine z_iconst C dX10_product_128 ?_
                        refine z_iand C dX10_product_129 ?_
                        refine zlet_elim h (fun x_13 ex_13 h => ?_)
                        have gx_13 : Rg x_13 := by rw [ex_13]; exact (Rg.t _)
                        refine z_istore C ex_13 dX10_product_130 hl (by decide) (lv' := [(11, zI x_13), (10, zI x_12), (9, zI x_11), (0, zR Ω 101), (1, zI x1), (2, zI x2), (3, zI x3), (4, zI x_3), (5, zI x_4), (6, zI x_8), (7, zI x_9), (8, zI x_10)]) rfl (fun ls hl => ?_)
                        clear ex_13
                        refine lv_iload C.1 C.2.1 dX10_product_132 (lv_at hl 9 rfl) ?_
                        refine lv_iload C.1 C.2.1 dX10_product_134 (lv_at hl 0 rfl) ?_
                        refine z_iconst C dX10_product_136 ?_
                        have K146 : ∀ (x_14 : Int) (H : Heap) (locs : List Loc) (ls : Array Slot), Rg x_14 → zX Ω μ (zfree Ω) s.heap H locs → lv_has ls 12 [(0, zR Ω 101), (1, zI x1), (2, zI x2), (3, zI x3), (4, zI x_3), (5, zI x_4), (7, zI x_9), (8, zI x_10), (9, zI x_11), (10, zI x_12), (11, zI x_13)] → (f_X10_product_J146 x_8 x_9 x_10 x_11 x_12 x_13 (f_X10_product_L82 x1 x2 x3 μ x_4 (f_X10_product_K181 x_3 x_4 (f_X10_product_L62 x1 x2 x3 μ n62)) n82)) x_14 = some r → W p l e (zrm 2) s m args below meth c H locs 0 0 Q (F0 m 146 ls [zI x_14, zI x_8]) := by
                          intro x_14 H locs ls gx_14 X hl h
                          unfold f_X10_product_J146 at h
                          refine z_iadd C dX10_product_146 ?_
                          refine zlet_elim h (fun x_15 ex_15 h => ?_)
                          have gx_15 : Rg x_15 := by rw [ex_15]; exact (Rg.w _)
                          refine z_istore C ex_15 dX10_product_147 hl (by decide) (lv' := [(6, zI x_15), (0, zR Ω 101), (1, zI x1), (2, zI x2), (3, zI x3), (4, zI x_3), (5, zI x_4), (7, zI x_9), (8, zI x_10), (9, zI x_11), (10, zI x_12), (11, zI x_13)]) rfl (fun ls hl => ?_)
                          clear ex_15
                          refine lv_iload C.1 C.2.1 dX10_product_149 (lv_at hl 0 rfl) ?_
                          refine lv_iload C.1 C.2.1 dX10_product_151 (lv_at hl 9 rfl) ?_
                          have K165 : ∀ (x_16 : Int) (H : Heap) (locs : List Loc) (ls : Array Slot), Rg x_16 → zX Ω μ (zfree Ω) s.heap H locs → lv_has ls 12 [(0, zR Ω 101), (1, zI x1), (2, zI x2), (3, zI x3), (4, zI x_3), (5, zI x_4), (7, zI x_9), (8, zI x_10), (10, zI x_12)] → (f_X10_product_J165 x_9 x_10 x_12 x_15 (f_X10_product_L82 x1 x2 x3 μ x_4 (f_X10_product_K181 x_3 x_4 (f_X10_product_L62 x1 x2 x3 μ n62)) n82)) x_16 = some r → W p l e (zrm 2) s m args below meth c H locs 0 0 Q (F0 m 165 ls [zI x_16, zI x_15]) := by
                            intro x_16 H locs ls gx_16 X hl h
                            unfold f_X10_product_J165 at h
                            refine z_iadd C dX10_product_165 ?_
                            refine zlet_elim h (fun x_17 ex_17 h => ?_)
                            have gx_17 : Rg x_17 := by rw [ex_17]; exact (Rg.w _)
                            refine z_istore C ex_17 dX10_product_166 hl (by decide) (lv' := [(6, zI x_17), (0, zR Ω 101), (1, zI x1), (2, zI x2), (3, zI x3), (4, zI x_3), (5, zI x_4), (7, zI x_9), (8, zI x_10), (10, zI x_12)]) rfl (fun ls hl => ?_)
                            clear ex_17
                            refine lv_iload C.1 C.2.1 dX10_product_168 (lv_at hl 7 rfl) ?_
                            refine lv_iload C.1 C.2.1 dX10_product_170 (lv_at hl 9 rfl) ?_
                            refine z_iadd C dX10_product_172 ?_
                            refine zlet_elim h (fun x_18 ex_18 h => ?_)
                            have gx_18 : Rg x_18 := by rw [ex_18]; exact (Rg.w _)
                            refine z_istore C ex_18 dX10_product_173 hl (by decide) (lv' := [(7, zI x_18), (6, zI x_17), (0, zR Ω 101), (1, zI x1), (2, zI x2), (3, zI x3), (4, zI x_3), (5, zI x_4), (8, zI x_10), (10, zI x_12)]) rfl (fun ls hl => ?_)
                            clear ex_18
                            refine zlet_elim h (fun x_19 ex_19 h => ?_)
                            have gx_19 : Rg x_19 := by rw [ex_19]; exact Rg.w _
                            refine z_iinc C ex_19 dX10_product_175 hl (k := 8) rfl (by decide) (lv' := [(8, zI x_19), (7, zI x_18), (6, zI x_17), (0, zR Ω 101), (1, zI x1), (2, zI x2), (3, zI x3), (4, zI x_3), (5, zI x_4), (10, zI x_12)]) rfl (fun ls hl => ?_)
                            clear ex_19
                            refine lv_goto (tgt := 82) C.1 C.2.1 dX10_product_178 (by decide) ?_
                            exact ih82 x_17 x_18 x_19 _ _ _ gx_17 gx_18 gx_19 X (lv_sub hl [3, 4, 5, 6, 7, 8, 2, 1, 0] rfl) h
                          refine z_ifge C g_105 (tgt := 164) dX10_product_153 (by decide) (fun hc153 => ?_) (fun hc153 => ?_)
                          · rw [if_neg hc153] at h
                            refine z_iconst C dX10_product_164 ?_
                            exact K165 0 _ _ _ ⟨by decide, by decide⟩ X (lv_sub hl [1, 2, 3, 4, 5, 6, 7, 8, 10] rfl) h
                          · rw [if_pos hc153] at h
                            refine lv_iload C.1 C.2.1 dX10_product_156 (lv_at hl 10 rfl) ?_
                            refine lv_iload C.1 C.2.1 dX10_product_158 (lv_at hl 11 rfl) ?_
                            refine z_imul C dX10_product_160 ?_
                            refine lv_goto (tgt := 165) C.1 C.2.1 dX10_product_161 (by decide) ?_
                            exact K165 (zw (x_12 * x_13)) _ _ _ (Rg.w _) X (lv_sub hl [1, 2, 3, 4, 5, 6, 7, 8, 10] rfl) h
                        refine z_icmpne C gx_13 ⟨by decide, by decide⟩ (tgt := 145) dX10_product_137 (by decide) (fun hc137 => ?_) (fun hc137 => ?_)
                        · rw [if_neg hc137] at h
                          refine z_iconst C dX10_product_145 ?_
                          exact K146 0 _ _ _ ⟨by decide, by decide⟩ X (lv_sub hl [3, 4, 5, 6, 7, 8, 10, 11, 2, 1, 0] rfl) h
                        · rw [if_pos hc137] at h
                          refine lv_iload C.1 C.2.1 dX10_product_140 (lv_at hl 10 rfl) ?_
                          refine lv_goto (tgt := 146) C.1 C.2.1 dX10_product_142 (by decide) ?_
                          exact K146 x_9 _ _ _ gx_9 X (lv_sub hl [3, 4, 5, 6, 7, 8, 10, 11, 2, 1, 0] rfl) h
                  exact L82 zfu 0 0 0 _ _ _ ⟨by decide, by decide⟩ ⟨by decide, by decide⟩ ⟨by decide, by decide⟩ X (lv_sub hl [3, 4, 5, 6, 7, 8, 2, 1, 0] rfl) h
            exact L62 zfu 0 0 _ _ _ ⟨by decide, by decide⟩ ⟨by decide, by decide⟩ X (lv_sub hl [2, 3, 4, 5, 1, 0] rfl) h
          · rw [if_neg hc50] at h
            refine z_bipush C dX10_product_53 (by decide) ?_
            obtain rfl := Option.some.inj h
            exact rt X ⟨by decide, by decide⟩ dX10_product_55
      · rw [if_pos hc30] at h
        refine z_iconst C dX10_product_33 ?_
        obtain rfl := Option.some.inj h
        exact rt X ⟨by decide, by decide⟩ dX10_product_34
theorem zc_X10_product : zcal yX10_product cX10_product 12 (some Jvm.ClassFile.FieldType.int) RX10 3 := ⟨⟨kw_1522, kw_1520, kw_1521, kw_12⟩, rfl, by decide, by decide, by decide +kernel⟩

