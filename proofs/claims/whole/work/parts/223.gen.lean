def f_X10_isMany_K63 (x_6 : Int) (μ_7 : zMem) : Option (Int × zMem) :=
  if x_6 ≤ 20000 then
    some (0, μ_7)
  else
    some (1, μ_7)
def f_X10_isMany_L34 (g63 : Int → zMem → Option (Int × zMem)) : Nat → Int → Int → zMem → Option (Int × zMem)
  | 0, _, _, _ => none
  | n + 1, x_8, x_9, μ_10 =>
    if x_9 < (μ_10 101 29) then
      if x_8 ≤ 20000 then
        zlet ((zw (x_8 * (μ_10 101 30)))) fun x_11 =>
        zlet (zw (x_9 + 1)) fun x_12 =>
        (f_X10_isMany_L34 g63 n) x_11 x_12 μ_10
      else
        g63 x_8 μ_10
    else
      g63 x_8 μ_10
def f_X10_isMany (x1 : Int) (x2 : Int) (μ : zMem) : Option (Int × zMem) :=
  zlet (zup μ 101 28 x2) fun μ_1 =>
  zlet (zup μ_1 101 30 0) fun μ_2 =>
  bnd (f_X10_goOrders 40 0 0 μ_2) fun μ_3 =>
  bnd (f_X10_layTree x1 μ_3) fun μ_4 =>
  zlet (zup μ_4 101 29 (μ_4 101 20)) fun μ_5 =>
  (f_X10_isMany_L34 f_X10_isMany_K63) zfu 1 0 μ_5
set_option maxHeartbeats 4000000 in
set_option maxRecDepth 100000 in
theorem M_X10_isMany {l : Launch} {Ω : zO} (hI : zIm Ω) (μ : zMem) (x1 : Int) (x2 : Int) {r : Int} {μ' : zMem} (gx1 : Rg x1) (gx2 : Rg x2) (h : f_X10_isMany x1 x2 μ = some (r, μ')) : XMet l yX10_isMany cX10_isMany 5 (some Jvm.ClassFile.FieldType.boolean) 41 Ω [zR Ω 101, zI x1, zI x2] μ (some (zI r)) (0 ≤ r ∧ r ≤ 1) μ' := by
  refine XMet.ofZ (by decide) (Nat.le_of_ble_eq_true rfl) ?_
  intro p e s m args below meth c ls Q C rt X hl
  have C : zC p s m args c cX10_isMany RX10 5 Ω := C
  have hl : lv_has ls 5 [(0, zR Ω 101), (1, zI x1), (2, zI x2)] := hl
  unfold f_X10_isMany at h
  skip
  refine lv_aload_n C.1 C.2.1 dX10_isMany_0 rfl (lv_at hl 0 rfl) ?_
  refine lv_iload_n C.1 C.2.1 dX10_isMany_1 rfl (lv_at hl 2 rfl) ?_
  refine zlet_elim h (fun μ_1 em h => ?_)
  refine z_putI C X zk10 (hI.1 101 (by decide)) rfl 28 (by decide) kw_1060 rfl rfl rfl rfl gx2 em dX10_isMany_2 (fun H locs X => ?_)
  clear em
  refine lv_aload_n C.1 C.2.1 dX10_isMany_5 rfl (lv_at hl 0 rfl) ?_
  refine z_iconst C dX10_isMany_6 ?_
  refine zlet_elim h (fun μ_2 em h => ?_)
  refine z_putI C X zk10 (hI.1 101 (by decide)) rfl 30 (by decide) kw_1062 rfl rfl rfl rfl ⟨by decide, by decide⟩ em dX10_isMany_7 (fun H locs X => ?_)
  clear em
  refine lv_aload_n C.1 C.2.1 dX10_isMany_10 rfl (lv_at hl 0 rfl) ?_
  refine z_iconst C dX10_isMany_11 ?_
  refine z_iconst C dX10_isMany_12 ?_
  obtain ⟨μ_3, hq13, h⟩ := bnd_some h
  refine z_callV0 C X zk10 (hI.1 101 (by decide)) rfl (As := [zI 0, zI 0]) (M_X10_goOrders hI 40 μ_2 0 0 ⟨by decide, by decide⟩ ⟨by decide, by decide⟩ hq13) zc_X10_goOrders kw_1387 (zroom (by decide) (by decide)) rfl hl.1 rfl (Nat.le_of_ble_eq_true rfl) dX10_isMany_13 ⟨Nat.zero_le _, Nat.zero_le _⟩ (fun H locs g_13 X => ?_)
  refine lv_aload_n C.1 C.2.1 dX10_isMany_16 rfl (lv_at hl 0 rfl) ?_
  refine lv_iload_n C.1 C.2.1 dX10_isMany_17 rfl (lv_at hl 1 rfl) ?_
  obtain ⟨μ_4, hq18, h⟩ := bnd_some h
  refine z_callV0 C X zk10 (hI.1 101 (by decide)) rfl (As := [zI x1]) (M_X10_layTree hI μ_3 x1 gx1 hq18) zc_X10_layTree kw_1309 (zroom (by decide) (by decide)) rfl hl.1 rfl (Nat.le_of_ble_eq_true rfl) dX10_isMany_18 ⟨Nat.zero_le _, Nat.zero_le _⟩ (fun H locs g_18 X => ?_)
  refine lv_aload_n C.1 C.2.1 dX10_isMany_21 rfl (lv_at hl 0 rfl) ?_
  refine lv_aload_n C.1 C.2.1 dX10_isMany_22 rfl (lv_at hl 0 rfl) ?_
  have g_23 : Rg (μ_4 101 20) := zrgf0 (ci := 10) X.2.2.2 (hI.1 101 (by decide)) rfl 20 rfl
  refine z_get C X zk10 (hI.1 101 (by decide)) rfl 20 (by decide) kw_1052 (zI (μ_4 101 20)) rfl dX10_isMany_23 ?_
  refine zlet_elim h (fun μ_5 em h => ?_)
  refine z_putI C X zk10 (hI.1 101 (by decide)) rfl 29 (by decide) kw_1061 rfl rfl rfl rfl g_23 em dX10_isMany_26 (fun H locs X => ?_)
  clear em
  refine z_iconst C dX10_isMany_29 ?_
  refine lv_istore_n C.1 C.2.1 (lv' := [(3, zI 1), (0, zR Ω 101), (1, zI x1), (2, zI x2)]) dX10_isMany_30 rfl hl (by decide) rfl (fun ls hl => ?_)
  refine z_iconst C dX10_isMany_31 ?_
  refine lv_istore C.1 C.2.1 (lv' := [(4, zI 0), (3, zI 1), (0, zR Ω 101), (1, zI x1), (2, zI x2)]) dX10_isMany_32 hl (by decide) rfl (fun ls hl => ?_)
  have K63 : ∀ (x_6 : Int) (μ_7 : zMem) (H : Heap) (locs : List Loc) (ls : Array Slot), Rg x_6 → zX Ω μ_7 (zfree Ω) s.heap H locs → lv_has ls 5 [(3, zI x_6)] → f_X10_isMany_K63 x_6 μ_7 = some (r, μ') → W p l e (zrm 41) s m args below meth c H locs 0 0 Q (F0 m 63 ls []) := by
    intro x_6 μ_7 H locs ls gx_6 X hl h
    unfold f_X10_isMany_K63 at h
    refine lv_iload_n C.1 C.2.1 dX10_isMany_63 rfl (lv_at hl 0 rfl) ?_
    refine z_sipush C dX10_isMany_64 (by decide) ?_
    refine z_icmple C gx_6 ⟨by decide, by decide⟩ (tgt := 74) dX10_isMany_67 (by decide) (fun hc67 => ?_) (fun hc67 => ?_)
    · rw [if_pos hc67] at h
      refine z_iconst C dX10_isMany_74 ?_
      obtain ⟨rfl, rfl⟩ := Prod.mk.inj (Option.some.inj h)
      exact rt X ⟨by decide, by decide⟩ dX10_isMany_75
    · rw [if_neg hc67] at h
      refine z_iconst C dX10_isMany_70 ?_
      refine lv_goto (tgt := 75) C.1 C.2.1 dX10_isMany_71 (by decide) ?_
      obtain ⟨rfl, rfl⟩ := Prod.mk.inj (Option.some.inj h)
      exact rt X ⟨by decide, by decide⟩ dX10_isMany_75
  have L34 : ∀ (n34 : Nat) (x_8 : Int) (x_9 : Int) (μ_10 : zMem) (H : Heap) (locs : List Loc) (ls : Array Slot), Rg x_8 → Rg x_9 → zX Ω μ_10 (zfree Ω) s.heap H locs → lv_has ls 5 [(0, zR Ω 101), (3, zI x_8), (4, zI x_9)] → (f_X10_isMany_L34 f_X10_isMany_K63 n34 x_8 x_9 μ_10) = some (r, μ') → W p l e (zrm 41) s m args below meth c H locs 0 0 Q (F0 m 34 ls []) := by
    intro n34
    induction n34 with
    | zero =>
      intro x_8 x_9 μ_10 H locs ls _ _ _ _ h
      cases h
    | succ n34 ih34 =>
      intro x_8 x_9 μ_10 H locs ls gx_8 gx_9 X hl h
      unfold f_X10_isMany_L34 at h
      refine lv_iload C.1 C.2.1 dX10_isMany_34 (lv_at hl 2 rfl) ?_
      refine lv_aload_n C.1 C.2.1 dX10_isMany_36 rfl (lv_at hl 0 rfl) ?_
      have g_37 : Rg (μ_10 101 29) := zrgf0 (ci := 10) X.2.2.2 (hI.1 101 (by decide)) rfl 29 rfl
      refine z_get C X zk10 (hI.1 101 (by decide)) rfl 29 (by decide) kw_1061 (zI (μ_10 101 29)) rfl dX10_isMany_37 ?_
      refine z_icmpge C gx_9 g_37 (tgt := 63) dX10_isMany_40 (by decide) (fun hc40 => ?_) (fun hc40 => ?_)
      · rw [if_neg hc40] at h
        exact K63 x_8 μ_10 _ _ _ gx_8 X (lv_sub hl [1] rfl) h
      · rw [if_pos hc40] at h
        refine lv_iload_n C.1 C.2.1 dX10_isMany_43 rfl (lv_at hl 1 rfl) ?_
        refine z_sipush C dX10_isMany_44 (by decide) ?_
        refine z_icmpgt C gx_8 ⟨by decide, by decide⟩ (tgt := 63) dX10_isMany_47 (by decide) (fun hc47 => ?_) (fun hc47 => ?_)
        · rw [if_neg hc47] at h
          exact K63 x_8 μ_10 _ _ _ gx_8 X (lv_sub hl [1] rfl) h
        · rw [if_pos hc47] at h
          refine lv_iload_n C.1 C.2.1 dX10_isMany_50 rfl (lv_at hl 1 rfl) ?_
          refine lv_aload_n C.1 C.2.1 dX10_isMany_51 rfl (lv_at hl 0 rfl) ?_
          have g_52 : Rg (μ_10 101 30) := zrgf0 (ci := 10) X.2.2.2 (hI.1 101 (by decide)) rfl 30 rfl
          refine z_get C X zk10 (hI.1 101 (by decide)) rfl 30 (by decide) kw_1062 (zI (μ_10 101 30)) rfl dX10_isMany_52 ?_
          refine z_imul C dX10_isMany_55 ?_
          refine zlet_elim h (fun x_11 ex_11 h => ?_)
          have gx_11 : Rg x_11 := by rw [ex_11]; exact (Rg.w _)
          refine z_istore_n C ex_11 dX10_isMany_56 rfl hl (by decide) (lv' := [(3, zI x_11), (0, zR Ω 101), (4, zI x_9)]) rfl (fun ls hl => ?_)
          clear ex_11
          refine zlet_elim h (fun x_12 ex_12 h => ?_)
          have gx_12 : Rg x_12 := by rw [ex_12]; exact Rg.w _
          refine z_iinc C ex_12 dX10_isMany_57 hl (k := 2) rfl (by decide) (lv' := [(4, zI x_12), (3, zI x_11), (0, zR Ω 101)]) rfl (fun ls hl => ?_)
          clear ex_12
          refine lv_goto (tgt := 34) C.1 C.2.1 dX10_isMany_60 (by decide) ?_
          exact ih34 x_11 x_12 μ_10 _ _ _ gx_11 gx_12 X (lv_sub hl [2, 1, 0] rfl) h
  exact L34 zfu 1 0 μ_5 _ _ _ ⟨by decide, by decide⟩ ⟨by decide, by decide⟩ X (lv_sub hl [2, 1, 0] rfl) h
theorem zc_X10_isMany : zcal yX10_isMany cX10_isMany 5 (some Jvm.ClassFile.FieldType.boolean) RX10 2 := ⟨⟨kw_1386, kw_1385, kp_79, kw_12⟩, rfl, by decide, by decide, by decide +kernel⟩

def f_X10_putTurn_L2 (x1 : Int) (x2 : Int) : Nat → Int → zMem → Option zMem
  | 0, _, _ => none
  | n + 1, x_1, μ_2 =>
    if x_1 < (μ_2 101 28) then
      chk ((0 : Int) ≤ (zw ((zw (4 * x2)) + x_1)) ∧ (zw ((zw (4 * x2)) + x_1)) < 96) <|
      zlet ((μ_2 133 (zw ((zw (4 * x2)) + x_1)))) fun x_3 =>
      chk ((0 : Int) ≤ (zw ((zw (4 * x1)) + x_1)) ∧ (zw ((zw (4 * x1)) + x_1)) < 64) <|
      zlet (zup μ_2 128 (zw ((zw (4 * x1)) + x_1)) x_3) fun μ_4 =>
      chk ((0 : Int) ≤ (zw ((zw (4 * x1)) + x_3)) ∧ (zw ((zw (4 * x1)) + x_3)) < 64) <|
      zlet (zup μ_4 129 (zw ((zw (4 * x1)) + x_3)) x_1) fun μ_5 =>
      zlet (zw (x_1 + 1)) fun x_6 =>
      (f_X10_putTurn_L2 x1 x2 n) x_6 μ_5
    else
      some μ_2
def f_X10_putTurn (x1 : Int) (x2 : Int) (μ : zMem) : Option zMem :=
  (f_X10_putTurn_L2 x1 x2) zfu 0 μ
set_option maxHeartbeats 4000000 in
set_option maxRecDepth 100000 in
theorem M_X10_putTurn {l : Launch} {Ω : zO} (hI : zIm Ω) (μ : zMem) (x1 : Int) (x2 : Int) {μ' : zMem} (gx1 : Rg x1) (gx2 : Rg x2) (h : f_X10_putTurn x1 x2 μ = some μ') : XMet l yX10_putTurn cX10_putTurn 5 none 0 Ω [zR Ω 101, zI x1, zI x2] μ none True μ' := by
  refine XMet.ofV (by decide) (Nat.le_of_ble_eq_true rfl) ?_
  intro p e s m args below meth c ls Q C rt X hl
  have C : zC p s m args c cX10_putTurn RX10 5 Ω := C
  have hl : lv_has ls 5 [(0, zR Ω 101), (1, zI x1), (2, zI x2)] := hl
  unfold f_X10_putTurn at h
  skip
  refine z_iconst C dX10_putTurn_0 ?_
  refine lv_istore_n C.1 C.2.1 (lv' := [(3, zI 0), (0, zR Ω 101), (1, zI x1), (2, zI x2)]) dX10_putTurn_1 rfl hl (by decide) rfl (fun ls hl => ?_)
  have L2 : ∀ (n2 : Nat) (x_1 : Int) (μ_2 : zMem) (H : Heap) (locs : List Loc) (ls : Array Slot), Rg x_1 → zX Ω μ_2 (zfree Ω) s.heap H locs → lv_has ls 5 [(0, zR Ω 101), (1, zI x1), (2, zI x2), (3, zI x_1)] → (f_X10_putTurn_L2 x1 x2 n2 x_1 μ_2) = some μ' → W p l e (zrm 0) s m args below meth c H locs 0 0 Q (F0 m 2 ls []) := by
    intro n2
    induction n2 with
    | zero =>
      intro x_1 μ_2 H locs ls _ _ _ h
      cases h
    | succ n2 ih2 =>
      intro x_1 μ_2 H locs ls gx_1 X hl h
      unfold f_X10_putTurn_L2 at h
      refine lv_iload_n C.1 C.2.1 dX10_putTurn_2 rfl (lv_at hl 3 rfl) ?_
      refine lv_aload_n C.1 C.2.1 dX10_putTurn_3 rfl (lv_at hl 0 rfl) ?_
      have g_4 : Rg (μ_2 101 28) := zrgf0 (ci := 10) X.2.2.2 (hI.1 101 (by decide)) rfl 28 rfl
      refine z_get C X zk10 (hI.1 101 (by decide)) rfl 28 (by decide) kw_1060 (zI (μ_2 101 28)) rfl dX10_putTurn_4 ?_
      refine z_icmpge C gx_1 g_4 (tgt := 52) dX10_putTurn_7 (by decide) (fun hc7 => ?_) (fun hc7 => ?_)
      · rw [if_neg hc7] at h
        obtain rfl := Option.some.inj h
        exact rt X dX10_putTurn_52
      · rw [if_pos hc7] at h
        refine lv_aload_n C.1 C.2.1 dX10_putTurn_10 rfl (lv_at hl 0 rfl) ?_
        refine z_get C X zk10 (hI.1 101 (by decide)) rfl 31 (by decide) kw_1063 (zR Ω 133) (zfvF (off := 32) X.2.2.2 (hI.1 101 (by decide)) hI.2 rfl rfl (by decide)) dX10_putTurn_11 ?_
        refine z_iconst C dX10_putTurn_14 ?_
        refine lv_iload_n C.1 C.2.1 dX10_putTurn_15 rfl (lv_at hl 2 rfl) ?_
        refine z_imul C dX10_putTurn_16 ?_
        refine lv_iload_n C.1 C.2.1 dX10_putTurn_17 rfl (lv_at hl 3 rfl) ?_
        refine z_iadd C dX10_putTurn_18 ?_
        obtain ⟨hc19, h⟩ := chk_some h
        have g_19 : Rg (μ_2 133 (zw ((zw (4 * x2)) + x_1))) := zrg1 X.2.2.2 (hI.1 133 (by decide)) rfl
        refine z_iald C X (hI.1 133 (by decide)) rfl hc19 dX10_putTurn_19 ?_
        refine zlet_elim h (fun x_3 ex_3 h => ?_)
        have gx_3 : Rg x_3 := by rw [ex_3]; exact g_19
        refine z_istore C ex_3 dX10_putTurn_20 hl (by decide) (lv' := [(4, zI x_3), (0, zR Ω 101), (1, zI x1), (2, zI x2), (3, zI x_1)]) rfl (fun ls hl => ?_)
        clear ex_3
        refine lv_aload_n C.1 C.2.1 dX10_putTurn_22 rfl (lv_at hl 1 rfl) ?_
        refine z_get C X zk10 (hI.1 101 (by decide)) rfl 26 (by decide) kw_1058 (zR Ω 128) (zfvF (off := 27) X.2.2.2 (hI.1 101 (by decide)) hI.2 rfl rfl (by decide)) dX10_putTurn_23 ?_
        refine z_iconst C dX10_putTurn_26 ?_
        refine lv_iload_n C.1 C.2.1 dX10_putTurn_27 rfl (lv_at hl 2 rfl) ?_
        refine z_imul C dX10_putTurn_28 ?_
        refine lv_iload_n C.1 C.2.1 dX10_putTurn_29 rfl (lv_at hl 4 rfl) ?_
        refine z_iadd C dX10_putTurn_30 ?_
        refine lv_iload C.1 C.2.1 dX10_putTurn_31 (lv_at hl 0 rfl) ?_
        obtain ⟨hc33, h⟩ := chk_some h
        refine zlet_elim h (fun μ_4 em h => ?_)
        refine z_iast C X (hI.1 128 (by decide)) rfl hc33 (zok1 rfl gx_3) em dX10_putTurn_33 (fun H locs X => ?_)
        clear em
        refine lv_aload_n C.1 C.2.1 dX10_putTurn_34 rfl (lv_at hl 1 rfl) ?_
        refine z_get C X zk10 (hI.1 101 (by decide)) rfl 27 (by decide) kw_1059 (zR Ω 129) (zfvF (off := 28) X.2.2.2 (hI.1 101 (by decide)) hI.2 rfl rfl (by decide)) dX10_putTurn_35 ?_
        refine z_iconst C dX10_putTurn_38 ?_
        refine lv_iload_n C.1 C.2.1 dX10_putTurn_39 rfl (lv_at hl 2 rfl) ?_
        refine z_imul C dX10_putTurn_40 ?_
        refine lv_iload C.1 C.2.1 dX10_putTurn_41 (lv_at hl 0 rfl) ?_
        refine z_iadd C dX10_putTurn_43 ?_
        refine lv_iload_n C.1 C.2.1 dX10_putTurn_44 rfl (lv_at hl 4 rfl) ?_
        obtain ⟨hc45, h⟩ := chk_some h
        refine zlet_elim h (fun μ_5 em h => ?_)
        refine z_iast C X (hI.1 129 (by decide)) rfl hc45 (zok1 rfl gx_1) em dX10_putTurn_45 (fun H locs X => ?_)
        clear em
        refine zlet_elim h (fun x_6 ex_6 h => ?_)
        have gx_6 : Rg x_6 := by rw [ex_6]; exact Rg.w _
        refine z_iinc C ex_6 dX10_putTurn_46 hl (k := 4) rfl (by decide) (lv' := [(3, zI x_6), (4, zI x_3), (0, zR Ω 101), (1, zI x1), (2, zI x2)]) rfl (fun ls hl => ?_)
        clear ex_6
        refine lv_goto (tgt := 2) C.1 C.2.1 dX10_putTurn_49 (by decide) ?_
        exact ih2 x_6 μ_5 _ _ _ gx_6 X (lv_sub hl [2, 3, 4, 0] rfl) h
  exact L2 zfu 0 μ _ _ _ ⟨by decide, by decide⟩ X (lv_sub hl [1, 2, 3, 0] rfl) h
theorem zc_X10_putTurn : zcal yX10_putTurn cX10_putTurn 5 none RX10 2 := ⟨⟨kw_1402, kw_1401, kp_83, kw_12⟩, rfl, by decide, by decide, by decide +kernel⟩

def f_X10_stepMoves_J18 (x1 : Int) (x2 : Int) (μ : zMem) (x_1 : Int) : Option Int :=
  chk ((0 : Int) ≤ x_1 ∧ x_1 < 48) <|
  zlet ((μ 123 x_1)) fun x_2 =>
  if x_2 < 0 then
    some x2
  else
    if x1 ≤ 0 then
      chk ((0 : Int) ≤ (zw ((zw (4 * x_2)) + x2)) ∧ (zw ((zw (4 * x_2)) + x2)) < 64) <|
      some (μ 129 (zw ((zw (4 * x_2)) + x2)))
    else
      chk ((0 : Int) ≤ (zw ((zw (4 * x_2)) + x2)) ∧ (zw ((zw (4 * x_2)) + x2)) < 64) <|
      some (μ 128 (zw ((zw (4 * x_2)) + x2)))
def f_X10_stepMoves (x1 : Int) (x2 : Int) (μ : zMem) : Option Int :=
  (f_X10_stepMoves_J18 x1 x2 μ) (if x1 ≤ 0 then (zw ((zw (-x1)) - 1)) else (zw (x1 - 1)))
set_option maxHeartbeats 4000000 in
set_option maxRecDepth 100000 in
theorem M_X10_stepMoves {l : Launch} {Ω : zO} (hI : zIm Ω) (μ : zMem) (x1 : Int) (x2 : Int) {r : Int} (gx1 : Rg x1) (gx2 : Rg x2) (h : f_X10_stepMoves x1 x2 μ = some r) : XMet l yX10_stepMoves cX10_stepMoves 4 (some Jvm.ClassFile.FieldType.int) 0 Ω [zR Ω 101, zI x1, zI x2] μ (some (zI r)) (Rg r) μ := by
  refine XMet.ofI (by decide) (Nat.le_of_ble_eq_true rfl) ?_
  intro p e s m args below meth c ls Q C rt X hl
  have C : zC p s m args c cX10_stepMoves RX10 4 Ω := C
  have hl : lv_has ls 4 [(0, zR Ω 101), (1, zI x1), (2, zI x2)] := hl
  unfold f_X10_stepMoves at h
  skip
  refine lv_aload_n C.1 C.2.1 dX10_stepMoves_0 rfl (lv_at hl 0 rfl) ?_
  refine z_get C X zk10 (hI.1 101 (by decide)) rfl 21 (by decide) kw_1053 (zR Ω 123) (zfvF (off := 22) X.2.2.2 (hI.1 101 (by decide)) hI.2 rfl rfl (by decide)) dX10_stepMoves_1 ?_
  refine lv_iload_n C.1 C.2.1 dX10_stepMoves_4 rfl (lv_at hl 1 rfl) ?_
  have K18 : ∀ (x_1 : Int) (H : Heap) (locs : List Loc) (ls : Array Slot), Rg x_1 → zX Ω μ (zfree Ω) s.heap H locs → lv_has ls 4 [(0, zR Ω 101), (1, zI x1), (2, zI x2)] → (f_X10_stepMoves_J18 x1 x2 μ) x_1 = some r → W p l e (zrm 0) s m args below meth c H locs 0 0 Q (F0 m 18 ls [zI x_1, zR Ω 123]) := by
    intro x_1 H locs ls gx_1 X hl h
    unfold f_X10_stepMoves_J18 at h
    obtain ⟨hc18, h⟩ := chk_some h
    have g_18 : Rg (μ 123 x_1) := zrg1 X.2.2.2 (hI.1 123 (by decide)) rfl
    refine z_iald C X (hI.1 123 (by decide)) rfl hc18 dX10_stepMoves_18 ?_
    refine zlet_elim h (fun x_2 ex_2 h => ?_)
    have gx_2 : Rg x_2 := by rw [ex_2]; exact g_18
    refine z_istore_n C ex_2 dX10_stepMoves_19 rfl hl (by decide) (lv' := [(3, zI x_2), (0, zR Ω 101), (1, zI x1), (2, zI x2)]) rfl (fun ls hl => ?_)
    clear ex_2
    refine lv_iload_n C.1 C.2.1 dX10_stepMoves_20 rfl (lv_at hl 0 rfl) ?_
    refine z_ifge C gx_2 (tgt := 28) dX10_stepMoves_21 (by decide) (fun hc21 => ?_) (fun hc21 => ?_)
    · rw [if_neg hc21] at h
      refine lv_iload_n C.1 C.2.1 dX10_stepMoves_28 rfl (lv_at hl 2 rfl) ?_
      refine z_ifle C gx1 (tgt := 45) dX10_stepMoves_29 (by decide) (fun hc29 => ?_) (fun hc29 => ?_)
      · rw [if_pos hc29] at h
        refine lv_aload_n C.1 C.2.1 dX10_stepMoves_45 rfl (lv_at hl 1 rfl) ?_
        refine z_get C X zk10 (hI.1 101 (by decide)) rfl 27 (by decide) kw_1059 (zR Ω 129) (zfvF (off := 28) X.2.2.2 (hI.1 101 (by decide)) hI.2 rfl rfl (by decide)) dX10_stepMoves_46 ?_
        refine z_iconst C dX10_stepMoves_49 ?_
        refine lv_iload_n C.1 C.2.1 dX10_stepMoves_50 rfl (lv_at hl 0 rfl) ?_
        refine z_imul C dX10_stepMoves_51 ?_
        refine lv_iload_n C.1 C.2.1 dX10_stepMoves_52 rfl (lv_at hl 3 rfl) ?_
        refine z_iadd C dX10_stepMoves_53 ?_
        obtain ⟨hc54, h⟩ := chk_some h
        have g_54 : Rg (μ 129 (zw ((zw (4 * x_2)) + x2))) := zrg1 X.2.2.2 (hI.1 129 (by decide)) rfl
        refine z_iald C X (hI.1 129 (by decide)) rfl hc54 dX10_stepMoves_54 ?_
        obtain rfl := Option.some.inj h
        exact rt X g_54 dX10_stepMoves_55
      · rw [if_neg hc29] at h
        refine lv_aload_n C.1 C.2.1 dX10_stepMoves_32 rfl (lv_at hl 1 rfl) ?_
        refine z_get C X zk10 (hI.1 101 (by decide)) rfl 26 (by decide) kw_1058 (zR Ω 128) (zfvF (off := 27) X.2.2.2 (hI.1 101 (by decide)) hI.2 rfl rfl (by decide)) dX10_stepMoves_33 ?_
        refine z_iconst C dX10_stepMoves_36 ?_
        refine lv_iload_n C.1 C.2.1 dX10_stepMoves_37 rfl (lv_at hl 0 rfl) ?_
        refine z_imul C dX10_stepMoves_38 ?_
        refine lv_iload_n C.1 C.2.1 dX10_stepMoves_39 rfl (lv_at hl 3 rfl) ?_
        refine z_iadd C dX10_stepMoves_40 ?_
        obtain ⟨hc41, h⟩ := chk_some h
        have g_41 : Rg (μ 128 (zw ((zw (4 * x_2)) + x2))) := zrg1 X.2.2.2 (hI.1 128 (by decide)) rfl
        refine z_iald C X (hI.1 128 (by decide)) rfl hc41 dX10_stepMoves_41 ?_
        refine lv_goto (tgt := 55) C.1 C.2.1 dX10_stepMoves_42 (by decide) ?_
        obtain rfl := Option.some.inj h
        exact rt X g_41 dX10_stepMoves_55
    · rw [if_pos hc21] at h
      refine lv_iload_n C.1 C.2.1 dX10_stepMoves_24 rfl (lv_at hl 3 rfl) ?_
      refine lv_goto (tgt := 55) C.1 C.2.1 dX10_stepMoves_25 (by decide) ?_
      obtain rfl := Option.some.inj h
      exact rt X gx2 dX10_stepMoves_55
  refine z_ifle C gx1 (tgt := 14) dX10_stepMoves_5 (by decide) (fun hc5 => ?_) (fun hc5 => ?_)
  · rw [if_pos hc5] at h
    refine lv_iload_n C.1 C.2.1 dX10_stepMoves_14 rfl (lv_at hl 1 rfl) ?_
    refine z_ineg C dX10_stepMoves_15 ?_
    refine z_iconst C dX10_stepMoves_16 ?_
    refine z_isub C dX10_stepMoves_17 ?_
    exact K18 (zw ((zw (-x1)) - 1)) _ _ _ (Rg.w _) X (lv_sub hl [0, 1, 2] rfl) h
  · rw [if_neg hc5] at h
    refine lv_iload_n C.1 C.2.1 dX10_stepMoves_8 rfl (lv_at hl 1 rfl) ?_
    refine z_iconst C dX10_stepMoves_9 ?_
    refine z_isub C dX10_stepMoves_10 ?_
    refine lv_goto (tgt := 18) C.1 C.2.1 dX10_stepMoves_11 (by decide) ?_
    exact K18 (zw (x1 - 1)) _ _ _ (Rg.w _) X (lv_sub hl [0, 1, 2] rfl) h
theorem zc_X10_stepMoves : zcal yX10_stepMoves cX10_stepMoves 4 (some Jvm.ClassFile.FieldType.int) RX10 2 := ⟨⟨kw_1414, kw_1413, kp_86, kw_12⟩, rfl, by decide, by decide, by decide +kernel⟩

def f_X10_holds_K89 (x_1 : Int) (g2 : Int → Option Int) : Option Int :=
  zlet (zw (x_1 + 1)) fun x_2 =>
  g2 x_2
def f_X10_holds_K75 (x_3 : Int) (g14 : Int → Option Int) (x_5 : Int) : Option Int :=
  if x_5 = x_3 then
    zlet (zw (x_3 + 1)) fun x_6 =>
    g14 x_6
  else
    some 0
def f_X10_holds_L37 (x1 : Int) (μ : zMem) (x_1 : Int) (g75 : Int → Option Int) : Nat → Int → Int → Option Int
  | 0, _, _ => none
  | n + 1, x_7, x_8 =>
    chk ((0 : Int) ≤ (zw ((zw (32 * x1)) + x_1)) ∧ (zw ((zw (32 * x1)) + x_1)) < 96) <|
    if x_8 < (μ 107 (zw ((zw (32 * x1)) + x_1))) then
      bnd (f_X10_rimAt x1 x_1 x_8 μ) fun x_9 =>
      bnd (f_X10_stepMoves x_9 x_7 μ) fun x_10 =>
      zlet (zw (x_8 + 1)) fun x_11 =>
      (f_X10_holds_L37 x1 μ x_1 g75 n) x_10 x_11
    else
      g75 x_7
def f_X10_holds_L14 (x1 : Int) (μ : zMem) (x_1 : Int) (g89 : Option Int) : Nat → Int → Option Int
  | 0, _ => none
  | n + 1, x_3 =>
    if x_3 < (μ 101 28) then
      bnd (f_X10_isFaceInPart x1 x_1 μ) fun x_4 =>
      if x_4 = 0 then
        g89
      else
        (f_X10_holds_L37 x1 μ x_1 (f_X10_holds_K75 x_3 (f_X10_holds_L14 x1 μ x_1 g89 n))) zfu x_3 0
    else
      g89
def f_X10_holds_L2 (x1 : Int) (μ : zMem) : Nat → Int → Option Int
  | 0, _ => none
  | n + 1, x_1 =>
    chk ((0 : Int) ≤ x1 ∧ x1 < 3) <|
    if x_1 < (μ 104 x1) then
      (f_X10_holds_L14 x1 μ x_1 (f_X10_holds_K89 x_1 (f_X10_holds_L2 x1 μ n))) zfu 0
    else
      some 1
def f_X10_holds (x1 : Int) (μ : zMem) : Option Int :=
  (f_X10_holds_L2 x1 μ) zfu 0
set_option maxHeartbeats 4000000 in
set_option maxRecDepth 100000 in
theorem M_X10_holds {l : Launch} {Ω : zO} (hI : zIm Ω) (μ : zMem) (x1 : Int) {r : Int} (gx1 : Rg x1) (h : f_X10_holds x1 μ = some r) : XMet l yX10_holds cX10_holds 6 (some Jvm.ClassFile.FieldType.boolean) 2 Ω [zR Ω 101, zI x1] μ (some (zI r)) (0 ≤ r ∧ r ≤ 1) μ := by
  refine XMet.ofZ (by decide) (Nat.le_of_ble_eq_true rfl) ?_
  intro p e s m args below meth c ls Q C rt X hl
  have C : zC p s m args c cX10_holds RX10 6 Ω := C
  have hl : lv_has ls 6 [(0, zR Ω 101), (1, zI x1)] := hl
  unfold f_X10_holds at h
  skip
  refine z_iconst C dX10_holds_0 ?_
  refine lv_istore_n C.1 C.2.1 (lv' := [(2, zI 0), (0, zR Ω 101), (1, zI x1)]) dX10_holds_1 rfl hl (by decide) rfl (fun ls hl => ?_)
  have L2 : ∀ (n2 : Nat) (x_1 : Int) (H : Heap) (locs : List Loc) (ls : Array Slot), Rg x_1 → zX Ω μ (zfree Ω) s.heap H locs → lv_has ls 6 [(0, zR Ω 101), (1, zI x1), (2, zI x_1)] → (f_X10_holds_L2 x1 μ n2 x_1) = some r → W p l e (zrm 2) s m args below meth c H locs 0 0 Q (F0 m 2 ls []) := by
    intro n2
    induction n2 with
    | zero =>
      intro x_1 H locs ls _ _ _ h
      cases h
    | succ n2 ih2 =>
      intro x_1 H locs ls gx_1 X hl h
      unfold f_X10_holds_L2 at h
      refine lv_iload_n C.1 C.2.1 dX10_holds_2 rfl (lv_at hl 2 rfl) ?_
      refine lv_aload_n C.1 C.2.1 dX10_holds_3 rfl (lv_at hl 0 rfl) ?_
      refine z_get C X zk10 (hI.1 101 (by decide)) rfl 2 (by decide) kw_1034 (zR Ω 104) (zfvF (off := 3) X.2.2.2 (hI.1 101 (by decide)) hI.2 rfl rfl (by decide)) dX10_holds_4 ?_
      refine lv_iload_n C.1 C.2.1 dX10_holds_7 rfl (lv_at hl 1 rfl) ?_
      obtain ⟨hc8, h⟩ := chk_some h
      have g_8 : Rg (μ 104 x1) := zrg1 X.2.2.2 (hI.1 104 (by decide)) rfl
      refine z_iald C X (hI.1 104 (by decide)) rfl hc8 dX10_holds_8 ?_
      refine z_icmpge C gx_1 g_8 (tgt := 95) dX10_holds_9 (by decide) (fun hc9 => ?_) (fun hc9 => ?_)
      · rw [if_neg hc9] at h
        refine z_iconst C dX10_holds_95 ?_
        obtain rfl := Option.some.inj h
        exact rt X ⟨by decide, by decide⟩ dX10_holds_96
      · rw [if_pos hc9] at h
        refine z_iconst C dX10_holds_12 ?_
        refine lv_istore_n C.1 C.2.1 (lv' := [(3, zI 0), (0, zR Ω 101), (1, zI x1), (2, zI x_1)]) dX10_holds_13 rfl hl (by decide) rfl (fun ls hl => ?_)
        have K89 : ∀ (H : Heap) (locs : List Loc) (ls : Array Slot), zX Ω μ (zfree Ω) s.heap H locs → lv_has ls 6 [(0, zR Ω 101), (1, zI x1), (2, zI x_1)] → (f_X10_holds_K89 x_1 (f_X10_holds_L2 x1 μ n2)) = some r → W p l e (zrm 2) s m args below meth c H locs 0 0 Q (F0 m 89 ls []) := by
          intro  H locs ls  X hl h
          unfold f_X10_holds_K89 at h
          refine zlet_elim h (fun x_2 ex_2 h => ?_)
          have gx_2 : Rg x_2 := by rw [ex_2]; exact Rg.w _
          refine z_iinc C ex_2 dX10_holds_89 hl (k := 2) rfl (by decide) (lv' := [(2, zI x_2), (0, zR Ω 101), (1, zI x1)]) rfl (fun ls hl => ?_)
          clear ex_2
          refine lv_goto (tgt := 2) C.1 C.2.1 dX10_holds_92 (by decide) ?_
          exact ih2 x_2 _ _ _ gx_2 X (lv_sub hl [1, 2, 0] rfl) h
        have L14 : ∀ (n14 : Nat) (x_3 : Int) (H : Heap) (locs : List Loc) (ls : Array Slot), Rg x_3 → zX Ω μ (zfree Ω) s.heap H locs → lv_has ls 6 [(0, zR Ω 101), (1, zI x1), (2, zI x_1), (3, zI x_3)] → (f_X10_holds_L14 x1 μ x_1 (f_X10_holds_K89 x_1 (f_X10_holds_L2 x1 μ n2)) n14 x_3) = some r → W p l e (zrm 2) s m args below meth c H locs 0 0 Q (F0 m 14 ls []) := by
          intro n14
          induction n14 with
          | zero =>
            intro x_3 H locs ls _ _ _ h
            cases h
          | succ n14 ih14 =>
            intro x_3 H locs ls gx_3 X hl h
            unfold f_X10_holds_L14 at h
            refine lv_iload_n C.1 C.2.1 dX10_holds_14 rfl (lv_at hl 3 rfl) ?_
            refine lv_aload_n C.1 C.2.1 dX10_holds_15 rfl (lv_at hl 0 rfl) ?_
            have g_16 : Rg (μ 101 28) := zrgf0 (ci := 10) X.2.2.2 (hI.1 101 (by decide)) rfl 28 rfl
            refine z_get C X zk10 (hI.1 101 (by decide)) rfl 28 (by decide) kw_1060 (zI (μ 101 28)) rfl dX10_holds_16 ?_
            refine z_icmpge C gx_3 g_16 (tgt := 89) dX10_holds_19 (by decide) (fun hc19 => ?_) (fun hc19 => ?_)
            · rw [if_neg hc19] at h
              exact K89 _ _ _ X (lv_sub hl [0, 1, 2] rfl) h
            · rw [if_pos hc19] at h
              refine lv_aload_n C.1 C.2.1 dX10_holds_22 rfl (lv_at hl 0 rfl) ?_
              refine lv_iload_n C.1 C.2.1 dX10_holds_23 rfl (lv_at hl 1 rfl) ?_
              refine lv_iload_n C.1 C.2.1 dX10_holds_24 rfl (lv_at hl 2 rfl) ?_
              obtain ⟨x_4, hq25, h⟩ := bnd_some h
              refine z_callV1 C X zk10 (hI.1 101 (by decide)) rfl (As := [zI x1, zI x_1]) (M_X10_isFaceInPart hI μ x1 x_1 gx1 gx_1 hq25) zc_X10_isFaceInPart kw_1407 (zroom (by decide) (by decide)) rfl hl.1 rfl (Nat.le_of_ble_eq_true rfl) dX10_holds_25 ⟨Nat.zero_le _, Nat.zero_le _⟩ (fun H locs g_25 X => ?_)
              refine z_ifeq C (rgz g_25) (tgt := 89) dX10_holds_28 (by decide) (fun hc28 => ?_) (fun hc28 => ?_)
              · rw [if_pos hc28] at h
                exact K89 _ _ _ X (lv_sub hl [0, 1, 2] rfl) h
              · rw [if_neg hc28] at h
                refine lv_iload_n C.1 C.2.1 dX10_holds_31 rfl (lv_at hl 3 rfl) ?_
                refine lv_istore C.1 C.2.1 (lv' := [(4, zI x_3), (0, zR Ω 101), (1, zI x1), (2, zI x_1), (3, zI x_3)]) dX10_holds_32 hl (by decide) rfl (fun ls hl => ?_)
                refine z_iconst C dX10_holds_34 ?_
                refine lv_istore C.1 C.2.1 (lv' := [(5, zI 0), (4, zI x_3), (0, zR Ω 101), (1, zI x1), (2, zI x_1), (3, zI x_3)]) dX10_holds_35 hl (by decide) rfl (fun ls hl => ?_)
                have K75 : ∀ (x_5 : Int) (H : Heap) (locs : List Loc) (ls : Array Slot), Rg x_5 → zX Ω μ (zfree Ω) s.heap H locs → lv_has ls 6 [(0, zR Ω 101), (1, zI x1), (2, zI x_1), (3, zI x_3), (4, zI x_5)] → (f_X10_holds_K75 x_3 (f_X10_holds_L14 x1 μ x_1 (f_X10_holds_K89 x_1 (f_X10_holds_L2 x1 μ n2)) n14)) x_5 = some r → W p l e (zrm 2) s m args below meth c H locs 0 0 Q (F0 m 75 ls []) := by
                  intro x_5 H locs ls gx_5 X hl h
                  unfold f_X10_holds_K75 at h
                  refine lv_iload C.1 C.2.1 dX10_holds_75 (lv_at hl 4 rfl) ?_
                  refine lv_iload_n C.1 C.2.1 dX10_holds_77 rfl (lv_at hl 3 rfl) ?_
                  refine z_icmpeq C gx_5 gx_3 (tgt := 83) dX10_holds_78 (by decide) (fun hc78 => ?_) (fun hc78 => ?_)
                  · rw [if_pos hc78] at h
                    refine zlet_elim h (fun x_6 ex_6 h => ?_)
                    have gx_6 : Rg x_6 := by rw [ex_6]; exact Rg.w _
                    refine z_iinc C ex_6 dX10_holds_83 hl (k := 3) rfl (by decide) (lv' := [(3, zI x_6), (0, zR Ω 101), (1, zI x1), (2, zI x_1), (4, zI x_5)]) rfl (fun ls hl => ?_)
                    clear ex_6
                    refine lv_goto (tgt := 14) C.1 C.2.1 dX10_holds_86 (by decide) ?_
                    exact ih14 x_6 _ _ _ gx_6 X (lv_sub hl [1, 2, 3, 0] rfl) h
                  · rw [if_neg hc78] at h
                    refine z_iconst C dX10_holds_81 ?_
                    obtain rfl := Option.some.inj h
                    exact rt X ⟨by decide, by decide⟩ dX10_holds_82
                have L37 : ∀ (n37 : Nat) (x_7 : Int) (x_8 : Int) (H : Heap) (locs : List Loc) (ls : Array Slot), Rg x_7 → Rg x_8 → zX Ω μ (zfree Ω) s.heap H locs → lv_has ls 6 [(0, zR Ω 101), (1, zI x1), (2, zI x_1), (3, zI x_3), (4, zI x_7), (5, zI x_8)] → (f_X10_holds_L37 x1 μ x_1 (f_X10_holds_K75 x_3 (f_X10_holds_L14 x1 μ x_1 (f_X10_holds_K89 x_1 (f_X10_holds_L2 x1 μ n2)) n14)) n37 x_7 x_8) = some r → W p l e (zrm 2) s m args below meth c H locs 0 0 Q (F0 m 37 ls []) := by
                  intro n37
                  induction n37 with
                  | zero =>
                    intro x_7 x_8 H locs ls _ _ _ _ h
                    cases h
                  | succ n37 ih37 =>
                    intro x_7 x_8 H locs ls gx_7 gx_8 X hl h
                    unfold f_X10_holds_L37 at h
                    refine lv_iload C.1 C.2.1 dX10_holds_37 (lv_at hl 5 rfl) ?_
                    refine lv_aload_n C.1 C.2.1 dX10_holds_39 rfl (lv_at hl 0 rfl) ?_
                    refine z_get C X zk10 (hI.1 101 (by decide)) rfl 5 (by decide) kw_1037 (zR Ω 107) (zfvF (off := 6) X.2.2.2 (hI.1 101 (by decide)) hI.2 rfl rfl (by decide)) dX10_holds_40 ?_
                    refine z_bipush C dX10_holds_43 (by decide) ?_
                    refine lv_iload_n C.1 C.2.1 dX10_holds_45 rfl (lv_at hl 1 rfl) ?_
                    refine z_imul C dX10_holds_46 ?_
                    refine lv_iload_n C.1 C.2.1 dX10_holds_47 rfl (lv_at hl 2 rfl) ?_
                    refine z_iadd C dX10_holds_48 ?_
                    obtain ⟨hc49, h⟩ := chk_some h
                    have g_49 : Rg (μ 107 (zw ((zw (32 * x1)) + x_1))) := zrg1 X.2.2.2 (hI.1 107 (by decide)) rfl
                    refine z_iald C X (hI.1 107 (by decide)) rfl hc49 dX10_holds_49 ?_
                    refine z_icmpge C gx_8 g_49 (tgt := 75) dX10_holds_50 (by decide) (fun hc50 => ?_) (fun hc50 => ?_)
                    · rw [if_neg hc50] at h
                      exact K75 x_7 _ _ _ gx_7 X (lv_sub hl [0, 1, 2, 3, 4] rfl) h
                    · rw [if_pos hc50] at h
                      refine lv_aload_n C.1 C.2.1 dX10_holds_53 rfl (lv_at hl 0 rfl) ?_
                      refine lv_aload_n C.1 C.2.1 dX10_holds_54 rfl (lv_at hl 0 rfl) ?_
                      refine lv_iload_n C.1 C.2.1 dX10_holds_55 rfl (lv_at hl 1 rfl) ?_
                      refine lv_iload_n C.1 C.2.1 dX10_holds_56 rfl (lv_at hl 2 rfl) ?_
                      refine lv_iload C.1 C.2.1 dX10_holds_57 (lv_at hl 5 rfl) ?_
                      obtain ⟨x_9, hq59, h⟩ := bnd_some h
                      refine z_callV1 C X zk10 (hI.1 101 (by decide)) rfl (As := [zI x1, zI x_1, zI x_8]) (M_X10_rimAt hI μ x1 x_1 x_8 gx1 gx_1 gx_8 hq59) zc_X10_rimAt kw_1321 (zroom (by decide) (by decide)) rfl hl.1 rfl (Nat.le_of_ble_eq_true rfl) dX10_holds_59 ⟨Nat.zero_le _, Nat.zero_le _⟩ (fun H locs g_59 X => ?_)
                      refine lv_iload C.1 C.2.1 dX10_holds_62 (lv_at hl 4 rfl) ?_
                      obtain ⟨x_10, hq64, h⟩ := bnd_some h
                      refine z_callV1 C X zk10 (hI.1 101 (by decide)) rfl (As := [zI x_9, zI x_7]) (M_X10_stepMoves hI μ x_9 x_7 g_59 gx_7 hq64) zc_X10_stepMoves kw_1411 (zroom (by decide) (by decide)) rfl hl.1 rfl (Nat.le_of_ble_eq_true rfl) dX10_holds_64 ⟨Nat.zero_le _, Nat.zero_le _⟩ (fun H locs g_64 X => ?_)
                      refine lv_istore C.1 C.2.1 (lv' := [(4, zI x_10), (0, zR Ω 101), (1, zI x1), (2, zI x_1), (3, zI x_3), (5, zI x_8)]) dX10_holds_67 hl (by decide) rfl (fun ls hl => ?_)
                      refine zlet_elim h (fun x_11 ex_11 h => ?_)
                      have gx_11 : Rg x_11 := by rw [ex_11]; exact Rg.w _
                      refine z_iinc C ex_11 dX10_holds_69 hl (k := 5) rfl (by decide) (lv' := [(5, zI x_11), (4, zI x_10), (0, zR Ω 101), (1, zI x1), (2, zI x_1), (3, zI x_3)]) rfl (fun ls hl => ?_)
                      clear ex_11
                      refine lv_goto (tgt := 37) C.1 C.2.1 dX10_holds_72 (by decide) ?_
                      exact ih37 x_10 x_11 _ _ _ g_64 gx_11 X (lv_sub hl [2, 3, 4, 5, 1, 0] rfl) h
                exact L37 zfu x_3 0 _ _ _ gx_3 ⟨by decide, by decide⟩ X (lv_sub hl [2, 3, 4, 5, 1, 0] rfl) h
        exact L14 zfu 0 _ _ _ ⟨by decide, by decide⟩ X (lv_sub hl [1, 2, 3, 0] rfl) h
  exact L2 zfu 0 _ _ _ ⟨by decide, by decide⟩ X (lv_sub hl [1, 2, 0] rfl) h
theorem zc_X10_holds : zcal yX10_holds cX10_holds 6 (some Jvm.ClassFile.FieldType.boolean) RX10 1 := ⟨⟨kw_1406, kw_1405, kp_84, kw_12⟩, rfl, by decide, by decide, by decide +kernel⟩

def f_X10_isOne_K78 (μ : zMem) (x_1 : Int) : Option Int :=
  if x_1 = (zw ((zshl 1 (μ 101 28)) - 1)) then
    some 1
  else
    some 0
def f_X10_isOne_K75 (x_2 : Int) (g4 : Int → Int → Option Int) (x_4 : Int) : Option Int :=
  g4 x_4 x_2
def f_X10_isOne_K69 (x_6 : Int) (g13 : Int → Int → Option Int) (x_7 : Int) : Option Int :=
  zlet (zw (x_6 + 1)) fun x_8 =>
  g13 x_7 x_8
def f_X10_isOne_J61 (x_9 : Int) (x_10 : Int) (g24 : Int → Int → Option Int) (x_11 : Int) : Option Int :=
  zlet ((zor x_9 x_11)) fun x_12 =>
  zlet (zw (x_10 + 1)) fun x_13 =>
  g24 x_12 x_13
def f_X10_isOne_L24 (μ : zMem) (x_2 : Int) (x_6 : Int) (g69 : Int → Option Int) : Nat → Int → Int → Option Int
  | 0, _, _ => none
  | n + 1, x_9, x_10 =>
    if x_10 < (μ 101 28) then
      if (zand (zshr x_2 x_10) 1) = 1 then
        chk ((0 : Int) ≤ (zw ((zw (4 * x_6)) + x_10)) ∧ (zw ((zw (4 * x_6)) + x_10)) < 64) <|
        (f_X10_isOne_J61 x_9 x_10 (f_X10_isOne_L24 μ x_2 x_6 g69 n)) (zshl 1 (μ 128 (zw ((zw (4 * x_6)) + x_10))))
      else
        (f_X10_isOne_J61 x_9 x_10 (f_X10_isOne_L24 μ x_2 x_6 g69 n)) 0
    else
      g69 x_9
def f_X10_isOne_L13 (μ : zMem) (x_2 : Int) (g75 : Int → Option Int) : Nat → Int → Int → Option Int
  | 0, _, _ => none
  | n + 1, x_5, x_6 =>
    if x_6 < (μ 101 29) then
      (f_X10_isOne_L24 μ x_2 x_6 (f_X10_isOne_K69 x_6 (f_X10_isOne_L13 μ x_2 g75 n))) zfu x_5 0
    else
      g75 x_5
def f_X10_isOne_L4 (μ : zMem) (g78 : Int → Option Int) : Nat → Int → Int → Option Int
  | 0, _, _ => none
  | n + 1, x_2, x_3 =>
    if x_2 = x_3 then
      g78 x_2
    else
      (f_X10_isOne_L13 μ x_2 (f_X10_isOne_K75 x_2 (f_X10_isOne_L4 μ g78 n))) zfu x_2 0
def f_X10_isOne (μ : zMem) : Option Int :=
  (f_X10_isOne_L4 μ (f_X10_isOne_K78 μ)) zfu 1 0
set_option maxHeartbeats 4000000 in
set_option maxRecDepth 100000 in
theorem M_X10_isOne {l : Launch} {Ω : zO} (hI : zIm Ω) (μ : zMem) {r : Int} (h : f_X10_isOne μ = some r) : XMet l yX10_isOne cX10_isOne 5 (some Jvm.ClassFile.FieldType.boolean) 0 Ω [zR Ω 101] μ (some (zI r)) (0 ≤ r ∧ r ≤ 1) μ := by
  refine XMet.ofZ (by decide) (Nat.le_of_ble_eq_true rfl) ?_
  intro p e s m args below meth c ls Q C rt X hl
  have C : zC p s m args c cX10_isOne RX10 5 Ω := C
  have hl : lv_has ls 5 [(0, zR Ω 101)] := hl
  unfold f_X10_isOne at h
  skip
  refine z_iconst C dX10_isOne_0 ?_
  refine lv_istore_n C.1 C.2.1 (lv' := [(1, zI 1), (0, zR Ω 101)]) dX10_isOne_1 rfl hl (by decide) rfl (fun ls hl => ?_)
  refine z_iconst C dX10_isOne_2 ?_
  refine lv_istore_n C.1 C.2.1 (lv' := [(2, zI 0), (1, zI 1), (0, zR Ω 101)]) dX10_isOne_3 rfl hl (by decide) rfl (fun ls hl => ?_)
  have K78 : ∀ (x_1 : Int) (H : Heap) (locs : List Loc) (ls : Array Slot), Rg x_1 → zX Ω μ (zfree Ω) s.heap H locs → lv_has ls 5 [(0, zR Ω 101), (1, zI x_1)] → (f_X10_isOne_K78 μ) x_1 = some r → W p l e (zrm 0) s m args below meth c H locs 0 0 Q (F0 m 78 ls []) := by
    intro x_1 H locs ls gx_1 X hl h
    unfold f_X10_isOne_K78 at h
    refine lv_iload_n C.1 C.2.1 dX10_isOne_78 rfl (lv_at hl 1 rfl) ?_
    refine z_iconst C dX10_isOne_79 ?_
    refine lv_aload_n C.1 C.2.1 dX10_isOne_80 rfl (lv_at hl 0 rfl) ?_
    have g_81 : Rg (μ 101 28) := zrgf0 (ci := 10) X.2.2.2 (hI.1 101 (by decide)) rfl 28 rfl
    refine z_get C X zk10 (hI.1 101 (by decide)) rfl 28 (by decide) kw_1060 (zI (μ 101 28)) rfl dX10_isOne_81 ?_
    refine z_ishl C dX10_isOne_84 ?_
    refine z_iconst C dX10_isOne_85 ?_
    refine z_isub C dX10_isOne_86 ?_
    refine z_icmpne C gx_1 (Rg.w _) (tgt := 94) dX10_isOne_87 (by decide) (fun hc87 => ?_) (fun hc87 => ?_)
    · rw [if_neg hc87] at h
      refine z_iconst C dX10_isOne_94 ?_
      obtain rfl := Option.some.inj h
      exact rt X ⟨by decide, by decide⟩ dX10_isOne_95
    · rw [if_pos hc87] at h
      refine z_iconst C dX10_isOne_90 ?_
      refine lv_goto (tgt := 95) C.1 C.2.1 dX10_isOne_91 (by decide) ?_
      obtain rfl := Option.some.inj h
      exact rt X ⟨by decide, by decide⟩ dX10_isOne_95
  have L4 : ∀ (n4 : Nat) (x_2 : Int) (x_3 : Int) (H : Heap) (locs : List Loc) (ls : Array Slot), Rg x_2 → Rg x_3 → zX Ω μ (zfree Ω) s.heap H locs → lv_has ls 5 [(0, zR Ω 101), (1, zI x_2), (2, zI x_3)] → (f_X10_isOne_L4 μ (f_X10_isOne_K78 μ) n4 x_2 x_3) = some r → W p l e (zrm 0) s m args below meth c H locs 0 0 Q (F0 m 4 ls []) := by
    intro n4
    induction n4 with
    | zero =>
      intro x_2 x_3 H locs ls _ _ _ _ h
      cases h
    | succ n4 ih4 =>
      intro x_2 x_3 H locs ls gx_2 gx_3 X hl h
      unfold f_X10_isOne_L4 at h
      refine lv_iload_n C.1 C.2.1 dX10_isOne_4 rfl (lv_at hl 1 rfl) ?_
      refine lv_iload_n C.1 C.2.1 dX10_isOne_5 rfl (lv_at hl 2 rfl) ?_
      refine z_icmpeq C gx_2 gx_3 (tgt := 78) dX10_isOne_6 (by decide) (fun hc6 => ?_) (fun hc6 => ?_)
      · rw [if_pos hc6] at h
        exact K78 x_2 _ _ _ gx_2 X (lv_sub hl [0, 1] rfl) h
      · rw [if_neg hc6] at h
        refine lv_iload_n C.1 C.2.1 dX10_isOne_9 rfl (lv_at hl 1 rfl) ?_
        refine lv_istore_n C.1 C.2.1 (lv' := [(2, zI x_2), (0, zR Ω 101), (1, zI x_2)]) dX10_isOne_10 rfl hl (by decide) rfl (fun ls hl => ?_)
        refine z_iconst C dX10_isOne_11 ?_
        refine lv_istore_n C.1 C.2.1 (lv' := [(3, zI 0), (2, zI x_2), (0, zR Ω 101), (1, zI x_2)]) dX10_isOne_12 rfl hl (by decide) rfl (fun ls hl => ?_)
        have K75 : ∀ (x_4 : Int) (H : Heap) (locs : List Loc) (ls : Array Slot), Rg x_4 → zX Ω μ (zfree Ω) s.heap H locs → lv_has ls 5 [(0, zR Ω 101), (1, zI x_4), (2, zI x_2)] → (f_X10_isOne_K75 x_2 (f_X10_isOne_L4 μ (f_X10_isOne_K78 μ) n4)) x_4 = some r → W p l e (zrm 0) s m args below meth c H locs 0 0 Q (F0 m 75 ls []) := by
          intro x_4 H locs ls gx_4 X hl h
          unfold f_X10_isOne_K75 at h
          refine lv_goto (tgt := 4) C.1 C.2.1 dX10_isOne_75 (by decide) ?_
          exact ih4 x_4 x_2 _ _ _ gx_4 gx_2 X (lv_sub hl [0, 1, 2] rfl) h
        have L13 : ∀ (n13 : Nat) (x_5 : Int) (x_6 : Int) (H : Heap) (locs : List Loc) (ls : Array Slot), Rg x_5 → Rg x_6 → zX Ω μ (zfree Ω) s.heap H locs → lv_has ls 5 [(0, zR Ω 101), (1, zI x_5), (2, zI x_2), (3, zI x_6)] → (f_X10_isOne_L13 μ x_2 (f_X10_isOne_K75 x_2 (f_X10_isOne_L4 μ (f_X10_isOne_K78 μ) n4)) n13 x_5 x_6) = some r → W p l e (zrm 0) s m args below meth c H locs 0 0 Q (F0 m 13 ls []) := by
          intro n13
          induction n13 with
          | zero =>
            intro x_5 x_6 H locs ls _ _ _ _ h
            cases h
          | succ n13 ih13 =>
            intro x_5 x_6 H locs ls gx_5 gx_6 X hl h
            unfold f_X10_isOne_L13 at h
            refine lv_iload_n C.1 C.2.1 dX10_isOne_13 rfl (lv_at hl 3 rfl) ?_
            refine lv_aload_n C.1 C.2.1 dX10_isOne_14 rfl (lv_at hl 0 rfl) ?_
            have g_15 : Rg (μ 101 29) := zrgf0 (ci := 10) X.2.2.2 (hI.1 101 (by decide)) rfl 29 rfl
            refine z_get C X zk10 (hI.1 101 (by decide)) rfl 29 (by decide) kw_1061 (zI (μ 101 29)) rfl dX10_isOne_15 ?_
            refine z_icmpge C gx_6 g_15 (tgt := 75) dX10_isOne_18 (by decide) (fun hc18 => ?_) (fun hc18 => ?_)
            · rw [if_neg hc18] at h
              exact K75 x_5 _ _ _ gx_5 X (lv_sub hl [0, 1, 2] rfl) h
            · rw [if_pos hc18] at h
              refine z_iconst C dX10_isOne_21 ?_
              refine lv_istore C.1 C.2.1 (lv' := [(4, zI 0), (0, zR Ω 101), (1, zI x_5), (2, zI x_2), (3, zI x_6)]) dX10_isOne_22 hl (by decide) rfl (fun ls hl => ?_)
              have K69 : ∀ (x_7 : Int) (H : Heap) (locs : List Loc) (ls : Array Slot), Rg x_7 → zX Ω μ (zfree Ω) s.heap H locs → lv_has ls 5 [(0, zR Ω 101), (1, zI x_7), (2, zI x_2), (3, zI x_6)] → (f_X10_isOne_K69 x_6 (f_X10_isOne_L13 μ x_2 (f_X10_isOne_K75 x_2 (f_X10_isOne_L4 μ (f_X10_isOne_K78 μ) n4)) n13)) x_7 = some r → W p l e (zrm 0) s m args below meth c H locs 0 0 Q (F0 m 69 ls []) := by
                intro x_7 H locs ls gx_7 X hl h
                unfold f_X10_isOne_K69 at h
                refine zlet_elim h (fun x_8 ex_8 h => ?_)
                have gx_8 : Rg x_8 := by rw [ex_8]; exact Rg.w _
                refine z_iinc C ex_8 dX10_isOne_69 hl (k := 3) rfl (by decide) (lv' := [(3, zI x_8), (0, zR Ω 101), (1, zI x_7), (2, zI x_2)]) rfl (fun ls hl => ?_)
                clear ex_8
                refine lv_goto (tgt := 13) C.1 C.2.1 dX10_isOne_72 (by decide) ?_
                exact ih13 x_7 x_8 _ _ _ gx_7 gx_8 X (lv_sub hl [1, 2, 3, 0] rfl) h
              have L24 : ∀ (n24 : Nat) (x_9 : Int) (x_10 : Int) (H : Heap) (locs : List Loc) (ls : Array Slot), Rg x_9 → Rg x_10 → zX Ω μ (zfree Ω) s.heap H locs → lv_has ls 5 [(0, zR Ω 101), (1, zI x_9), (2, zI x_2), (3, zI x_6), (4, zI x_10)] → (f_X10_isOne_L24 μ x_2 x_6 (f_X10_isOne_K69 x_6 (f_X10_isOne_L13 μ x_2 (f_X10_isOne_K75 x_2 (f_X10_isOne_L4 μ (f_X10_isOne_K78 μ) n4)) n13)) n24 x_9 x_10) = some r → W p l e (zrm 0) s m args below meth c H locs 0 0 Q (F0 m 24 ls []) := by
                intro n24
                induction n24 with
                | zero =>
                  intro x_9 x_10 H locs ls _ _ _ _ h
                  cases h
                | succ n24 ih24 =>
                  intro x_9 x_10 H locs ls gx_9 gx_10 X hl h
                  unfold f_X10_isOne_L24 at h
                  refine lv_iload C.1 C.2.1 dX10_isOne_24 (lv_at hl 4 rfl) ?_
                  refine lv_aload_n C.1 C.2.1 dX10_isOne_26 rfl (lv_at hl 0 rfl) ?_
                  have g_27 : Rg (μ 101 28) := zrgf0 (ci := 10) X.2.2.2 (hI.1 101 (by decide)) rfl 28 rfl
                  refine z_get C X zk10 (hI.1 101 (by decide)) rfl 28 (by decide) kw_1060 (zI (μ 101 28)) rfl dX10_isOne_27 ?_
                  refine z_icmpge C gx_10 g_27 (tgt := 69) dX10_isOne_30 (by decide) (fun hc30 => ?_) (fun hc30 => ?_)
                  · rw [if_neg hc30] at h
                    exact K69 x_9 _ _ _ gx_9 X (lv_sub hl [0, 1, 2, 3] rfl) h
                  · rw [if_pos hc30] at h
                    refine lv_iload_n C.1 C.2.1 dX10_isOne_33 rfl (lv_at hl 1 rfl) ?_
                    refine lv_iload_n C.1 C.2.1 dX10_isOne_34 rfl (lv_at hl 2 rfl) ?_
                    refine lv_iload C.1 C.2.1 dX10_isOne_35 (lv_at hl 4 rfl) ?_
                    refine z_ishr C dX10_isOne_37 ?_
                    refine z_iconst C dX10_isOne_38 ?_
                    refine z_iand C dX10_isOne_39 ?_
                    refine z_iconst C dX10_isOne_40 ?_
                    have K61 : ∀ (x_11 : Int) (H : Heap) (locs : List Loc) (ls : Array Slot), Rg x_11 → zX Ω μ (zfree Ω) s.heap H locs → lv_has ls 5 [(0, zR Ω 101), (2, zI x_2), (3, zI x_6), (4, zI x_10)] → (f_X10_isOne_J61 x_9 x_10 (f_X10_isOne_L24 μ x_2 x_6 (f_X10_isOne_K69 x_6 (f_X10_isOne_L13 μ x_2 (f_X10_isOne_K75 x_2 (f_X10_isOne_L4 μ (f_X10_isOne_K78 μ) n4)) n13)) n24)) x_11 = some r → W p l e (zrm 0) s m args below meth c H locs 0 0 Q (F0 m 61 ls [zI x_11, zI x_9]) := by
                      intro x_11 H locs ls gx_11 X hl h
                      unfold f_X10_isOne_J61 at h
                      refine z_ior C dX10_isOne_61 ?_
                      refine zlet_elim h (fun x_12 ex_12 h => ?_)
                      have gx_12 : Rg x_12 := by rw [ex_12]; exact (Rg.t _)
                      refine z_istore_n C ex_12 dX10_isOne_62 rfl hl (by decide) (lv' := [(1, zI x_12), (0, zR Ω 101), (2, zI x_2), (3, zI x_6), (4, zI x_10)]) rfl (fun ls hl => ?_)
                      clear ex_12
                      refine zlet_elim h (fun x_13 ex_13 h => ?_)
                      have gx_13 : Rg x_13 := by rw [ex_13]; exact Rg.w _
                      refine z_iinc C ex_13 dX10_isOne_63 hl (k := 4) rfl (by decide) (lv' := [(4, zI x_13), (1, zI x_12), (0, zR Ω 101), (2, zI x_2), (3, zI x_6)]) rfl (fun ls hl => ?_)
                      clear ex_13
                      refine lv_goto (tgt := 24) C.1 C.2.1 dX10_isOne_66 (by decide) ?_
                      exact ih24 x_12 x_13 _ _ _ gx_12 gx_13 X (lv_sub hl [2, 1, 3, 4, 0] rfl) h
                    refine z_icmpne C (Rg.t _) ⟨by decide, by decide⟩ (tgt := 60) dX10_isOne_41 (by decide) (fun hc41 => ?_) (fun hc41 => ?_)
                    · rw [if_neg hc41] at h
                      refine z_iconst C dX10_isOne_60 ?_
                      exact K61 0 _ _ _ ⟨by decide, by decide⟩ X (lv_sub hl [0, 2, 3, 4] rfl) h
                    · rw [if_pos hc41] at h
                      refine z_iconst C dX10_isOne_44 ?_
                      refine lv_aload_n C.1 C.2.1 dX10_isOne_45 rfl (lv_at hl 0 rfl) ?_
                      refine z_get C X zk10 (hI.1 101 (by decide)) rfl 26 (by decide) kw_1058 (zR Ω 128) (zfvF (off := 27) X.2.2.2 (hI.1 101 (by decide)) hI.2 rfl rfl (by decide)) dX10_isOne_46 ?_
                      refine z_iconst C dX10_isOne_49 ?_
                      refine lv_iload_n C.1 C.2.1 dX10_isOne_50 rfl (lv_at hl 3 rfl) ?_
                      refine z_imul C dX10_isOne_51 ?_
                      refine lv_iload C.1 C.2.1 dX10_isOne_52 (lv_at hl 4 rfl) ?_
                      refine z_iadd C dX10_isOne_54 ?_
                      obtain ⟨hc55, h⟩ := chk_some h
                      have g_55 : Rg (μ 128 (zw ((zw (4 * x_6)) + x_10))) := zrg1 X.2.2.2 (hI.1 128 (by decide)) rfl
                      refine z_iald C X (hI.1 128 (by decide)) rfl hc55 dX10_isOne_55 ?_
                      refine z_ishl C dX10_isOne_56 ?_
                      refine lv_goto (tgt := 61) C.1 C.2.1 dX10_isOne_57 (by decide) ?_
                      exact K61 (zshl 1 (μ 128 (zw ((zw (4 * x_6)) + x_10)))) _ _ _ (Rg.t _) X (lv_sub hl [0, 2, 3, 4] rfl) h
              exact L24 zfu x_5 0 _ _ _ gx_5 ⟨by decide, by decide⟩ X (lv_sub hl [1, 2, 3, 4, 0] rfl) h
        exact L13 zfu x_2 0 _ _ _ gx_2 ⟨by decide, by decide⟩ X (lv_sub hl [2, 3, 1, 0] rfl) h
  exact L4 zfu 1 0 _ _ _ ⟨by decide, by decide⟩ ⟨by decide, by decide⟩ X (lv_sub hl [2, 1, 0] rfl) h
theorem zc_X10_isOne : zcal yX10_isOne cX10_isOne 5 (some Jvm.ClassFile.FieldType.boolean) RX10 0 := ⟨⟨kw_1422, kw_1421, kp_88, kw_12⟩, rfl, by decide, by decide, by decide +kernel⟩

def f_X10_isFirst_K128 (x_1 : Int) (g2 : Int → zMem → Option (Int × zMem)) (x_4 : Int) (μ_5 : zMem) : Option (Int × zMem) :=
  if x_4 ≤ 0 then
    zlet (zw (x_1 + 1)) fun x_6 =>
    g2 x_6 μ_5
  else
    some (0, μ_5)
def f_X10_isFirst_K122 (x_8 : Int) (g46 : Int → Int → zMem → Option (Int × zMem)) (x_10 : Int) (μ_11 : zMem) : Option (Int × zMem) :=
  zlet (zw (x_8 + 1)) fun x_12 =>
  g46 x_10 x_12 μ_11
def f_X10_isFirst_L61 (x_1 : Int) (x_8 : Int) (g122 : Int → zMem → Option (Int × zMem)) : Nat → Int → Int → zMem → Option (Int × zMem)
  | 0, _, _, _ => none
  | n + 1, x_13, x_14, μ_15 =>
    if x_14 < (μ_15 101 28) then
      if x_13 = 0 then
        chk ((0 : Int) ≤ x_14 ∧ x_14 < 4) <|
        chk ((0 : Int) ≤ (zw ((zw (4 * x_8)) + (μ_15 134 x_14))) ∧ (zw ((zw (4 * x_8)) + (μ_15 134 x_14))) < 64) <|
        chk ((0 : Int) ≤ (zw ((zw (4 * x_1)) + (μ_15 128 (zw ((zw (4 * x_8)) + (μ_15 134 x_14)))))) ∧ (zw ((zw (4 * x_1)) + (μ_15 128 (zw ((zw (4 * x_8)) + (μ_15 134 x_14)))))) < 96) <|
        zlet ((μ_15 133 (zw ((zw (4 * x_1)) + (μ_15 128 (zw ((zw (4 * x_8)) + (μ_15 134 x_14)))))))) fun x_16 =>
        chk ((0 : Int) ≤ (zw ((zw (4 * x_8)) + x_14)) ∧ (zw ((zw (4 * x_8)) + x_14)) < 64) <|
        zlet ((zw ((μ_15 128 (zw ((zw (4 * x_8)) + x_14))) - x_16))) fun x_17 =>
        zlet (zw (x_14 + 1)) fun x_18 =>
        (f_X10_isFirst_L61 x_1 x_8 g122 n) x_17 x_18 μ_15
      else
        g122 x_13 μ_15
    else
      g122 x_13 μ_15
def f_X10_isFirst_L46 (x_1 : Int) (g128 : Int → zMem → Option (Int × zMem)) : Nat → Int → Int → zMem → Option (Int × zMem)
  | 0, _, _, _ => none
  | n + 1, x_7, x_8, μ_9 =>
    if x_8 < (μ_9 101 29) then
      if x_7 = 0 then
        (f_X10_isFirst_L61 x_1 x_8 (f_X10_isFirst_K122 x_8 (f_X10_isFirst_L46 x_1 g128 n))) zfu x_7 0 μ_9
      else
        g128 x_7 μ_9
    else
      g128 x_7 μ_9
def f_X10_isFirst_K42 (x_1 : Int) (g2 : Int → zMem → Option (Int × zMem)) (μ_3 : zMem) : Option (Int × zMem) :=
  (f_X10_isFirst_L46 x_1 (f_X10_isFirst_K128 x_1 g2)) zfu 0 0 μ_3
def f_X10_isFirst_L12 (x_1 : Int) (g42 : zMem → Option (Int × zMem)) : Nat → Int → zMem → Option (Int × zMem)
  | 0, _, _ => none
  | n + 1, x_19, μ_20 =>
    if x_19 < (μ_20 101 28) then
      chk ((0 : Int) ≤ (zw ((zw (4 * x_1)) + x_19)) ∧ (zw ((zw (4 * x_1)) + x_19)) < 96) <|
      chk ((0 : Int) ≤ (μ_20 133 (zw ((zw (4 * x_1)) + x_19))) ∧ (μ_20 133 (zw ((zw (4 * x_1)) + x_19))) < 4) <|
      zlet (zup μ_20 134 (μ_20 133 (zw ((zw (4 * x_1)) + x_19))) x_19) fun μ_21 =>
      zlet (zw (x_19 + 1)) fun x_22 =>
      (f_X10_isFirst_L12 x_1 g42 n) x_22 μ_21
    else
      g42 μ_20
def f_X10_isFirst_L2 : Nat → Int → zMem → Option (Int × zMem)
  | 0, _, _ => none
  | n + 1, x_1, μ_2 =>
    if x_1 < (μ_2 101 30) then
      (f_X10_isFirst_L12 x_1 (f_X10_isFirst_K42 x_1 (f_X10_isFirst_L2 n))) zfu 0 μ_2
    else
      some (1, μ_2)
def f_X10_isFirst (μ : zMem) : Option (Int × zMem) :=
  (f_X10_isFirst_L2) zfu 0 μ
set_option maxHeartbeats 4000000 in
set_option maxRecDepth 100000 in
theorem M_X10_isFirst {l : Launch} {Ω : zO} (hI : zIm Ω) (μ : zMem) {r : Int} {μ' : zMem} (h : f_X10_isFirst μ = some (r, μ')) : XMet l yX10_isFirst cX10_isFirst 6 (some Jvm.ClassFile.FieldType.boolean) 0 Ω [zR Ω 101] μ (some (zI r)) (0 ≤ r ∧ r ≤ 1) μ' := by
  refine XMet.ofZ (by decide) (Nat.le_of_ble_eq_true rfl) ?_
  intro p e s m args below meth c ls Q C rt X hl
  have C : zC p s m args c cX10_isFirst RX10 6 Ω := C
  have hl : lv_has ls 6 [(0, zR Ω 101)] := hl
  unfold f_X10_isFirst at h
  skip
  refine z_iconst C dX10_isFirst_0 ?_
  refine lv_istore_n C.1 C.2.1 (lv' := [(1, zI 0), (0, zR Ω 101)]) dX10_isFirst_1 rfl hl (by decide) rfl (fun ls hl => ?_)
  have L2 : ∀ (n2 : Nat) (x_1 : Int) (μ_2 : zMem) (H : Heap) (locs : List Loc) (ls : Array Slot), Rg x_1 → zX Ω μ_2 (zfree Ω) s.heap H locs → lv_has ls 6 [(0, zR Ω 101), (1, zI x_1)] → (f_X10_isFirst_L2 n2 x_1 μ_2) = some (r, μ') → W p l e (zrm 0) s m args below meth c H locs 0 0 Q (F0 m 2 ls []) := by
    intro n2
    induction n2 with
    | zero =>
      intro x_1 μ_2 H locs ls _ _ _ h
      cases h
    | succ n2 ih2 =>
      intro x_1 μ_2 H locs ls gx_1 X hl h
      unfold f_X10_isFirst_L2 at h
      refine lv_iload_n C.1 C.2.1 dX10_isFirst_2 rfl (lv_at hl 1 rfl) ?_
      refine lv_aload_n C.1 C.2.1 dX10_isFirst_3 rfl (lv_at hl 0 rfl) ?_
      have g_4 : Rg (μ_2 101 30) := zrgf0 (ci := 10) X.2.2.2 (hI.1 101 (by decide)) rfl 30 rfl
      refine z_get C X zk10 (hI.1 101 (by decide)) rfl 30 (by decide) kw_1062 (zI (μ_2 101 30)) rfl dX10_isFirst_4 ?_
      refine z_icmpge C gx_1 g_4 (tgt := 140) dX10_isFirst_7 (by decide) (fun hc7 => ?_) (fun hc7 => ?_)
      · rw [if_neg hc7] at h
        refine z_iconst C dX10_isFirst_140 ?_
        obtain ⟨rfl, rfl⟩ := Prod.mk.inj (Option.some.inj h)
        exact rt X ⟨by decide, by decide⟩ dX10_isFirst_141
      · rw [if_pos hc7] at h
        refine z_iconst C dX10_isFirst_10 ?_
        refine lv_istore_n C.1 C.2.1 (lv' := [(2, zI 0), (0, zR Ω 101), (1, zI x_1)]) dX10_isFirst_11 rfl hl (by decide) rfl (fun ls hl => ?_)
        have K42 : ∀ (μ_3 : zMem) (H : Heap) (locs : List Loc) (ls : Array Slot), zX Ω μ_3 (zfree Ω) s.heap H locs → lv_has ls 6 [(0, zR Ω 101), (1, zI x_1)] → (f_X10_isFirst_K42 x_1 (f_X10_isFirst_L2 n2)) μ_3 = some (r, μ') → W p l e (zrm 0) s m args below meth c H locs 0 0 Q (F0 m 42 ls []) := by
          intro μ_3 H locs ls  X hl h
          unfold f_X10_isFirst_K42 at h
          refine z_iconst C dX10_isFirst_42 ?_
          refine lv_istore_n C.1 C.2.1 (lv' := [(2, zI 0), (0, zR Ω 101), (1, zI x_1)]) dX10_isFirst_43 rfl hl (by decide) rfl (fun ls hl => ?_)
          refine z_iconst C dX10_isFirst_44 ?_
          refine lv_istore_n C.1 C.2.1 (lv' := [(3, zI 0), (2, zI 0), (0, zR Ω 101), (1, zI x_1)]) dX10_isFirst_45 rfl hl (by decide) rfl (fun ls hl => ?_)
          have K128 : ∀ (x_4 : Int) (μ_5 : zMem) (H : Heap) (locs : List Loc) (ls : Array Slot), Rg x_4 → zX Ω μ_5 (zfree Ω) s.heap H locs → lv_has ls 6 [(0, zR Ω 101), (1, zI x_1), (2, zI x_4)] → (f_X10_isFirst_K128 x_1 (f_X10_isFirst_L2 n2)) x_4 μ_5 = some (r, μ') → W p l e (zrm 0) s m args below meth c H locs 0 0 Q (F0 m 128 ls []) := by
            intro x_4 μ_5 H locs ls gx_4 X hl h
            unfold f_X10_isFirst_K128 at h
            refine lv_iload_n C.1 C.2.1 dX10_isFirst_128 rfl (lv_at hl 2 rfl) ?_
            refine z_ifle C gx_4 (tgt := 134) dX10_isFirst_129 (by decide) (fun hc129 => ?_) (fun hc129 => ?_)
            · rw [if_pos hc129] at h
              refine zlet_elim h (fun x_6 ex_6 h => ?_)
              have gx_6 : Rg x_6 := by rw [ex_6]; exact Rg.w _
              refine z_iinc C ex_6 dX10_isFirst_134 hl (k := 1) rfl (by decide) (lv' := [(1, zI x_6), (0, zR Ω 101), (2, zI x_4)]) rfl (fun ls hl => ?_)
              clear ex_6
              refine lv_goto (tgt := 2) C.1 C.2.1 dX10_isFirst_137 (by decide) ?_
              exact ih2 x_6 μ_5 _ _ _ gx_6 X (lv_sub hl [1, 0] rfl) h
            · rw [if_neg hc129] at h
              refine z_iconst C dX10_isFirst_132 ?_
              obtain ⟨rfl, rfl⟩ := Prod.mk.inj (Option.some.inj h)
              exact rt X ⟨by decide, by decide⟩ dX10_isFirst_133
          have L46 : ∀ (n46 : Nat) (x_7 : Int) (x_8 : Int) (μ_9 : zMem) (H : Heap) (locs : List Loc) (ls : Array Slot), Rg x_7 → Rg x_8 → zX Ω μ_9 (zfree Ω) s.heap H locs → lv_has ls 6 [(0, zR Ω 101), (1, zI x_1), (2, zI x_7), (3, zI x_8)] → (f_X10_isFirst_L46 x_1 (f_X10_isFirst_K128 x_1 (f_X10_isFirst_L2 n2)) n46 x_7 x_8 μ_9) = some (r, μ') → W p l e (zrm 0) s m args below meth c H locs 0 0 Q (F0 m 46 ls []) := by
            intro n46
            induction n46 with
            | zero =>
              intro x_7 x_8 μ_9 H locs ls _ _ _ _ h
              cases h
            | succ n46 ih46 =>
              intro x_7 x_8 μ_9 H locs ls gx_7 gx_8 X hl h
              unfold f_X10_isFirst_L46 at h
              refine lv_iload_n C.1 C.2.1 dX10_isFirst_46 rfl (lv_at hl 3 rfl) ?_
              refine lv_aload_n C.1 C.2.1 dX10_isFirst_47 rfl (lv_at hl 0 rfl) ?_
              have g_48 : Rg (μ_9 101 29) := zrgf0 (ci := 10) X.2.2.2 (hI.1 101 (by decide)) rfl 29 rfl
              refine z_get C X zk10 (hI.1 101 (by decide)) rfl 29 (by decide) kw_1061 (zI (μ_9 101 29)) rfl dX10_isFirst_48 ?_
              refine z_icmpge C gx_8 g_48 (tgt := 128) dX10_isFirst_51 (by decide) (fun hc51 => ?_) (fun hc51 => ?_)
              · rw [if_neg hc51] at h
                exact K128 x_7 μ_9 _ _ _ gx_7 X (lv_sub hl [0, 1, 2] rfl) h
              · rw [if_pos hc51] at h
                refine lv_iload_n C.1 C.2.1 dX10_isFirst_54 rfl (lv_at hl 2 rfl) ?_
                refine z_ifne C gx_7 (tgt := 128) dX10_isFirst_55 (by decide) (fun hc55 => ?_) (fun hc55 => ?_)
                · rw [if_neg hc55] at h
                  exact K128 x_7 μ_9 _ _ _ gx_7 X (lv_sub hl [0, 1, 2] rfl) h
                · rw [if_pos hc55] at h
                  refine z_iconst C dX10_isFirst_58 ?_
                  refine lv_istore C.1 C.2.1 (lv' := [(4, zI 0), (0, zR Ω 101), (1, zI x_1), (2, zI x_7), (3, zI x_8)]) dX10_isFirst_59 hl (by decide) rfl (fun ls hl => ?_)
                  have K122 : ∀ (x_10 : Int) (μ_11 : zMem) (H : Heap) (locs : List Loc) (ls : Array Slot), Rg x_10 → zX Ω μ_11 (zfree Ω) s.heap H locs → lv_has ls 6 [(0, zR Ω 101), (1, zI x_1), (2, zI x_10), (3, zI x_8)] → (f_X10_isFirst_K122 x_8 (f_X10_isFirst_L46 x_1 (f_X10_isFirst_K128 x_1 (f_X10_isFirst_L2 n2)) n46)) x_10 μ_11 = some (r, μ') → W p l e (zrm 0) s m args below meth c H locs 0 0 Q (F0 m 122 ls []) := by
                    intro x_10 μ_11 H locs ls gx_10 X hl h
                    unfold f_X10_isFirst_K122 at h
                    refine zlet_elim h (fun x_12 ex_12 h => ?_)
                    have gx_12 : Rg x_12 := by rw [ex_12]; exact Rg.w _
                    refine z_iinc C ex_12 dX10_isFirst_122 hl (k := 3) rfl (by decide) (lv' := [(3, zI x_12), (0, zR Ω 101), (1, zI x_1), (2, zI x_10)]) rfl (fun ls hl => ?_)
                    clear ex_12
                    refine lv_goto (tgt := 46) C.1 C.2.1 dX10_isFirst_125 (by decide) ?_
                    exact ih46 x_10 x_12 μ_11 _ _ _ gx_10 gx_12 X (lv_sub hl [1, 2, 3, 0] rfl) h
                  have L61 : ∀ (n61 : Nat) (x_13 : Int) (x_14 : Int) (μ_15 : zMem) (H : Heap) (locs : List Loc) (ls : Array Slot), Rg x_13 → Rg x_14 → zX Ω μ_15 (zfree Ω) s.heap H locs → lv_has ls 6 [(0, zR Ω 101), (1, zI x_1), (2, zI x_13), (3, zI x_8), (4, zI x_14)] → (f_X10_isFirst_L61 x_1 x_8 (f_X10_isFirst_K122 x_8 (f_X10_isFirst_L46 x_1 (f_X10_isFirst_K128 x_1 (f_X10_isFirst_L2 n2)) n46)) n61 x_13 x_14 μ_15) = some (r, μ') → W p l e (zrm 0) s m args below meth c H locs 0 0 Q (F0 m 61 ls []) := by
                    intro n61
                    induction n61 with
                    | zero =>
                      intro x_13 x_14 μ_15 H locs ls _ _ _ _ h
                      cases h
                    | succ n61 ih61 =>
                      intro x_13 x_14 μ_15 H locs ls gx_13 gx_14 X hl h
                      unfold f_X10_isFirst_L61 at h
                      refine lv_iload C.1 C.2.1 dX10_isFirst_61 (lv_at hl 4 rfl) ?_
                      refine lv_aload_n C.1 C.2.1 dX10_isFirst_63 rfl (lv_at hl 0 rfl) ?_
                      have g_64 : Rg (μ_15 101 28) := zrgf0 (ci := 10) X.2.2.2 (hI.1 101 (by decide)) rfl 28 rfl
                      refine z_get C X zk10 (hI.1 101 (by decide)) rfl 28 (by decide) kw_1060 (zI (μ_15 101 28)) rfl dX10_isFirst_64 ?_
                      refine z_icmpge C gx_14 g_64 (tgt := 122) dX10_isFirst_67 (by decide) (fun hc67 => ?_) (fun hc67 => ?_)
                      · rw [if_neg hc67] at h
                        exact K122 x_13 μ_15 _ _ _ gx_13 X (lv_sub hl [0, 1, 2, 3] rfl) h
                      · rw [if_pos hc67] at h
                        refine lv_iload_n C.1 C.2.1 dX10_isFirst_70 rfl (lv_at hl 2 rfl) ?_
                        refine z_ifne C gx_13 (tgt := 122) dX10_isFirst_71 (by decide) (fun hc71 => ?_) (fun hc71 => ?_)
                        · rw [if_neg hc71] at h
                          exact K122 x_13 μ_15 _ _ _ gx_13 X (lv_sub hl [0, 1, 2, 3] rfl) h
                        · rw [if_pos hc71] at h
                          refine lv_aload_n C.1 C.2.1 dX10_isFirst_74 rfl (lv_at hl 0 rfl) ?_
                          refine z_get C X zk10 (hI.1 101 (by decide)) rfl 31 (by decide) kw_1063 (zR Ω 133) (zfvF (off := 32) X.2.2.2 (hI.1 101 (by decide)) hI.2 rfl rfl (by decide)) dX10_isFirst_75 ?_
                          refine z_iconst C dX10_isFirst_78 ?_
                          refine lv_iload_n C.1 C.2.1 dX10_isFirst_79 rfl (lv_at hl 1 rfl) ?_
                          refine z_imul C dX10_isFirst_80 ?_
                          refine lv_aload_n C.1 C.2.1 dX10_isFirst_81 rfl (lv_at hl 0 rfl) ?_
                          refine z_get C X zk10 (hI.1 101 (by decide)) rfl 26 (by decide) kw_1058 (zR Ω 128) (zfvF (off := 27) X.2.2.2 (hI.1 101 (by decide)) hI.2 rfl rfl (by decide)) dX10_isFirst_82 ?_
                          refine z_iconst C dX10_isFirst_85 ?_
                          refine lv_iload_n C.1 C.2.1 dX10_isFirst_86 rfl (lv_at hl 3 rfl) ?_
                          refine z_imul C dX10_isFirst_87 ?_
                          refine lv_aload_n C.1 C.2.1 dX10_isFirst_88 rfl (lv_at hl 0 rfl) ?_
                          refine z_get C X zk10 (hI.1 101 (by decide)) rfl 32 (by decide) kw_1064 (zR Ω 134) (zfvF (off := 33) X.2.2.2 (hI.1 101 (by decide)) hI.2 rfl rfl (by decide)) dX10_isFirst_89 ?_
                          refine lv_iload C.1 C.2.1 dX10_isFirst_92 (lv_at hl 4 rfl) ?_
                          obtain ⟨hc94, h⟩ := chk_some h
                          have g_94 : Rg (μ_15 134 x_14) := zrg1 X.2.2.2 (hI.1 134 (by decide)) rfl
                          refine z_iald C X (hI.1 134 (by decide)) rfl hc94 dX10_isFirst_94 ?_
                          refine z_iadd C dX10_isFirst_95 ?_
                          obtain ⟨hc96, h⟩ := chk_some h
                          have g_96 : Rg (μ_15 128 (zw ((zw (4 * x_8)) + (μ_15 134 x_14)))) := zrg1 X.2.2.2 (hI.1 128 (by decide)) rfl
                          refine z_iald C X (hI.1 128 (by decide)) rfl hc96 dX10_isFirst_96 ?_
                          refine z_iadd C dX10_isFirst_97 ?_
                          obtain ⟨hc98, h⟩ := chk_some h
                          have g_98 : Rg (μ_15 133 (zw ((zw (4 * x_1)) + (μ_15 128 (zw ((zw (4 * x_8)) + (μ_15 134 x_14))))))) := zrg1 X.2.2.2 (hI.1 133 (by decide)) rfl
                          refine z_iald C X (hI.1 133 (by decide)) rfl hc98 dX10_isFirst_98 ?_
                          refine zlet_elim h (fun x_16 ex_16 h => ?_)
                          have gx_16 : Rg x_16 := by rw [ex_16]; exact g_98
                          refine z_istore C ex_16 dX10_isFirst_99 hl (by decide) (lv' := [(5, zI x_16), (0, zR Ω 101), (1, zI x_1), (2, zI x_13), (3, zI x_8), (4, zI x_14)]) rfl (fun ls hl => ?_)
                          clear ex_16
                          refine lv_aload_n C.1 C.2.1 dX10_isFirst_101 rfl (lv_at hl 1 rfl) ?_
                          refine z_get C X zk10 (hI.1 101 (by decide)) rfl 26 (by decide) kw_1058 (zR Ω 128) (zfvF (off := 27) X.2.2.2 (hI.1 101 (by decide)) hI.2 rfl rfl (by decide)) dX10_isFirst_102 ?_
                          refine z_iconst C dX10_isFirst_105 ?_
                          refine lv_iload_n C.1 C.2.1 dX10_isFirst_106 rfl (lv_at hl 4 rfl) ?_
                          refine z_imul C dX10_isFirst_107 ?_
                          refine lv_iload C.1 C.2.1 dX10_isFirst_108 (lv_at hl 5 rfl) ?_
                          refine z_iadd C dX10_isFirst_110 ?_
                          obtain ⟨hc111, h⟩ := chk_some h
                          have g_111 : Rg (μ_15 128 (zw ((zw (4 * x_8)) + x_14))) := zrg1 X.2.2.2 (hI.1 128 (by decide)) rfl
                          refine z_iald C X (hI.1 128 (by decide)) rfl hc111 dX10_isFirst_111 ?_
                          refine lv_iload C.1 C.2.1 dX10_isFirst_112 (lv_at hl 0 rfl) ?_
                          refine z_isub C dX10_isFirst_114 ?_
                          refine zlet_elim h (fun x_17 ex_17 h => ?_)
                          have gx_17 : Rg x_17 := by rw [ex_17]; exact (Rg.w _)
                          refine z_istore_n C ex_17 dX10_isFirst_115 rfl hl (by decide) (lv' := [(2, zI x_17), (5, zI x_16), (0, zR Ω 101), (1, zI x_1), (3, zI x_8), (4, zI x_14)]) rfl (fun ls hl => ?_)
                          clear ex_17
                          refine zlet_elim h (fun x_18 ex_18 h => ?_)
                          have gx_18 : Rg x_18 := by rw [ex_18]; exact Rg.w _
                          refine z_iinc C ex_18 dX10_isFirst_116 hl (k := 5) rfl (by decide) (lv' := [(4, zI x_18), (2, zI x_17), (5, zI x_16), (0, zR Ω 101), (1, zI x_1), (3, zI x_8)]) rfl (fun ls hl => ?_)
                          clear ex_18
                          refine lv_goto (tgt := 61) C.1 C.2.1 dX10_isFirst_119 (by decide) ?_
                          exact ih61 x_17 x_18 μ_15 _ _ _ gx_17 gx_18 X (lv_sub hl [3, 4, 1, 5, 0] rfl) h
                  exact L61 zfu x_7 0 μ_9 _ _ _ gx_7 ⟨by decide, by decide⟩ X (lv_sub hl [1, 2, 3, 4, 0] rfl) h
          exact L46 zfu 0 0 μ_3 _ _ _ ⟨by decide, by decide⟩ ⟨by decide, by decide⟩ X (lv_sub hl [2, 3, 1, 0] rfl) h
        have L12 : ∀ (n12 : Nat) (x_19 : Int) (μ_20 : zMem) (H : Heap) (locs : List Loc) (ls : Array Slot), Rg x_19 → zX Ω μ_20 (zfree Ω) s.heap H locs → lv_has ls 6 [(0, zR Ω 101), (1, zI x_1), (2, zI x_19)] → (f_X10_isFirst_L12 x_1 (f_X10_isFirst_K42 x_1 (f_X10_isFirst_L2 n2)) n12 x_19 μ_20) = some (r, μ') → W p l e (zrm 0) s m args below meth c H locs 0 0 Q (F0 m 12 ls []) := by
          intro n12
          induction n12 with
          | zero =>
            intro x_19 μ_20 H locs ls _ _ _ h
            cases h
          | succ n12 ih12 =>
            intro x_19 μ_20 H locs ls gx_19 X hl h
            unfold f_X10_isFirst_L12 at h
            refine lv_iload_n C.1 C.2.1 dX10_isFirst_12 rfl (lv_at hl 2 rfl) ?_
            refine lv_aload_n C.1 C.2.1 dX10_isFirst_13 rfl (lv_at hl 0 rfl) ?_
            have g_14 : Rg (μ_20 101 28) := zrgf0 (ci := 10) X.2.2.2 (hI.1 101 (by decide)) rfl 28 rfl
            refine z_get C X zk10 (hI.1 101 (by decide)) rfl 28 (by decide) kw_1060 (zI (μ_20 101 28)) rfl dX10_isFirst_14 ?_
            refine z_icmpge C gx_19 g_14 (tgt := 42) dX10_isFirst_17 (by decide) (fun hc17 => ?_) (fun hc17 => ?_)
            · rw [if_neg hc17] at h
              exact K42 μ_20 _ _ _ X (lv_sub hl [0, 1] rfl) h
            · rw [if_pos hc17] at h
              refine lv_aload_n C.1 C.2.1 dX10_isFirst_20 rfl (lv_at hl 0 rfl) ?_
              refine z_get C X zk10 (hI.1 101 (by decide)) rfl 32 (by decide) kw_1064 (zR Ω 134) (zfvF (off := 33) X.2.2.2 (hI.1 101 (by decide)) hI.2 rfl rfl (by decide)) dX10_isFirst_21 ?_
              refine lv_aload_n C.1 C.2.1 dX10_isFirst_24 rfl (lv_at hl 0 rfl) ?_
              refine z_get C X zk10 (hI.1 101 (by decide)) rfl 31 (by decide) kw_1063 (zR Ω 133) (zfvF (off := 32) X.2.2.2 (hI.1 101 (by decide)) hI.2 rfl rfl (by decide)) dX10_isFirst_25 ?_
              refine z_iconst C dX10_isFirst_28 ?_
              refine lv_iload_n C.1 C.2.1 dX10_isFirst_29 rfl (lv_at hl 1 rfl) ?_
              refine z_imul C dX10_isFirst_30 ?_
              refine lv_iload_n C.1 C.2.1 dX10_isFirst_31 rfl (lv_at hl 2 rfl) ?_
              refine z_iadd C dX10_isFirst_32 ?_
              obtain ⟨hc33, h⟩ := chk_some h
              have g_33 : Rg (μ_20 133 (zw ((zw (4 * x_1)) + x_19))) := zrg1 X.2.2.2 (hI.1 133 (by decide)) rfl
              refine z_iald C X (hI.1 133 (by decide)) rfl hc33 dX10_isFirst_33 ?_
              refine lv_iload_n C.1 C.2.1 dX10_isFirst_34 rfl (lv_at hl 2 rfl) ?_
              obtain ⟨hc35, h⟩ := chk_some h
              refine zlet_elim h (fun μ_21 em h => ?_)
              refine z_iast C X (hI.1 134 (by decide)) rfl hc35 (zok1 rfl gx_19) em dX10_isFirst_35 (fun H locs X => ?_)
              clear em
              refine zlet_elim h (fun x_22 ex_22 h => ?_)
              have gx_22 : Rg x_22 := by rw [ex_22]; exact Rg.w _
              refine z_iinc C ex_22 dX10_isFirst_36 hl (k := 2) rfl (by decide) (lv' := [(2, zI x_22), (0, zR Ω 101), (1, zI x_1)]) rfl (fun ls hl => ?_)
              clear ex_22
              refine lv_goto (tgt := 12) C.1 C.2.1 dX10_isFirst_39 (by decide) ?_
              exact ih12 x_22 μ_21 _ _ _ gx_22 X (lv_sub hl [1, 2, 0] rfl) h
        exact L12 zfu 0 μ_2 _ _ _ ⟨by decide, by decide⟩ X (lv_sub hl [1, 2, 0] rfl) h
  exact L2 zfu 0 μ _ _ _ ⟨by decide, by decide⟩ X (lv_sub hl [1, 0] rfl) h
theorem zc_X10_isFirst : zcal yX10_isFirst cX10_isFirst 6 (some Jvm.ClassFile.FieldType.boolean) RX10 0 := ⟨⟨kw_1426, kw_1425, kp_89, kw_12⟩, rfl, by decide, by decide, by decide +kernel⟩

