def f_X2_swapRows_L2 (x1 : Int) (x2 : Int) : Nat → Int → zMem → Option zMem
  | 0, _, _ => none
  | n + 1, x_1, μ_2 =>
    if x_1 < (μ_2 23 4) then
      if x1 = x2 then
        some μ_2
      else
        chk ((0 : Int) ≤ (zw ((zw (x1 * (μ_2 23 4))) + x_1)) ∧ (zw ((zw (x1 * (μ_2 23 4))) + x_1)) < 1536) <|
        zlet ((μ_2 24 (zw ((zw (x1 * (μ_2 23 4))) + x_1)))) fun x_3 =>
        chk ((0 : Int) ≤ (zw ((zw (x2 * (μ_2 23 4))) + x_1)) ∧ (zw ((zw (x2 * (μ_2 23 4))) + x_1)) < 1536) <|
        chk ((0 : Int) ≤ (zw ((zw (x1 * (μ_2 23 4))) + x_1)) ∧ (zw ((zw (x1 * (μ_2 23 4))) + x_1)) < 1536) <|
        zlet (zup μ_2 24 (zw ((zw (x1 * (μ_2 23 4))) + x_1)) (μ_2 24 (zw ((zw (x2 * (μ_2 23 4))) + x_1)))) fun μ_4 =>
        chk ((0 : Int) ≤ (zw ((zw (x2 * (μ_4 23 4))) + x_1)) ∧ (zw ((zw (x2 * (μ_4 23 4))) + x_1)) < 1536) <|
        zlet (zup μ_4 24 (zw ((zw (x2 * (μ_4 23 4))) + x_1)) x_3) fun μ_5 =>
        zlet (zw (x_1 + 1)) fun x_6 =>
        (f_X2_swapRows_L2 x1 x2 n) x_6 μ_5
    else
      some μ_2
def f_X2_swapRows (x1 : Int) (x2 : Int) (μ : zMem) : Option zMem :=
  (f_X2_swapRows_L2 x1 x2) zfu 0 μ
set_option maxHeartbeats 4000000 in
set_option maxRecDepth 100000 in
theorem M_X2_swapRows {l : Launch} {Ω : zO} (hI : zIc Ω) (μ : zMem) (x1 : Int) (x2 : Int) {μ' : zMem} (gx1 : Rg x1) (gx2 : Rg x2) (h : f_X2_swapRows x1 x2 μ = some μ') : XMet l yX2_swapRows cX2_swapRows 6 none 0 Ω [zR Ω 23, zI x1, zI x2] μ none True μ' := by
  refine XMet.ofV (by decide) (Nat.le_of_ble_eq_true rfl) ?_
  intro p e s m args below meth c ls Q C rt X hl
  have C : zC p s m args c cX2_swapRows RX2 6 Ω := C
  have hl : lv_has ls 6 [(0, zR Ω 23), (1, zI x1), (2, zI x2)] := hl
  unfold f_X2_swapRows at h
  skip
  refine z_iconst C dX2_swapRows_0 ?_
  refine lv_istore_n C.1 C.2.1 (lv' := [(3, zI 0), (0, zR Ω 23), (1, zI x1), (2, zI x2)]) dX2_swapRows_1 rfl hl (by decide) rfl (fun ls hl => ?_)
  have L2 : ∀ (n2 : Nat) (x_1 : Int) (μ_2 : zMem) (H : Heap) (locs : List Loc) (ls : Array Slot), Rg x_1 → zX Ω μ_2 (zfree Ω) s.heap H locs → lv_has ls 6 [(0, zR Ω 23), (1, zI x1), (2, zI x2), (3, zI x_1)] → (f_X2_swapRows_L2 x1 x2 n2 x_1 μ_2) = some μ' → W p l e (zrm 0) s m args below meth c H locs 0 0 Q (F0 m 2 ls []) := by
    intro n2
    induction n2 with
    | zero =>
      intro x_1 μ_2 H locs ls _ _ _ h
      cases h
    | succ n2 ih2 =>
      intro x_1 μ_2 H locs ls gx_1 X hl h
      unfold f_X2_swapRows_L2 at h
      refine lv_iload_n C.1 C.2.1 dX2_swapRows_2 rfl (lv_at hl 3 rfl) ?_
      refine lv_aload_n C.1 C.2.1 dX2_swapRows_3 rfl (lv_at hl 0 rfl) ?_
      have g_4 : Rg (μ_2 23 4) := zrgf0 (ci := 2) X.2.2.2 (hI.1 23 (by decide)) rfl 4 rfl
      refine z_get C X zk2 (hI.1 23 (by decide)) rfl 4 (by decide) kw_228 (zI (μ_2 23 4)) rfl dX2_swapRows_4 ?_
      refine z_icmpge C gx_1 g_4 (tgt := 77) dX2_swapRows_7 (by decide) (fun hc7 => ?_) (fun hc7 => ?_)
      · rw [if_neg hc7] at h
        obtain rfl := Option.some.inj h
        exact rt X dX2_swapRows_77
      · rw [if_pos hc7] at h
        refine lv_iload_n C.1 C.2.1 dX2_swapRows_10 rfl (lv_at hl 1 rfl) ?_
        refine lv_iload_n C.1 C.2.1 dX2_swapRows_11 rfl (lv_at hl 2 rfl) ?_
        refine z_icmpeq C gx1 gx2 (tgt := 77) dX2_swapRows_12 (by decide) (fun hc12 => ?_) (fun hc12 => ?_)
        · rw [if_pos hc12] at h
          obtain rfl := Option.some.inj h
          exact rt X dX2_swapRows_77
        · rw [if_neg hc12] at h
          refine lv_aload_n C.1 C.2.1 dX2_swapRows_15 rfl (lv_at hl 0 rfl) ?_
          refine z_get C X zk2 (hI.1 23 (by decide)) rfl 0 (by decide) kw_223 (zR Ω 24) (zfvF (off := 1) X.2.2.2 (hI.1 23 (by decide)) (hI.2 23 (by decide)) rfl rfl (by decide)) dX2_swapRows_16 ?_
          refine lv_iload_n C.1 C.2.1 dX2_swapRows_19 rfl (lv_at hl 1 rfl) ?_
          refine lv_aload_n C.1 C.2.1 dX2_swapRows_20 rfl (lv_at hl 0 rfl) ?_
          have g_21 : Rg (μ_2 23 4) := zrgf0 (ci := 2) X.2.2.2 (hI.1 23 (by decide)) rfl 4 rfl
          refine z_get C X zk2 (hI.1 23 (by decide)) rfl 4 (by decide) kw_228 (zI (μ_2 23 4)) rfl dX2_swapRows_21 ?_
          refine z_imul C dX2_swapRows_24 ?_
          refine lv_iload_n C.1 C.2.1 dX2_swapRows_25 rfl (lv_at hl 3 rfl) ?_
          refine z_iadd C dX2_swapRows_26 ?_
          obtain ⟨hc27, h⟩ := chk_some h
          have g_27 : Rl (μ_2 24 (zw ((zw (x1 * (μ_2 23 4))) + x_1))) := zrg2 X.2.2.2 (hI.1 24 (by decide)) rfl
          refine z_lald C X (hI.1 24 (by decide)) rfl hc27 dX2_swapRows_27 ?_
          refine zlet_elim h (fun x_3 ex_3 h => ?_)
          have gx_3 : Rl x_3 := by rw [ex_3]; exact g_27
          refine z_lstore C ex_3 dX2_swapRows_28 hl (by decide) (lv' := [(4, zJ x_3), (0, zR Ω 23), (1, zI x1), (2, zI x2), (3, zI x_1)]) rfl (fun ls hl => ?_)
          clear ex_3
          refine lv_aload_n C.1 C.2.1 dX2_swapRows_30 rfl (lv_at hl 1 rfl) ?_
          refine z_get C X zk2 (hI.1 23 (by decide)) rfl 0 (by decide) kw_223 (zR Ω 24) (zfvF (off := 1) X.2.2.2 (hI.1 23 (by decide)) (hI.2 23 (by decide)) rfl rfl (by decide)) dX2_swapRows_31 ?_
          refine lv_iload_n C.1 C.2.1 dX2_swapRows_34 rfl (lv_at hl 2 rfl) ?_
          refine lv_aload_n C.1 C.2.1 dX2_swapRows_35 rfl (lv_at hl 1 rfl) ?_
          have g_36 : Rg (μ_2 23 4) := zrgf0 (ci := 2) X.2.2.2 (hI.1 23 (by decide)) rfl 4 rfl
          refine z_get C X zk2 (hI.1 23 (by decide)) rfl 4 (by decide) kw_228 (zI (μ_2 23 4)) rfl dX2_swapRows_36 ?_
          refine z_imul C dX2_swapRows_39 ?_
          refine lv_iload_n C.1 C.2.1 dX2_swapRows_40 rfl (lv_at hl 4 rfl) ?_
          refine z_iadd C dX2_swapRows_41 ?_
          refine lv_aload_n C.1 C.2.1 dX2_swapRows_42 rfl (lv_at hl 1 rfl) ?_
          refine z_get C X zk2 (hI.1 23 (by decide)) rfl 0 (by decide) kw_223 (zR Ω 24) (zfvF (off := 1) X.2.2.2 (hI.1 23 (by decide)) (hI.2 23 (by decide)) rfl rfl (by decide)) dX2_swapRows_43 ?_
          refine lv_iload_n C.1 C.2.1 dX2_swapRows_46 rfl (lv_at hl 3 rfl) ?_
          refine lv_aload_n C.1 C.2.1 dX2_swapRows_47 rfl (lv_at hl 1 rfl) ?_
          have g_48 : Rg (μ_2 23 4) := zrgf0 (ci := 2) X.2.2.2 (hI.1 23 (by decide)) rfl 4 rfl
          refine z_get C X zk2 (hI.1 23 (by decide)) rfl 4 (by decide) kw_228 (zI (μ_2 23 4)) rfl dX2_swapRows_48 ?_
          refine z_imul C dX2_swapRows_51 ?_
          refine lv_iload_n C.1 C.2.1 dX2_swapRows_52 rfl (lv_at hl 4 rfl) ?_
          refine z_iadd C dX2_swapRows_53 ?_
          obtain ⟨hc54, h⟩ := chk_some h
          have g_54 : Rl (μ_2 24 (zw ((zw (x2 * (μ_2 23 4))) + x_1))) := zrg2 X.2.2.2 (hI.1 24 (by decide)) rfl
          refine z_lald C X (hI.1 24 (by decide)) rfl hc54 dX2_swapRows_54 ?_
          obtain ⟨hc55, h⟩ := chk_some h
          refine zlet_elim h (fun μ_4 em h => ?_)
          refine z_last C X (hI.1 24 (by decide)) rfl hc55 (zok2 rfl g_54) em dX2_swapRows_55 (fun H locs X => ?_)
          clear em
          refine lv_aload_n C.1 C.2.1 dX2_swapRows_56 rfl (lv_at hl 1 rfl) ?_
          refine z_get C X zk2 (hI.1 23 (by decide)) rfl 0 (by decide) kw_223 (zR Ω 24) (zfvF (off := 1) X.2.2.2 (hI.1 23 (by decide)) (hI.2 23 (by decide)) rfl rfl (by decide)) dX2_swapRows_57 ?_
          refine lv_iload_n C.1 C.2.1 dX2_swapRows_60 rfl (lv_at hl 3 rfl) ?_
          refine lv_aload_n C.1 C.2.1 dX2_swapRows_61 rfl (lv_at hl 1 rfl) ?_
          have g_62 : Rg (μ_4 23 4) := zrgf0 (ci := 2) X.2.2.2 (hI.1 23 (by decide)) rfl 4 rfl
          refine z_get C X zk2 (hI.1 23 (by decide)) rfl 4 (by decide) kw_228 (zI (μ_4 23 4)) rfl dX2_swapRows_62 ?_
          refine z_imul C dX2_swapRows_65 ?_
          refine lv_iload_n C.1 C.2.1 dX2_swapRows_66 rfl (lv_at hl 4 rfl) ?_
          refine z_iadd C dX2_swapRows_67 ?_
          refine lv_lload C.1 C.2.1 dX2_swapRows_68 (lv_at hl 0 rfl) ?_
          obtain ⟨hc70, h⟩ := chk_some h
          refine zlet_elim h (fun μ_5 em h => ?_)
          refine z_last C X (hI.1 24 (by decide)) rfl hc70 (zok2 rfl gx_3) em dX2_swapRows_70 (fun H locs X => ?_)
          clear em
          refine zlet_elim h (fun x_6 ex_6 h => ?_)
          have gx_6 : Rg x_6 := by rw [ex_6]; exact Rg.w _
          refine z_iinc C ex_6 dX2_swapRows_71 hl (k := 4) rfl (by decide) (lv' := [(3, zI x_6), (4, zJ x_3), (0, zR Ω 23), (1, zI x1), (2, zI x2)]) rfl (fun ls hl => ?_)
          clear ex_6
          refine lv_goto (tgt := 2) C.1 C.2.1 dX2_swapRows_74 (by decide) ?_
          exact ih2 x_6 μ_5 _ _ _ gx_6 X (lv_sub hl [2, 3, 4, 0] rfl) h
  exact L2 zfu 0 μ _ _ _ ⟨by decide, by decide⟩ X (lv_sub hl [1, 2, 3, 0] rfl) h
theorem zc_X2_swapRows : zcal yX2_swapRows cX2_swapRows 6 none RX2 2 := ⟨⟨kw_610, kw_609, kp_14, kw_7⟩, rfl, by decide, by decide, by decide +kernel⟩

def f_X2_rankModulo_L10 (x1 : Int) : Nat → Int → Int → zMem → Option (Int × zMem)
  | 0, _, _, _ => none
  | n + 1, x_2, x_3, μ_4 =>
    if x_3 < (μ_4 23 4) then
      if x_2 < (μ_4 23 3) then
        bnd (f_X2_rowWith x_3 x_2 μ_4) fun x_5 =>
        if x_5 = (-1) then
          zlet (zw (x_3 + 1)) fun x_6 =>
          (f_X2_rankModulo_L10 x1 n) x_2 x_6 μ_4
        else
          bnd (f_X2_swapRows x_5 x_2 μ_4) fun μ_7 =>
          bnd (f_X2_clearBelow x_2 x_3 x1 μ_7) fun μ_8 =>
          zlet (zw (x_2 + 1)) fun x_9 =>
          zlet (zw (x_3 + 1)) fun x_10 =>
          (f_X2_rankModulo_L10 x1 n) x_9 x_10 μ_8
      else
        some (x_2, μ_4)
    else
      some (x_2, μ_4)
def f_X2_rankModulo (x1 : Int) (μ : zMem) : Option (Int × zMem) :=
  bnd (f_X2_keepBelow x1 μ) fun μ_1 =>
  (f_X2_rankModulo_L10 x1) zfu 0 0 μ_1
set_option maxHeartbeats 4000000 in
set_option maxRecDepth 100000 in
theorem M_X2_rankModulo {l : Launch} {Ω : zO} (hI : zIc Ω) (μ : zMem) (x1 : Int) {r : Int} {μ' : zMem} (gx1 : Rg x1) (h : f_X2_rankModulo x1 μ = some (r, μ')) : XMet l yX2_rankModulo cX2_rankModulo 5 (some Jvm.ClassFile.FieldType.int) 1 Ω [zR Ω 23, zI x1] μ (some (zI r)) (Rg r) μ' := by
  refine XMet.ofI (by decide) (Nat.le_of_ble_eq_true rfl) ?_
  intro p e s m args below meth c ls Q C rt X hl
  have C : zC p s m args c cX2_rankModulo RX2 5 Ω := C
  have hl : lv_has ls 5 [(0, zR Ω 23), (1, zI x1)] := hl
  unfold f_X2_rankModulo at h
  skip
  refine lv_aload_n C.1 C.2.1 dX2_rankModulo_0 rfl (lv_at hl 0 rfl) ?_
  refine lv_iload_n C.1 C.2.1 dX2_rankModulo_1 rfl (lv_at hl 1 rfl) ?_
  refine z_i2l C gx1 dX2_rankModulo_2 ?_
  obtain ⟨μ_1, hq3, h⟩ := bnd_some h
  refine z_callV0 C X zk2 (hI.1 23 (by decide)) rfl (As := [zJ x1]) (M_X2_keepBelow hI μ x1 (Rg.l gx1) hq3) zc_X2_keepBelow kw_619 (zroom (by decide) (by decide)) rfl hl.1 rfl (Nat.le_of_ble_eq_true rfl) dX2_rankModulo_3 ⟨Nat.zero_le _, Nat.zero_le _⟩ (fun H locs g_3 X => ?_)
  refine z_iconst C dX2_rankModulo_6 ?_
  refine lv_istore_n C.1 C.2.1 (lv' := [(2, zI 0), (0, zR Ω 23), (1, zI x1)]) dX2_rankModulo_7 rfl hl (by decide) rfl (fun ls hl => ?_)
  refine z_iconst C dX2_rankModulo_8 ?_
  refine lv_istore_n C.1 C.2.1 (lv' := [(3, zI 0), (2, zI 0), (0, zR Ω 23), (1, zI x1)]) dX2_rankModulo_9 rfl hl (by decide) rfl (fun ls hl => ?_)
  have L10 : ∀ (n10 : Nat) (x_2 : Int) (x_3 : Int) (μ_4 : zMem) (H : Heap) (locs : List Loc) (ls : Array Slot), Rg x_2 → Rg x_3 → zX Ω μ_4 (zfree Ω) s.heap H locs → lv_has ls 5 [(0, zR Ω 23), (1, zI x1), (2, zI x_2), (3, zI x_3)] → (f_X2_rankModulo_L10 x1 n10 x_2 x_3 μ_4) = some (r, μ') → W p l e (zrm 1) s m args below meth c H locs 0 0 Q (F0 m 10 ls []) := by
    intro n10
    induction n10 with
    | zero =>
      intro x_2 x_3 μ_4 H locs ls _ _ _ _ h
      cases h
    | succ n10 ih10 =>
      intro x_2 x_3 μ_4 H locs ls gx_2 gx_3 X hl h
      unfold f_X2_rankModulo_L10 at h
      refine lv_iload_n C.1 C.2.1 dX2_rankModulo_10 rfl (lv_at hl 3 rfl) ?_
      refine lv_aload_n C.1 C.2.1 dX2_rankModulo_11 rfl (lv_at hl 0 rfl) ?_
      have g_12 : Rg (μ_4 23 4) := zrgf0 (ci := 2) X.2.2.2 (hI.1 23 (by decide)) rfl 4 rfl
      refine z_get C X zk2 (hI.1 23 (by decide)) rfl 4 (by decide) kw_228 (zI (μ_4 23 4)) rfl dX2_rankModulo_12 ?_
      refine z_icmpge C gx_3 g_12 (tgt := 63) dX2_rankModulo_15 (by decide) (fun hc15 => ?_) (fun hc15 => ?_)
      · rw [if_neg hc15] at h
        refine lv_iload_n C.1 C.2.1 dX2_rankModulo_63 rfl (lv_at hl 2 rfl) ?_
        obtain ⟨rfl, rfl⟩ := Prod.mk.inj (Option.some.inj h)
        exact rt X gx_2 dX2_rankModulo_64
      · rw [if_pos hc15] at h
        refine lv_iload_n C.1 C.2.1 dX2_rankModulo_18 rfl (lv_at hl 2 rfl) ?_
        refine lv_aload_n C.1 C.2.1 dX2_rankModulo_19 rfl (lv_at hl 0 rfl) ?_
        have g_20 : Rg (μ_4 23 3) := zrgf0 (ci := 2) X.2.2.2 (hI.1 23 (by decide)) rfl 3 rfl
        refine z_get C X zk2 (hI.1 23 (by decide)) rfl 3 (by decide) kw_227 (zI (μ_4 23 3)) rfl dX2_rankModulo_20 ?_
        refine z_icmpge C gx_2 g_20 (tgt := 63) dX2_rankModulo_23 (by decide) (fun hc23 => ?_) (fun hc23 => ?_)
        · rw [if_neg hc23] at h
          refine lv_iload_n C.1 C.2.1 dX2_rankModulo_63 rfl (lv_at hl 2 rfl) ?_
          obtain ⟨rfl, rfl⟩ := Prod.mk.inj (Option.some.inj h)
          exact rt X gx_2 dX2_rankModulo_64
        · rw [if_pos hc23] at h
          refine lv_aload_n C.1 C.2.1 dX2_rankModulo_26 rfl (lv_at hl 0 rfl) ?_
          refine lv_iload_n C.1 C.2.1 dX2_rankModulo_27 rfl (lv_at hl 3 rfl) ?_
          refine lv_iload_n C.1 C.2.1 dX2_rankModulo_28 rfl (lv_at hl 2 rfl) ?_
          obtain ⟨x_5, hq29, h⟩ := bnd_some h
          refine z_callV1 C X zk2 (hI.1 23 (by decide)) rfl (As := [zI x_3, zI x_2]) (M_X2_rowWith hI μ_4 x_3 x_2 gx_3 gx_2 hq29) zc_X2_rowWith kw_603 (zroom (by decide) (by decide)) rfl hl.1 rfl (Nat.le_of_ble_eq_true rfl) dX2_rankModulo_29 ⟨Nat.zero_le _, Nat.zero_le _⟩ (fun H locs g_29 X => ?_)
          refine lv_istore C.1 C.2.1 (lv' := [(4, zI x_5), (0, zR Ω 23), (1, zI x1), (2, zI x_2), (3, zI x_3)]) dX2_rankModulo_32 hl (by decide) rfl (fun ls hl => ?_)
          refine lv_iload C.1 C.2.1 dX2_rankModulo_34 (lv_at hl 0 rfl) ?_
          refine z_iconst C dX2_rankModulo_36 ?_
          refine z_icmpeq C g_29 ⟨by decide, by decide⟩ (tgt := 57) dX2_rankModulo_37 (by decide) (fun hc37 => ?_) (fun hc37 => ?_)
          · rw [if_pos hc37] at h
            refine zlet_elim h (fun x_6 ex_6 h => ?_)
            have gx_6 : Rg x_6 := by rw [ex_6]; exact Rg.w _
            refine z_iinc C ex_6 dX2_rankModulo_57 hl (k := 4) rfl (by decide) (lv' := [(3, zI x_6), (4, zI x_5), (0, zR Ω 23), (1, zI x1), (2, zI x_2)]) rfl (fun ls hl => ?_)
            clear ex_6
            refine lv_goto (tgt := 10) C.1 C.2.1 dX2_rankModulo_60 (by decide) ?_
            exact ih10 x_2 x_6 μ_4 _ _ _ gx_2 gx_6 X (lv_sub hl [2, 3, 4, 0] rfl) h
          · rw [if_neg hc37] at h
            refine lv_aload_n C.1 C.2.1 dX2_rankModulo_40 rfl (lv_at hl 1 rfl) ?_
            refine lv_iload C.1 C.2.1 dX2_rankModulo_41 (lv_at hl 0 rfl) ?_
            refine lv_iload_n C.1 C.2.1 dX2_rankModulo_43 rfl (lv_at hl 3 rfl) ?_
            obtain ⟨μ_7, hq44, h⟩ := bnd_some h
            refine z_callV0 C X zk2 (hI.1 23 (by decide)) rfl (As := [zI x_5, zI x_2]) (M_X2_swapRows hI μ_4 x_5 x_2 g_29 gx_2 hq44) zc_X2_swapRows kw_607 (zroom (by decide) (by decide)) rfl hl.1 rfl (Nat.le_of_ble_eq_true rfl) dX2_rankModulo_44 ⟨Nat.zero_le _, Nat.zero_le _⟩ (fun H locs g_44 X => ?_)
            refine lv_aload_n C.1 C.2.1 dX2_rankModulo_47 rfl (lv_at hl 1 rfl) ?_
            refine lv_iload_n C.1 C.2.1 dX2_rankModulo_48 rfl (lv_at hl 3 rfl) ?_
            refine lv_iload_n C.1 C.2.1 dX2_rankModulo_49 rfl (lv_at hl 4 rfl) ?_
            refine lv_iload_n C.1 C.2.1 dX2_rankModulo_50 rfl (lv_at hl 2 rfl) ?_
            obtain ⟨μ_8, hq51, h⟩ := bnd_some h
            refine z_callV0 C X zk2 (hI.1 23 (by decide)) rfl (As := [zI x_2, zI x_3, zI x1]) (M_X2_clearBelow hI μ_7 x_2 x_3 x1 gx_2 gx_3 gx1 hq51) zc_X2_clearBelow kw_626 (zroom (by decide) (by decide)) rfl hl.1 rfl (Nat.le_of_ble_eq_true rfl) dX2_rankModulo_51 ⟨Nat.zero_le _, Nat.zero_le _⟩ (fun H locs g_51 X => ?_)
            refine zlet_elim h (fun x_9 ex_9 h => ?_)
            have gx_9 : Rg x_9 := by rw [ex_9]; exact Rg.w _
            refine z_iinc C ex_9 dX2_rankModulo_54 hl (k := 3) rfl (by decide) (lv' := [(2, zI x_9), (4, zI x_5), (0, zR Ω 23), (1, zI x1), (3, zI x_3)]) rfl (fun ls hl => ?_)
            clear ex_9
            refine zlet_elim h (fun x_10 ex_10 h => ?_)
            have gx_10 : Rg x_10 := by rw [ex_10]; exact Rg.w _
            refine z_iinc C ex_10 dX2_rankModulo_57 hl (k := 4) rfl (by decide) (lv' := [(3, zI x_10), (2, zI x_9), (4, zI x_5), (0, zR Ω 23), (1, zI x1)]) rfl (fun ls hl => ?_)
            clear ex_10
            refine lv_goto (tgt := 10) C.1 C.2.1 dX2_rankModulo_60 (by decide) ?_
            exact ih10 x_9 x_10 μ_8 _ _ _ gx_9 gx_10 X (lv_sub hl [3, 4, 1, 0] rfl) h
  exact L10 zfu 0 0 μ_1 _ _ _ ⟨by decide, by decide⟩ ⟨by decide, by decide⟩ X (lv_sub hl [2, 3, 1, 0] rfl) h
theorem zc_X2_rankModulo : zcal yX2_rankModulo cX2_rankModulo 5 (some Jvm.ClassFile.FieldType.int) RX2 1 := ⟨⟨kw_618, kw_617, kp_16, kw_7⟩, rfl, by decide, by decide, by decide +kernel⟩

def f_X2_clearBelowWhole_K131 (x_3 : Int) (g29 : Int → zMem → Option zMem) (μ_6 : zMem) : Option zMem :=
  zlet (zw (x_3 + 1)) fun x_7 =>
  g29 x_7 μ_6
def f_X2_clearBelowWhole_L57 (x1 : Int) (x_1 : Int) (x_3 : Int) (x_5 : Int) (g131 : zMem → Option zMem) : Nat → Int → zMem → Option zMem
  | 0, _, _ => none
  | n + 1, x_8, μ_9 =>
    if x_8 < (μ_9 23 4) then
      chk ((0 : Int) ≤ (zw ((zw (x_3 * (μ_9 23 4))) + x_8)) ∧ (zw ((zw (x_3 * (μ_9 23 4))) + x_8)) < 1536) <|
      chk ((0 : Int) ≤ (zw ((zw (x1 * (μ_9 23 4))) + x_8)) ∧ (zw ((zw (x1 * (μ_9 23 4))) + x_8)) < 1536) <|
      zlet ((zl ((zl (x_1 * (μ_9 24 (zw ((zw (x_3 * (μ_9 23 4))) + x_8))))) - (zl (x_5 * (μ_9 24 (zw ((zw (x1 * (μ_9 23 4))) + x_8)))))))) fun x_10 =>
      chk ((μ_9 23 5) ≠ 0) <|
      chk ((0 : Int) ≤ (zw ((zw (x_3 * (μ_9 23 4))) + x_8)) ∧ (zw ((zw (x_3 * (μ_9 23 4))) + x_8)) < 1536) <|
      zlet (zup μ_9 24 (zw ((zw (x_3 * (μ_9 23 4))) + x_8)) (zl (Int.tdiv x_10 (μ_9 23 5)))) fun μ_11 =>
      zlet (zw (x_8 + 1)) fun x_12 =>
      (f_X2_clearBelowWhole_L57 x1 x_1 x_3 x_5 g131 n) x_12 μ_11
    else
      g131 μ_9
def f_X2_clearBelowWhole_L29 (x1 : Int) (x2 : Int) (x_1 : Int) : Nat → Int → zMem → Option zMem
  | 0, _, _ => none
  | n + 1, x_3, μ_4 =>
    if x_3 < (μ_4 23 3) then
      chk ((0 : Int) ≤ (zw ((zw (x_3 * (μ_4 23 4))) + x2)) ∧ (zw ((zw (x_3 * (μ_4 23 4))) + x2)) < 1536) <|
      zlet ((μ_4 24 (zw ((zw (x_3 * (μ_4 23 4))) + x2)))) fun x_5 =>
      (f_X2_clearBelowWhole_L57 x1 x_1 x_3 x_5 (f_X2_clearBelowWhole_K131 x_3 (f_X2_clearBelowWhole_L29 x1 x2 x_1 n))) zfu x2 μ_4
    else
      some μ_4
def f_X2_clearBelowWhole (x1 : Int) (x2 : Int) (μ : zMem) : Option zMem :=
  if (μ 23 5) = 0 then
    some μ
  else
    chk ((0 : Int) ≤ (zw ((zw (x1 * (μ 23 4))) + x2)) ∧ (zw ((zw (x1 * (μ 23 4))) + x2)) < 1536) <|
    zlet ((μ 24 (zw ((zw (x1 * (μ 23 4))) + x2)))) fun x_1 =>
    zlet ((zw (x1 + 1))) fun x_2 =>
    (f_X2_clearBelowWhole_L29 x1 x2 x_1) zfu x_2 μ
set_option maxHeartbeats 4000000 in
set_option maxRecDepth 100000 in
theorem M_X2_clearBelowWhole {l : Launch} {Ω : zO} (hI : zIc Ω) (μ : zMem) (x1 : Int) (x2 : Int) {μ' : zMem} (gx1 : Rg x1) (gx2 : Rg x2) (h : f_X2_clearBelowWhole x1 x2 μ = some μ') : XMet l yX2_clearBelowWhole cX2_clearBelowWhole 11 none 0 Ω [zR Ω 23, zI x1, zI x2] μ none True μ' := by
  refine XMet.ofV (by decide) (Nat.le_of_ble_eq_true rfl) ?_
  intro p e s m args below meth c ls Q C rt X hl
  have C : zC p s m args c cX2_clearBelowWhole RX2 11 Ω := C
  have hl : lv_has ls 11 [(0, zR Ω 23), (1, zI x1), (2, zI x2)] := hl
  unfold f_X2_clearBelowWhole at h
  skip
  refine lv_aload_n C.1 C.2.1 dX2_clearBelowWhole_0 rfl (lv_at hl 0 rfl) ?_
  have g_1 : Rl (μ 23 5) := zrgf1 (ci := 2) X.2.2.2 (hI.1 23 (by decide)) rfl 5 rfl
  refine z_get C X zk2 (hI.1 23 (by decide)) rfl 5 (by decide) kw_229 (zJ (μ 23 5)) rfl dX2_clearBelowWhole_1 ?_
  refine z_lconst C 0 rfl dX2_clearBelowWhole_4 ?_
  refine z_lne C g_1 ⟨by decide, by decide⟩ (tgt := 10) dX2_clearBelowWhole_5 dX2_clearBelowWhole_6 (by decide) (fun hc5 => ?_) (fun hc5 => ?_)
  · rw [if_neg hc5] at h
    refine lv_aload_n C.1 C.2.1 dX2_clearBelowWhole_10 rfl (lv_at hl 0 rfl) ?_
    refine z_get C X zk2 (hI.1 23 (by decide)) rfl 0 (by decide) kw_223 (zR Ω 24) (zfvF (off := 1) X.2.2.2 (hI.1 23 (by decide)) (hI.2 23 (by decide)) rfl rfl (by decide)) dX2_clearBelowWhole_11 ?_
    refine lv_iload_n C.1 C.2.1 dX2_clearBelowWhole_14 rfl (lv_at hl 1 rfl) ?_
    refine lv_aload_n C.1 C.2.1 dX2_clearBelowWhole_15 rfl (lv_at hl 0 rfl) ?_
    have g_16 : Rg (μ 23 4) := zrgf0 (ci := 2) X.2.2.2 (hI.1 23 (by decide)) rfl 4 rfl
    refine z_get C X zk2 (hI.1 23 (by decide)) rfl 4 (by decide) kw_228 (zI (μ 23 4)) rfl dX2_clearBelowWhole_16 ?_
    refine z_imul C dX2_clearBelowWhole_19 ?_
    refine lv_iload_n C.1 C.2.1 dX2_clearBelowWhole_20 rfl (lv_at hl 2 rfl) ?_
    refine z_iadd C dX2_clearBelowWhole_21 ?_
    obtain ⟨hc22, h⟩ := chk_some h
    have g_22 : Rl (μ 24 (zw ((zw (x1 * (μ 23 4))) + x2))) := zrg2 X.2.2.2 (hI.1 24 (by decide)) rfl
    refine z_lald C X (hI.1 24 (by decide)) rfl hc22 dX2_clearBelowWhole_22 ?_
    refine zlet_elim h (fun x_1 ex_1 h => ?_)
    have gx_1 : Rl x_1 := by rw [ex_1]; exact g_22
    refine z_lstore_n C ex_1 dX2_clearBelowWhole_23 rfl hl (by decide) (lv' := [(3, zJ x_1), (0, zR Ω 23), (1, zI x1), (2, zI x2)]) rfl (fun ls hl => ?_)
    clear ex_1
    refine lv_iload_n C.1 C.2.1 dX2_clearBelowWhole_24 rfl (lv_at hl 2 rfl) ?_
    refine z_iconst C dX2_clearBelowWhole_25 ?_
    refine z_iadd C dX2_clearBelowWhole_26 ?_
    refine zlet_elim h (fun x_2 ex_2 h => ?_)
    have gx_2 : Rg x_2 := by rw [ex_2]; exact (Rg.w _)
    refine z_istore C ex_2 dX2_clearBelowWhole_27 hl (by decide) (lv' := [(5, zI x_2), (3, zJ x_1), (0, zR Ω 23), (1, zI x1), (2, zI x2)]) rfl (fun ls hl => ?_)
    clear ex_2
    have L29 : ∀ (n29 : Nat) (x_3 : Int) (μ_4 : zMem) (H : Heap) (locs : List Loc) (ls : Array Slot), Rg x_3 → zX Ω μ_4 (zfree Ω) s.heap H locs → lv_has ls 11 [(0, zR Ω 23), (1, zI x1), (2, zI x2), (3, zJ x_1), (5, zI x_3)] → (f_X2_clearBelowWhole_L29 x1 x2 x_1 n29 x_3 μ_4) = some μ' → W p l e (zrm 0) s m args below meth c H locs 0 0 Q (F0 m 29 ls []) := by
      intro n29
      induction n29 with
      | zero =>
        intro x_3 μ_4 H locs ls _ _ _ h
        cases h
      | succ n29 ih29 =>
        intro x_3 μ_4 H locs ls gx_3 X hl h
        unfold f_X2_clearBelowWhole_L29 at h
        refine lv_iload C.1 C.2.1 dX2_clearBelowWhole_29 (lv_at hl 4 rfl) ?_
        refine lv_aload_n C.1 C.2.1 dX2_clearBelowWhole_31 rfl (lv_at hl 0 rfl) ?_
        have g_32 : Rg (μ_4 23 3) := zrgf0 (ci := 2) X.2.2.2 (hI.1 23 (by decide)) rfl 3 rfl
        refine z_get C X zk2 (hI.1 23 (by decide)) rfl 3 (by decide) kw_227 (zI (μ_4 23 3)) rfl dX2_clearBelowWhole_32 ?_
        refine z_icmpge C gx_3 g_32 (tgt := 137) dX2_clearBelowWhole_35 (by decide) (fun hc35 => ?_) (fun hc35 => ?_)
        · rw [if_neg hc35] at h
          obtain rfl := Option.some.inj h
          exact rt X dX2_clearBelowWhole_137
        · rw [if_pos hc35] at h
          refine lv_aload_n C.1 C.2.1 dX2_clearBelowWhole_38 rfl (lv_at hl 0 rfl) ?_
          refine z_get C X zk2 (hI.1 23 (by decide)) rfl 0 (by decide) kw_223 (zR Ω 24) (zfvF (off := 1) X.2.2.2 (hI.1 23 (by decide)) (hI.2 23 (by decide)) rfl rfl (by decide)) dX2_clearBelowWhole_39 ?_
          refine lv_iload C.1 C.2.1 dX2_clearBelowWhole_42 (lv_at hl 4 rfl) ?_
          refine lv_aload_n C.1 C.2.1 dX2_clearBelowWhole_44 rfl (lv_at hl 0 rfl) ?_
          have g_45 : Rg (μ_4 23 4) := zrgf0 (ci := 2) X.2.2.2 (hI.1 23 (by decide)) rfl 4 rfl
          refine z_get C X zk2 (hI.1 23 (by decide)) rfl 4 (by decide) kw_228 (zI (μ_4 23 4)) rfl dX2_clearBelowWhole_45 ?_
          refine z_imul C dX2_clearBelowWhole_48 ?_
          refine lv_iload_n C.1 C.2.1 dX2_clearBelowWhole_49 rfl (lv_at hl 2 rfl) ?_
          refine z_iadd C dX2_clearBelowWhole_50 ?_
          obtain ⟨hc51, h⟩ := chk_some h
          have g_51 : Rl (μ_4 24 (zw ((zw (x_3 * (μ_4 23 4))) + x2))) := zrg2 X.2.2.2 (hI.1 24 (by decide)) rfl
          refine z_lald C X (hI.1 24 (by decide)) rfl hc51 dX2_clearBelowWhole_51 ?_
          refine zlet_elim h (fun x_5 ex_5 h => ?_)
          have gx_5 : Rl x_5 := by rw [ex_5]; exact g_51
          refine z_lstore C ex_5 dX2_clearBelowWhole_52 hl (by decide) (lv' := [(6, zJ x_5), (0, zR Ω 23), (1, zI x1), (2, zI x2), (3, zJ x_1), (5, zI x_3)]) rfl (fun ls hl => ?_)
          clear ex_5
          refine lv_iload_n C.1 C.2.1 dX2_clearBelowWhole_54 rfl (lv_at hl 3 rfl) ?_
          refine lv_istore C.1 C.2.1 (lv' := [(8, zI x2), (6, zJ x_5), (0, zR Ω 23), (1, zI x1), (2, zI x2), (3, zJ x_1), (5, zI x_3)]) dX2_clearBelowWhole_55 hl (by decide) rfl (fun ls hl => ?_)
          have K131 : ∀ (μ_6 : zMem) (H : Heap) (locs : List Loc) (ls : Array Slot), zX Ω μ_6 (zfree Ω) s.heap H locs → lv_has ls 11 [(0, zR Ω 23), (1, zI x1), (2, zI x2), (3, zJ x_1), (5, zI x_3)] → (f_X2_clearBelowWhole_K131 x_3 (f_X2_clearBelowWhole_L29 x1 x2 x_1 n29)) μ_6 = some μ' → W p l e (zrm 0) s m args below meth c H locs 0 0 Q (F0 m 131 ls []) := by
            intro μ_6 H locs ls  X hl h
            unfold f_X2_clearBelowWhole_K131 at h
            refine zlet_elim h (fun x_7 ex_7 h => ?_)
            have gx_7 : Rg x_7 := by rw [ex_7]; exact Rg.w _
            refine z_iinc C ex_7 dX2_clearBelowWhole_131 hl (k := 4) rfl (by decide) (lv' := [(5, zI x_7), (0, zR Ω 23), (1, zI x1), (2, zI x2), (3, zJ x_1)]) rfl (fun ls hl => ?_)
            clear ex_7
            refine lv_goto (tgt := 29) C.1 C.2.1 dX2_clearBelowWhole_134 (by decide) ?_
            exact ih29 x_7 μ_6 _ _ _ gx_7 X (lv_sub hl [1, 2, 3, 4, 0] rfl) h
          have L57 : ∀ (n57 : Nat) (x_8 : Int) (μ_9 : zMem) (H : Heap) (locs : List Loc) (ls : Array Slot), Rg x_8 → zX Ω μ_9 (zfree Ω) s.heap H locs → lv_has ls 11 [(0, zR Ω 23), (1, zI x1), (2, zI x2), (3, zJ x_1), (5, zI x_3), (6, zJ x_5), (8, zI x_8)] → (f_X2_clearBelowWhole_L57 x1 x_1 x_3 x_5 (f_X2_clearBelowWhole_K131 x_3 (f_X2_clearBelowWhole_L29 x1 x2 x_1 n29)) n57 x_8 μ_9) = some μ' → W p l e (zrm 0) s m args below meth c H locs 0 0 Q (F0 m 57 ls []) := by
            intro n57
            induction n57 with
            | zero =>
              intro x_8 μ_9 H locs ls _ _ _ h
              cases h
            | succ n57 ih57 =>
              intro x_8 μ_9 H locs ls gx_8 X hl h
              unfold f_X2_clearBelowWhole_L57 at h
              refine lv_iload C.1 C.2.1 dX2_clearBelowWhole_57 (lv_at hl 6 rfl) ?_
              refine lv_aload_n C.1 C.2.1 dX2_clearBelowWhole_59 rfl (lv_at hl 0 rfl) ?_
              have g_60 : Rg (μ_9 23 4) := zrgf0 (ci := 2) X.2.2.2 (hI.1 23 (by decide)) rfl 4 rfl
              refine z_get C X zk2 (hI.1 23 (by decide)) rfl 4 (by decide) kw_228 (zI (μ_9 23 4)) rfl dX2_clearBelowWhole_60 ?_
              refine z_icmpge C gx_8 g_60 (tgt := 131) dX2_clearBelowWhole_63 (by decide) (fun hc63 => ?_) (fun hc63 => ?_)
              · rw [if_neg hc63] at h
                exact K131 μ_9 _ _ _ X (lv_sub hl [0, 1, 2, 3, 4] rfl) h
              · rw [if_pos hc63] at h
                refine lv_lload_n C.1 C.2.1 dX2_clearBelowWhole_66 rfl (lv_at hl 3 rfl) ?_
                refine lv_aload_n C.1 C.2.1 dX2_clearBelowWhole_67 rfl (lv_at hl 0 rfl) ?_
                refine z_get C X zk2 (hI.1 23 (by decide)) rfl 0 (by decide) kw_223 (zR Ω 24) (zfvF (off := 1) X.2.2.2 (hI.1 23 (by decide)) (hI.2 23 (by decide)) rfl rfl (by decide)) dX2_clearBelowWhole_68 ?_
                refine lv_iload C.1 C.2.1 dX2_clearBelowWhole_71 (lv_at hl 4 rfl) ?_
                refine lv_aload_n C.1 C.2.1 dX2_clearBelowWhole_73 rfl (lv_at hl 0 rfl) ?_
                have g_74 : Rg (μ_9 23 4) := zrgf0 (ci := 2) X.2.2.2 (hI.1 23 (by decide)) rfl 4 rfl
                refine z_get C X zk2 (hI.1 23 (by decide)) rfl 4 (by decide) kw_228 (zI (μ_9 23 4)) rfl dX2_clearBelowWhole_74 ?_
                refine z_imul C dX2_clearBelowWhole_77 ?_
                refine lv_iload C.1 C.2.1 dX2_clearBelowWhole_78 (lv_at hl 6 rfl) ?_
                refine z_iadd C dX2_clearBelowWhole_80 ?_
                obtain ⟨hc81, h⟩ := chk_some h
                have g_81 : Rl (μ_9 24 (zw ((zw (x_3 * (μ_9 23 4))) + x_8))) := zrg2 X.2.2.2 (hI.1 24 (by decide)) rfl
                refine z_lald C X (hI.1 24 (by decide)) rfl hc81 dX2_clearBelowWhole_81 ?_
                refine z_lmul C dX2_clearBelowWhole_82 ?_
                refine lv_lload C.1 C.2.1 dX2_clearBelowWhole_83 (lv_at hl 5 rfl) ?_
                refine lv_aload_n C.1 C.2.1 dX2_clearBelowWhole_85 rfl (lv_at hl 0 rfl) ?_
                refine z_get C X zk2 (hI.1 23 (by decide)) rfl 0 (by decide) kw_223 (zR Ω 24) (zfvF (off := 1) X.2.2.2 (hI.1 23 (by decide)) (hI.2 23 (by decide)) rfl rfl (by decide)) dX2_clearBelowWhole_86 ?_
                refine lv_iload_n C.1 C.2.1 dX2_clearBelowWhole_89 rfl (lv_at hl 1 rfl) ?_
                refine lv_aload_n C.1 C.2.1 dX2_clearBelowWhole_90 rfl (lv_at hl 0 rfl) ?_
                have g_91 : Rg (μ_9 23 4) := zrgf0 (ci := 2) X.2.2.2 (hI.1 23 (by decide)) rfl 4 rfl
                refine z_get C X zk2 (hI.1 23 (by decide)) rfl 4 (by decide) kw_228 (zI (μ_9 23 4)) rfl dX2_clearBelowWhole_91 ?_
                refine z_imul C dX2_clearBelowWhole_94 ?_
                refine lv_iload C.1 C.2.1 dX2_clearBelowWhole_95 (lv_at hl 6 rfl) ?_
                refine z_iadd C dX2_clearBelowWhole_97 ?_
                obtain ⟨hc98, h⟩ := chk_some h
                have g_98 : Rl (μ_9 24 (zw ((zw (x1 * (μ_9 23 4))) + x_8))) := zrg2 X.2.2.2 (hI.1 24 (by decide)) rfl
                refine z_lald C X (hI.1 24 (by decide)) rfl hc98 dX2_clearBelowWhole_98 ?_
                refine z_lmul C dX2_clearBelowWhole_99 ?_
                refine z_lsub C dX2_clearBelowWhole_100 ?_
                refine zlet_elim h (fun x_10 ex_10 h => ?_)
                have gx_10 : Rl x_10 := by rw [ex_10]; exact (Rl.w _)
                refine z_lstore C ex_10 dX2_clearBelowWhole_101 hl (by decide) (lv' := [(9, zJ x_10), (0, zR Ω 23), (1, zI x1), (2, zI x2), (3, zJ x_1), (5, zI x_3), (6, zJ x_5), (8, zI x_8)]) rfl (fun ls hl => ?_)
                clear ex_10
                refine lv_aload_n C.1 C.2.1 dX2_clearBelowWhole_103 rfl (lv_at hl 1 rfl) ?_
                refine z_get C X zk2 (hI.1 23 (by decide)) rfl 0 (by decide) kw_223 (zR Ω 24) (zfvF (off := 1) X.2.2.2 (hI.1 23 (by decide)) (hI.2 23 (by decide)) rfl rfl (by decide)) dX2_clearBelowWhole_104 ?_
                refine lv_iload C.1 C.2.1 dX2_clearBelowWhole_107 (lv_at hl 5 rfl) ?_
                refine lv_aload_n C.1 C.2.1 dX2_clearBelowWhole_109 rfl (lv_at hl 1 rfl) ?_
                have g_110 : Rg (μ_9 23 4) := zrgf0 (ci := 2) X.2.2.2 (hI.1 23 (by decide)) rfl 4 rfl
                refine z_get C X zk2 (hI.1 23 (by decide)) rfl 4 (by decide) kw_228 (zI (μ_9 23 4)) rfl dX2_clearBelowWhole_110 ?_
                refine z_imul C dX2_clearBelowWhole_113 ?_
                refine lv_iload C.1 C.2.1 dX2_clearBelowWhole_114 (lv_at hl 7 rfl) ?_
                refine z_iadd C dX2_clearBelowWhole_116 ?_
                refine lv_lload C.1 C.2.1 dX2_clearBelowWhole_117 (lv_at hl 0 rfl) ?_
                refine lv_aload_n C.1 C.2.1 dX2_clearBelowWhole_119 rfl (lv_at hl 1 rfl) ?_
                have g_120 : Rl (μ_9 23 5) := zrgf1 (ci := 2) X.2.2.2 (hI.1 23 (by decide)) rfl 5 rfl
                refine z_get C X zk2 (hI.1 23 (by decide)) rfl 5 (by decide) kw_229 (zJ (μ_9 23 5)) rfl dX2_clearBelowWhole_120 ?_
                obtain ⟨hc123, h⟩ := chk_some h
                refine z_ldiv C gx_10 g_120 hc123 dX2_clearBelowWhole_123 ?_
                obtain ⟨hc124, h⟩ := chk_some h
                refine zlet_elim h (fun μ_11 em h => ?_)
                refine z_last C X (hI.1 24 (by decide)) rfl hc124 (zok2 rfl (Rl.w _)) em dX2_clearBelowWhole_124 (fun H locs X => ?_)
                clear em
                refine zlet_elim h (fun x_12 ex_12 h => ?_)
                have gx_12 : Rg x_12 := by rw [ex_12]; exact Rg.w _
                refine z_iinc C ex_12 dX2_clearBelowWhole_125 hl (k := 7) rfl (by decide) (lv' := [(8, zI x_12), (9, zJ x_10), (0, zR Ω 23), (1, zI x1), (2, zI x2), (3, zJ x_1), (5, zI x_3), (6, zJ x_5)]) rfl (fun ls hl => ?_)
                clear ex_12
                refine lv_goto (tgt := 57) C.1 C.2.1 dX2_clearBelowWhole_128 (by decide) ?_
                exact ih57 x_12 μ_11 _ _ _ gx_12 X (lv_sub hl [2, 3, 4, 5, 6, 7, 0] rfl) h
          exact L57 zfu x2 μ_4 _ _ _ gx2 X (lv_sub hl [2, 3, 4, 5, 6, 1, 0] rfl) h
    exact L29 zfu x_2 μ _ _ _ gx_2 X (lv_sub hl [2, 3, 4, 1, 0] rfl) h
  · rw [if_pos hc5] at h
    obtain rfl := Option.some.inj h
    exact rt X dX2_clearBelowWhole_9
theorem zc_X2_clearBelowWhole : zcal yX2_clearBelowWhole cX2_clearBelowWhole 11 none RX2 2 := ⟨⟨kw_614, kw_613, kp_15, kw_7⟩, rfl, by decide, by decide, by decide +kernel⟩

def f_X2_rankOfFractions_L9 : Nat → Int → Int → zMem → Option (Int × zMem)
  | 0, _, _, _ => none
  | n + 1, x_2, x_3, μ_4 =>
    if x_3 < (μ_4 23 4) then
      if x_2 < (μ_4 23 3) then
        bnd (f_X2_rowWith x_3 x_2 μ_4) fun x_5 =>
        if x_5 = (-1) then
          zlet (zw (x_3 + 1)) fun x_6 =>
          (f_X2_rankOfFractions_L9 n) x_2 x_6 μ_4
        else
          bnd (f_X2_swapRows x_5 x_2 μ_4) fun μ_7 =>
          bnd (f_X2_clearBelowWhole x_2 x_3 μ_7) fun μ_8 =>
          chk ((0 : Int) ≤ (zw ((zw (x_2 * (μ_8 23 4))) + x_3)) ∧ (zw ((zw (x_2 * (μ_8 23 4))) + x_3)) < 1536) <|
          zlet (zup μ_8 23 5 (μ_8 24 (zw ((zw (x_2 * (μ_8 23 4))) + x_3)))) fun μ_9 =>
          zlet (zw (x_2 + 1)) fun x_10 =>
          zlet (zw (x_3 + 1)) fun x_11 =>
          (f_X2_rankOfFractions_L9 n) x_10 x_11 μ_9
      else
        some (x_2, μ_4)
    else
      some (x_2, μ_4)
def f_X2_rankOfFractions (μ : zMem) : Option (Int × zMem) :=
  zlet (zup μ 23 5 1) fun μ_1 =>
  (f_X2_rankOfFractions_L9) zfu 0 0 μ_1
set_option maxHeartbeats 4000000 in
set_option maxRecDepth 100000 in
theorem M_X2_rankOfFractions {l : Launch} {Ω : zO} (hI : zIc Ω) (μ : zMem) {r : Int} {μ' : zMem} (h : f_X2_rankOfFractions μ = some (r, μ')) : XMet l yX2_rankOfFractions cX2_rankOfFractions 4 (some Jvm.ClassFile.FieldType.int) 1 Ω [zR Ω 23] μ (some (zI r)) (Rg r) μ' := by
  refine XMet.ofI (by decide) (Nat.le_of_ble_eq_true rfl) ?_
  intro p e s m args below meth c ls Q C rt X hl
  have C : zC p s m args c cX2_rankOfFractions RX2 4 Ω := C
  have hl : lv_has ls 4 [(0, zR Ω 23)] := hl
  unfold f_X2_rankOfFractions at h
  skip
  refine lv_aload_n C.1 C.2.1 dX2_rankOfFractions_0 rfl (lv_at hl 0 rfl) ?_
  refine z_lconst C 1 rfl dX2_rankOfFractions_1 ?_
  refine zlet_elim h (fun μ_1 em h => ?_)
  refine z_putJ C X zk2 (hI.1 23 (by decide)) rfl 5 (by decide) kw_229 rfl rfl rfl rfl ⟨by decide, by decide⟩ em dX2_rankOfFractions_2 (fun H locs X => ?_)
  clear em
  refine z_iconst C dX2_rankOfFractions_5 ?_
  refine lv_istore_n C.1 C.2.1 (lv' := [(1, zI 0), (0, zR Ω 23)]) dX2_rankOfFractions_6 rfl hl (by decide) rfl (fun ls hl => ?_)
  refine z_iconst C dX2_rankOfFractions_7 ?_
  refine lv_istore_n C.1 C.2.1 (lv' := [(2, zI 0), (1, zI 0), (0, zR Ω 23)]) dX2_rankOfFractions_8 rfl hl (by decide) rfl (fun ls hl => ?_)
  have L9 : ∀ (n9 : Nat) (x_2 : Int) (x_3 : Int) (μ_4 : zMem) (H : Heap) (locs : List Loc) (ls : Array Slot), Rg x_2 → Rg x_3 → zX Ω μ_4 (zfree Ω) s.heap H locs → lv_has ls 4 [(0, zR Ω 23), (1, zI x_2), (2, zI x_3)] → (f_X2_rankOfFractions_L9 n9 x_2 x_3 μ_4) = some (r, μ') → W p l e (zrm 1) s m args below meth c H locs 0 0 Q (F0 m 9 ls []) := by
    intro n9
    induction n9 with
    | zero =>
      intro x_2 x_3 μ_4 H locs ls _ _ _ _ h
      cases h
    | succ n9 ih9 =>
      intro x_2 x_3 μ_4 H locs ls gx_2 gx_3 X hl h
      unfold f_X2_rankOfFractions_L9 at h
      refine lv_iload_n C.1 C.2.1 dX2_rankOfFractions_9 rfl (lv_at hl 2 rfl) ?_
      refine lv_aload_n C.1 C.2.1 dX2_rankOfFractions_10 rfl (lv_at hl 0 rfl) ?_
      have g_11 : Rg (μ_4 23 4) := zrgf0 (ci := 2) X.2.2.2 (hI.1 23 (by decide)) rfl 4 rfl
      refine z_get C X zk2 (hI.1 23 (by decide)) rfl 4 (by decide) kw_228 (zI (μ_4 23 4)) rfl dX2_rankOfFractions_11 ?_
      refine z_icmpge C gx_3 g_11 (tgt := 75) dX2_rankOfFractions_14 (by decide) (fun hc14 => ?_) (fun hc14 => ?_)
      · rw [if_neg hc14] at h
        refine lv_iload_n C.1 C.2.1 dX2_rankOfFractions_75 rfl (lv_at hl 1 rfl) ?_
        obtain ⟨rfl, rfl⟩ := Prod.mk.inj (Option.some.inj h)
        exact rt X gx_2 dX2_rankOfFractions_76
      · rw [if_pos hc14] at h
        refine lv_iload_n C.1 C.2.1 dX2_rankOfFractions_17 rfl (lv_at hl 1 rfl) ?_
        refine lv_aload_n C.1 C.2.1 dX2_rankOfFractions_18 rfl (lv_at hl 0 rfl) ?_
        have g_19 : Rg (μ_4 23 3) := zrgf0 (ci := 2) X.2.2.2 (hI.1 23 (by decide)) rfl 3 rfl
        refine z_get C X zk2 (hI.1 23 (by decide)) rfl 3 (by decide) kw_227 (zI (μ_4 23 3)) rfl dX2_rankOfFractions_19 ?_
        refine z_icmpge C gx_2 g_19 (tgt := 75) dX2_rankOfFractions_22 (by decide) (fun hc22 => ?_) (fun hc22 => ?_)
        · rw [if_neg hc22] at h
          refine lv_iload_n C.1 C.2.1 dX2_rankOfFractions_75 rfl (lv_at hl 1 rfl) ?_
          obtain ⟨rfl, rfl⟩ := Prod.mk.inj (Option.some.inj h)
          exact rt X gx_2 dX2_rankOfFractions_76
        · rw [if_pos hc22] at h
          refine lv_aload_n C.1 C.2.1 dX2_rankOfFractions_25 rfl (lv_at hl 0 rfl) ?_
          refine lv_iload_n C.1 C.2.1 dX2_rankOfFractions_26 rfl (lv_at hl 2 rfl) ?_
          refine lv_iload_n C.1 C.2.1 dX2_rankOfFractions_27 rfl (lv_at hl 1 rfl) ?_
          obtain ⟨x_5, hq28, h⟩ := bnd_some h
          refine z_callV1 C X zk2 (hI.1 23 (by decide)) rfl (As := [zI x_3, zI x_2]) (M_X2_rowWith hI μ_4 x_3 x_2 gx_3 gx_2 hq28) zc_X2_rowWith kw_603 (zroom (by decide) (by decide)) rfl hl.1 rfl (Nat.le_of_ble_eq_true rfl) dX2_rankOfFractions_28 ⟨Nat.zero_le _, Nat.zero_le _⟩ (fun H locs g_28 X => ?_)
          refine lv_istore_n C.1 C.2.1 (lv' := [(3, zI x_5), (0, zR Ω 23), (1, zI x_2), (2, zI x_3)]) dX2_rankOfFractions_31 rfl hl (by decide) rfl (fun ls hl => ?_)
          refine lv_iload_n C.1 C.2.1 dX2_rankOfFractions_32 rfl (lv_at hl 0 rfl) ?_
          refine z_iconst C dX2_rankOfFractions_33 ?_
          refine z_icmpeq C g_28 ⟨by decide, by decide⟩ (tgt := 69) dX2_rankOfFractions_34 (by decide) (fun hc34 => ?_) (fun hc34 => ?_)
          · rw [if_pos hc34] at h
            refine zlet_elim h (fun x_6 ex_6 h => ?_)
            have gx_6 : Rg x_6 := by rw [ex_6]; exact Rg.w _
            refine z_iinc C ex_6 dX2_rankOfFractions_69 hl (k := 3) rfl (by decide) (lv' := [(2, zI x_6), (3, zI x_5), (0, zR Ω 23), (1, zI x_2)]) rfl (fun ls hl => ?_)
            clear ex_6
            refine lv_goto (tgt := 9) C.1 C.2.1 dX2_rankOfFractions_72 (by decide) ?_
            exact ih9 x_2 x_6 μ_4 _ _ _ gx_2 gx_6 X (lv_sub hl [2, 3, 0] rfl) h
          · rw [if_neg hc34] at h
            refine lv_aload_n C.1 C.2.1 dX2_rankOfFractions_37 rfl (lv_at hl 1 rfl) ?_
            refine lv_iload_n C.1 C.2.1 dX2_rankOfFractions_38 rfl (lv_at hl 0 rfl) ?_
            refine lv_iload_n C.1 C.2.1 dX2_rankOfFractions_39 rfl (lv_at hl 2 rfl) ?_
            obtain ⟨μ_7, hq40, h⟩ := bnd_some h
            refine z_callV0 C X zk2 (hI.1 23 (by decide)) rfl (As := [zI x_5, zI x_2]) (M_X2_swapRows hI μ_4 x_5 x_2 g_28 gx_2 hq40) zc_X2_swapRows kw_607 (zroom (by decide) (by decide)) rfl hl.1 rfl (Nat.le_of_ble_eq_true rfl) dX2_rankOfFractions_40 ⟨Nat.zero_le _, Nat.zero_le _⟩ (fun H locs g_40 X => ?_)
            refine lv_aload_n C.1 C.2.1 dX2_rankOfFractions_43 rfl (lv_at hl 1 rfl) ?_
            refine lv_iload_n C.1 C.2.1 dX2_rankOfFractions_44 rfl (lv_at hl 2 rfl) ?_
            refine lv_iload_n C.1 C.2.1 dX2_rankOfFractions_45 rfl (lv_at hl 3 rfl) ?_
            obtain ⟨μ_8, hq46, h⟩ := bnd_some h
            refine z_callV0 C X zk2 (hI.1 23 (by decide)) rfl (As := [zI x_2, zI x_3]) (M_X2_clearBelowWhole hI μ_7 x_2 x_3 gx_2 gx_3 hq46) zc_X2_clearBelowWhole kw_611 (zroom (by decide) (by decide)) rfl hl.1 rfl (Nat.le_of_ble_eq_true rfl) dX2_rankOfFractions_46 ⟨Nat.zero_le _, Nat.zero_le _⟩ (fun H locs g_46 X => ?_)
            refine lv_aload_n C.1 C.2.1 dX2_rankOfFractions_49 rfl (lv_at hl 1 rfl) ?_
            refine lv_aload_n C.1 C.2.1 dX2_rankOfFractions_50 rfl (lv_at hl 1 rfl) ?_
            refine z_get C X zk2 (hI.1 23 (by decide)) rfl 0 (by decide) kw_223 (zR Ω 24) (zfvF (off := 1) X.2.2.2 (hI.1 23 (by decide)) (hI.2 23 (by decide)) rfl rfl (by decide)) dX2_rankOfFractions_51 ?_
            refine lv_iload_n C.1 C.2.1 dX2_rankOfFractions_54 rfl (lv_at hl 2 rfl) ?_
            refine lv_aload_n C.1 C.2.1 dX2_rankOfFractions_55 rfl (lv_at hl 1 rfl) ?_
            have g_56 : Rg (μ_8 23 4) := zrgf0 (ci := 2) X.2.2.2 (hI.1 23 (by decide)) rfl 4 rfl
            refine z_get C X zk2 (hI.1 23 (by decide)) rfl 4 (by decide) kw_228 (zI (μ_8 23 4)) rfl dX2_rankOfFractions_56 ?_
            refine z_imul C dX2_rankOfFractions_59 ?_
            refine lv_iload_n C.1 C.2.1 dX2_rankOfFractions_60 rfl (lv_at hl 3 rfl) ?_
            refine z_iadd C dX2_rankOfFractions_61 ?_
            obtain ⟨hc62, h⟩ := chk_some h
            have g_62 : Rl (μ_8 24 (zw ((zw (x_2 * (μ_8 23 4))) + x_3))) := zrg2 X.2.2.2 (hI.1 24 (by decide)) rfl
            refine z_lald C X (hI.1 24 (by decide)) rfl hc62 dX2_rankOfFractions_62 ?_
            refine zlet_elim h (fun μ_9 em h => ?_)
            refine z_putJ C X zk2 (hI.1 23 (by decide)) rfl 5 (by decide) kw_229 rfl rfl rfl rfl g_62 em dX2_rankOfFractions_63 (fun H locs X => ?_)
            clear em
            refine zlet_elim h (fun x_10 ex_10 h => ?_)
            have gx_10 : Rg x_10 := by rw [ex_10]; exact Rg.w _
            refine z_iinc C ex_10 dX2_rankOfFractions_66 hl (k := 2) rfl (by decide) (lv' := [(1, zI x_10), (3, zI x_5), (0, zR Ω 23), (2, zI x_3)]) rfl (fun ls hl => ?_)
            clear ex_10
            refine zlet_elim h (fun x_11 ex_11 h => ?_)
            have gx_11 : Rg x_11 := by rw [ex_11]; exact Rg.w _
            refine z_iinc C ex_11 dX2_rankOfFractions_69 hl (k := 3) rfl (by decide) (lv' := [(2, zI x_11), (1, zI x_10), (3, zI x_5), (0, zR Ω 23)]) rfl (fun ls hl => ?_)
            clear ex_11
            refine lv_goto (tgt := 9) C.1 C.2.1 dX2_rankOfFractions_72 (by decide) ?_
            exact ih9 x_10 x_11 μ_9 _ _ _ gx_10 gx_11 X (lv_sub hl [3, 1, 0] rfl) h
  exact L9 zfu 0 0 μ_1 _ _ _ ⟨by decide, by decide⟩ ⟨by decide, by decide⟩ X (lv_sub hl [2, 1, 0] rfl) h
theorem zc_X2_rankOfFractions : zcal yX2_rankOfFractions cX2_rankOfFractions 4 (some Jvm.ClassFile.FieldType.int) RX2 0 := ⟨⟨kw_602, kw_601, kp_12, kw_7⟩, rfl, by decide, by decide, by decide +kernel⟩

def f_X2_shape (x1 : Int) (x2 : Int) (μ : zMem) : Option zMem :=
  zlet (zup μ 23 3 x1) fun μ_1 =>
  zlet (zup μ_1 23 4 x2) fun μ_2 =>
  bnd (f_J7_fill_d0a16 24 0 μ_2) fun μ_3 =>
  some μ_3
set_option maxHeartbeats 4000000 in
set_option maxRecDepth 100000 in
theorem M_X2_shape {l : Launch} {Ω : zO} (hI : zIc Ω) (μ : zMem) (x1 : Int) (x2 : Int) {μ' : zMem} (gx1 : Rg x1) (gx2 : Rg x2) (h : f_X2_shape x1 x2 μ = some μ') : XMet l yX2_shape cX2_shape 3 none 1 Ω [zR Ω 23, zI x1, zI x2] μ none True μ' := by
  refine XMet.ofV (by decide) (Nat.le_of_ble_eq_true rfl) ?_
  intro p e s m args below meth c ls Q C rt X hl
  have C : zC p s m args c cX2_shape RX2 3 Ω := C
  have hl : lv_has ls 3 [(0, zR Ω 23), (1, zI x1), (2, zI x2)] := hl
  unfold f_X2_shape at h
  skip
  refine lv_aload_n C.1 C.2.1 dX2_shape_0 rfl (lv_at hl 0 rfl) ?_
  refine lv_iload_n C.1 C.2.1 dX2_shape_1 rfl (lv_at hl 1 rfl) ?_
  refine zlet_elim h (fun μ_1 em h => ?_)
  refine z_putI C X zk2 (hI.1 23 (by decide)) rfl 3 (by decide) kw_227 rfl rfl rfl rfl gx1 em dX2_shape_2 (fun H locs X => ?_)
  clear em
  refine lv_aload_n C.1 C.2.1 dX2_shape_5 rfl (lv_at hl 0 rfl) ?_
  refine lv_iload_n C.1 C.2.1 dX2_shape_6 rfl (lv_at hl 2 rfl) ?_
  refine zlet_elim h (fun μ_2 em h => ?_)
  refine z_putI C X zk2 (hI.1 23 (by decide)) rfl 4 (by decide) kw_228 rfl rfl rfl rfl gx2 em dX2_shape_7 (fun H locs X => ?_)
  clear em
  refine lv_aload_n C.1 C.2.1 dX2_shape_10 rfl (lv_at hl 0 rfl) ?_
  refine z_get C X zk2 (hI.1 23 (by decide)) rfl 0 (by decide) kw_223 (zR Ω 24) (zfvF (off := 1) X.2.2.2 (hI.1 23 (by decide)) (hI.2 23 (by decide)) rfl rfl (by decide)) dX2_shape_11 ?_
  refine z_lconst C 0 rfl dX2_shape_14 ?_
  obtain ⟨μ_3, hq15, h⟩ := bnd_some h
  refine z_callS0 C X (As := [zR Ω 24, zJ 0]) (M_J7_fill_d0a16 μ_2 24 0 (hI.1 24 (by decide)) rfl ⟨by decide, by decide⟩ hq15) zc_J7_fill_d0a16 kw_596 (zroom (by decide) (by decide)) rfl hl.1 rfl (Nat.le_of_ble_eq_true rfl) dX2_shape_15 ⟨Nat.zero_le _, Nat.zero_le _⟩ (fun H locs g_15 X => ?_)
  obtain rfl := Option.some.inj h
  exact rt X dX2_shape_18
theorem zc_X2_shape : zcal yX2_shape cX2_shape 3 none RX2 2 := ⟨⟨kw_595, kw_594, kp_11, kw_7⟩, rfl, by decide, by decide, by decide +kernel⟩

def f_X2_rankOfEdges_K72 (x2 : Int) (μ_2 : zMem) : Option (Int × zMem) :=
  if x2 = 0 then
    bnd2 (f_X2_rankOfFractions μ_2) fun x_5 μ_6 =>
    some (x_5, μ_6)
  else
    bnd2 (f_X2_rankModulo x2 μ_2) fun x_3 μ_4 =>
    some (x_3, μ_4)
def f_X2_rankOfEdges_L14 (x1 : Int) (g72 : zMem → Option (Int × zMem)) : Nat → Int → zMem → Option (Int × zMem)
  | 0, _, _ => none
  | n + 1, x_7, μ_8 =>
    if x_7 < (μ_8 x1 7) then
      chk ((0 : Int) ≤ x_7 ∧ x_7 < zlen (x1 + 2)) <|
      chk ((0 : Int) ≤ (zw ((zw (x_7 * (μ_8 23 4))) + (μ_8 (x1 + 2) x_7))) ∧ (zw ((zw (x_7 * (μ_8 23 4))) + (μ_8 (x1 + 2) x_7))) < 1536) <|
      chk ((0 : Int) ≤ (zw ((zw (x_7 * (μ_8 23 4))) + (μ_8 (x1 + 2) x_7))) ∧ (zw ((zw (x_7 * (μ_8 23 4))) + (μ_8 (x1 + 2) x_7))) < 1536) <|
      zlet (zup μ_8 24 (zw ((zw (x_7 * (μ_8 23 4))) + (μ_8 (x1 + 2) x_7))) (zl ((μ_8 24 (zw ((zw (x_7 * (μ_8 23 4))) + (μ_8 (x1 + 2) x_7)))) + 1))) fun μ_9 =>
      chk ((0 : Int) ≤ x_7 ∧ x_7 < zlen (x1 + 1)) <|
      chk ((0 : Int) ≤ (zw ((zw (x_7 * (μ_9 23 4))) + (μ_9 (x1 + 1) x_7))) ∧ (zw ((zw (x_7 * (μ_9 23 4))) + (μ_9 (x1 + 1) x_7))) < 1536) <|
      chk ((0 : Int) ≤ (zw ((zw (x_7 * (μ_9 23 4))) + (μ_9 (x1 + 1) x_7))) ∧ (zw ((zw (x_7 * (μ_9 23 4))) + (μ_9 (x1 + 1) x_7))) < 1536) <|
      zlet (zup μ_9 24 (zw ((zw (x_7 * (μ_9 23 4))) + (μ_9 (x1 + 1) x_7))) (zl ((μ_9 24 (zw ((zw (x_7 * (μ_9 23 4))) + (μ_9 (x1 + 1) x_7)))) - 1))) fun μ_10 =>
      zlet (zw (x_7 + 1)) fun x_11 =>
      (f_X2_rankOfEdges_L14 x1 g72 n) x_11 μ_10
    else
      g72 μ_8
def f_X2_rankOfEdges (x1 : Int) (x2 : Int) (μ : zMem) : Option (Int × zMem) :=
  bnd (f_X2_shape (μ x1 7) (μ x1 6) μ) fun μ_1 =>
  (f_X2_rankOfEdges_L14 x1 (f_X2_rankOfEdges_K72 x2)) zfu 0 μ_1
set_option maxHeartbeats 4000000 in
set_option maxRecDepth 100000 in
theorem M_X2_rankOfEdges {l : Launch} {Ω : zO} (hI : zIc Ω) (μ : zMem) (x1 : Int) (x2 : Int) {r : Int} {μ' : zMem} (o_x1 : zob Ω.2.2.1 5 x1) (gx2 : Rg x2) (h : f_X2_rankOfEdges x1 x2 μ = some (r, μ')) : XMet l yX2_rankOfEdges cX2_rankOfEdges 4 (some Jvm.ClassFile.FieldType.int) 2 Ω [zR Ω 23, zR Ω x1, zI x2] μ (some (zI r)) (Rg r) μ' := by
  refine XMet.ofI (by decide) (Nat.le_of_ble_eq_true rfl) ?_
  intro p e s m args below meth c ls Q C rt X hl
  have C : zC p s m args c cX2_rankOfEdges RX2 4 Ω := C
  have hl : lv_has ls 4 [(0, zR Ω 23), (1, zR Ω x1), (2, zI x2)] := hl
  unfold f_X2_rankOfEdges at h
  skip
  refine lv_aload_n C.1 C.2.1 dX2_rankOfEdges_0 rfl (lv_at hl 0 rfl) ?_
  refine lv_aload_n C.1 C.2.1 dX2_rankOfEdges_1 rfl (lv_at hl 1 rfl) ?_
  have g_2 : Rg (μ x1 7) := zrgf0 (ci := 5) X.2.2.2 (zob.self o_x1) (zo5 o_x1) 7 rfl
  refine z_get C X zk5 (zob.self o_x1) (zo5 o_x1) 7 (by decide) kw_82 (zI (μ x1 7)) rfl dX2_rankOfEdges_2 ?_
  refine lv_aload_n C.1 C.2.1 dX2_rankOfEdges_5 rfl (lv_at hl 1 rfl) ?_
  have g_6 : Rg (μ x1 6) := zrgf0 (ci := 5) X.2.2.2 (zob.self o_x1) (zo5 o_x1) 6 rfl
  refine z_get C X zk5 (zob.self o_x1) (zo5 o_x1) 6 (by decide) kw_77 (zI (μ x1 6)) rfl dX2_rankOfEdges_6 ?_
  obtain ⟨μ_1, hq9, h⟩ := bnd_some h
  refine z_callV0 C X zk2 (hI.1 23 (by decide)) rfl (As := [zI (μ x1 7), zI (μ x1 6)]) (M_X2_shape hI μ (μ x1 7) (μ x1 6) g_2 g_6 hq9) zc_X2_shape kw_592 (zroom (by decide) (by decide)) rfl hl.1 rfl (Nat.le_of_ble_eq_true rfl) dX2_rankOfEdges_9 ⟨Nat.zero_le _, Nat.zero_le _⟩ (fun H locs g_9 X => ?_)
  refine z_iconst C dX2_rankOfEdges_12 ?_
  refine lv_istore_n C.1 C.2.1 (lv' := [(3, zI 0), (0, zR Ω 23), (1, zR Ω x1), (2, zI x2)]) dX2_rankOfEdges_13 rfl hl (by decide) rfl (fun ls hl => ?_)
  have K72 : ∀ (μ_2 : zMem) (H : Heap) (locs : List Loc) (ls : Array Slot), zX Ω μ_2 (zfree Ω) s.heap H locs → lv_has ls 4 [(0, zR Ω 23), (2, zI x2)] → (f_X2_rankOfEdges_K72 x2) μ_2 = some (r, μ') → W p l e (zrm 2) s m args below meth c H locs 0 0 Q (F0 m 72 ls []) := by
    intro μ_2 H locs ls  X hl h
    unfold f_X2_rankOfEdges_K72 at h
    refine lv_iload_n C.1 C.2.1 dX2_rankOfEdges_72 rfl (lv_at hl 1 rfl) ?_
    refine z_ifne C gx2 (tgt := 83) dX2_rankOfEdges_73 (by decide) (fun hc73 => ?_) (fun hc73 => ?_)
    · rw [if_neg hc73] at h
      refine lv_aload_n C.1 C.2.1 dX2_rankOfEdges_83 rfl (lv_at hl 0 rfl) ?_
      refine lv_iload_n C.1 C.2.1 dX2_rankOfEdges_84 rfl (lv_at hl 1 rfl) ?_
      obtain ⟨x_3, μ_4, hq85, h⟩ := bnd2_some h
      refine z_callV1 C X zk2 (hI.1 23 (by decide)) rfl (As := [zI x2]) (M_X2_rankModulo hI μ_2 x2 gx2 hq85) zc_X2_rankModulo kw_615 (zroom (by decide) (by decide)) rfl hl.1 rfl (Nat.le_of_ble_eq_true rfl) dX2_rankOfEdges_85 ⟨Nat.zero_le _, Nat.zero_le _⟩ (fun H locs g_85 X => ?_)
      obtain ⟨rfl, rfl⟩ := Prod.mk.inj (Option.some.inj h)
      exact rt X g_85 dX2_rankOfEdges_88
    · rw [if_pos hc73] at h
      refine lv_aload_n C.1 C.2.1 dX2_rankOfEdges_76 rfl (lv_at hl 0 rfl) ?_
      obtain ⟨x_5, μ_6, hq77, h⟩ := bnd2_some h
      refine z_callV1 C X zk2 (hI.1 23 (by decide)) rfl (As := []) (M_X2_rankOfFractions hI μ_2 hq77) zc_X2_rankOfFractions kw_599 (zroom (by decide) (by decide)) rfl hl.1 rfl (Nat.le_of_ble_eq_true rfl) dX2_rankOfEdges_77 ⟨Nat.zero_le _, Nat.zero_le _⟩ (fun H locs g_77 X => ?_)
      refine lv_goto (tgt := 88) C.1 C.2.1 dX2_rankOfEdges_80 (by decide) ?_
      obtain ⟨rfl, rfl⟩ := Prod.mk.inj (Option.some.inj h)
      exact rt X g_77 dX2_rankOfEdges_88
  have L14 : ∀ (n14 : Nat) (x_7 : Int) (μ_8 : zMem) (H : Heap) (locs : List Loc) (ls : Array Slot), Rg x_7 → zX Ω μ_8 (zfree Ω) s.heap H locs → lv_has ls 4 [(0, zR Ω 23), (1, zR Ω x1), (2, zI x2), (3, zI x_7)] → (f_X2_rankOfEdges_L14 x1 (f_X2_rankOfEdges_K72 x2) n14 x_7 μ_8) = some (r, μ') → W p l e (zrm 2) s m args below meth c H locs 0 0 Q (F0 m 14 ls []) := by
    intro n14
    induction n14 with
    | zero =>
      intro x_7 μ_8 H locs ls _ _ _ h
      cases h
    | succ n14 ih14 =>
      intro x_7 μ_8 H locs ls gx_7 X hl h
      unfold f_X2_rankOfEdges_L14 at h
      refine lv_iload_n C.1 C.2.1 dX2_rankOfEdges_14 rfl (lv_at hl 3 rfl) ?_
      refine lv_aload_n C.1 C.2.1 dX2_rankOfEdges_15 rfl (lv_at hl 1 rfl) ?_
      have g_16 : Rg (μ_8 x1 7) := zrgf0 (ci := 5) X.2.2.2 (zob.self o_x1) (zo5 o_x1) 7 rfl
      refine z_get C X zk5 (zob.self o_x1) (zo5 o_x1) 7 (by decide) kw_82 (zI (μ_8 x1 7)) rfl dX2_rankOfEdges_16 ?_
      refine z_icmpge C gx_7 g_16 (tgt := 72) dX2_rankOfEdges_19 (by decide) (fun hc19 => ?_) (fun hc19 => ?_)
      · rw [if_neg hc19] at h
        exact K72 μ_8 _ _ _ X (lv_sub hl [0, 2] rfl) h
      · rw [if_pos hc19] at h
        refine lv_aload_n C.1 C.2.1 dX2_rankOfEdges_22 rfl (lv_at hl 0 rfl) ?_
        refine z_get C X zk2 (hI.1 23 (by decide)) rfl 0 (by decide) kw_223 (zR Ω 24) (zfvF (off := 1) X.2.2.2 (hI.1 23 (by decide)) (hI.2 23 (by decide)) rfl rfl (by decide)) dX2_rankOfEdges_23 ?_
        refine lv_iload_n C.1 C.2.1 dX2_rankOfEdges_26 rfl (lv_at hl 3 rfl) ?_
        refine lv_aload_n C.1 C.2.1 dX2_rankOfEdges_27 rfl (lv_at hl 0 rfl) ?_
        have g_28 : Rg (μ_8 23 4) := zrgf0 (ci := 2) X.2.2.2 (hI.1 23 (by decide)) rfl 4 rfl
        refine z_get C X zk2 (hI.1 23 (by decide)) rfl 4 (by decide) kw_228 (zI (μ_8 23 4)) rfl dX2_rankOfEdges_28 ?_
        refine z_imul C dX2_rankOfEdges_31 ?_
        refine lv_aload_n C.1 C.2.1 dX2_rankOfEdges_32 rfl (lv_at hl 1 rfl) ?_
        refine z_get C X zk5 (zob.self o_x1) (zo5 o_x1) 1 (by decide) kw_61 (zR Ω (x1 + 2)) (zfvF (off := 2) X.2.2.2 (zob.self o_x1) o_x1.2.2 (zo5 o_x1) rfl (by rw [zo5_2 o_x1]; decide)) dX2_rankOfEdges_33 ?_
        refine lv_iload_n C.1 C.2.1 dX2_rankOfEdges_36 rfl (lv_at hl 3 rfl) ?_
        obtain ⟨hc37, h⟩ := chk_some h
        have g_37 : Rg (μ_8 (x1 + 2) x_7) := zrg1 X.2.2.2 (o_x1.2.1 2 (by decide) (by decide)) (zo5_2 o_x1)
        refine z_iald C X (o_x1.2.1 2 (by decide) (by decide)) (zo5_2 o_x1) hc37 dX2_rankOfEdges_37 ?_
        refine z_iadd C dX2_rankOfEdges_38 ?_
        refine lv_dup2_11 C.1 C.2.1 dX2_rankOfEdges_39 rfl rfl ?_
        obtain ⟨hc40, h⟩ := chk_some h
        have g_40 : Rl (μ_8 24 (zw ((zw (x_7 * (μ_8 23 4))) + (μ_8 (x1 + 2) x_7)))) := zrg2 X.2.2.2 (hI.1 24 (by decide)) rfl
        refine z_lald C X (hI.1 24 (by decide)) rfl hc40 dX2_rankOfEdges_40 ?_
        refine z_lconst C 1 rfl dX2_rankOfEdges_41 ?_
        refine z_ladd C dX2_rankOfEdges_42 ?_
        obtain ⟨hc43, h⟩ := chk_some h
        refine zlet_elim h (fun μ_9 em h => ?_)
        refine z_last C X (hI.1 24 (by decide)) rfl hc43 (zok2 rfl (Rl.w _)) em dX2_rankOfEdges_43 (fun H locs X => ?_)
        clear em
        refine lv_aload_n C.1 C.2.1 dX2_rankOfEdges_44 rfl (lv_at hl 0 rfl) ?_
        refine z_get C X zk2 (hI.1 23 (by decide)) rfl 0 (by decide) kw_223 (zR Ω 24) (zfvF (off := 1) X.2.2.2 (hI.1 23 (by decide)) (hI.2 23 (by decide)) rfl rfl (by decide)) dX2_rankOfEdges_45 ?_
        refine lv_iload_n C.1 C.2.1 dX2_rankOfEdges_48 rfl (lv_at hl 3 rfl) ?_
        refine lv_aload_n C.1 C.2.1 dX2_rankOfEdges_49 rfl (lv_at hl 0 rfl) ?_
        have g_50 : Rg (μ_9 23 4) := zrgf0 (ci := 2) X.2.2.2 (hI.1 23 (by decide)) rfl 4 rfl
        refine z_get C X zk2 (hI.1 23 (by decide)) rfl 4 (by decide) kw_228 (zI (μ_9 23 4)) rfl dX2_rankOfEdges_50 ?_
        refine z_imul C dX2_rankOfEdges_53 ?_
        refine lv_aload_n C.1 C.2.1 dX2_rankOfEdges_54 rfl (lv_at hl 1 rfl) ?_
        refine z_get C X zk5 (zob.self o_x1) (zo5 o_x1) 0 (by decide) kw_57 (zR Ω (x1 + 1)) (zfvF (off := 1) X.2.2.2 (zob.self o_x1) o_x1.2.2 (zo5 o_x1) rfl (by rw [zo5_1 o_x1]; decide)) dX2_rankOfEdges_55 ?_
        refine lv_iload_n C.1 C.2.1 dX2_rankOfEdges_58 rfl (lv_at hl 3 rfl) ?_
        obtain ⟨hc59, h⟩ := chk_some h
        have g_59 : Rg (μ_9 (x1 + 1) x_7) := zrg1 X.2.2.2 (o_x1.2.1 1 (by decide) (by decide)) (zo5_1 o_x1)
        refine z_iald C X (o_x1.2.1 1 (by decide) (by decide)) (zo5_1 o_x1) hc59 dX2_rankOfEdges_59 ?_
        refine z_iadd C dX2_rankOfEdges_60 ?_
        refine lv_dup2_11 C.1 C.2.1 dX2_rankOfEdges_61 rfl rfl ?_
        obtain ⟨hc62, h⟩ := chk_some h
        have g_62 : Rl (μ_9 24 (zw ((zw (x_7 * (μ_9 23 4))) + (μ_9 (x1 + 1) x_7)))) := zrg2 X.2.2.2 (hI.1 24 (by decide)) rfl
        refine z_lald C X (hI.1 24 (by decide)) rfl hc62 dX2_rankOfEdges_62 ?_
        refine z_lconst C 1 rfl dX2_rankOfEdges_63 ?_
        refine z_lsub C dX2_rankOfEdges_64 ?_
        obtain ⟨hc65, h⟩ := chk_some h
        refine zlet_elim h (fun μ_10 em h => ?_)
        refine z_last C X (hI.1 24 (by decide)) rfl hc65 (zok2 rfl (Rl.w _)) em dX2_rankOfEdges_65 (fun H locs X => ?_)
        clear em
        refine zlet_elim h (fun x_11 ex_11 h => ?_)
        have gx_11 : Rg x_11 := by rw [ex_11]; exact Rg.w _
        refine z_iinc C ex_11 dX2_rankOfEdges_66 hl (k := 3) rfl (by decide) (lv' := [(3, zI x_11), (0, zR Ω 23), (1, zR Ω x1), (2, zI x2)]) rfl (fun ls hl => ?_)
        clear ex_11
        refine lv_goto (tgt := 14) C.1 C.2.1 dX2_rankOfEdges_69 (by decide) ?_
        exact ih14 x_11 μ_10 _ _ _ gx_11 X (lv_sub hl [1, 2, 3, 0] rfl) h
  exact L14 zfu 0 μ_1 _ _ _ ⟨by decide, by decide⟩ X (lv_sub hl [1, 2, 3, 0] rfl) h
theorem zc_X2_rankOfEdges : zcal yX2_rankOfEdges cX2_rankOfEdges 4 (some Jvm.ClassFile.FieldType.int) RX2 2 := ⟨⟨kw_591, kw_589, kw_590, kw_7⟩, rfl, by decide, by decide, by decide +kernel⟩

def f_X2_fillPanes_K81 (x_2 : Int) (g14 : Int → zMem → Option zMem) (μ_4 : zMem) : Option zMem :=
  zlet (zw (x_2 + 1)) fun x_5 =>
  g14 x_5 μ_4
def f_X2_fillPanes_J73 (x_2 : Int) (x_6 : Int) (μ_7 : zMem) (x_8 : Int) (g24 : Int → zMem → Option zMem) (x_9 : Int) (μ_10 : zMem) : Option zMem :=
  chk ((0 : Int) ≤ (zw ((zw (x_2 * (μ_7 23 4))) + (zshr x_8 1))) ∧ (zw ((zw (x_2 * (μ_7 23 4))) + (zshr x_8 1))) < 1536) <|
  zlet (zup μ_10 24 (zw ((zw (x_2 * (μ_7 23 4))) + (zshr x_8 1))) (zl ((μ_7 24 (zw ((zw (x_2 * (μ_7 23 4))) + (zshr x_8 1)))) + x_9))) fun μ_11 =>
  zlet (zw (x_6 + 1)) fun x_12 =>
  g24 x_12 μ_11
def f_X2_fillPanes_L24 (x1 : Int) (x_2 : Int) (g81 : zMem → Option zMem) : Nat → Int → zMem → Option zMem
  | 0, _, _ => none
  | n + 1, x_6, μ_7 =>
    chk ((0 : Int) ≤ x_2 ∧ x_2 < zlen (x1 + 6)) <|
    if x_6 < (μ_7 (x1 + 6) x_2) then
      bnd (f_X5_rimStep x1 x_2 x_6 μ_7) fun x_8 =>
      chk ((0 : Int) ≤ (zw ((zw (x_2 * (μ_7 23 4))) + (zshr x_8 1))) ∧ (zw ((zw (x_2 * (μ_7 23 4))) + (zshr x_8 1))) < 1536) <|
      (f_X2_fillPanes_J73 x_2 x_6 μ_7 x_8 (f_X2_fillPanes_L24 x1 x_2 g81 n)) (if (zand x_8 1) = 0 then 1 else (-1)) μ_7
    else
      g81 μ_7
def f_X2_fillPanes_L14 (x1 : Int) : Nat → Int → zMem → Option zMem
  | 0, _, _ => none
  | n + 1, x_2, μ_3 =>
    if x_2 < (μ_3 x1 8) then
      (f_X2_fillPanes_L24 x1 x_2 (f_X2_fillPanes_K81 x_2 (f_X2_fillPanes_L14 x1 n))) zfu 0 μ_3
    else
      some μ_3
def f_X2_fillPanes (x1 : Int) (μ : zMem) : Option zMem :=
  bnd (f_X2_shape (μ x1 8) (μ x1 7) μ) fun μ_1 =>
  (f_X2_fillPanes_L14 x1) zfu 0 μ_1
set_option maxHeartbeats 4000000 in
set_option maxRecDepth 100000 in
theorem M_X2_fillPanes {l : Launch} {Ω : zO} (hI : zIc Ω) (μ : zMem) (x1 : Int) {μ' : zMem} (o_x1 : zob Ω.2.2.1 5 x1) (h : f_X2_fillPanes x1 μ = some μ') : XMet l yX2_fillPanes cX2_fillPanes 5 none 2 Ω [zR Ω 23, zR Ω x1] μ none True μ' := by
  refine XMet.ofV (by decide) (Nat.le_of_ble_eq_true rfl) ?_
  intro p e s m args below meth c ls Q C rt X hl
  have C : zC p s m args c cX2_fillPanes RX2 5 Ω := C
  have hl : lv_has ls 5 [(0, zR Ω 23), (1, zR Ω x1)] := hl
  unfold f_X2_fillPanes at h
  skip
  refine lv_aload_n C.1 C.2.1 dX2_fillPanes_0 rfl (lv_at hl 0 rfl) ?_
  refine lv_aload_n C.1 C.2.1 dX2_fillPanes_1 rfl (lv_at hl 1 rfl) ?_
  have g_2 : Rg (μ x1 8) := zrgf0 (ci := 5) X.2.2.2 (zob.self o_x1) (zo5 o_x1) 8 rfl
  refine z_get C X zk5 (zob.self o_x1) (zo5 o_x1) 8 (by decide) kw_90 (zI (μ x1 8)) rfl dX2_fillPanes_2 ?_
  refine lv_aload_n C.1 C.2.1 dX2_fillPanes_5 rfl (lv_at hl 1 rfl) ?_
  have g_6 : Rg (μ x1 7) := zrgf0 (ci := 5) X.2.2.2 (zob.self o_x1) (zo5 o_x1) 7 rfl
  refine z_get C X zk5 (zob.self o_x1) (zo5 o_x1) 7 (by decide) kw_82 (zI (μ x1 7)) rfl dX2_fillPanes_6 ?_
  obtain ⟨μ_1, hq9, h⟩ := bnd_some h
  refine z_callV0 C X zk2 (hI.1 23 (by decide)) rfl (As := [zI (μ x1 8), zI (μ x1 7)]) (M_X2_shape hI μ (μ x1 8) (μ x1 7) g_2 g_6 hq9) zc_X2_shape kw_592 (zroom (by decide) (by decide)) rfl hl.1 rfl (Nat.le_of_ble_eq_true rfl) dX2_fillPanes_9 ⟨Nat.zero_le _, Nat.zero_le _⟩ (fun H locs g_9 X => ?_)
  refine z_iconst C dX2_fillPanes_12 ?_
  refine lv_istore_n C.1 C.2.1 (lv' := [(2, zI 0), (0, zR Ω 23), (1, zR Ω x1)]) dX2_fillPanes_13 rfl hl (by decide) rfl (fun ls hl => ?_)
  have L14 : ∀ (n14 : Nat) (x_2 : Int) (μ_3 : zMem) (H : Heap) (locs : List Loc) (ls : Array Slot), Rg x_2 → zX Ω μ_3 (zfree Ω) s.heap H locs → lv_has ls 5 [(0, zR Ω 23), (1, zR Ω x1), (2, zI x_2)] → (f_X2_fillPanes_L14 x1 n14 x_2 μ_3) = some μ' → W p l e (zrm 2) s m args below meth c H locs 0 0 Q (F0 m 14 ls []) := by
    intro n14
    induction n14 with
    | zero =>
      intro x_2 μ_3 H locs ls _ _ _ h
      cases h
    | succ n14 ih14 =>
      intro x_2 μ_3 H locs ls gx_2 X hl h
      unfold f_X2_fillPanes_L14 at h
      refine lv_iload_n C.1 C.2.1 dX2_fillPanes_14 rfl (lv_at hl 2 rfl) ?_
      refine lv_aload_n C.1 C.2.1 dX2_fillPanes_15 rfl (lv_at hl 1 rfl) ?_
      have g_16 : Rg (μ_3 x1 8) := zrgf0 (ci := 5) X.2.2.2 (zob.self o_x1) (zo5 o_x1) 8 rfl
      refine z_get C X zk5 (zob.self o_x1) (zo5 o_x1) 8 (by decide) kw_90 (zI (μ_3 x1 8)) rfl dX2_fillPanes_16 ?_
      refine z_icmpge C gx_2 g_16 (tgt := 87) dX2_fillPanes_19 (by decide) (fun hc19 => ?_) (fun hc19 => ?_)
      · rw [if_neg hc19] at h
        obtain rfl := Option.some.inj h
        exact rt X dX2_fillPanes_87
      · rw [if_pos hc19] at h
        refine z_iconst C dX2_fillPanes_22 ?_
        refine lv_istore_n C.1 C.2.1 (lv' := [(3, zI 0), (0, zR Ω 23), (1, zR Ω x1), (2, zI x_2)]) dX2_fillPanes_23 rfl hl (by decide) rfl (fun ls hl => ?_)
        have K81 : ∀ (μ_4 : zMem) (H : Heap) (locs : List Loc) (ls : Array Slot), zX Ω μ_4 (zfree Ω) s.heap H locs → lv_has ls 5 [(0, zR Ω 23), (1, zR Ω x1), (2, zI x_2)] → (f_X2_fillPanes_K81 x_2 (f_X2_fillPanes_L14 x1 n14)) μ_4 = some μ' → W p l e (zrm 2) s m args below meth c H locs 0 0 Q (F0 m 81 ls []) := by
          intro μ_4 H locs ls  X hl h
          unfold f_X2_fillPanes_K81 at h
          refine zlet_elim h (fun x_5 ex_5 h => ?_)
          have gx_5 : Rg x_5 := by rw [ex_5]; exact Rg.w _
          refine z_iinc C ex_5 dX2_fillPanes_81 hl (k := 2) rfl (by decide) (lv' := [(2, zI x_5), (0, zR Ω 23), (1, zR Ω x1)]) rfl (fun ls hl => ?_)
          clear ex_5
          refine lv_goto (tgt := 14) C.1 C.2.1 dX2_fillPanes_84 (by decide) ?_
          exact ih14 x_5 μ_4 _ _ _ gx_5 X (lv_sub hl [1, 2, 0] rfl) h
        have L24 : ∀ (n24 : Nat) (x_6 : Int) (μ_7 : zMem) (H : Heap) (locs : List Loc) (ls : Array Slot), Rg x_6 → zX Ω μ_7 (zfree Ω) s.heap H locs → lv_has ls 5 [(0, zR Ω 23), (1, zR Ω x1), (2, zI x_2), (3, zI x_6)] → (f_X2_fillPanes_L24 x1 x_2 (f_X2_fillPanes_K81 x_2 (f_X2_fillPanes_L14 x1 n14)) n24 x_6 μ_7) = some μ' → W p l e (zrm 2) s m args below meth c H locs 0 0 Q (F0 m 24 ls []) := by
          intro n24
          induction n24 with
          | zero =>
            intro x_6 μ_7 H locs ls _ _ _ h
            cases h
          | succ n24 ih24 =>
            intro x_6 μ_7 H locs ls gx_6 X hl h
            unfold f_X2_fillPanes_L24 at h
            refine lv_iload_n C.1 C.2.1 dX2_fillPanes_24 rfl (lv_at hl 3 rfl) ?_
            refine lv_aload_n C.1 C.2.1 dX2_fillPanes_25 rfl (lv_at hl 1 rfl) ?_
            refine z_get C X zk5 (zob.self o_x1) (zo5 o_x1) 5 (by decide) kw_74 (zR Ω (x1 + 6)) (zfvF (off := 6) X.2.2.2 (zob.self o_x1) o_x1.2.2 (zo5 o_x1) rfl (by rw [zo5_6 o_x1]; decide)) dX2_fillPanes_26 ?_
            refine lv_iload_n C.1 C.2.1 dX2_fillPanes_29 rfl (lv_at hl 2 rfl) ?_
            obtain ⟨hc30, h⟩ := chk_some h
            have g_30 : Rg (μ_7 (x1 + 6) x_2) := zrg1 X.2.2.2 (o_x1.2.1 6 (by decide) (by decide)) (zo5_6 o_x1)
            refine z_iald C X (o_x1.2.1 6 (by decide) (by decide)) (zo5_6 o_x1) hc30 dX2_fillPanes_30 ?_
            refine z_icmpge C gx_6 g_30 (tgt := 81) dX2_fillPanes_31 (by decide) (fun hc31 => ?_) (fun hc31 => ?_)
            · rw [if_neg hc31] at h
              exact K81 μ_7 _ _ _ X (lv_sub hl [0, 1, 2] rfl) h
            · rw [if_pos hc31] at h
              refine lv_aload_n C.1 C.2.1 dX2_fillPanes_34 rfl (lv_at hl 1 rfl) ?_
              refine lv_iload_n C.1 C.2.1 dX2_fillPanes_35 rfl (lv_at hl 2 rfl) ?_
              refine lv_iload_n C.1 C.2.1 dX2_fillPanes_36 rfl (lv_at hl 3 rfl) ?_
              obtain ⟨x_8, hq37, h⟩ := bnd_some h
              refine z_callV1 C X zk5 (zob.self o_x1) (zo5 o_x1) (As := [zI x_2, zI x_6]) (M_X5_rimStep μ_7 x1 x_2 x_6 o_x1 gx_2 gx_6 hq37) zc_X5_rimStep kw_638 (zroom (by decide) (by decide)) rfl hl.1 rfl (Nat.le_of_ble_eq_true rfl) dX2_fillPanes_37 ⟨Nat.zero_le _, Nat.zero_le _⟩ (fun H locs g_37 X => ?_)
              refine lv_istore C.1 C.2.1 (lv' := [(4, zI x_8), (0, zR Ω 23), (1, zR Ω x1), (2, zI x_2), (3, zI x_6)]) dX2_fillPanes_40 hl (by decide) rfl (fun ls hl => ?_)
              refine lv_aload_n C.1 C.2.1 dX2_fillPanes_42 rfl (lv_at hl 1 rfl) ?_
              refine z_get C X zk2 (hI.1 23 (by decide)) rfl 0 (by decide) kw_223 (zR Ω 24) (zfvF (off := 1) X.2.2.2 (hI.1 23 (by decide)) (hI.2 23 (by decide)) rfl rfl (by decide)) dX2_fillPanes_43 ?_
              refine lv_iload_n C.1 C.2.1 dX2_fillPanes_46 rfl (lv_at hl 3 rfl) ?_
              refine lv_aload_n C.1 C.2.1 dX2_fillPanes_47 rfl (lv_at hl 1 rfl) ?_
              have g_48 : Rg (μ_7 23 4) := zrgf0 (ci := 2) X.2.2.2 (hI.1 23 (by decide)) rfl 4 rfl
              refine z_get C X zk2 (hI.1 23 (by decide)) rfl 4 (by decide) kw_228 (zI (μ_7 23 4)) rfl dX2_fillPanes_48 ?_
              refine z_imul C dX2_fillPanes_51 ?_
              refine lv_iload C.1 C.2.1 dX2_fillPanes_52 (lv_at hl 0 rfl) ?_
              refine z_iconst C dX2_fillPanes_54 ?_
              refine z_ishr C dX2_fillPanes_55 ?_
              refine z_iadd C dX2_fillPanes_56 ?_
              refine lv_dup2_11 C.1 C.2.1 dX2_fillPanes_57 rfl rfl ?_
              obtain ⟨hc58, h⟩ := chk_some h
              have g_58 : Rl (μ_7 24 (zw ((zw (x_2 * (μ_7 23 4))) + (zshr x_8 1)))) := zrg2 X.2.2.2 (hI.1 24 (by decide)) rfl
              refine z_lald C X (hI.1 24 (by decide)) rfl hc58 dX2_fillPanes_58 ?_
              refine lv_iload C.1 C.2.1 dX2_fillPanes_59 (lv_at hl 0 rfl) ?_
              refine z_iconst C dX2_fillPanes_61 ?_
              refine z_iand C dX2_fillPanes_62 ?_
              have K73 : ∀ (x_9 : Int) (μ_10 : zMem) (H : Heap) (locs : List Loc) (ls : Array Slot), Rl x_9 → zX Ω μ_10 (zfree Ω) s.heap H locs → lv_has ls 5 [(0, zR Ω 23), (1, zR Ω x1), (2, zI x_2), (3, zI x_6)] → (f_X2_fillPanes_J73 x_2 x_6 μ_7 x_8 (f_X2_fillPanes_L24 x1 x_2 (f_X2_fillPanes_K81 x_2 (f_X2_fillPanes_L14 x1 n14)) n24)) x_9 μ_10 = some μ' → W p l e (zrm 2) s m args below meth c H locs 0 0 Q (F0 m 73 ls [zJ x_9, zJ (μ_7 24 (zw ((zw (x_2 * (μ_7 23 4))) + (zshr x_8 1)))), zI (zw ((zw (x_2 * (μ_7 23 4))) + (zshr x_8 1))), zR Ω 24]) := by
                intro x_9 μ_10 H locs ls gx_9 X hl h
                unfold f_X2_fillPanes_J73 at h
                refine z_ladd C dX2_fillPanes_73 ?_
                obtain ⟨hc74, h⟩ := chk_some h
                refine zlet_elim h (fun μ_11 em h => ?_)
                refine z_last C X (hI.1 24 (by decide)) rfl hc74 (zok2 rfl (Rl.w _)) em dX2_fillPanes_74 (fun H locs X => ?_)
                clear em
                refine zlet_elim h (fun x_12 ex_12 h => ?_)
                have gx_12 : Rg x_12 := by rw [ex_12]; exact Rg.w _
                refine z_iinc C ex_12 dX2_fillPanes_75 hl (k := 3) rfl (by decide) (lv' := [(3, zI x_12), (0, zR Ω 23), (1, zR Ω x1), (2, zI x_2)]) rfl (fun ls hl => ?_)
                clear ex_12
                refine lv_goto (tgt := 24) C.1 C.2.1 dX2_fillPanes_78 (by decide) ?_
                exact ih24 x_12 μ_11 _ _ _ gx_12 X (lv_sub hl [1, 2, 3, 0] rfl) h
              refine z_ifne C (Rg.t _) (tgt := 70) dX2_fillPanes_63 (by decide) (fun hc63 => ?_) (fun hc63 => ?_)
              · rw [if_neg hc63] at h
                refine z_ldc2 C (-1) kw_639 (by decide) dX2_fillPanes_70 ?_
                exact K73 (-1) μ_7 _ _ _ ⟨by decide, by decide⟩ X (lv_sub hl [1, 2, 3, 4] rfl) h
              · rw [if_pos hc63] at h
                refine z_lconst C 1 rfl dX2_fillPanes_66 ?_
                refine lv_goto (tgt := 73) C.1 C.2.1 dX2_fillPanes_67 (by decide) ?_
                exact K73 1 μ_7 _ _ _ ⟨by decide, by decide⟩ X (lv_sub hl [1, 2, 3, 4] rfl) h
        exact L24 zfu 0 μ_3 _ _ _ ⟨by decide, by decide⟩ X (lv_sub hl [1, 2, 3, 0] rfl) h
  exact L14 zfu 0 μ_1 _ _ _ ⟨by decide, by decide⟩ X (lv_sub hl [1, 2, 0] rfl) h
theorem zc_X2_fillPanes : zcal yX2_fillPanes cX2_fillPanes 5 none RX2 1 := ⟨⟨kw_637, kw_636, kp_19, kw_7⟩, rfl, by decide, by decide, by decide +kernel⟩

