def f_X5_paneBy_L2 (t0 : Int) (x1 : Int) (μ : zMem) : Nat → Int → Option Int
  | 0, _ => none
  | n + 1, x_1 =>
    if x_1 < (zw ((μ t0 8) - 1)) then
      bnd (f_X5_stepsBy t0 x_1 x1 μ) fun x_2 =>
      if x_2 = 0 then
        zlet (zw (x_1 + 1)) fun x_3 =>
        (f_X5_paneBy_L2 t0 x1 μ n) x_3
      else
        some x_1
    else
      some x_1
def f_X5_paneBy (t0 : Int) (x1 : Int) (μ : zMem) : Option Int :=
  (f_X5_paneBy_L2 t0 x1 μ) zfu 0
set_option maxHeartbeats 4000000 in
set_option maxRecDepth 100000 in
theorem M_X5_paneBy {l : Launch} {Ω : zO} (μ : zMem) (t0 : Int) (x1 : Int) {r : Int} (o_t0 : zob Ω.2.2.1 5 t0) (gx1 : Rg x1) (h : f_X5_paneBy t0 x1 μ = some r) : XMet l yX5_paneBy cX5_paneBy 3 (some Jvm.ClassFile.FieldType.int) 2 Ω [zR Ω t0, zI x1] μ (some (zI r)) (Rg r) μ := by
  refine XMet.ofI (by decide) (Nat.le_of_ble_eq_true rfl) ?_
  intro p e s m args below meth c ls Q C rt X hl
  have C : zC p s m args c cX5_paneBy RX5 3 Ω := C
  have hl : lv_has ls 3 [(0, zR Ω t0), (1, zI x1)] := hl
  unfold f_X5_paneBy at h
  skip
  refine z_iconst C dX5_paneBy_0 ?_
  refine lv_istore_n C.1 C.2.1 (lv' := [(2, zI 0), (0, zR Ω t0), (1, zI x1)]) dX5_paneBy_1 rfl hl (by decide) rfl (fun ls hl => ?_)
  have L2 : ∀ (n2 : Nat) (x_1 : Int) (H : Heap) (locs : List Loc) (ls : Array Slot), Rg x_1 → zX Ω μ (zfree Ω) s.heap H locs → lv_has ls 3 [(0, zR Ω t0), (1, zI x1), (2, zI x_1)] → (f_X5_paneBy_L2 t0 x1 μ n2 x_1) = some r → W p l e (zrm 2) s m args below meth c H locs 0 0 Q (F0 m 2 ls []) := by
    intro n2
    induction n2 with
    | zero =>
      intro x_1 H locs ls _ _ _ h
      cases h
    | succ n2 ih2 =>
      intro x_1 H locs ls gx_1 X hl h
      unfold f_X5_paneBy_L2 at h
      refine lv_iload_n C.1 C.2.1 dX5_paneBy_2 rfl (lv_at hl 2 rfl) ?_
      refine lv_aload_n C.1 C.2.1 dX5_paneBy_3 rfl (lv_at hl 0 rfl) ?_
      have g_4 : Rg (μ t0 8) := zrgf0 (ci := 5) X.2.2.2 (zob.self o_t0) (zo5 o_t0) 8 rfl
      refine z_get C X zk5 (zob.self o_t0) (zo5 o_t0) 8 (by decide) kw_87 (zI (μ t0 8)) rfl dX5_paneBy_4 ?_
      refine z_iconst C dX5_paneBy_7 ?_
      refine z_isub C dX5_paneBy_8 ?_
      refine z_icmpge C gx_1 (Rg.w _) (tgt := 27) dX5_paneBy_9 (by decide) (fun hc9 => ?_) (fun hc9 => ?_)
      · rw [if_neg hc9] at h
        refine lv_iload_n C.1 C.2.1 dX5_paneBy_27 rfl (lv_at hl 2 rfl) ?_
        obtain rfl := Option.some.inj h
        exact rt X gx_1 dX5_paneBy_28
      · rw [if_pos hc9] at h
        refine lv_aload_n C.1 C.2.1 dX5_paneBy_12 rfl (lv_at hl 0 rfl) ?_
        refine lv_iload_n C.1 C.2.1 dX5_paneBy_13 rfl (lv_at hl 2 rfl) ?_
        refine lv_iload_n C.1 C.2.1 dX5_paneBy_14 rfl (lv_at hl 1 rfl) ?_
        obtain ⟨x_2, hq15, h⟩ := bnd_some h
        refine z_callV1 C X zk5 (zob.self o_t0) (zo5 o_t0) (As := [zI x_1, zI x1]) (M_X5_stepsBy μ t0 x_1 x1 o_t0 gx_1 gx1 hq15) zc_X5_stepsBy kw_957 (zroom (by decide) (by decide)) rfl hl.1 rfl (Nat.le_of_ble_eq_true rfl) dX5_paneBy_15 ⟨Nat.zero_le _, Nat.zero_le _⟩ (fun H locs g_15 X => ?_)
        refine z_ifne C g_15 (tgt := 27) dX5_paneBy_18 (by decide) (fun hc18 => ?_) (fun hc18 => ?_)
        · rw [if_neg hc18] at h
          refine lv_iload_n C.1 C.2.1 dX5_paneBy_27 rfl (lv_at hl 2 rfl) ?_
          obtain rfl := Option.some.inj h
          exact rt X gx_1 dX5_paneBy_28
        · rw [if_pos hc18] at h
          refine zlet_elim h (fun x_3 ex_3 h => ?_)
          have gx_3 : Rg x_3 := by rw [ex_3]; exact Rg.w _
          refine z_iinc C ex_3 dX5_paneBy_21 hl (k := 2) rfl (by decide) (lv' := [(2, zI x_3), (0, zR Ω t0), (1, zI x1)]) rfl (fun ls hl => ?_)
          clear ex_3
          refine lv_goto (tgt := 2) C.1 C.2.1 dX5_paneBy_24 (by decide) ?_
          exact ih2 x_3 _ _ _ gx_3 X (lv_sub hl [1, 2, 0] rfl) h
  exact L2 zfu 0 _ _ _ ⟨by decide, by decide⟩ X (lv_sub hl [1, 2, 0] rfl) h
theorem zc_X5_paneBy : zcal yX5_paneBy cX5_paneBy 3 (some Jvm.ClassFile.FieldType.int) RX5 1 := ⟨⟨kw_983, kw_982, kp_49, kw_3⟩, rfl, by decide, by decide, by decide +kernel⟩

def f_X5_removeEdge_K113 (x_5 : Int) (g53 : Int → zMem → Option zMem) (μ_8 : zMem) : Option zMem :=
  zlet (zw (x_5 + 1)) fun x_9 =>
  g53 x_9 μ_8
def f_X5_removeEdge_L67 (t0 : Int) (x1 : Int) (x_5 : Int) (g113 : zMem → Option zMem) : Nat → Int → zMem → Option zMem
  | 0, _, _ => none
  | n + 1, x_10, μ_11 =>
    chk ((0 : Int) ≤ x_5 ∧ x_5 < zlen (t0 + 6)) <|
    if x_10 < (zw ((zw (x_5 * 8)) + (μ_11 (t0 + 6) x_5))) then
      chk ((0 : Int) ≤ x_10 ∧ x_10 < zlen (t0 + 5)) <|
      if (zshr (μ_11 (t0 + 5) x_10) 1) ≤ x1 then
        zlet (zw (x_10 + 1)) fun x_12 =>
        (f_X5_removeEdge_L67 t0 x1 x_5 g113 n) x_12 μ_11
      else
        chk ((0 : Int) ≤ x_10 ∧ x_10 < zlen (t0 + 5)) <|
        chk ((0 : Int) ≤ x_10 ∧ x_10 < zlen (t0 + 5)) <|
        zlet (zup μ_11 (t0 + 5) x_10 (zw ((μ_11 (t0 + 5) x_10) - 2))) fun μ_13 =>
        zlet (zw (x_10 + 1)) fun x_14 =>
        (f_X5_removeEdge_L67 t0 x1 x_5 g113 n) x_14 μ_13
    else
      g113 μ_11
def f_X5_removeEdge_L53 (t0 : Int) (x1 : Int) : Nat → Int → zMem → Option zMem
  | 0, _, _ => none
  | n + 1, x_5, μ_6 =>
    if x_5 < (μ_6 t0 8) then
      zlet ((zw (x_5 * 8))) fun x_7 =>
      (f_X5_removeEdge_L67 t0 x1 x_5 (f_X5_removeEdge_K113 x_5 (f_X5_removeEdge_L53 t0 x1 n))) zfu x_7 μ_6
    else
      some μ_6
def f_X5_removeEdge (t0 : Int) (x1 : Int) (μ : zMem) : Option zMem :=
  zlet ((zw ((zw ((μ t0 7) - x1)) - 1))) fun x_1 =>
  chk ((0 : Int) ≤ (zw (x1 + 1)) ∧ (0 : Int) ≤ x1 ∧ (0 : Int) ≤ x_1 ∧ (zw (x1 + 1)) + x_1 ≤ zlen (t0 + 1) ∧ x1 + x_1 ≤ zlen (t0 + 1)) <|
  zlet (zcpy μ (t0 + 1) (zw (x1 + 1)) (t0 + 1) x1 x_1) fun μ_2 =>
  chk ((0 : Int) ≤ (zw (x1 + 1)) ∧ (0 : Int) ≤ x1 ∧ (0 : Int) ≤ x_1 ∧ (zw (x1 + 1)) + x_1 ≤ zlen (t0 + 2) ∧ x1 + x_1 ≤ zlen (t0 + 2)) <|
  zlet (zcpy μ_2 (t0 + 2) (zw (x1 + 1)) (t0 + 2) x1 x_1) fun μ_3 =>
  zlet (zup μ_3 t0 7 (zw ((μ_3 t0 7) - 1))) fun μ_4 =>
  (f_X5_removeEdge_L53 t0 x1) zfu 0 μ_4
set_option maxHeartbeats 4000000 in
set_option maxRecDepth 100000 in
theorem M_X5_removeEdge {l : Launch} {Ω : zO} (μ : zMem) (t0 : Int) (x1 : Int) {μ' : zMem} (o_t0 : zob Ω.2.2.1 5 t0) (gx1 : Rg x1) (h : f_X5_removeEdge t0 x1 μ = some μ') : XMet l yX5_removeEdge cX5_removeEdge 5 none 0 Ω [zR Ω t0, zI x1] μ none True μ' := by
  refine XMet.ofV (by decide) (Nat.le_of_ble_eq_true rfl) ?_
  intro p e s m args below meth c ls Q C rt X hl
  have C : zC p s m args c cX5_removeEdge RX5 5 Ω := C
  have hl : lv_has ls 5 [(0, zR Ω t0), (1, zI x1)] := hl
  unfold f_X5_removeEdge at h
  skip
  refine lv_aload_n C.1 C.2.1 dX5_removeEdge_0 rfl (lv_at hl 0 rfl) ?_
  have g_1 : Rg (μ t0 7) := zrgf0 (ci := 5) X.2.2.2 (zob.self o_t0) (zo5 o_t0) 7 rfl
  refine z_get C X zk5 (zob.self o_t0) (zo5 o_t0) 7 (by decide) kw_83 (zI (μ t0 7)) rfl dX5_removeEdge_1 ?_
  refine lv_iload_n C.1 C.2.1 dX5_removeEdge_4 rfl (lv_at hl 1 rfl) ?_
  refine z_isub C dX5_removeEdge_5 ?_
  refine z_iconst C dX5_removeEdge_6 ?_
  refine z_isub C dX5_removeEdge_7 ?_
  refine zlet_elim h (fun x_1 ex_1 h => ?_)
  have gx_1 : Rg x_1 := by rw [ex_1]; exact (Rg.w _)
  refine z_istore_n C ex_1 dX5_removeEdge_8 rfl hl (by decide) (lv' := [(2, zI x_1), (0, zR Ω t0), (1, zI x1)]) rfl (fun ls hl => ?_)
  clear ex_1
  refine lv_aload_n C.1 C.2.1 dX5_removeEdge_9 rfl (lv_at hl 1 rfl) ?_
  refine z_get C X zk5 (zob.self o_t0) (zo5 o_t0) 0 (by decide) kw_56 (zR Ω (t0 + 1)) (zfvF (off := 1) X.2.2.2 (zob.self o_t0) o_t0.2.2 (zo5 o_t0) rfl (by rw [zo5_1 o_t0]; decide)) dX5_removeEdge_10 ?_
  refine lv_iload_n C.1 C.2.1 dX5_removeEdge_13 rfl (lv_at hl 2 rfl) ?_
  refine z_iconst C dX5_removeEdge_14 ?_
  refine z_iadd C dX5_removeEdge_15 ?_
  refine lv_aload_n C.1 C.2.1 dX5_removeEdge_16 rfl (lv_at hl 1 rfl) ?_
  refine z_get C X zk5 (zob.self o_t0) (zo5 o_t0) 0 (by decide) kw_56 (zR Ω (t0 + 1)) (zfvF (off := 1) X.2.2.2 (zob.self o_t0) o_t0.2.2 (zo5 o_t0) rfl (by rw [zo5_1 o_t0]; decide)) dX5_removeEdge_17 ?_
  refine lv_iload_n C.1 C.2.1 dX5_removeEdge_20 rfl (lv_at hl 2 rfl) ?_
  refine lv_iload_n C.1 C.2.1 dX5_removeEdge_21 rfl (lv_at hl 0 rfl) ?_
  obtain ⟨hc22, h⟩ := chk_some h
  refine zlet_elim h (fun μ_2 em h => ?_)
  refine z_copy C X hl.1 (o_t0.2.1 1 (by decide) (by decide)) (zo5_1 o_t0) (o_t0.2.1 1 (by decide) (by decide)) (zo5_1 o_t0) hc22 kw_521 em (by decide) (by decide) dX5_removeEdge_22 (fun H locs X => ?_)
  clear em
  refine lv_aload_n C.1 C.2.1 dX5_removeEdge_25 rfl (lv_at hl 1 rfl) ?_
  refine z_get C X zk5 (zob.self o_t0) (zo5 o_t0) 1 (by decide) kw_60 (zR Ω (t0 + 2)) (zfvF (off := 2) X.2.2.2 (zob.self o_t0) o_t0.2.2 (zo5 o_t0) rfl (by rw [zo5_2 o_t0]; decide)) dX5_removeEdge_26 ?_
  refine lv_iload_n C.1 C.2.1 dX5_removeEdge_29 rfl (lv_at hl 2 rfl) ?_
  refine z_iconst C dX5_removeEdge_30 ?_
  refine z_iadd C dX5_removeEdge_31 ?_
  refine lv_aload_n C.1 C.2.1 dX5_removeEdge_32 rfl (lv_at hl 1 rfl) ?_
  refine z_get C X zk5 (zob.self o_t0) (zo5 o_t0) 1 (by decide) kw_60 (zR Ω (t0 + 2)) (zfvF (off := 2) X.2.2.2 (zob.self o_t0) o_t0.2.2 (zo5 o_t0) rfl (by rw [zo5_2 o_t0]; decide)) dX5_removeEdge_33 ?_
  refine lv_iload_n C.1 C.2.1 dX5_removeEdge_36 rfl (lv_at hl 2 rfl) ?_
  refine lv_iload_n C.1 C.2.1 dX5_removeEdge_37 rfl (lv_at hl 0 rfl) ?_
  obtain ⟨hc38, h⟩ := chk_some h
  refine zlet_elim h (fun μ_3 em h => ?_)
  refine z_copy C X hl.1 (o_t0.2.1 2 (by decide) (by decide)) (zo5_2 o_t0) (o_t0.2.1 2 (by decide) (by decide)) (zo5_2 o_t0) hc38 kw_521 em (by decide) (by decide) dX5_removeEdge_38 (fun H locs X => ?_)
  clear em
  refine lv_aload_n C.1 C.2.1 dX5_removeEdge_41 rfl (lv_at hl 1 rfl) ?_
  refine lv_dup C.1 C.2.1 dX5_removeEdge_42 rfl ?_
  have g_43 : Rg (μ_3 t0 7) := zrgf0 (ci := 5) X.2.2.2 (zob.self o_t0) (zo5 o_t0) 7 rfl
  refine z_get C X zk5 (zob.self o_t0) (zo5 o_t0) 7 (by decide) kw_83 (zI (μ_3 t0 7)) rfl dX5_removeEdge_43 ?_
  refine z_iconst C dX5_removeEdge_46 ?_
  refine z_isub C dX5_removeEdge_47 ?_
  refine zlet_elim h (fun μ_4 em h => ?_)
  refine z_putI C X zk5 (zob.self o_t0) (zo5 o_t0) 7 (by decide) kw_83 rfl rfl rfl rfl (Rg.w _) em dX5_removeEdge_48 (fun H locs X => ?_)
  clear em
  refine z_iconst C dX5_removeEdge_51 ?_
  refine lv_istore_n C.1 C.2.1 (lv' := [(3, zI 0), (2, zI x_1), (0, zR Ω t0), (1, zI x1)]) dX5_removeEdge_52 rfl hl (by decide) rfl (fun ls hl => ?_)
  have L53 : ∀ (n53 : Nat) (x_5 : Int) (μ_6 : zMem) (H : Heap) (locs : List Loc) (ls : Array Slot), Rg x_5 → zX Ω μ_6 (zfree Ω) s.heap H locs → lv_has ls 5 [(0, zR Ω t0), (1, zI x1), (3, zI x_5)] → (f_X5_removeEdge_L53 t0 x1 n53 x_5 μ_6) = some μ' → W p l e (zrm 0) s m args below meth c H locs 0 0 Q (F0 m 53 ls []) := by
    intro n53
    induction n53 with
    | zero =>
      intro x_5 μ_6 H locs ls _ _ _ h
      cases h
    | succ n53 ih53 =>
      intro x_5 μ_6 H locs ls gx_5 X hl h
      unfold f_X5_removeEdge_L53 at h
      refine lv_iload_n C.1 C.2.1 dX5_removeEdge_53 rfl (lv_at hl 2 rfl) ?_
      refine lv_aload_n C.1 C.2.1 dX5_removeEdge_54 rfl (lv_at hl 0 rfl) ?_
      have g_55 : Rg (μ_6 t0 8) := zrgf0 (ci := 5) X.2.2.2 (zob.self o_t0) (zo5 o_t0) 8 rfl
      refine z_get C X zk5 (zob.self o_t0) (zo5 o_t0) 8 (by decide) kw_87 (zI (μ_6 t0 8)) rfl dX5_removeEdge_55 ?_
      refine z_icmpge C gx_5 g_55 (tgt := 119) dX5_removeEdge_58 (by decide) (fun hc58 => ?_) (fun hc58 => ?_)
      · rw [if_neg hc58] at h
        obtain rfl := Option.some.inj h
        exact rt X dX5_removeEdge_119
      · rw [if_pos hc58] at h
        refine lv_iload_n C.1 C.2.1 dX5_removeEdge_61 rfl (lv_at hl 2 rfl) ?_
        refine z_bipush C dX5_removeEdge_62 (by decide) ?_
        refine z_imul C dX5_removeEdge_64 ?_
        refine zlet_elim h (fun x_7 ex_7 h => ?_)
        have gx_7 : Rg x_7 := by rw [ex_7]; exact (Rg.w _)
        refine z_istore C ex_7 dX5_removeEdge_65 hl (by decide) (lv' := [(4, zI x_7), (0, zR Ω t0), (1, zI x1), (3, zI x_5)]) rfl (fun ls hl => ?_)
        clear ex_7
        have K113 : ∀ (μ_8 : zMem) (H : Heap) (locs : List Loc) (ls : Array Slot), zX Ω μ_8 (zfree Ω) s.heap H locs → lv_has ls 5 [(0, zR Ω t0), (1, zI x1), (3, zI x_5)] → (f_X5_removeEdge_K113 x_5 (f_X5_removeEdge_L53 t0 x1 n53)) μ_8 = some μ' → W p l e (zrm 0) s m args below meth c H locs 0 0 Q (F0 m 113 ls []) := by
          intro μ_8 H locs ls  X hl h
          unfold f_X5_removeEdge_K113 at h
          refine zlet_elim h (fun x_9 ex_9 h => ?_)
          have gx_9 : Rg x_9 := by rw [ex_9]; exact Rg.w _
          refine z_iinc C ex_9 dX5_removeEdge_113 hl (k := 2) rfl (by decide) (lv' := [(3, zI x_9), (0, zR Ω t0), (1, zI x1)]) rfl (fun ls hl => ?_)
          clear ex_9
          refine lv_goto (tgt := 53) C.1 C.2.1 dX5_removeEdge_116 (by decide) ?_
          exact ih53 x_9 μ_8 _ _ _ gx_9 X (lv_sub hl [1, 2, 0] rfl) h
        have L67 : ∀ (n67 : Nat) (x_10 : Int) (μ_11 : zMem) (H : Heap) (locs : List Loc) (ls : Array Slot), Rg x_10 → zX Ω μ_11 (zfree Ω) s.heap H locs → lv_has ls 5 [(0, zR Ω t0), (1, zI x1), (3, zI x_5), (4, zI x_10)] → (f_X5_removeEdge_L67 t0 x1 x_5 (f_X5_removeEdge_K113 x_5 (f_X5_removeEdge_L53 t0 x1 n53)) n67 x_10 μ_11) = some μ' → W p l e (zrm 0) s m args below meth c H locs 0 0 Q (F0 m 67 ls []) := by
          intro n67
          induction n67 with
          | zero =>
            intro x_10 μ_11 H locs ls _ _ _ h
            cases h
          | succ n67 ih67 =>
            intro x_10 μ_11 H locs ls gx_10 X hl h
            unfold f_X5_removeEdge_L67 at h
            refine lv_iload C.1 C.2.1 dX5_removeEdge_67 (lv_at hl 3 rfl) ?_
            refine lv_iload_n C.1 C.2.1 dX5_removeEdge_69 rfl (lv_at hl 2 rfl) ?_
            refine z_bipush C dX5_removeEdge_70 (by decide) ?_
            refine z_imul C dX5_removeEdge_72 ?_
            refine lv_aload_n C.1 C.2.1 dX5_removeEdge_73 rfl (lv_at hl 0 rfl) ?_
            refine z_get C X zk5 (zob.self o_t0) (zo5 o_t0) 5 (by decide) kw_71 (zR Ω (t0 + 6)) (zfvF (off := 6) X.2.2.2 (zob.self o_t0) o_t0.2.2 (zo5 o_t0) rfl (by rw [zo5_6 o_t0]; decide)) dX5_removeEdge_74 ?_
            refine lv_iload_n C.1 C.2.1 dX5_removeEdge_77 rfl (lv_at hl 2 rfl) ?_
            obtain ⟨hc78, h⟩ := chk_some h
            have g_78 : Rg (μ_11 (t0 + 6) x_5) := zrg1 X.2.2.2 (o_t0.2.1 6 (by decide) (by decide)) (zo5_6 o_t0)
            refine z_iald C X (o_t0.2.1 6 (by decide) (by decide)) (zo5_6 o_t0) hc78 dX5_removeEdge_78 ?_
            refine z_iadd C dX5_removeEdge_79 ?_
            refine z_icmpge C gx_10 (Rg.w _) (tgt := 113) dX5_removeEdge_80 (by decide) (fun hc80 => ?_) (fun hc80 => ?_)
            · rw [if_neg hc80] at h
              exact K113 μ_11 _ _ _ X (lv_sub hl [0, 1, 2] rfl) h
            · rw [if_pos hc80] at h
              refine lv_aload_n C.1 C.2.1 dX5_removeEdge_83 rfl (lv_at hl 0 rfl) ?_
              refine z_get C X zk5 (zob.self o_t0) (zo5 o_t0) 4 (by decide) kw_70 (zR Ω (t0 + 5)) (zfvF (off := 5) X.2.2.2 (zob.self o_t0) o_t0.2.2 (zo5 o_t0) rfl (by rw [zo5_5 o_t0]; decide)) dX5_removeEdge_84 ?_
              refine lv_iload C.1 C.2.1 dX5_removeEdge_87 (lv_at hl 3 rfl) ?_
              obtain ⟨hc89, h⟩ := chk_some h
              have g_89 : Rg (μ_11 (t0 + 5) x_10) := zrg1 X.2.2.2 (o_t0.2.1 5 (by decide) (by decide)) (zo5_5 o_t0)
              refine z_iald C X (o_t0.2.1 5 (by decide) (by decide)) (zo5_5 o_t0) hc89 dX5_removeEdge_89 ?_
              refine z_iconst C dX5_removeEdge_90 ?_
              refine z_ishr C dX5_removeEdge_91 ?_
              refine lv_iload_n C.1 C.2.1 dX5_removeEdge_92 rfl (lv_at hl 1 rfl) ?_
              refine z_icmple C (Rg.t _) gx1 (tgt := 107) dX5_removeEdge_93 (by decide) (fun hc93 => ?_) (fun hc93 => ?_)
              · rw [if_pos hc93] at h
                refine zlet_elim h (fun x_12 ex_12 h => ?_)
                have gx_12 : Rg x_12 := by rw [ex_12]; exact Rg.w _
                refine z_iinc C ex_12 dX5_removeEdge_107 hl (k := 3) rfl (by decide) (lv' := [(4, zI x_12), (0, zR Ω t0), (1, zI x1), (3, zI x_5)]) rfl (fun ls hl => ?_)
                clear ex_12
                refine lv_goto (tgt := 67) C.1 C.2.1 dX5_removeEdge_110 (by decide) ?_
                exact ih67 x_12 μ_11 _ _ _ gx_12 X (lv_sub hl [1, 2, 3, 0] rfl) h
              · rw [if_neg hc93] at h
                refine lv_aload_n C.1 C.2.1 dX5_removeEdge_96 rfl (lv_at hl 0 rfl) ?_
                refine z_get C X zk5 (zob.self o_t0) (zo5 o_t0) 4 (by decide) kw_70 (zR Ω (t0 + 5)) (zfvF (off := 5) X.2.2.2 (zob.self o_t0) o_t0.2.2 (zo5 o_t0) rfl (by rw [zo5_5 o_t0]; decide)) dX5_removeEdge_97 ?_
                refine lv_iload C.1 C.2.1 dX5_removeEdge_100 (lv_at hl 3 rfl) ?_
                refine lv_dup2_11 C.1 C.2.1 dX5_removeEdge_102 rfl rfl ?_
                obtain ⟨hc103, h⟩ := chk_some h
                have g_103 : Rg (μ_11 (t0 + 5) x_10) := zrg1 X.2.2.2 (o_t0.2.1 5 (by decide) (by decide)) (zo5_5 o_t0)
                refine z_iald C X (o_t0.2.1 5 (by decide) (by decide)) (zo5_5 o_t0) hc103 dX5_removeEdge_103 ?_
                refine z_iconst C dX5_removeEdge_104 ?_
                refine z_isub C dX5_removeEdge_105 ?_
                obtain ⟨hc106, h⟩ := chk_some h
                refine zlet_elim h (fun μ_13 em h => ?_)
                refine z_iast C X (o_t0.2.1 5 (by decide) (by decide)) (zo5_5 o_t0) hc106 (zok1 (zo5_5 o_t0) (Rg.w _)) em dX5_removeEdge_106 (fun H locs X => ?_)
                clear em
                refine zlet_elim h (fun x_14 ex_14 h => ?_)
                have gx_14 : Rg x_14 := by rw [ex_14]; exact Rg.w _
                refine z_iinc C ex_14 dX5_removeEdge_107 hl (k := 3) rfl (by decide) (lv' := [(4, zI x_14), (0, zR Ω t0), (1, zI x1), (3, zI x_5)]) rfl (fun ls hl => ?_)
                clear ex_14
                refine lv_goto (tgt := 67) C.1 C.2.1 dX5_removeEdge_110 (by decide) ?_
                exact ih67 x_14 μ_13 _ _ _ gx_14 X (lv_sub hl [1, 2, 3, 0] rfl) h
        exact L67 zfu x_7 μ_6 _ _ _ gx_7 X (lv_sub hl [1, 2, 3, 0] rfl) h
  exact L53 zfu 0 μ_4 _ _ _ ⟨by decide, by decide⟩ X (lv_sub hl [2, 3, 0] rfl) h
theorem zc_X5_removeEdge : zcal yX5_removeEdge cX5_removeEdge 5 none RX5 1 := ⟨⟨kw_991, kw_990, kp_51, kw_3⟩, rfl, by decide, by decide, by decide +kernel⟩

def f_X5_removePane (t0 : Int) (x1 : Int) (μ : zMem) : Option zMem :=
  zlet ((zw ((zw ((μ t0 8) - x1)) - 1))) fun x_1 =>
  chk ((0 : Int) ≤ (zw ((zw (x1 + 1)) * 8)) ∧ (0 : Int) ≤ (zw (x1 * 8)) ∧ (0 : Int) ≤ (zw (x_1 * 8)) ∧ (zw ((zw (x1 + 1)) * 8)) + (zw (x_1 * 8)) ≤ zlen (t0 + 5) ∧ (zw (x1 * 8)) + (zw (x_1 * 8)) ≤ zlen (t0 + 5)) <|
  zlet (zcpy μ (t0 + 5) (zw ((zw (x1 + 1)) * 8)) (t0 + 5) (zw (x1 * 8)) (zw (x_1 * 8))) fun μ_2 =>
  chk ((0 : Int) ≤ (zw (x1 + 1)) ∧ (0 : Int) ≤ x1 ∧ (0 : Int) ≤ x_1 ∧ (zw (x1 + 1)) + x_1 ≤ zlen (t0 + 6) ∧ x1 + x_1 ≤ zlen (t0 + 6)) <|
  zlet (zcpy μ_2 (t0 + 6) (zw (x1 + 1)) (t0 + 6) x1 x_1) fun μ_3 =>
  zlet (zup μ_3 t0 8 (zw ((μ_3 t0 8) - 1))) fun μ_4 =>
  some μ_4
set_option maxHeartbeats 4000000 in
set_option maxRecDepth 100000 in
theorem M_X5_removePane {l : Launch} {Ω : zO} (μ : zMem) (t0 : Int) (x1 : Int) {μ' : zMem} (o_t0 : zob Ω.2.2.1 5 t0) (gx1 : Rg x1) (h : f_X5_removePane t0 x1 μ = some μ') : XMet l yX5_removePane cX5_removePane 3 none 0 Ω [zR Ω t0, zI x1] μ none True μ' := by
  refine XMet.ofV (by decide) (Nat.le_of_ble_eq_true rfl) ?_
  intro p e s m args below meth c ls Q C rt X hl
  have C : zC p s m args c cX5_removePane RX5 3 Ω := C
  have hl : lv_has ls 3 [(0, zR Ω t0), (1, zI x1)] := hl
  unfold f_X5_removePane at h
  skip
  refine lv_aload_n C.1 C.2.1 dX5_removePane_0 rfl (lv_at hl 0 rfl) ?_
  have g_1 : Rg (μ t0 8) := zrgf0 (ci := 5) X.2.2.2 (zob.self o_t0) (zo5 o_t0) 8 rfl
  refine z_get C X zk5 (zob.self o_t0) (zo5 o_t0) 8 (by decide) kw_87 (zI (μ t0 8)) rfl dX5_removePane_1 ?_
  refine lv_iload_n C.1 C.2.1 dX5_removePane_4 rfl (lv_at hl 1 rfl) ?_
  refine z_isub C dX5_removePane_5 ?_
  refine z_iconst C dX5_removePane_6 ?_
  refine z_isub C dX5_removePane_7 ?_
  refine zlet_elim h (fun x_1 ex_1 h => ?_)
  have gx_1 : Rg x_1 := by rw [ex_1]; exact (Rg.w _)
  refine z_istore_n C ex_1 dX5_removePane_8 rfl hl (by decide) (lv' := [(2, zI x_1), (0, zR Ω t0), (1, zI x1)]) rfl (fun ls hl => ?_)
  clear ex_1
  refine lv_aload_n C.1 C.2.1 dX5_removePane_9 rfl (lv_at hl 1 rfl) ?_
  refine z_get C X zk5 (zob.self o_t0) (zo5 o_t0) 4 (by decide) kw_70 (zR Ω (t0 + 5)) (zfvF (off := 5) X.2.2.2 (zob.self o_t0) o_t0.2.2 (zo5 o_t0) rfl (by rw [zo5_5 o_t0]; decide)) dX5_removePane_10 ?_
  refine lv_iload_n C.1 C.2.1 dX5_removePane_13 rfl (lv_at hl 2 rfl) ?_
  refine z_iconst C dX5_removePane_14 ?_
  refine z_iadd C dX5_removePane_15 ?_
  refine z_bipush C dX5_removePane_16 (by decide) ?_
  refine z_imul C dX5_removePane_18 ?_
  refine lv_aload_n C.1 C.2.1 dX5_removePane_19 rfl (lv_at hl 1 rfl) ?_
  refine z_get C X zk5 (zob.self o_t0) (zo5 o_t0) 4 (by decide) kw_70 (zR Ω (t0 + 5)) (zfvF (off := 5) X.2.2.2 (zob.self o_t0) o_t0.2.2 (zo5 o_t0) rfl (by rw [zo5_5 o_t0]; decide)) dX5_removePane_20 ?_
  refine lv_iload_n C.1 C.2.1 dX5_removePane_23 rfl (lv_at hl 2 rfl) ?_
  refine z_bipush C dX5_removePane_24 (by decide) ?_
  refine z_imul C dX5_removePane_26 ?_
  refine lv_iload_n C.1 C.2.1 dX5_removePane_27 rfl (lv_at hl 0 rfl) ?_
  refine z_bipush C dX5_removePane_28 (by decide) ?_
  refine z_imul C dX5_removePane_30 ?_
  obtain ⟨hc31, h⟩ := chk_some h
  refine zlet_elim h (fun μ_2 em h => ?_)
  refine z_copy C X hl.1 (o_t0.2.1 5 (by decide) (by decide)) (zo5_5 o_t0) (o_t0.2.1 5 (by decide) (by decide)) (zo5_5 o_t0) hc31 kw_521 em (by decide) (by decide) dX5_removePane_31 (fun H locs X => ?_)
  clear em
  refine lv_aload_n C.1 C.2.1 dX5_removePane_34 rfl (lv_at hl 1 rfl) ?_
  refine z_get C X zk5 (zob.self o_t0) (zo5 o_t0) 5 (by decide) kw_71 (zR Ω (t0 + 6)) (zfvF (off := 6) X.2.2.2 (zob.self o_t0) o_t0.2.2 (zo5 o_t0) rfl (by rw [zo5_6 o_t0]; decide)) dX5_removePane_35 ?_
  refine lv_iload_n C.1 C.2.1 dX5_removePane_38 rfl (lv_at hl 2 rfl) ?_
  refine z_iconst C dX5_removePane_39 ?_
  refine z_iadd C dX5_removePane_40 ?_
  refine lv_aload_n C.1 C.2.1 dX5_removePane_41 rfl (lv_at hl 1 rfl) ?_
  refine z_get C X zk5 (zob.self o_t0) (zo5 o_t0) 5 (by decide) kw_71 (zR Ω (t0 + 6)) (zfvF (off := 6) X.2.2.2 (zob.self o_t0) o_t0.2.2 (zo5 o_t0) rfl (by rw [zo5_6 o_t0]; decide)) dX5_removePane_42 ?_
  refine lv_iload_n C.1 C.2.1 dX5_removePane_45 rfl (lv_at hl 2 rfl) ?_
  refine lv_iload_n C.1 C.2.1 dX5_removePane_46 rfl (lv_at hl 0 rfl) ?_
  obtain ⟨hc47, h⟩ := chk_some h
  refine zlet_elim h (fun μ_3 em h => ?_)
  refine z_copy C X hl.1 (o_t0.2.1 6 (by decide) (by decide)) (zo5_6 o_t0) (o_t0.2.1 6 (by decide) (by decide)) (zo5_6 o_t0) hc47 kw_521 em (by decide) (by decide) dX5_removePane_47 (fun H locs X => ?_)
  clear em
  refine lv_aload_n C.1 C.2.1 dX5_removePane_50 rfl (lv_at hl 1 rfl) ?_
  refine lv_dup C.1 C.2.1 dX5_removePane_51 rfl ?_
  have g_52 : Rg (μ_3 t0 8) := zrgf0 (ci := 5) X.2.2.2 (zob.self o_t0) (zo5 o_t0) 8 rfl
  refine z_get C X zk5 (zob.self o_t0) (zo5 o_t0) 8 (by decide) kw_87 (zI (μ_3 t0 8)) rfl dX5_removePane_52 ?_
  refine z_iconst C dX5_removePane_55 ?_
  refine z_isub C dX5_removePane_56 ?_
  refine zlet_elim h (fun μ_4 em h => ?_)
  refine z_putI C X zk5 (zob.self o_t0) (zo5 o_t0) 8 (by decide) kw_87 rfl rfl rfl rfl (Rg.w _) em dX5_removePane_57 (fun H locs X => ?_)
  clear em
  obtain rfl := Option.some.inj h
  exact rt X dX5_removePane_60
theorem zc_X5_removePane : zcal yX5_removePane cX5_removePane 3 none RX5 1 := ⟨⟨kw_987, kw_986, kp_50, kw_3⟩, rfl, by decide, by decide, by decide +kernel⟩

def f_X5_collapse_L7 (t0 : Int) : Nat → Int → Int → zMem → Option (Int × zMem)
  | 0, _, _, _ => none
  | n + 1, x_2, x_3, μ_4 =>
    if x_2 < 8 then
      if x_3 = (-1) then
        some (x_2, μ_4)
      else
        bnd (f_X5_paneBy t0 x_3 μ_4) fun x_5 =>
        bnd (f_X5_removePane t0 x_5 μ_4) fun μ_6 =>
        bnd (f_X5_removeEdge t0 x_3 μ_6) fun μ_7 =>
        zlet (zw (x_2 + 1)) fun x_8 =>
        bnd (f_X5_leastFreeEdge t0 μ_7) fun x_9 =>
        (f_X5_collapse_L7 t0 n) x_8 x_9 μ_7
    else
      some (x_2, μ_4)
def f_X5_collapse (t0 : Int) (μ : zMem) : Option (Int × zMem) :=
  bnd (f_X5_leastFreeEdge t0 μ) fun x_1 =>
  (f_X5_collapse_L7 t0) zfu 0 x_1 μ
set_option maxHeartbeats 4000000 in
set_option maxRecDepth 100000 in
theorem M_X5_collapse {l : Launch} {Ω : zO} (μ : zMem) (t0 : Int) {r : Int} {μ' : zMem} (o_t0 : zob Ω.2.2.1 5 t0) (h : f_X5_collapse t0 μ = some (r, μ')) : XMet l yX5_collapse cX5_collapse 3 (some Jvm.ClassFile.FieldType.int) 3 Ω [zR Ω t0] μ (some (zI r)) (Rg r) μ' := by
  refine XMet.ofI (by decide) (Nat.le_of_ble_eq_true rfl) ?_
  intro p e s m args below meth c ls Q C rt X hl
  have C : zC p s m args c cX5_collapse RX5 3 Ω := C
  have hl : lv_has ls 3 [(0, zR Ω t0)] := hl
  unfold f_X5_collapse at h
  skip
  refine z_iconst C dX5_collapse_0 ?_
  refine lv_istore_n C.1 C.2.1 (lv' := [(1, zI 0), (0, zR Ω t0)]) dX5_collapse_1 rfl hl (by decide) rfl (fun ls hl => ?_)
  refine lv_aload_n C.1 C.2.1 dX5_collapse_2 rfl (lv_at hl 1 rfl) ?_
  obtain ⟨x_1, hq3, h⟩ := bnd_some h
  refine z_callV1 C X zk5 (zob.self o_t0) (zo5 o_t0) (As := []) (M_X5_leastFreeEdge μ t0 o_t0 hq3) zc_X5_leastFreeEdge kw_976 (zroom (by decide) (by decide)) rfl hl.1 rfl (Nat.le_of_ble_eq_true rfl) dX5_collapse_3 ⟨Nat.zero_le _, Nat.zero_le _⟩ (fun H locs g_3 X => ?_)
  refine lv_istore_n C.1 C.2.1 (lv' := [(2, zI x_1), (1, zI 0), (0, zR Ω t0)]) dX5_collapse_6 rfl hl (by decide) rfl (fun ls hl => ?_)
  have L7 : ∀ (n7 : Nat) (x_2 : Int) (x_3 : Int) (μ_4 : zMem) (H : Heap) (locs : List Loc) (ls : Array Slot), Rg x_2 → Rg x_3 → zX Ω μ_4 (zfree Ω) s.heap H locs → lv_has ls 3 [(0, zR Ω t0), (1, zI x_2), (2, zI x_3)] → (f_X5_collapse_L7 t0 n7 x_2 x_3 μ_4) = some (r, μ') → W p l e (zrm 3) s m args below meth c H locs 0 0 Q (F0 m 7 ls []) := by
    intro n7
    induction n7 with
    | zero =>
      intro x_2 x_3 μ_4 H locs ls _ _ _ _ h
      cases h
    | succ n7 ih7 =>
      intro x_2 x_3 μ_4 H locs ls gx_2 gx_3 X hl h
      unfold f_X5_collapse_L7 at h
      refine lv_iload_n C.1 C.2.1 dX5_collapse_7 rfl (lv_at hl 1 rfl) ?_
      refine z_bipush C dX5_collapse_8 (by decide) ?_
      refine z_icmpge C gx_2 ⟨by decide, by decide⟩ (tgt := 43) dX5_collapse_10 (by decide) (fun hc10 => ?_) (fun hc10 => ?_)
      · rw [if_neg hc10] at h
        refine lv_iload_n C.1 C.2.1 dX5_collapse_43 rfl (lv_at hl 1 rfl) ?_
        obtain ⟨rfl, rfl⟩ := Prod.mk.inj (Option.some.inj h)
        exact rt X gx_2 dX5_collapse_44
      · rw [if_pos hc10] at h
        refine lv_iload_n C.1 C.2.1 dX5_collapse_13 rfl (lv_at hl 2 rfl) ?_
        refine z_iconst C dX5_collapse_14 ?_
        refine z_icmpeq C gx_3 ⟨by decide, by decide⟩ (tgt := 43) dX5_collapse_15 (by decide) (fun hc15 => ?_) (fun hc15 => ?_)
        · rw [if_pos hc15] at h
          refine lv_iload_n C.1 C.2.1 dX5_collapse_43 rfl (lv_at hl 1 rfl) ?_
          obtain ⟨rfl, rfl⟩ := Prod.mk.inj (Option.some.inj h)
          exact rt X gx_2 dX5_collapse_44
        · rw [if_neg hc15] at h
          refine lv_aload_n C.1 C.2.1 dX5_collapse_18 rfl (lv_at hl 0 rfl) ?_
          refine lv_aload_n C.1 C.2.1 dX5_collapse_19 rfl (lv_at hl 0 rfl) ?_
          refine lv_iload_n C.1 C.2.1 dX5_collapse_20 rfl (lv_at hl 2 rfl) ?_
          obtain ⟨x_5, hq21, h⟩ := bnd_some h
          refine z_callV1 C X zk5 (zob.self o_t0) (zo5 o_t0) (As := [zI x_3]) (M_X5_paneBy μ_4 t0 x_3 o_t0 gx_3 hq21) zc_X5_paneBy kw_980 (zroom (by decide) (by decide)) rfl hl.1 rfl (Nat.le_of_ble_eq_true rfl) dX5_collapse_21 ⟨Nat.zero_le _, Nat.zero_le _⟩ (fun H locs g_21 X => ?_)
          obtain ⟨μ_6, hq24, h⟩ := bnd_some h
          refine z_callV0 C X zk5 (zob.self o_t0) (zo5 o_t0) (As := [zI x_5]) (M_X5_removePane μ_4 t0 x_5 o_t0 g_21 hq24) zc_X5_removePane kw_984 (zroom (by decide) (by decide)) rfl hl.1 rfl (Nat.le_of_ble_eq_true rfl) dX5_collapse_24 ⟨Nat.zero_le _, Nat.zero_le _⟩ (fun H locs g_24 X => ?_)
          refine lv_aload_n C.1 C.2.1 dX5_collapse_27 rfl (lv_at hl 0 rfl) ?_
          refine lv_iload_n C.1 C.2.1 dX5_collapse_28 rfl (lv_at hl 2 rfl) ?_
          obtain ⟨μ_7, hq29, h⟩ := bnd_some h
          refine z_callV0 C X zk5 (zob.self o_t0) (zo5 o_t0) (As := [zI x_3]) (M_X5_removeEdge μ_6 t0 x_3 o_t0 gx_3 hq29) zc_X5_removeEdge kw_988 (zroom (by decide) (by decide)) rfl hl.1 rfl (Nat.le_of_ble_eq_true rfl) dX5_collapse_29 ⟨Nat.zero_le _, Nat.zero_le _⟩ (fun H locs g_29 X => ?_)
          refine zlet_elim h (fun x_8 ex_8 h => ?_)
          have gx_8 : Rg x_8 := by rw [ex_8]; exact Rg.w _
          refine z_iinc C ex_8 dX5_collapse_32 hl (k := 1) rfl (by decide) (lv' := [(1, zI x_8), (0, zR Ω t0), (2, zI x_3)]) rfl (fun ls hl => ?_)
          clear ex_8
          refine lv_aload_n C.1 C.2.1 dX5_collapse_35 rfl (lv_at hl 1 rfl) ?_
          obtain ⟨x_9, hq36, h⟩ := bnd_some h
          refine z_callV1 C X zk5 (zob.self o_t0) (zo5 o_t0) (As := []) (M_X5_leastFreeEdge μ_7 t0 o_t0 hq36) zc_X5_leastFreeEdge kw_976 (zroom (by decide) (by decide)) rfl hl.1 rfl (Nat.le_of_ble_eq_true rfl) dX5_collapse_36 ⟨Nat.zero_le _, Nat.zero_le _⟩ (fun H locs g_36 X => ?_)
          refine lv_istore_n C.1 C.2.1 (lv' := [(2, zI x_9), (1, zI x_8), (0, zR Ω t0)]) dX5_collapse_39 rfl hl (by decide) rfl (fun ls hl => ?_)
          refine lv_goto (tgt := 7) C.1 C.2.1 dX5_collapse_40 (by decide) ?_
          exact ih7 x_8 x_9 μ_7 _ _ _ gx_8 g_36 X (lv_sub hl [2, 1, 0] rfl) h
  exact L7 zfu 0 x_1 μ _ _ _ ⟨by decide, by decide⟩ g_3 X (lv_sub hl [2, 1, 0] rfl) h
theorem zc_X5_collapse : zcal yX5_collapse cX5_collapse 3 (some Jvm.ClassFile.FieldType.int) RX5 0 := ⟨⟨kw_975, kw_973, kw_974, kw_3⟩, rfl, by decide, by decide, by decide +kernel⟩

def f_X5_joined (x0 : Int) (x1 : Int) : Int :=
  if x0 = 0 then
    0
  else
    (zw ((zw (x1 + x0)) - 1))
set_option maxHeartbeats 4000000 in
set_option maxRecDepth 100000 in
theorem M_X5_joined {l : Launch} {Ω : zO} (μ : zMem) (x0 : Int) (x1 : Int) (gx0 : Rg x0) (gx1 : Rg x1) : XMet l yX5_joined cX5_joined 2 (some Jvm.ClassFile.FieldType.int) 0 Ω [zI x0, zI x1] μ (some (zI (f_X5_joined x0 x1))) (Rg (f_X5_joined x0 x1)) μ := by
  obtain ⟨r, h⟩ : ∃ r, f_X5_joined x0 x1 = r := ⟨_, rfl⟩
  rw [h]
  refine XMet.ofI (by decide) (Nat.le_of_ble_eq_true rfl) ?_
  intro p e s m args below meth c ls Q C rt X hl
  have C : zC p s m args c cX5_joined RX5 2 Ω := C
  have hl : lv_has ls 2 [(0, zI x0), (1, zI x1)] := hl
  unfold f_X5_joined at h
  skip
  refine lv_iload_n C.1 C.2.1 dX5_joined_0 rfl (lv_at hl 0 rfl) ?_
  refine z_ifne C gx0 (tgt := 8) dX5_joined_1 (by decide) (fun hc1 => ?_) (fun hc1 => ?_)
  · rw [if_neg hc1] at h
    refine lv_iload_n C.1 C.2.1 dX5_joined_8 rfl (lv_at hl 1 rfl) ?_
    refine lv_iload_n C.1 C.2.1 dX5_joined_9 rfl (lv_at hl 0 rfl) ?_
    refine z_iadd C dX5_joined_10 ?_
    refine z_iconst C dX5_joined_11 ?_
    refine z_isub C dX5_joined_12 ?_
    subst h
    exact rt X (Rg.w _) dX5_joined_13
  · rw [if_pos hc1] at h
    refine z_iconst C dX5_joined_4 ?_
    refine lv_goto (tgt := 13) C.1 C.2.1 dX5_joined_5 (by decide) ?_
    subst h
    exact rt X ⟨by decide, by decide⟩ dX5_joined_13
theorem zc_X5_joined : zcas yX5_joined cX5_joined 2 (some Jvm.ClassFile.FieldType.int) 2 := ⟨⟨kw_1002, kw_1001, kw_3⟩, by decide, by decide, by decide +kernel⟩

def f_X5_takeIn_K133 (t0 : Int) (x1 : Int) (x_5 : Int) (g72 : Int → zMem → Option zMem) (μ_8 : zMem) : Option zMem :=
  chk ((0 : Int) ≤ x_5 ∧ x_5 < zlen (x1 + 6)) <|
  chk ((0 : Int) ≤ (μ_8 t0 8) ∧ (μ_8 t0 8) < zlen (t0 + 6)) <|
  zlet (zup μ_8 (t0 + 6) (μ_8 t0 8) (μ_8 (x1 + 6) x_5)) fun μ_9 =>
  zlet (zup μ_9 t0 8 (zw ((μ_9 t0 8) + 1))) fun μ_10 =>
  zlet (zw (x_5 + 1)) fun x_11 =>
  g72 x_11 μ_10
def f_X5_takeIn_L93 (t0 : Int) (x1 : Int) (x_2 : Int) (x_5 : Int) (x_7 : Int) (g133 : zMem → Option zMem) : Nat → Int → zMem → Option zMem
  | 0, _, _ => none
  | n + 1, x_12, μ_13 =>
    chk ((0 : Int) ≤ x_5 ∧ x_5 < zlen (x1 + 6)) <|
    if x_12 < (μ_13 (x1 + 6) x_5) then
      bnd (f_X5_rimStep x1 x_5 x_12 μ_13) fun x_14 =>
      chk ((0 : Int) ≤ (zw (x_7 + x_12)) ∧ (zw (x_7 + x_12)) < zlen (t0 + 5)) <|
      zlet (zup μ_13 (t0 + 5) (zw (x_7 + x_12)) (zw (x_14 + (zw (2 * x_2))))) fun μ_15 =>
      zlet (zw (x_12 + 1)) fun x_16 =>
      (f_X5_takeIn_L93 t0 x1 x_2 x_5 x_7 g133 n) x_16 μ_15
    else
      g133 μ_13
def f_X5_takeIn_L72 (t0 : Int) (x1 : Int) (x_2 : Int) : Nat → Int → zMem → Option zMem
  | 0, _, _ => none
  | n + 1, x_5, μ_6 =>
    if x_5 < (μ_6 x1 8) then
      zlet ((zw ((μ_6 t0 8) * 8))) fun x_7 =>
      (f_X5_takeIn_L93 t0 x1 x_2 x_5 x_7 (f_X5_takeIn_K133 t0 x1 x_5 (f_X5_takeIn_L72 t0 x1 x_2 n))) zfu 0 μ_6
    else
      some μ_6
def f_X5_takeIn_K69 (t0 : Int) (x1 : Int) (x_2 : Int) (μ_4 : zMem) : Option zMem :=
  (f_X5_takeIn_L72 t0 x1 x_2) zfu 0 μ_4
def f_X5_takeIn_L28 (t0 : Int) (x1 : Int) (x_1 : Int) (g69 : zMem → Option zMem) : Nat → Int → zMem → Option zMem
  | 0, _, _ => none
  | n + 1, x_17, μ_18 =>
    if x_17 < (μ_18 x1 7) then
      chk ((0 : Int) ≤ x_17 ∧ x_17 < zlen (x1 + 1)) <|
      chk ((0 : Int) ≤ x_17 ∧ x_17 < zlen (x1 + 2)) <|
      bnd (f_X5_addEdge t0 (f_X5_joined (μ_18 (x1 + 1) x_17) x_1) (f_X5_joined (μ_18 (x1 + 2) x_17) x_1) μ_18) fun μ_19 =>
      zlet (zw (x_17 + 1)) fun x_20 =>
      (f_X5_takeIn_L28 t0 x1 x_1 g69 n) x_20 μ_19
    else
      g69 μ_18
def f_X5_takeIn (t0 : Int) (x1 : Int) (μ : zMem) : Option zMem :=
  zlet ((μ t0 6)) fun x_1 =>
  zlet ((μ t0 7)) fun x_2 =>
  zlet (zup μ t0 6 (zw ((μ t0 6) + (zw ((μ x1 6) - 1))))) fun μ_3 =>
  (f_X5_takeIn_L28 t0 x1 x_1 (f_X5_takeIn_K69 t0 x1 x_2)) zfu 0 μ_3
set_option maxHeartbeats 4000000 in
set_option maxRecDepth 100000 in
theorem M_X5_takeIn {l : Launch} {Ω : zO} (μ : zMem) (t0 : Int) (x1 : Int) {μ' : zMem} (o_t0 : zob Ω.2.2.1 5 t0) (o_x1 : zob Ω.2.2.1 5 x1) (h : f_X5_takeIn t0 x1 μ = some μ') : XMet l yX5_takeIn cX5_takeIn 7 none 1 Ω [zR Ω t0, zR Ω x1] μ none True μ' := by
  refine XMet.ofV (by decide) (Nat.le_of_ble_eq_true rfl) ?_
  intro p e s m args below meth c ls Q C rt X hl
  have C : zC p s m args c cX5_takeIn RX5 7 Ω := C
  have hl : lv_has ls 7 [(0, zR Ω t0), (1, zR Ω x1)] := hl
  unfold f_X5_takeIn at h
  skip
  refine lv_aload_n C.1 C.2.1 dX5_takeIn_0 rfl (lv_at hl 0 rfl) ?_
  have g_1 : Rg (μ t0 6) := zrgf0 (ci := 5) X.2.2.2 (zob.self o_t0) (zo5 o_t0) 6 rfl
  refine z_get C X zk5 (zob.self o_t0) (zo5 o_t0) 6 (by decide) kw_78 (zI (μ t0 6)) rfl dX5_takeIn_1 ?_
  refine zlet_elim h (fun x_1 ex_1 h => ?_)
  have gx_1 : Rg x_1 := by rw [ex_1]; exact g_1
  refine z_istore_n C ex_1 dX5_takeIn_4 rfl hl (by decide) (lv' := [(2, zI x_1), (0, zR Ω t0), (1, zR Ω x1)]) rfl (fun ls hl => ?_)
  clear ex_1
  refine lv_aload_n C.1 C.2.1 dX5_takeIn_5 rfl (lv_at hl 1 rfl) ?_
  have g_6 : Rg (μ t0 7) := zrgf0 (ci := 5) X.2.2.2 (zob.self o_t0) (zo5 o_t0) 7 rfl
  refine z_get C X zk5 (zob.self o_t0) (zo5 o_t0) 7 (by decide) kw_83 (zI (μ t0 7)) rfl dX5_takeIn_6 ?_
  refine zlet_elim h (fun x_2 ex_2 h => ?_)
  have gx_2 : Rg x_2 := by rw [ex_2]; exact g_6
  refine z_istore_n C ex_2 dX5_takeIn_9 rfl hl (by decide) (lv' := [(3, zI x_2), (2, zI x_1), (0, zR Ω t0), (1, zR Ω x1)]) rfl (fun ls hl => ?_)
  clear ex_2
  refine lv_aload_n C.1 C.2.1 dX5_takeIn_10 rfl (lv_at hl 2 rfl) ?_
  refine lv_dup C.1 C.2.1 dX5_takeIn_11 rfl ?_
  have g_12 : Rg (μ t0 6) := zrgf0 (ci := 5) X.2.2.2 (zob.self o_t0) (zo5 o_t0) 6 rfl
  refine z_get C X zk5 (zob.self o_t0) (zo5 o_t0) 6 (by decide) kw_78 (zI (μ t0 6)) rfl dX5_takeIn_12 ?_
  refine lv_aload_n C.1 C.2.1 dX5_takeIn_15 rfl (lv_at hl 3 rfl) ?_
  have g_16 : Rg (μ x1 6) := zrgf0 (ci := 5) X.2.2.2 (zob.self o_x1) (zo5 o_x1) 6 rfl
  refine z_get C X zk5 (zob.self o_x1) (zo5 o_x1) 6 (by decide) kw_78 (zI (μ x1 6)) rfl dX5_takeIn_16 ?_
  refine z_iconst C dX5_takeIn_19 ?_
  refine z_isub C dX5_takeIn_20 ?_
  refine z_iadd C dX5_takeIn_21 ?_
  refine zlet_elim h (fun μ_3 em h => ?_)
  refine z_putI C X zk5 (zob.self o_t0) (zo5 o_t0) 6 (by decide) kw_78 rfl rfl rfl rfl (Rg.w _) em dX5_takeIn_22 (fun H locs X => ?_)
  clear em
  refine z_iconst C dX5_takeIn_25 ?_
  refine lv_istore C.1 C.2.1 (lv' := [(4, zI 0), (3, zI x_2), (2, zI x_1), (0, zR Ω t0), (1, zR Ω x1)]) dX5_takeIn_26 hl (by decide) rfl (fun ls hl => ?_)
  have K69 : ∀ (μ_4 : zMem) (H : Heap) (locs : List Loc) (ls : Array Slot), zX Ω μ_4 (zfree Ω) s.heap H locs → lv_has ls 7 [(0, zR Ω t0), (1, zR Ω x1), (3, zI x_2)] → (f_X5_takeIn_K69 t0 x1 x_2) μ_4 = some μ' → W p l e (zrm 1) s m args below meth c H locs 0 0 Q (F0 m 69 ls []) := by
    intro μ_4 H locs ls  X hl h
    unfold f_X5_takeIn_K69 at h
    refine z_iconst C dX5_takeIn_69 ?_
    refine lv_istore C.1 C.2.1 (lv' := [(4, zI 0), (0, zR Ω t0), (1, zR Ω x1), (3, zI x_2)]) dX5_takeIn_70 hl (by decide) rfl (fun ls hl => ?_)
    have L72 : ∀ (n72 : Nat) (x_5 : Int) (μ_6 : zMem) (H : Heap) (locs : List Loc) (ls : Array Slot), Rg x_5 → zX Ω μ_6 (zfree Ω) s.heap H locs → lv_has ls 7 [(0, zR Ω t0), (1, zR Ω x1), (3, zI x_2), (4, zI x_5)] → (f_X5_takeIn_L72 t0 x1 x_2 n72 x_5 μ_6) = some μ' → W p l e (zrm 1) s m args below meth c H locs 0 0 Q (F0 m 72 ls []) := by
      intro n72
      induction n72 with
      | zero =>
        intro x_5 μ_6 H locs ls _ _ _ h
        cases h
      | succ n72 ih72 =>
        intro x_5 μ_6 H locs ls gx_5 X hl h
        unfold f_X5_takeIn_L72 at h
        refine lv_iload C.1 C.2.1 dX5_takeIn_72 (lv_at hl 3 rfl) ?_
        refine lv_aload_n C.1 C.2.1 dX5_takeIn_74 rfl (lv_at hl 1 rfl) ?_
        have g_75 : Rg (μ_6 x1 8) := zrgf0 (ci := 5) X.2.2.2 (zob.self o_x1) (zo5 o_x1) 8 rfl
        refine z_get C X zk5 (zob.self o_x1) (zo5 o_x1) 8 (by decide) kw_87 (zI (μ_6 x1 8)) rfl dX5_takeIn_75 ?_
        refine z_icmpge C gx_5 g_75 (tgt := 165) dX5_takeIn_78 (by decide) (fun hc78 => ?_) (fun hc78 => ?_)
        · rw [if_neg hc78] at h
          obtain rfl := Option.some.inj h
          exact rt X dX5_takeIn_165
        · rw [if_pos hc78] at h
          refine lv_aload_n C.1 C.2.1 dX5_takeIn_81 rfl (lv_at hl 0 rfl) ?_
          have g_82 : Rg (μ_6 t0 8) := zrgf0 (ci := 5) X.2.2.2 (zob.self o_t0) (zo5 o_t0) 8 rfl
          refine z_get C X zk5 (zob.self o_t0) (zo5 o_t0) 8 (by decide) kw_87 (zI (μ_6 t0 8)) rfl dX5_takeIn_82 ?_
          refine z_bipush C dX5_takeIn_85 (by decide) ?_
          refine z_imul C dX5_takeIn_87 ?_
          refine zlet_elim h (fun x_7 ex_7 h => ?_)
          have gx_7 : Rg x_7 := by rw [ex_7]; exact (Rg.w _)
          refine z_istore C ex_7 dX5_takeIn_88 hl (by decide) (lv' := [(5, zI x_7), (0, zR Ω t0), (1, zR Ω x1), (3, zI x_2), (4, zI x_5)]) rfl (fun ls hl => ?_)
          clear ex_7
          refine z_iconst C dX5_takeIn_90 ?_
          refine lv_istore C.1 C.2.1 (lv' := [(6, zI 0), (5, zI x_7), (0, zR Ω t0), (1, zR Ω x1), (3, zI x_2), (4, zI x_5)]) dX5_takeIn_91 hl (by decide) rfl (fun ls hl => ?_)
          have K133 : ∀ (μ_8 : zMem) (H : Heap) (locs : List Loc) (ls : Array Slot), zX Ω μ_8 (zfree Ω) s.heap H locs → lv_has ls 7 [(0, zR Ω t0), (1, zR Ω x1), (3, zI x_2), (4, zI x_5)] → (f_X5_takeIn_K133 t0 x1 x_5 (f_X5_takeIn_L72 t0 x1 x_2 n72)) μ_8 = some μ' → W p l e (zrm 1) s m args below meth c H locs 0 0 Q (F0 m 133 ls []) := by
            intro μ_8 H locs ls  X hl h
            unfold f_X5_takeIn_K133 at h
            refine lv_aload_n C.1 C.2.1 dX5_takeIn_133 rfl (lv_at hl 0 rfl) ?_
            refine z_get C X zk5 (zob.self o_t0) (zo5 o_t0) 5 (by decide) kw_71 (zR Ω (t0 + 6)) (zfvF (off := 6) X.2.2.2 (zob.self o_t0) o_t0.2.2 (zo5 o_t0) rfl (by rw [zo5_6 o_t0]; decide)) dX5_takeIn_134 ?_
            refine lv_aload_n C.1 C.2.1 dX5_takeIn_137 rfl (lv_at hl 0 rfl) ?_
            have g_138 : Rg (μ_8 t0 8) := zrgf0 (ci := 5) X.2.2.2 (zob.self o_t0) (zo5 o_t0) 8 rfl
            refine z_get C X zk5 (zob.self o_t0) (zo5 o_t0) 8 (by decide) kw_87 (zI (μ_8 t0 8)) rfl dX5_takeIn_138 ?_
            refine lv_aload_n C.1 C.2.1 dX5_takeIn_141 rfl (lv_at hl 1 rfl) ?_
            refine z_get C X zk5 (zob.self o_x1) (zo5 o_x1) 5 (by decide) kw_71 (zR Ω (x1 + 6)) (zfvF (off := 6) X.2.2.2 (zob.self o_x1) o_x1.2.2 (zo5 o_x1) rfl (by rw [zo5_6 o_x1]; decide)) dX5_takeIn_142 ?_
            refine lv_iload C.1 C.2.1 dX5_takeIn_145 (lv_at hl 3 rfl) ?_
            obtain ⟨hc147, h⟩ := chk_some h
            have g_147 : Rg (μ_8 (x1 + 6) x_5) := zrg1 X.2.2.2 (o_x1.2.1 6 (by decide) (by decide)) (zo5_6 o_x1)
            refine z_iald C X (o_x1.2.1 6 (by decide) (by decide)) (zo5_6 o_x1) hc147 dX5_takeIn_147 ?_
            obtain ⟨hc148, h⟩ := chk_some h
            refine zlet_elim h (fun μ_9 em h => ?_)
            refine z_iast C X (o_t0.2.1 6 (by decide) (by decide)) (zo5_6 o_t0) hc148 (zok1 (zo5_6 o_t0) g_147) em dX5_takeIn_148 (fun H locs X => ?_)
            clear em
            refine lv_aload_n C.1 C.2.1 dX5_takeIn_149 rfl (lv_at hl 0 rfl) ?_
            refine lv_dup C.1 C.2.1 dX5_takeIn_150 rfl ?_
            have g_151 : Rg (μ_9 t0 8) := zrgf0 (ci := 5) X.2.2.2 (zob.self o_t0) (zo5 o_t0) 8 rfl
            refine z_get C X zk5 (zob.self o_t0) (zo5 o_t0) 8 (by decide) kw_87 (zI (μ_9 t0 8)) rfl dX5_takeIn_151 ?_
            refine z_iconst C dX5_takeIn_154 ?_
            refine z_iadd C dX5_takeIn_155 ?_
            refine zlet_elim h (fun μ_10 em h => ?_)
            refine z_putI C X zk5 (zob.self o_t0) (zo5 o_t0) 8 (by decide) kw_87 rfl rfl rfl rfl (Rg.w _) em dX5_takeIn_156 (fun H locs X => ?_)
            clear em
            refine zlet_elim h (fun x_11 ex_11 h => ?_)
            have gx_11 : Rg x_11 := by rw [ex_11]; exact Rg.w _
            refine z_iinc C ex_11 dX5_takeIn_159 hl (k := 3) rfl (by decide) (lv' := [(4, zI x_11), (0, zR Ω t0), (1, zR Ω x1), (3, zI x_2)]) rfl (fun ls hl => ?_)
            clear ex_11
            refine lv_goto (tgt := 72) C.1 C.2.1 dX5_takeIn_162 (by decide) ?_
            exact ih72 x_11 μ_10 _ _ _ gx_11 X (lv_sub hl [1, 2, 3, 0] rfl) h
          have L93 : ∀ (n93 : Nat) (x_12 : Int) (μ_13 : zMem) (H : Heap) (locs : List Loc) (ls : Array Slot), Rg x_12 → zX Ω μ_13 (zfree Ω) s.heap H locs → lv_has ls 7 [(0, zR Ω t0), (1, zR Ω x1), (3, zI x_2), (4, zI x_5), (5, zI x_7), (6, zI x_12)] → (f_X5_takeIn_L93 t0 x1 x_2 x_5 x_7 (f_X5_takeIn_K133 t0 x1 x_5 (f_X5_takeIn_L72 t0 x1 x_2 n72)) n93 x_12 μ_13) = some μ' → W p l e (zrm 1) s m args below meth c H locs 0 0 Q (F0 m 93 ls []) := by
            intro n93
            induction n93 with
            | zero =>
              intro x_12 μ_13 H locs ls _ _ _ h
              cases h
            | succ n93 ih93 =>
              intro x_12 μ_13 H locs ls gx_12 X hl h
              unfold f_X5_takeIn_L93 at h
              refine lv_iload C.1 C.2.1 dX5_takeIn_93 (lv_at hl 5 rfl) ?_
              refine lv_aload_n C.1 C.2.1 dX5_takeIn_95 rfl (lv_at hl 1 rfl) ?_
              refine z_get C X zk5 (zob.self o_x1) (zo5 o_x1) 5 (by decide) kw_71 (zR Ω (x1 + 6)) (zfvF (off := 6) X.2.2.2 (zob.self o_x1) o_x1.2.2 (zo5 o_x1) rfl (by rw [zo5_6 o_x1]; decide)) dX5_takeIn_96 ?_
              refine lv_iload C.1 C.2.1 dX5_takeIn_99 (lv_at hl 3 rfl) ?_
              obtain ⟨hc101, h⟩ := chk_some h
              have g_101 : Rg (μ_13 (x1 + 6) x_5) := zrg1 X.2.2.2 (o_x1.2.1 6 (by decide) (by decide)) (zo5_6 o_x1)
              refine z_iald C X (o_x1.2.1 6 (by decide) (by decide)) (zo5_6 o_x1) hc101 dX5_takeIn_101 ?_
              refine z_icmpge C gx_12 g_101 (tgt := 133) dX5_takeIn_102 (by decide) (fun hc102 => ?_) (fun hc102 => ?_)
              · rw [if_neg hc102] at h
                exact K133 μ_13 _ _ _ X (lv_sub hl [0, 1, 2, 3] rfl) h
              · rw [if_pos hc102] at h
                refine lv_aload_n C.1 C.2.1 dX5_takeIn_105 rfl (lv_at hl 0 rfl) ?_
                refine z_get C X zk5 (zob.self o_t0) (zo5 o_t0) 4 (by decide) kw_70 (zR Ω (t0 + 5)) (zfvF (off := 5) X.2.2.2 (zob.self o_t0) o_t0.2.2 (zo5 o_t0) rfl (by rw [zo5_5 o_t0]; decide)) dX5_takeIn_106 ?_
                refine lv_iload C.1 C.2.1 dX5_takeIn_109 (lv_at hl 4 rfl) ?_
                refine lv_iload C.1 C.2.1 dX5_takeIn_111 (lv_at hl 5 rfl) ?_
                refine z_iadd C dX5_takeIn_113 ?_
                refine lv_aload_n C.1 C.2.1 dX5_takeIn_114 rfl (lv_at hl 1 rfl) ?_
                refine lv_iload C.1 C.2.1 dX5_takeIn_115 (lv_at hl 3 rfl) ?_
                refine lv_iload C.1 C.2.1 dX5_takeIn_117 (lv_at hl 5 rfl) ?_
                obtain ⟨x_14, hq119, h⟩ := bnd_some h
                refine z_callV1 C X zk5 (zob.self o_x1) (zo5 o_x1) (As := [zI x_5, zI x_12]) (M_X5_rimStep μ_13 x1 x_5 x_12 o_x1 gx_5 gx_12 hq119) zc_X5_rimStep kw_709 (zroom (by decide) (by decide)) rfl hl.1 rfl (Nat.le_of_ble_eq_true rfl) dX5_takeIn_119 ⟨Nat.zero_le _, Nat.zero_le _⟩ (fun H locs g_119 X => ?_)
                refine z_iconst C dX5_takeIn_122 ?_
                refine lv_iload_n C.1 C.2.1 dX5_takeIn_123 rfl (lv_at hl 2 rfl) ?_
                refine z_imul C dX5_takeIn_124 ?_
                refine z_iadd C dX5_takeIn_125 ?_
                obtain ⟨hc126, h⟩ := chk_some h
                refine zlet_elim h (fun μ_15 em h => ?_)
                refine z_iast C X (o_t0.2.1 5 (by decide) (by decide)) (zo5_5 o_t0) hc126 (zok1 (zo5_5 o_t0) (Rg.w _)) em dX5_takeIn_126 (fun H locs X => ?_)
                clear em
                refine zlet_elim h (fun x_16 ex_16 h => ?_)
                have gx_16 : Rg x_16 := by rw [ex_16]; exact Rg.w _
                refine z_iinc C ex_16 dX5_takeIn_127 hl (k := 5) rfl (by decide) (lv' := [(6, zI x_16), (0, zR Ω t0), (1, zR Ω x1), (3, zI x_2), (4, zI x_5), (5, zI x_7)]) rfl (fun ls hl => ?_)
                clear ex_16
                refine lv_goto (tgt := 93) C.1 C.2.1 dX5_takeIn_130 (by decide) ?_
                exact ih93 x_16 μ_15 _ _ _ gx_16 X (lv_sub hl [1, 2, 3, 4, 5, 0] rfl) h
          exact L93 zfu 0 μ_6 _ _ _ ⟨by decide, by decide⟩ X (lv_sub hl [2, 3, 4, 5, 1, 0] rfl) h
    exact L72 zfu 0 μ_4 _ _ _ ⟨by decide, by decide⟩ X (lv_sub hl [1, 2, 3, 0] rfl) h
  have L28 : ∀ (n28 : Nat) (x_17 : Int) (μ_18 : zMem) (H : Heap) (locs : List Loc) (ls : Array Slot), Rg x_17 → zX Ω μ_18 (zfree Ω) s.heap H locs → lv_has ls 7 [(0, zR Ω t0), (1, zR Ω x1), (2, zI x_1), (3, zI x_2), (4, zI x_17)] → (f_X5_takeIn_L28 t0 x1 x_1 (f_X5_takeIn_K69 t0 x1 x_2) n28 x_17 μ_18) = some μ' → W p l e (zrm 1) s m args below meth c H locs 0 0 Q (F0 m 28 ls []) := by
    intro n28
    induction n28 with
    | zero =>
      intro x_17 μ_18 H locs ls _ _ _ h
      cases h
    | succ n28 ih28 =>
      intro x_17 μ_18 H locs ls gx_17 X hl h
      unfold f_X5_takeIn_L28 at h
      refine lv_iload C.1 C.2.1 dX5_takeIn_28 (lv_at hl 4 rfl) ?_
      refine lv_aload_n C.1 C.2.1 dX5_takeIn_30 rfl (lv_at hl 1 rfl) ?_
      have g_31 : Rg (μ_18 x1 7) := zrgf0 (ci := 5) X.2.2.2 (zob.self o_x1) (zo5 o_x1) 7 rfl
      refine z_get C X zk5 (zob.self o_x1) (zo5 o_x1) 7 (by decide) kw_83 (zI (μ_18 x1 7)) rfl dX5_takeIn_31 ?_
      refine z_icmpge C gx_17 g_31 (tgt := 69) dX5_takeIn_34 (by decide) (fun hc34 => ?_) (fun hc34 => ?_)
      · rw [if_neg hc34] at h
        exact K69 μ_18 _ _ _ X (lv_sub hl [0, 1, 3] rfl) h
      · rw [if_pos hc34] at h
        refine lv_aload_n C.1 C.2.1 dX5_takeIn_37 rfl (lv_at hl 0 rfl) ?_
        refine lv_aload_n C.1 C.2.1 dX5_takeIn_38 rfl (lv_at hl 1 rfl) ?_
        refine z_get C X zk5 (zob.self o_x1) (zo5 o_x1) 0 (by decide) kw_56 (zR Ω (x1 + 1)) (zfvF (off := 1) X.2.2.2 (zob.self o_x1) o_x1.2.2 (zo5 o_x1) rfl (by rw [zo5_1 o_x1]; decide)) dX5_takeIn_39 ?_
        refine lv_iload C.1 C.2.1 dX5_takeIn_42 (lv_at hl 4 rfl) ?_
        obtain ⟨hc44, h⟩ := chk_some h
        have g_44 : Rg (μ_18 (x1 + 1) x_17) := zrg1 X.2.2.2 (o_x1.2.1 1 (by decide) (by decide)) (zo5_1 o_x1)
        refine z_iald C X (o_x1.2.1 1 (by decide) (by decide)) (zo5_1 o_x1) hc44 dX5_takeIn_44 ?_
        refine lv_iload_n C.1 C.2.1 dX5_takeIn_45 rfl (lv_at hl 2 rfl) ?_
        refine z_callS1 C X (As := [zI (μ_18 (x1 + 1) x_17), zI x_1]) (M_X5_joined μ_18 (μ_18 (x1 + 1) x_17) x_1 g_44 gx_1) zc_X5_joined kw_1000 (zroom (by decide) (by decide)) rfl hl.1 rfl (Nat.le_of_ble_eq_true rfl) dX5_takeIn_46 ⟨Nat.zero_le _, Nat.zero_le _⟩ (fun H locs g_46 X => ?_)
        refine lv_aload_n C.1 C.2.1 dX5_takeIn_49 rfl (lv_at hl 1 rfl) ?_
        refine z_get C X zk5 (zob.self o_x1) (zo5 o_x1) 1 (by decide) kw_60 (zR Ω (x1 + 2)) (zfvF (off := 2) X.2.2.2 (zob.self o_x1) o_x1.2.2 (zo5 o_x1) rfl (by rw [zo5_2 o_x1]; decide)) dX5_takeIn_50 ?_
        refine lv_iload C.1 C.2.1 dX5_takeIn_53 (lv_at hl 4 rfl) ?_
        obtain ⟨hc55, h⟩ := chk_some h
        have g_55 : Rg (μ_18 (x1 + 2) x_17) := zrg1 X.2.2.2 (o_x1.2.1 2 (by decide) (by decide)) (zo5_2 o_x1)
        refine z_iald C X (o_x1.2.1 2 (by decide) (by decide)) (zo5_2 o_x1) hc55 dX5_takeIn_55 ?_
        refine lv_iload_n C.1 C.2.1 dX5_takeIn_56 rfl (lv_at hl 2 rfl) ?_
        refine z_callS1 C X (As := [zI (μ_18 (x1 + 2) x_17), zI x_1]) (M_X5_joined μ_18 (μ_18 (x1 + 2) x_17) x_1 g_55 gx_1) zc_X5_joined kw_1000 (zroom (by decide) (by decide)) rfl hl.1 rfl (Nat.le_of_ble_eq_true rfl) dX5_takeIn_57 ⟨Nat.zero_le _, Nat.zero_le _⟩ (fun H locs g_57 X => ?_)
        obtain ⟨μ_19, hq60, h⟩ := bnd_some h
        refine z_callV0 C X zk5 (zob.self o_t0) (zo5 o_t0) (As := [zI (f_X5_joined (μ_18 (x1 + 1) x_17) x_1), zI (f_X5_joined (μ_18 (x1 + 2) x_17) x_1)]) (M_X5_addEdge μ_18 t0 (f_X5_joined (μ_18 (x1 + 1) x_17) x_1) (f_X5_joined (μ_18 (x1 + 2) x_17) x_1) o_t0 g_46 g_57 hq60) zc_X5_addEdge kw_1003 (zroom (by decide) (by decide)) rfl hl.1 rfl (Nat.le_of_ble_eq_true rfl) dX5_takeIn_60 ⟨Nat.zero_le _, Nat.zero_le _⟩ (fun H locs g_60 X => ?_)
        refine zlet_elim h (fun x_20 ex_20 h => ?_)
        have gx_20 : Rg x_20 := by rw [ex_20]; exact Rg.w _
        refine z_iinc C ex_20 dX5_takeIn_63 hl (k := 4) rfl (by decide) (lv' := [(4, zI x_20), (0, zR Ω t0), (1, zR Ω x1), (2, zI x_1), (3, zI x_2)]) rfl (fun ls hl => ?_)
        clear ex_20
        refine lv_goto (tgt := 28) C.1 C.2.1 dX5_takeIn_66 (by decide) ?_
        exact ih28 x_20 μ_19 _ _ _ gx_20 X (lv_sub hl [1, 2, 3, 4, 0] rfl) h
  exact L28 zfu 0 μ_3 _ _ _ ⟨by decide, by decide⟩ X (lv_sub hl [3, 4, 2, 1, 0] rfl) h
theorem zc_X5_takeIn : zcal yX5_takeIn cX5_takeIn 7 none RX5 1 := ⟨⟨kw_999, kw_997, kw_998, kw_3⟩, rfl, by decide, by decide, by decide +kernel⟩

def f_X6_isMany_K34 (x_1 : Int) : Option Int :=
  if x_1 ≤ 20000 then
    some 0
  else
    some 1
def f_X6_isMany_L5 (x1 : Int) (x2 : Int) (μ : zMem) (g34 : Int → Option Int) : Nat → Int → Int → Option Int
  | 0, _, _ => none
  | n + 1, x_2, x_3 =>
    if x_3 < (μ x1 10) then
      if x_2 ≤ 20000 then
        zlet ((zw (x_2 * (μ x2 1)))) fun x_4 =>
        zlet (zw (x_3 + 1)) fun x_5 =>
        (f_X6_isMany_L5 x1 x2 μ g34 n) x_4 x_5
      else
        g34 x_2
    else
      g34 x_2
def f_X6_isMany (x1 : Int) (x2 : Int) (μ : zMem) : Option Int :=
  (f_X6_isMany_L5 x1 x2 μ f_X6_isMany_K34) zfu 1 0
set_option maxHeartbeats 4000000 in
set_option maxRecDepth 100000 in
theorem M_X6_isMany {l : Launch} {Ω : zO} (hI : zIc Ω) (μ : zMem) (x1 : Int) (x2 : Int) {r : Int} (o_x1 : zob Ω.2.2.1 5 x1) (o_x2 : zob Ω.2.2.1 4 x2) (h : f_X6_isMany x1 x2 μ = some r) : XMet l yX6_isMany cX6_isMany 5 (some Jvm.ClassFile.FieldType.boolean) 0 Ω [zR Ω 27, zR Ω x1, zR Ω x2] μ (some (zI r)) (0 ≤ r ∧ r ≤ 1) μ := by
  refine XMet.ofZ (by decide) (Nat.le_of_ble_eq_true rfl) ?_
  intro p e s m args below meth c ls Q C rt X hl
  have C : zC p s m args c cX6_isMany RX6 5 Ω := C
  have hl : lv_has ls 5 [(0, zR Ω 27), (1, zR Ω x1), (2, zR Ω x2)] := hl
  unfold f_X6_isMany at h
  skip
  refine z_iconst C dX6_isMany_0 ?_
  refine lv_istore_n C.1 C.2.1 (lv' := [(3, zI 1), (0, zR Ω 27), (1, zR Ω x1), (2, zR Ω x2)]) dX6_isMany_1 rfl hl (by decide) rfl (fun ls hl => ?_)
  refine z_iconst C dX6_isMany_2 ?_
  refine lv_istore C.1 C.2.1 (lv' := [(4, zI 0), (3, zI 1), (0, zR Ω 27), (1, zR Ω x1), (2, zR Ω x2)]) dX6_isMany_3 hl (by decide) rfl (fun ls hl => ?_)
  have K34 : ∀ (x_1 : Int) (H : Heap) (locs : List Loc) (ls : Array Slot), Rg x_1 → zX Ω μ (zfree Ω) s.heap H locs → lv_has ls 5 [(3, zI x_1)] → f_X6_isMany_K34 x_1 = some r → W p l e (zrm 0) s m args below meth c H locs 0 0 Q (F0 m 34 ls []) := by
    intro x_1 H locs ls gx_1 X hl h
    unfold f_X6_isMany_K34 at h
    refine lv_iload_n C.1 C.2.1 dX6_isMany_34 rfl (lv_at hl 0 rfl) ?_
    refine z_sipush C dX6_isMany_35 (by decide) ?_
    refine z_icmple C gx_1 ⟨by decide, by decide⟩ (tgt := 45) dX6_isMany_38 (by decide) (fun hc38 => ?_) (fun hc38 => ?_)
    · rw [if_pos hc38] at h
      refine z_iconst C dX6_isMany_45 ?_
      obtain rfl := Option.some.inj h
      exact rt X ⟨by decide, by decide⟩ dX6_isMany_46
    · rw [if_neg hc38] at h
      refine z_iconst C dX6_isMany_41 ?_
      refine lv_goto (tgt := 46) C.1 C.2.1 dX6_isMany_42 (by decide) ?_
      obtain rfl := Option.some.inj h
      exact rt X ⟨by decide, by decide⟩ dX6_isMany_46
  have L5 : ∀ (n5 : Nat) (x_2 : Int) (x_3 : Int) (H : Heap) (locs : List Loc) (ls : Array Slot), Rg x_2 → Rg x_3 → zX Ω μ (zfree Ω) s.heap H locs → lv_has ls 5 [(1, zR Ω x1), (2, zR Ω x2), (3, zI x_2), (4, zI x_3)] → (f_X6_isMany_L5 x1 x2 μ f_X6_isMany_K34 n5 x_2 x_3) = some r → W p l e (zrm 0) s m args below meth c H locs 0 0 Q (F0 m 5 ls []) := by
    intro n5
    induction n5 with
    | zero =>
      intro x_2 x_3 H locs ls _ _ _ _ h
      cases h
    | succ n5 ih5 =>
      intro x_2 x_3 H locs ls gx_2 gx_3 X hl h
      unfold f_X6_isMany_L5 at h
      refine lv_iload C.1 C.2.1 dX6_isMany_5 (lv_at hl 3 rfl) ?_
      refine lv_aload_n C.1 C.2.1 dX6_isMany_7 rfl (lv_at hl 0 rfl) ?_
      have g_8 : Rg (μ x1 10) := zrgf0 (ci := 5) X.2.2.2 (zob.self o_x1) (zo5 o_x1) 10 rfl
      refine z_get C X zk5 (zob.self o_x1) (zo5 o_x1) 10 (by decide) kw_97 (zI (μ x1 10)) rfl dX6_isMany_8 ?_
      refine z_icmpge C gx_3 g_8 (tgt := 34) dX6_isMany_11 (by decide) (fun hc11 => ?_) (fun hc11 => ?_)
      · rw [if_neg hc11] at h
        exact K34 x_2 _ _ _ gx_2 X (lv_sub hl [2] rfl) h
      · rw [if_pos hc11] at h
        refine lv_iload_n C.1 C.2.1 dX6_isMany_14 rfl (lv_at hl 2 rfl) ?_
        refine z_sipush C dX6_isMany_15 (by decide) ?_
        refine z_icmpgt C gx_2 ⟨by decide, by decide⟩ (tgt := 34) dX6_isMany_18 (by decide) (fun hc18 => ?_) (fun hc18 => ?_)
        · rw [if_neg hc18] at h
          exact K34 x_2 _ _ _ gx_2 X (lv_sub hl [2] rfl) h
        · rw [if_pos hc18] at h
          refine lv_iload_n C.1 C.2.1 dX6_isMany_21 rfl (lv_at hl 2 rfl) ?_
          refine lv_aload_n C.1 C.2.1 dX6_isMany_22 rfl (lv_at hl 1 rfl) ?_
          have g_23 : Rg (μ x2 1) := zrgf0 (ci := 4) X.2.2.2 (zob.self o_x2) (zo4 o_x2) 1 rfl
          refine z_get C X zk4 (zob.self o_x2) (zo4 o_x2) 1 (by decide) kw_374 (zI (μ x2 1)) rfl dX6_isMany_23 ?_
          refine z_imul C dX6_isMany_26 ?_
          refine zlet_elim h (fun x_4 ex_4 h => ?_)
          have gx_4 : Rg x_4 := by rw [ex_4]; exact (Rg.w _)
          refine z_istore_n C ex_4 dX6_isMany_27 rfl hl (by decide) (lv' := [(3, zI x_4), (1, zR Ω x1), (2, zR Ω x2), (4, zI x_3)]) rfl (fun ls hl => ?_)
          clear ex_4
          refine zlet_elim h (fun x_5 ex_5 h => ?_)
          have gx_5 : Rg x_5 := by rw [ex_5]; exact Rg.w _
          refine z_iinc C ex_5 dX6_isMany_28 hl (k := 3) rfl (by decide) (lv' := [(4, zI x_5), (3, zI x_4), (1, zR Ω x1), (2, zR Ω x2)]) rfl (fun ls hl => ?_)
          clear ex_5
          refine lv_goto (tgt := 5) C.1 C.2.1 dX6_isMany_31 (by decide) ?_
          exact ih5 x_4 x_5 _ _ _ gx_4 gx_5 X (lv_sub hl [2, 3, 1, 0] rfl) h
  exact L5 zfu 1 0 _ _ _ ⟨by decide, by decide⟩ ⟨by decide, by decide⟩ X (lv_sub hl [3, 4, 1, 0] rfl) h
theorem zc_X6_isMany : zcal yX6_isMany cX6_isMany 5 (some Jvm.ClassFile.FieldType.boolean) RX6 2 := ⟨⟨kw_700, kw_698, kw_699, kw_8⟩, rfl, by decide, by decide, by decide +kernel⟩

def f_X6_takeRim_K85 (x_1 : Int) (x_2 : Int) (μ_3 : zMem) : Option zMem :=
  chk ((0 : Int) ≤ (μ_3 27 5) ∧ (μ_3 27 5) < 8) <|
  zlet (zup μ_3 30 (μ_3 27 5) x_1) fun μ_4 =>
  chk ((0 : Int) ≤ (μ_4 27 5) ∧ (μ_4 27 5) < 8) <|
  zlet (zup μ_4 31 (μ_4 27 5) x_2) fun μ_5 =>
  zlet (zup μ_5 27 5 (zw ((μ_5 27 5) + 1))) fun μ_6 =>
  some μ_6
def f_X6_takeRim_L8 (x1 : Int) (x2 : Int) (g85 : Int → Int → zMem → Option zMem) : Nat → Int → Int → Int → zMem → Option zMem
  | 0, _, _, _, _ => none
  | n + 1, x_7, x_8, x_9, μ_10 =>
    chk ((0 : Int) ≤ x2 ∧ x2 < zlen (x1 + 6)) <|
    if x_9 < (μ_10 (x1 + 6) x2) then
      bnd (f_X5_rimStep x1 x2 x_9 μ_10) fun x_11 =>
      chk ((0 : Int) ≤ (zshr x_11 1) ∧ (zshr x_11 1) < zlen (x1 + 3)) <|
      zlet ((μ_10 (x1 + 3) (zshr x_11 1))) fun x_12 =>
      if x_12 < 0 then
        zlet (zw (x_9 + 1)) fun x_13 =>
        (f_X6_takeRim_L8 x1 x2 g85 n) x_7 x_8 x_13 μ_10
      else
        chk ((0 : Int) ≤ (zw ((zw ((μ_10 27 5) * 8)) + x_7)) ∧ (zw ((zw ((μ_10 27 5) * 8)) + x_7)) < 64) <|
        zlet (zup μ_10 29 (zw ((zw ((μ_10 27 5) * 8)) + x_7)) (zw ((zw (2 * x_12)) + (zand x_11 1)))) fun μ_14 =>
        zlet (zw (x_7 + 1)) fun x_15 =>
        zlet ((zmaxi x_8 x_12)) fun x_16 =>
        zlet (zw (x_9 + 1)) fun x_17 =>
        (f_X6_takeRim_L8 x1 x2 g85 n) x_15 x_16 x_17 μ_14
    else
      g85 x_7 x_8 μ_10
def f_X6_takeRim (x1 : Int) (x2 : Int) (μ : zMem) : Option zMem :=
  (f_X6_takeRim_L8 x1 x2 f_X6_takeRim_K85) zfu 0 (-1) 0 μ
set_option maxHeartbeats 4000000 in
set_option maxRecDepth 100000 in
theorem M_X6_takeRim {l : Launch} {Ω : zO} (hI : zIc Ω) (μ : zMem) (x1 : Int) (x2 : Int) {μ' : zMem} (o_x1 : zob Ω.2.2.1 5 x1) (gx2 : Rg x2) (h : f_X6_takeRim x1 x2 μ = some μ') : XMet l yX6_takeRim cX6_takeRim 8 none 1 Ω [zR Ω 27, zR Ω x1, zI x2] μ none True μ' := by
  refine XMet.ofV (by decide) (Nat.le_of_ble_eq_true rfl) ?_
  intro p e s m args below meth c ls Q C rt X hl
  have C : zC p s m args c cX6_takeRim RX6 8 Ω := C
  have hl : lv_has ls 8 [(0, zR Ω 27), (1, zR Ω x1), (2, zI x2)] := hl
  unfold f_X6_takeRim at h
  skip
  refine z_iconst C dX6_takeRim_0 ?_
  refine lv_istore_n C.1 C.2.1 (lv' := [(3, zI 0), (0, zR Ω 27), (1, zR Ω x1), (2, zI x2)]) dX6_takeRim_1 rfl hl (by decide) rfl (fun ls hl => ?_)
  refine z_iconst C dX6_takeRim_2 ?_
  refine lv_istore C.1 C.2.1 (lv' := [(4, zI (-1)), (3, zI 0), (0, zR Ω 27), (1, zR Ω x1), (2, zI x2)]) dX6_takeRim_3 hl (by decide) rfl (fun ls hl => ?_)
  refine z_iconst C dX6_takeRim_5 ?_
  refine lv_istore C.1 C.2.1 (lv' := [(5, zI 0), (4, zI (-1)), (3, zI 0), (0, zR Ω 27), (1, zR Ω x1), (2, zI x2)]) dX6_takeRim_6 hl (by decide) rfl (fun ls hl => ?_)
  have K85 : ∀ (x_1 : Int) (x_2 : Int) (μ_3 : zMem) (H : Heap) (locs : List Loc) (ls : Array Slot), Rg x_1 → Rg x_2 → zX Ω μ_3 (zfree Ω) s.heap H locs → lv_has ls 8 [(0, zR Ω 27), (3, zI x_1), (4, zI x_2)] → f_X6_takeRim_K85 x_1 x_2 μ_3 = some μ' → W p l e (zrm 1) s m args below meth c H locs 0 0 Q (F0 m 85 ls []) := by
    intro x_1 x_2 μ_3 H locs ls gx_1 gx_2 X hl h
    unfold f_X6_takeRim_K85 at h
    refine lv_aload_n C.1 C.2.1 dX6_takeRim_85 rfl (lv_at hl 0 rfl) ?_
    refine z_get C X zk6 (hI.1 27 (by decide)) rfl 2 (by decide) kw_256 (zR Ω 30) (zfvF (off := 3) X.2.2.2 (hI.1 27 (by decide)) (hI.2 27 (by decide)) rfl rfl (by decide)) dX6_takeRim_86 ?_
    refine lv_aload_n C.1 C.2.1 dX6_takeRim_89 rfl (lv_at hl 0 rfl) ?_
    have g_90 : Rg (μ_3 27 5) := zrgf0 (ci := 6) X.2.2.2 (hI.1 27 (by decide)) rfl 5 rfl
    refine z_get C X zk6 (hI.1 27 (by decide)) rfl 5 (by decide) kw_259 (zI (μ_3 27 5)) rfl dX6_takeRim_90 ?_
    refine lv_iload_n C.1 C.2.1 dX6_takeRim_93 rfl (lv_at hl 1 rfl) ?_
    obtain ⟨hc94, h⟩ := chk_some h
    refine zlet_elim h (fun μ_4 em h => ?_)
    refine z_iast C X (hI.1 30 (by decide)) rfl hc94 (zok1 rfl gx_1) em dX6_takeRim_94 (fun H locs X => ?_)
    clear em
    refine lv_aload_n C.1 C.2.1 dX6_takeRim_95 rfl (lv_at hl 0 rfl) ?_
    refine z_get C X zk6 (hI.1 27 (by decide)) rfl 3 (by decide) kw_257 (zR Ω 31) (zfvF (off := 4) X.2.2.2 (hI.1 27 (by decide)) (hI.2 27 (by decide)) rfl rfl (by decide)) dX6_takeRim_96 ?_
    refine lv_aload_n C.1 C.2.1 dX6_takeRim_99 rfl (lv_at hl 0 rfl) ?_
    have g_100 : Rg (μ_4 27 5) := zrgf0 (ci := 6) X.2.2.2 (hI.1 27 (by decide)) rfl 5 rfl
    refine z_get C X zk6 (hI.1 27 (by decide)) rfl 5 (by decide) kw_259 (zI (μ_4 27 5)) rfl dX6_takeRim_100 ?_
    refine lv_iload C.1 C.2.1 dX6_takeRim_103 (lv_at hl 2 rfl) ?_
    obtain ⟨hc105, h⟩ := chk_some h
    refine zlet_elim h (fun μ_5 em h => ?_)
    refine z_iast C X (hI.1 31 (by decide)) rfl hc105 (zok1 rfl gx_2) em dX6_takeRim_105 (fun H locs X => ?_)
    clear em
    refine lv_aload_n C.1 C.2.1 dX6_takeRim_106 rfl (lv_at hl 0 rfl) ?_
    refine lv_dup C.1 C.2.1 dX6_takeRim_107 rfl ?_
    have g_108 : Rg (μ_5 27 5) := zrgf0 (ci := 6) X.2.2.2 (hI.1 27 (by decide)) rfl 5 rfl
    refine z_get C X zk6 (hI.1 27 (by decide)) rfl 5 (by decide) kw_259 (zI (μ_5 27 5)) rfl dX6_takeRim_108 ?_
    refine z_iconst C dX6_takeRim_111 ?_
    refine z_iadd C dX6_takeRim_112 ?_
    refine zlet_elim h (fun μ_6 em h => ?_)
    refine z_putI C X zk6 (hI.1 27 (by decide)) rfl 5 (by decide) kw_259 rfl rfl rfl rfl (Rg.w _) em dX6_takeRim_113 (fun H locs X => ?_)
    clear em
    obtain rfl := Option.some.inj h
    exact rt X dX6_takeRim_116
  have L8 : ∀ (n8 : Nat) (x_7 : Int) (x_8 : Int) (x_9 : Int) (μ_10 : zMem) (H : Heap) (locs : List Loc) (ls : Array Slot), Rg x_7 → Rg x_8 → Rg x_9 → zX Ω μ_10 (zfree Ω) s.heap H locs → lv_has ls 8 [(0, zR Ω 27), (1, zR Ω x1), (2, zI x2), (3, zI x_7), (4, zI x_8), (5, zI x_9)] → (f_X6_takeRim_L8 x1 x2 f_X6_takeRim_K85 n8 x_7 x_8 x_9 μ_10) = some μ' → W p l e (zrm 1) s m args below meth c H locs 0 0 Q (F0 m 8 ls []) := by
    intro n8
    induction n8 with
    | zero =>
      intro x_7 x_8 x_9 μ_10 H locs ls _ _ _ _ _ h
      cases h
    | succ n8 ih8 =>
      intro x_7 x_8 x_9 μ_10 H locs ls gx_7 gx_8 gx_9 X hl h
      unfold f_X6_takeRim_L8 at h
      refine lv_iload C.1 C.2.1 dX6_takeRim_8 (lv_at hl 5 rfl) ?_
      refine lv_aload_n C.1 C.2.1 dX6_takeRim_10 rfl (lv_at hl 1 rfl) ?_
      refine z_get C X zk5 (zob.self o_x1) (zo5 o_x1) 5 (by decide) kw_72 (zR Ω (x1 + 6)) (zfvF (off := 6) X.2.2.2 (zob.self o_x1) o_x1.2.2 (zo5 o_x1) rfl (by rw [zo5_6 o_x1]; decide)) dX6_takeRim_11 ?_
      refine lv_iload_n C.1 C.2.1 dX6_takeRim_14 rfl (lv_at hl 2 rfl) ?_
      obtain ⟨hc15, h⟩ := chk_some h
      have g_15 : Rg (μ_10 (x1 + 6) x2) := zrg1 X.2.2.2 (o_x1.2.1 6 (by decide) (by decide)) (zo5_6 o_x1)
      refine z_iald C X (o_x1.2.1 6 (by decide) (by decide)) (zo5_6 o_x1) hc15 dX6_takeRim_15 ?_
      refine z_icmpge C gx_9 g_15 (tgt := 85) dX6_takeRim_16 (by decide) (fun hc16 => ?_) (fun hc16 => ?_)
      · rw [if_neg hc16] at h
        exact K85 x_7 x_8 μ_10 _ _ _ gx_7 gx_8 X (lv_sub hl [0, 3, 4] rfl) h
      · rw [if_pos hc16] at h
        refine lv_aload_n C.1 C.2.1 dX6_takeRim_19 rfl (lv_at hl 1 rfl) ?_
        refine lv_iload_n C.1 C.2.1 dX6_takeRim_20 rfl (lv_at hl 2 rfl) ?_
        refine lv_iload C.1 C.2.1 dX6_takeRim_21 (lv_at hl 5 rfl) ?_
        obtain ⟨x_11, hq23, h⟩ := bnd_some h
        refine z_callV1 C X zk5 (zob.self o_x1) (zo5 o_x1) (As := [zI x2, zI x_9]) (M_X5_rimStep μ_10 x1 x2 x_9 o_x1 gx2 gx_9 hq23) zc_X5_rimStep kw_715 (zroom (by decide) (by decide)) rfl hl.1 rfl (Nat.le_of_ble_eq_true rfl) dX6_takeRim_23 ⟨Nat.zero_le _, Nat.zero_le _⟩ (fun H locs g_23 X => ?_)
        refine lv_istore C.1 C.2.1 (lv' := [(6, zI x_11), (0, zR Ω 27), (1, zR Ω x1), (2, zI x2), (3, zI x_7), (4, zI x_8), (5, zI x_9)]) dX6_takeRim_26 hl (by decide) rfl (fun ls hl => ?_)
        refine lv_aload_n C.1 C.2.1 dX6_takeRim_28 rfl (lv_at hl 2 rfl) ?_
        refine z_get C X zk5 (zob.self o_x1) (zo5 o_x1) 2 (by decide) kw_65 (zR Ω (x1 + 3)) (zfvF (off := 3) X.2.2.2 (zob.self o_x1) o_x1.2.2 (zo5 o_x1) rfl (by rw [zo5_3 o_x1]; decide)) dX6_takeRim_29 ?_
        refine lv_iload C.1 C.2.1 dX6_takeRim_32 (lv_at hl 0 rfl) ?_
        refine z_iconst C dX6_takeRim_34 ?_
        refine z_ishr C dX6_takeRim_35 ?_
        obtain ⟨hc36, h⟩ := chk_some h
        have g_36 : Rg (μ_10 (x1 + 3) (zshr x_11 1)) := zrg1 X.2.2.2 (o_x1.2.1 3 (by decide) (by decide)) (zo5_3 o_x1)
        refine z_iald C X (o_x1.2.1 3 (by decide) (by decide)) (zo5_3 o_x1) hc36 dX6_takeRim_36 ?_
        refine zlet_elim h (fun x_12 ex_12 h => ?_)
        have gx_12 : Rg x_12 := by rw [ex_12]; exact g_36
        refine z_istore C ex_12 dX6_takeRim_37 hl (by decide) (lv' := [(7, zI x_12), (6, zI x_11), (0, zR Ω 27), (1, zR Ω x1), (2, zI x2), (3, zI x_7), (4, zI x_8), (5, zI x_9)]) rfl (fun ls hl => ?_)
        clear ex_12
        refine lv_iload C.1 C.2.1 dX6_takeRim_39 (lv_at hl 0 rfl) ?_
        refine z_iflt C gx_12 (tgt := 79) dX6_takeRim_41 (by decide) (fun hc41 => ?_) (fun hc41 => ?_)
        · rw [if_pos hc41] at h
          refine zlet_elim h (fun x_13 ex_13 h => ?_)
          have gx_13 : Rg x_13 := by rw [ex_13]; exact Rg.w _
          refine z_iinc C ex_13 dX6_takeRim_79 hl (k := 7) rfl (by decide) (lv' := [(5, zI x_13), (7, zI x_12), (6, zI x_11), (0, zR Ω 27), (1, zR Ω x1), (2, zI x2), (3, zI x_7), (4, zI x_8)]) rfl (fun ls hl => ?_)
          clear ex_13
          refine lv_goto (tgt := 8) C.1 C.2.1 dX6_takeRim_82 (by decide) ?_
          exact ih8 x_7 x_8 x_13 μ_10 _ _ _ gx_7 gx_8 gx_13 X (lv_sub hl [3, 4, 5, 6, 7, 0] rfl) h
        · rw [if_neg hc41] at h
          refine lv_aload_n C.1 C.2.1 dX6_takeRim_44 rfl (lv_at hl 2 rfl) ?_
          refine z_get C X zk6 (hI.1 27 (by decide)) rfl 1 (by decide) kw_255 (zR Ω 29) (zfvF (off := 2) X.2.2.2 (hI.1 27 (by decide)) (hI.2 27 (by decide)) rfl rfl (by decide)) dX6_takeRim_45 ?_
          refine lv_aload_n C.1 C.2.1 dX6_takeRim_48 rfl (lv_at hl 2 rfl) ?_
          have g_49 : Rg (μ_10 27 5) := zrgf0 (ci := 6) X.2.2.2 (hI.1 27 (by decide)) rfl 5 rfl
          refine z_get C X zk6 (hI.1 27 (by decide)) rfl 5 (by decide) kw_259 (zI (μ_10 27 5)) rfl dX6_takeRim_49 ?_
          refine z_bipush C dX6_takeRim_52 (by decide) ?_
          refine z_imul C dX6_takeRim_54 ?_
          refine lv_iload_n C.1 C.2.1 dX6_takeRim_55 rfl (lv_at hl 5 rfl) ?_
          refine z_iadd C dX6_takeRim_56 ?_
          refine z_iconst C dX6_takeRim_57 ?_
          refine lv_iload C.1 C.2.1 dX6_takeRim_58 (lv_at hl 0 rfl) ?_
          refine z_imul C dX6_takeRim_60 ?_
          refine lv_iload C.1 C.2.1 dX6_takeRim_61 (lv_at hl 1 rfl) ?_
          refine z_iconst C dX6_takeRim_63 ?_
          refine z_iand C dX6_takeRim_64 ?_
          refine z_iadd C dX6_takeRim_65 ?_
          obtain ⟨hc66, h⟩ := chk_some h
          refine zlet_elim h (fun μ_14 em h => ?_)
          refine z_iast C X (hI.1 29 (by decide)) rfl hc66 (zok1 rfl (Rg.w _)) em dX6_takeRim_66 (fun H locs X => ?_)
          clear em
          refine zlet_elim h (fun x_15 ex_15 h => ?_)
          have gx_15 : Rg x_15 := by rw [ex_15]; exact Rg.w _
          refine z_iinc C ex_15 dX6_takeRim_67 hl (k := 5) rfl (by decide) (lv' := [(3, zI x_15), (7, zI x_12), (6, zI x_11), (0, zR Ω 27), (1, zR Ω x1), (2, zI x2), (4, zI x_8), (5, zI x_9)]) rfl (fun ls hl => ?_)
          clear ex_15
          refine lv_iload C.1 C.2.1 dX6_takeRim_70 (lv_at hl 6 rfl) ?_
          refine lv_iload C.1 C.2.1 dX6_takeRim_72 (lv_at hl 1 rfl) ?_
          refine z_mmax C gx_8 gx_12 hl.1 kw_716 kw_717 kw_4 kw_718 (by decide) (Nat.le_of_ble_eq_true rfl) (Nat.zero_le _) (Nat.zero_le _) dX6_takeRim_74 ?_
          refine zlet_elim h (fun x_16 ex_16 h => ?_)
          have gx_16 : Rg x_16 := by rw [ex_16]; exact (zmaxi_rg gx_8 gx_12)
          refine z_istore C ex_16 dX6_takeRim_77 hl (by decide) (lv' := [(4, zI x_16), (3, zI x_15), (7, zI x_12), (6, zI x_11), (0, zR Ω 27), (1, zR Ω x1), (2, zI x2), (5, zI x_9)]) rfl (fun ls hl => ?_)
          clear ex_16
          refine zlet_elim h (fun x_17 ex_17 h => ?_)
          have gx_17 : Rg x_17 := by rw [ex_17]; exact Rg.w _
          refine z_iinc C ex_17 dX6_takeRim_79 hl (k := 7) rfl (by decide) (lv' := [(5, zI x_17), (4, zI x_16), (3, zI x_15), (7, zI x_12), (6, zI x_11), (0, zR Ω 27), (1, zR Ω x1), (2, zI x2)]) rfl (fun ls hl => ?_)
          clear ex_17
          refine lv_goto (tgt := 8) C.1 C.2.1 dX6_takeRim_82 (by decide) ?_
          exact ih8 x_15 x_16 x_17 μ_14 _ _ _ gx_15 gx_16 gx_17 X (lv_sub hl [5, 6, 7, 2, 1, 0] rfl) h
  exact L8 zfu 0 (-1) 0 μ _ _ _ ⟨by decide, by decide⟩ ⟨by decide, by decide⟩ ⟨by decide, by decide⟩ X (lv_sub hl [3, 4, 5, 2, 1, 0] rfl) h
theorem zc_X6_takeRim : zcal yX6_takeRim cX6_takeRim 8 none RX6 2 := ⟨⟨kw_714, kw_713, kp_27, kw_8⟩, rfl, by decide, by decide, by decide +kernel⟩

