def f_X10_putBack_L84 (x1 : Int) : Nat → Int → zMem → Option zMem
  | 0, _, _ => none
  | n + 1, x_3, μ_4 =>
    if x_3 < 256 then
      chk ((0 : Int) ≤ x_3 ∧ x_3 < 256) <|
      chk ((0 : Int) ≤ (zw ((zw (256 * x1)) + x_3)) ∧ (zw ((zw (256 * x1)) + x_3)) < 768) <|
      zlet (zup μ_4 108 (zw ((zw (256 * x1)) + x_3)) (μ_4 118 x_3)) fun μ_5 =>
      zlet (zw (x_3 + 1)) fun x_6 =>
      (f_X10_putBack_L84 x1 n) x_6 μ_5
    else
      some μ_4
def f_X10_putBack_K82 (x1 : Int) (μ_2 : zMem) : Option zMem :=
  (f_X10_putBack_L84 x1) zfu 0 μ_2
def f_X10_putBack_L53 (x1 : Int) (g82 : zMem → Option zMem) : Nat → Int → zMem → Option zMem
  | 0, _, _ => none
  | n + 1, x_7, μ_8 =>
    if x_7 < 32 then
      chk ((0 : Int) ≤ x_7 ∧ x_7 < 32) <|
      chk ((0 : Int) ≤ (zw ((zw (32 * x1)) + x_7)) ∧ (zw ((zw (32 * x1)) + x_7)) < 96) <|
      zlet (zup μ_8 107 (zw ((zw (32 * x1)) + x_7)) (μ_8 119 x_7)) fun μ_9 =>
      zlet (zw (x_7 + 1)) fun x_10 =>
      (f_X10_putBack_L53 x1 g82 n) x_10 μ_9
    else
      g82 μ_8
def f_X10_putBack_K51 (x1 : Int) (μ_1 : zMem) : Option zMem :=
  (f_X10_putBack_L53 x1 (f_X10_putBack_K82 x1)) zfu 0 μ_1
def f_X10_putBack_L2 (x1 : Int) (g51 : zMem → Option zMem) : Nat → Int → zMem → Option zMem
  | 0, _, _ => none
  | n + 1, x_11, μ_12 =>
    if x_11 < 48 then
      chk ((0 : Int) ≤ x_11 ∧ x_11 < 96) <|
      chk ((0 : Int) ≤ (zw ((zw (48 * x1)) + x_11)) ∧ (zw ((zw (48 * x1)) + x_11)) < 144) <|
      zlet (zup μ_12 105 (zw ((zw (48 * x1)) + x_11)) (μ_12 117 x_11)) fun μ_13 =>
      chk ((0 : Int) ≤ (zw (48 + x_11)) ∧ (zw (48 + x_11)) < 96) <|
      chk ((0 : Int) ≤ (zw ((zw (48 * x1)) + x_11)) ∧ (zw ((zw (48 * x1)) + x_11)) < 144) <|
      zlet (zup μ_13 106 (zw ((zw (48 * x1)) + x_11)) (μ_13 117 (zw (48 + x_11)))) fun μ_14 =>
      zlet (zw (x_11 + 1)) fun x_15 =>
      (f_X10_putBack_L2 x1 g51 n) x_15 μ_14
    else
      g51 μ_12
def f_X10_putBack (x1 : Int) (μ : zMem) : Option zMem :=
  (f_X10_putBack_L2 x1 (f_X10_putBack_K51 x1)) zfu 0 μ
set_option maxHeartbeats 4000000 in
set_option maxRecDepth 100000 in
theorem M_X10_putBack {l : Launch} {Ω : zO} (hI : zIm Ω) (μ : zMem) (x1 : Int) {μ' : zMem} (gx1 : Rg x1) (h : f_X10_putBack x1 μ = some μ') : XMet l yX10_putBack cX10_putBack 3 none 0 Ω [zR Ω 101, zI x1] μ none True μ' := by
  refine XMet.ofV (by decide) (Nat.le_of_ble_eq_true rfl) ?_
  intro p e s m args below meth c ls Q C rt X hl
  have C : zC p s m args c cX10_putBack RX10 3 Ω := C
  have hl : lv_has ls 3 [(0, zR Ω 101), (1, zI x1)] := hl
  unfold f_X10_putBack at h
  skip
  refine z_iconst C dX10_putBack_0 ?_
  refine lv_istore_n C.1 C.2.1 (lv' := [(2, zI 0), (0, zR Ω 101), (1, zI x1)]) dX10_putBack_1 rfl hl (by decide) rfl (fun ls hl => ?_)
  have K51 : ∀ (μ_1 : zMem) (H : Heap) (locs : List Loc) (ls : Array Slot), zX Ω μ_1 (zfree Ω) s.heap H locs → lv_has ls 3 [(0, zR Ω 101), (1, zI x1)] → (f_X10_putBack_K51 x1) μ_1 = some μ' → W p l e (zrm 0) s m args below meth c H locs 0 0 Q (F0 m 51 ls []) := by
    intro μ_1 H locs ls  X hl h
    unfold f_X10_putBack_K51 at h
    refine z_iconst C dX10_putBack_51 ?_
    refine lv_istore_n C.1 C.2.1 (lv' := [(2, zI 0), (0, zR Ω 101), (1, zI x1)]) dX10_putBack_52 rfl hl (by decide) rfl (fun ls hl => ?_)
    have K82 : ∀ (μ_2 : zMem) (H : Heap) (locs : List Loc) (ls : Array Slot), zX Ω μ_2 (zfree Ω) s.heap H locs → lv_has ls 3 [(0, zR Ω 101), (1, zI x1)] → (f_X10_putBack_K82 x1) μ_2 = some μ' → W p l e (zrm 0) s m args below meth c H locs 0 0 Q (F0 m 82 ls []) := by
      intro μ_2 H locs ls  X hl h
      unfold f_X10_putBack_K82 at h
      refine z_iconst C dX10_putBack_82 ?_
      refine lv_istore_n C.1 C.2.1 (lv' := [(2, zI 0), (0, zR Ω 101), (1, zI x1)]) dX10_putBack_83 rfl hl (by decide) rfl (fun ls hl => ?_)
      have L84 : ∀ (n84 : Nat) (x_3 : Int) (μ_4 : zMem) (H : Heap) (locs : List Loc) (ls : Array Slot), Rg x_3 → zX Ω μ_4 (zfree Ω) s.heap H locs → lv_has ls 3 [(0, zR Ω 101), (1, zI x1), (2, zI x_3)] → (f_X10_putBack_L84 x1 n84 x_3 μ_4) = some μ' → W p l e (zrm 0) s m args below meth c H locs 0 0 Q (F0 m 84 ls []) := by
        intro n84
        induction n84 with
        | zero =>
          intro x_3 μ_4 H locs ls _ _ _ h
          cases h
        | succ n84 ih84 =>
          intro x_3 μ_4 H locs ls gx_3 X hl h
          unfold f_X10_putBack_L84 at h
          refine lv_iload_n C.1 C.2.1 dX10_putBack_84 rfl (lv_at hl 2 rfl) ?_
          refine z_sipush C dX10_putBack_85 (by decide) ?_
          refine z_icmpge C gx_3 ⟨by decide, by decide⟩ (tgt := 115) dX10_putBack_88 (by decide) (fun hc88 => ?_) (fun hc88 => ?_)
          · rw [if_neg hc88] at h
            obtain rfl := Option.some.inj h
            exact rt X dX10_putBack_115
          · rw [if_pos hc88] at h
            refine lv_aload_n C.1 C.2.1 dX10_putBack_91 rfl (lv_at hl 0 rfl) ?_
            refine z_get C X zk10 (hI.1 101 (by decide)) rfl 6 (by decide) kw_1038 (zR Ω 108) (zfvF (off := 7) X.2.2.2 (hI.1 101 (by decide)) hI.2 rfl rfl (by decide)) dX10_putBack_92 ?_
            refine z_sipush C dX10_putBack_95 (by decide) ?_
            refine lv_iload_n C.1 C.2.1 dX10_putBack_98 rfl (lv_at hl 1 rfl) ?_
            refine z_imul C dX10_putBack_99 ?_
            refine lv_iload_n C.1 C.2.1 dX10_putBack_100 rfl (lv_at hl 2 rfl) ?_
            refine z_iadd C dX10_putBack_101 ?_
            refine lv_aload_n C.1 C.2.1 dX10_putBack_102 rfl (lv_at hl 0 rfl) ?_
            refine z_get C X zk10 (hI.1 101 (by decide)) rfl 16 (by decide) kw_1048 (zR Ω 118) (zfvF (off := 17) X.2.2.2 (hI.1 101 (by decide)) hI.2 rfl rfl (by decide)) dX10_putBack_103 ?_
            refine lv_iload_n C.1 C.2.1 dX10_putBack_106 rfl (lv_at hl 2 rfl) ?_
            obtain ⟨hc107, h⟩ := chk_some h
            have g_107 : Rg (μ_4 118 x_3) := zrg1 X.2.2.2 (hI.1 118 (by decide)) rfl
            refine z_iald C X (hI.1 118 (by decide)) rfl hc107 dX10_putBack_107 ?_
            obtain ⟨hc108, h⟩ := chk_some h
            refine zlet_elim h (fun μ_5 em h => ?_)
            refine z_iast C X (hI.1 108 (by decide)) rfl hc108 (zok1 rfl g_107) em dX10_putBack_108 (fun H locs X => ?_)
            clear em
            refine zlet_elim h (fun x_6 ex_6 h => ?_)
            have gx_6 : Rg x_6 := by rw [ex_6]; exact Rg.w _
            refine z_iinc C ex_6 dX10_putBack_109 hl (k := 2) rfl (by decide) (lv' := [(2, zI x_6), (0, zR Ω 101), (1, zI x1)]) rfl (fun ls hl => ?_)
            clear ex_6
            refine lv_goto (tgt := 84) C.1 C.2.1 dX10_putBack_112 (by decide) ?_
            exact ih84 x_6 μ_5 _ _ _ gx_6 X (lv_sub hl [1, 2, 0] rfl) h
      exact L84 zfu 0 μ_2 _ _ _ ⟨by decide, by decide⟩ X (lv_sub hl [1, 2, 0] rfl) h
    have L53 : ∀ (n53 : Nat) (x_7 : Int) (μ_8 : zMem) (H : Heap) (locs : List Loc) (ls : Array Slot), Rg x_7 → zX Ω μ_8 (zfree Ω) s.heap H locs → lv_has ls 3 [(0, zR Ω 101), (1, zI x1), (2, zI x_7)] → (f_X10_putBack_L53 x1 (f_X10_putBack_K82 x1) n53 x_7 μ_8) = some μ' → W p l e (zrm 0) s m args below meth c H locs 0 0 Q (F0 m 53 ls []) := by
      intro n53
      induction n53 with
      | zero =>
        intro x_7 μ_8 H locs ls _ _ _ h
        cases h
      | succ n53 ih53 =>
        intro x_7 μ_8 H locs ls gx_7 X hl h
        unfold f_X10_putBack_L53 at h
        refine lv_iload_n C.1 C.2.1 dX10_putBack_53 rfl (lv_at hl 2 rfl) ?_
        refine z_bipush C dX10_putBack_54 (by decide) ?_
        refine z_icmpge C gx_7 ⟨by decide, by decide⟩ (tgt := 82) dX10_putBack_56 (by decide) (fun hc56 => ?_) (fun hc56 => ?_)
        · rw [if_neg hc56] at h
          exact K82 μ_8 _ _ _ X (lv_sub hl [0, 1] rfl) h
        · rw [if_pos hc56] at h
          refine lv_aload_n C.1 C.2.1 dX10_putBack_59 rfl (lv_at hl 0 rfl) ?_
          refine z_get C X zk10 (hI.1 101 (by decide)) rfl 5 (by decide) kw_1037 (zR Ω 107) (zfvF (off := 6) X.2.2.2 (hI.1 101 (by decide)) hI.2 rfl rfl (by decide)) dX10_putBack_60 ?_
          refine z_bipush C dX10_putBack_63 (by decide) ?_
          refine lv_iload_n C.1 C.2.1 dX10_putBack_65 rfl (lv_at hl 1 rfl) ?_
          refine z_imul C dX10_putBack_66 ?_
          refine lv_iload_n C.1 C.2.1 dX10_putBack_67 rfl (lv_at hl 2 rfl) ?_
          refine z_iadd C dX10_putBack_68 ?_
          refine lv_aload_n C.1 C.2.1 dX10_putBack_69 rfl (lv_at hl 0 rfl) ?_
          refine z_get C X zk10 (hI.1 101 (by decide)) rfl 17 (by decide) kw_1049 (zR Ω 119) (zfvF (off := 18) X.2.2.2 (hI.1 101 (by decide)) hI.2 rfl rfl (by decide)) dX10_putBack_70 ?_
          refine lv_iload_n C.1 C.2.1 dX10_putBack_73 rfl (lv_at hl 2 rfl) ?_
          obtain ⟨hc74, h⟩ := chk_some h
          have g_74 : Rg (μ_8 119 x_7) := zrg1 X.2.2.2 (hI.1 119 (by decide)) rfl
          refine z_iald C X (hI.1 119 (by decide)) rfl hc74 dX10_putBack_74 ?_
          obtain ⟨hc75, h⟩ := chk_some h
          refine zlet_elim h (fun μ_9 em h => ?_)
          refine z_iast C X (hI.1 107 (by decide)) rfl hc75 (zok1 rfl g_74) em dX10_putBack_75 (fun H locs X => ?_)
          clear em
          refine zlet_elim h (fun x_10 ex_10 h => ?_)
          have gx_10 : Rg x_10 := by rw [ex_10]; exact Rg.w _
          refine z_iinc C ex_10 dX10_putBack_76 hl (k := 2) rfl (by decide) (lv' := [(2, zI x_10), (0, zR Ω 101), (1, zI x1)]) rfl (fun ls hl => ?_)
          clear ex_10
          refine lv_goto (tgt := 53) C.1 C.2.1 dX10_putBack_79 (by decide) ?_
          exact ih53 x_10 μ_9 _ _ _ gx_10 X (lv_sub hl [1, 2, 0] rfl) h
    exact L53 zfu 0 μ_1 _ _ _ ⟨by decide, by decide⟩ X (lv_sub hl [1, 2, 0] rfl) h
  have L2 : ∀ (n2 : Nat) (x_11 : Int) (μ_12 : zMem) (H : Heap) (locs : List Loc) (ls : Array Slot), Rg x_11 → zX Ω μ_12 (zfree Ω) s.heap H locs → lv_has ls 3 [(0, zR Ω 101), (1, zI x1), (2, zI x_11)] → (f_X10_putBack_L2 x1 (f_X10_putBack_K51 x1) n2 x_11 μ_12) = some μ' → W p l e (zrm 0) s m args below meth c H locs 0 0 Q (F0 m 2 ls []) := by
    intro n2
    induction n2 with
    | zero =>
      intro x_11 μ_12 H locs ls _ _ _ h
      cases h
    | succ n2 ih2 =>
      intro x_11 μ_12 H locs ls gx_11 X hl h
      unfold f_X10_putBack_L2 at h
      refine lv_iload_n C.1 C.2.1 dX10_putBack_2 rfl (lv_at hl 2 rfl) ?_
      refine z_bipush C dX10_putBack_3 (by decide) ?_
      refine z_icmpge C gx_11 ⟨by decide, by decide⟩ (tgt := 51) dX10_putBack_5 (by decide) (fun hc5 => ?_) (fun hc5 => ?_)
      · rw [if_neg hc5] at h
        exact K51 μ_12 _ _ _ X (lv_sub hl [0, 1] rfl) h
      · rw [if_pos hc5] at h
        refine lv_aload_n C.1 C.2.1 dX10_putBack_8 rfl (lv_at hl 0 rfl) ?_
        refine z_get C X zk10 (hI.1 101 (by decide)) rfl 3 (by decide) kw_1035 (zR Ω 105) (zfvF (off := 4) X.2.2.2 (hI.1 101 (by decide)) hI.2 rfl rfl (by decide)) dX10_putBack_9 ?_
        refine z_bipush C dX10_putBack_12 (by decide) ?_
        refine lv_iload_n C.1 C.2.1 dX10_putBack_14 rfl (lv_at hl 1 rfl) ?_
        refine z_imul C dX10_putBack_15 ?_
        refine lv_iload_n C.1 C.2.1 dX10_putBack_16 rfl (lv_at hl 2 rfl) ?_
        refine z_iadd C dX10_putBack_17 ?_
        refine lv_aload_n C.1 C.2.1 dX10_putBack_18 rfl (lv_at hl 0 rfl) ?_
        refine z_get C X zk10 (hI.1 101 (by decide)) rfl 15 (by decide) kw_1047 (zR Ω 117) (zfvF (off := 16) X.2.2.2 (hI.1 101 (by decide)) hI.2 rfl rfl (by decide)) dX10_putBack_19 ?_
        refine lv_iload_n C.1 C.2.1 dX10_putBack_22 rfl (lv_at hl 2 rfl) ?_
        obtain ⟨hc23, h⟩ := chk_some h
        have g_23 : Rg (μ_12 117 x_11) := zrg1 X.2.2.2 (hI.1 117 (by decide)) rfl
        refine z_iald C X (hI.1 117 (by decide)) rfl hc23 dX10_putBack_23 ?_
        obtain ⟨hc24, h⟩ := chk_some h
        refine zlet_elim h (fun μ_13 em h => ?_)
        refine z_iast C X (hI.1 105 (by decide)) rfl hc24 (zok1 rfl g_23) em dX10_putBack_24 (fun H locs X => ?_)
        clear em
        refine lv_aload_n C.1 C.2.1 dX10_putBack_25 rfl (lv_at hl 0 rfl) ?_
        refine z_get C X zk10 (hI.1 101 (by decide)) rfl 4 (by decide) kw_1036 (zR Ω 106) (zfvF (off := 5) X.2.2.2 (hI.1 101 (by decide)) hI.2 rfl rfl (by decide)) dX10_putBack_26 ?_
        refine z_bipush C dX10_putBack_29 (by decide) ?_
        refine lv_iload_n C.1 C.2.1 dX10_putBack_31 rfl (lv_at hl 1 rfl) ?_
        refine z_imul C dX10_putBack_32 ?_
        refine lv_iload_n C.1 C.2.1 dX10_putBack_33 rfl (lv_at hl 2 rfl) ?_
        refine z_iadd C dX10_putBack_34 ?_
        refine lv_aload_n C.1 C.2.1 dX10_putBack_35 rfl (lv_at hl 0 rfl) ?_
        refine z_get C X zk10 (hI.1 101 (by decide)) rfl 15 (by decide) kw_1047 (zR Ω 117) (zfvF (off := 16) X.2.2.2 (hI.1 101 (by decide)) hI.2 rfl rfl (by decide)) dX10_putBack_36 ?_
        refine z_bipush C dX10_putBack_39 (by decide) ?_
        refine lv_iload_n C.1 C.2.1 dX10_putBack_41 rfl (lv_at hl 2 rfl) ?_
        refine z_iadd C dX10_putBack_42 ?_
        obtain ⟨hc43, h⟩ := chk_some h
        have g_43 : Rg (μ_13 117 (zw (48 + x_11))) := zrg1 X.2.2.2 (hI.1 117 (by decide)) rfl
        refine z_iald C X (hI.1 117 (by decide)) rfl hc43 dX10_putBack_43 ?_
        obtain ⟨hc44, h⟩ := chk_some h
        refine zlet_elim h (fun μ_14 em h => ?_)
        refine z_iast C X (hI.1 106 (by decide)) rfl hc44 (zok1 rfl g_43) em dX10_putBack_44 (fun H locs X => ?_)
        clear em
        refine zlet_elim h (fun x_15 ex_15 h => ?_)
        have gx_15 : Rg x_15 := by rw [ex_15]; exact Rg.w _
        refine z_iinc C ex_15 dX10_putBack_45 hl (k := 2) rfl (by decide) (lv' := [(2, zI x_15), (0, zR Ω 101), (1, zI x1)]) rfl (fun ls hl => ?_)
        clear ex_15
        refine lv_goto (tgt := 2) C.1 C.2.1 dX10_putBack_48 (by decide) ?_
        exact ih2 x_15 μ_14 _ _ _ gx_15 X (lv_sub hl [1, 2, 0] rfl) h
  exact L2 zfu 0 μ _ _ _ ⟨by decide, by decide⟩ X (lv_sub hl [1, 2, 0] rfl) h
theorem zc_X10_putBack : zcal yX10_putBack cX10_putBack 3 none RX10 1 := ⟨⟨kw_1300, kw_1299, kp_67, kw_12⟩, rfl, by decide, by decide, by decide +kernel⟩

def f_X10_text (x1 : Int) (μ : zMem) : Option (Int × zMem) :=
  if (f_X10_isSpace x1) = 0 then
    some ((-1), μ)
  else
    chk ((0 : Int) ≤ x1 ∧ x1 < 3) <|
    zlet ((μ 102 x1)) fun x_1 =>
    chk ((0 : Int) ≤ x1 ∧ x1 < 3) <|
    zlet ((μ 103 x1)) fun x_2 =>
    chk ((0 : Int) ≤ x1 ∧ x1 < 3) <|
    zlet ((μ 104 x1)) fun x_3 =>
    bnd (f_X10_keep x1 μ) fun μ_4 =>
    zlet (zup μ_4 101 10 0) fun μ_5 =>
    bnd2 (f_X10_readSpace x1 μ_5) fun x_6 μ_7 =>
    zlet (zup μ_7 101 9 0) fun μ_8 =>
    if x_6 = 0 then
      bnd (f_X10_putBack x1 μ_8) fun μ_10 =>
      chk ((0 : Int) ≤ x1 ∧ x1 < 3) <|
      zlet (zup μ_10 102 x1 x_1) fun μ_11 =>
      chk ((0 : Int) ≤ x1 ∧ x1 < 3) <|
      zlet (zup μ_11 103 x1 x_2) fun μ_12 =>
      chk ((0 : Int) ≤ x1 ∧ x1 < 3) <|
      zlet (zup μ_12 104 x1 x_3) fun μ_13 =>
      some ((μ_13 101 11), μ_13)
    else
      bnd (f_X10_emptySlots x1 μ_8) fun μ_9 =>
      chk ((0 : Int) ≤ x1 ∧ x1 < 3) <|
      some ((μ_9 104 x1), μ_9)
set_option maxHeartbeats 4000000 in
set_option maxRecDepth 100000 in
theorem M_X10_text {l : Launch} {Ω : zO} (hI : zIm Ω) (μ : zMem) (x1 : Int) {r : Int} {μ' : zMem} (gx1 : Rg x1) (h : f_X10_text x1 μ = some (r, μ')) : XMet l yX10_text cX10_text 6 (some Jvm.ClassFile.FieldType.int) 6 Ω [zR Ω 101, zI x1] μ (some (zI r)) (Rg r) μ' := by
  refine XMet.ofI (by decide) (Nat.le_of_ble_eq_true rfl) ?_
  intro p e s m args below meth c ls Q C rt X hl
  have C : zC p s m args c cX10_text RX10 6 Ω := C
  have hl : lv_has ls 6 [(0, zR Ω 101), (1, zI x1)] := hl
  unfold f_X10_text at h
  skip
  refine lv_iload_n C.1 C.2.1 dX10_text_0 rfl (lv_at hl 1 rfl) ?_
  refine z_callS1 C X (As := [zI x1]) (M_X10_isSpace hI μ x1 gx1) zc_X10_isSpace kw_1214 (zroom (by decide) (by decide)) rfl hl.1 rfl (Nat.le_of_ble_eq_true rfl) dX10_text_1 ⟨Nat.zero_le _, Nat.zero_le _⟩ (fun H locs g_1 X => ?_)
  refine z_ifne C (rgz g_1) (tgt := 9) dX10_text_4 (by decide) (fun hc4 => ?_) (fun hc4 => ?_)
  · rw [if_neg hc4] at h
    refine lv_aload_n C.1 C.2.1 dX10_text_9 rfl (lv_at hl 0 rfl) ?_
    refine z_get C X zk10 (hI.1 101 (by decide)) rfl 0 (by decide) kw_1032 (zR Ω 102) (zfvF (off := 1) X.2.2.2 (hI.1 101 (by decide)) hI.2 rfl rfl (by decide)) dX10_text_10 ?_
    refine lv_iload_n C.1 C.2.1 dX10_text_13 rfl (lv_at hl 1 rfl) ?_
    obtain ⟨hc14, h⟩ := chk_some h
    have g_14 : Rg (μ 102 x1) := zrg1 X.2.2.2 (hI.1 102 (by decide)) rfl
    refine z_iald C X (hI.1 102 (by decide)) rfl hc14 dX10_text_14 ?_
    refine zlet_elim h (fun x_1 ex_1 h => ?_)
    have gx_1 : Rg x_1 := by rw [ex_1]; exact g_14
    refine z_istore_n C ex_1 dX10_text_15 rfl hl (by decide) (lv' := [(2, zI x_1), (0, zR Ω 101), (1, zI x1)]) rfl (fun ls hl => ?_)
    clear ex_1
    refine lv_aload_n C.1 C.2.1 dX10_text_16 rfl (lv_at hl 1 rfl) ?_
    refine z_get C X zk10 (hI.1 101 (by decide)) rfl 1 (by decide) kw_1033 (zR Ω 103) (zfvF (off := 2) X.2.2.2 (hI.1 101 (by decide)) hI.2 rfl rfl (by decide)) dX10_text_17 ?_
    refine lv_iload_n C.1 C.2.1 dX10_text_20 rfl (lv_at hl 2 rfl) ?_
    obtain ⟨hc21, h⟩ := chk_some h
    have g_21 : Rg (μ 103 x1) := zrg1 X.2.2.2 (hI.1 103 (by decide)) rfl
    refine z_iald C X (hI.1 103 (by decide)) rfl hc21 dX10_text_21 ?_
    refine zlet_elim h (fun x_2 ex_2 h => ?_)
    have gx_2 : Rg x_2 := by rw [ex_2]; exact g_21
    refine z_istore_n C ex_2 dX10_text_22 rfl hl (by decide) (lv' := [(3, zI x_2), (2, zI x_1), (0, zR Ω 101), (1, zI x1)]) rfl (fun ls hl => ?_)
    clear ex_2
    refine lv_aload_n C.1 C.2.1 dX10_text_23 rfl (lv_at hl 2 rfl) ?_
    refine z_get C X zk10 (hI.1 101 (by decide)) rfl 2 (by decide) kw_1034 (zR Ω 104) (zfvF (off := 3) X.2.2.2 (hI.1 101 (by decide)) hI.2 rfl rfl (by decide)) dX10_text_24 ?_
    refine lv_iload_n C.1 C.2.1 dX10_text_27 rfl (lv_at hl 3 rfl) ?_
    obtain ⟨hc28, h⟩ := chk_some h
    have g_28 : Rg (μ 104 x1) := zrg1 X.2.2.2 (hI.1 104 (by decide)) rfl
    refine z_iald C X (hI.1 104 (by decide)) rfl hc28 dX10_text_28 ?_
    refine zlet_elim h (fun x_3 ex_3 h => ?_)
    have gx_3 : Rg x_3 := by rw [ex_3]; exact g_28
    refine z_istore C ex_3 dX10_text_29 hl (by decide) (lv' := [(4, zI x_3), (3, zI x_2), (2, zI x_1), (0, zR Ω 101), (1, zI x1)]) rfl (fun ls hl => ?_)
    clear ex_3
    refine lv_aload_n C.1 C.2.1 dX10_text_31 rfl (lv_at hl 3 rfl) ?_
    refine lv_iload_n C.1 C.2.1 dX10_text_32 rfl (lv_at hl 4 rfl) ?_
    obtain ⟨μ_4, hq33, h⟩ := bnd_some h
    refine z_callV0 C X zk10 (hI.1 101 (by decide)) rfl (As := [zI x1]) (M_X10_keep hI μ x1 gx1 hq33) zc_X10_keep kw_1281 (zroom (by decide) (by decide)) rfl hl.1 rfl (Nat.le_of_ble_eq_true rfl) dX10_text_33 ⟨Nat.zero_le _, Nat.zero_le _⟩ (fun H locs g_33 X => ?_)
    refine lv_aload_n C.1 C.2.1 dX10_text_36 rfl (lv_at hl 3 rfl) ?_
    refine z_iconst C dX10_text_37 ?_
    refine zlet_elim h (fun μ_5 em h => ?_)
    refine z_putI C X zk10 (hI.1 101 (by decide)) rfl 10 (by decide) kw_1042 rfl rfl rfl rfl ⟨by decide, by decide⟩ em dX10_text_38 (fun H locs X => ?_)
    clear em
    refine lv_aload_n C.1 C.2.1 dX10_text_41 rfl (lv_at hl 3 rfl) ?_
    refine lv_iload_n C.1 C.2.1 dX10_text_42 rfl (lv_at hl 4 rfl) ?_
    obtain ⟨x_6, μ_7, hq43, h⟩ := bnd2_some h
    refine z_callV1 C X zk10 (hI.1 101 (by decide)) rfl (As := [zI x1]) (M_X10_readSpace hI μ_5 x1 gx1 hq43) zc_X10_readSpace kw_1285 (zroom (by decide) (by decide)) rfl hl.1 rfl (Nat.le_of_ble_eq_true rfl) dX10_text_43 ⟨Nat.zero_le _, Nat.zero_le _⟩ (fun H locs g_43 X => ?_)
    refine lv_istore C.1 C.2.1 (lv' := [(5, zI x_6), (4, zI x_3), (3, zI x_2), (2, zI x_1), (0, zR Ω 101), (1, zI x1)]) dX10_text_46 hl (by decide) rfl (fun ls hl => ?_)
    refine lv_aload_n C.1 C.2.1 dX10_text_48 rfl (lv_at hl 4 rfl) ?_
    refine z_iconst C dX10_text_49 ?_
    refine zlet_elim h (fun μ_8 em h => ?_)
    refine z_putI C X zk10 (hI.1 101 (by decide)) rfl 9 (by decide) kw_1041 rfl rfl rfl rfl ⟨by decide, by decide⟩ em dX10_text_50 (fun H locs X => ?_)
    clear em
    refine lv_iload C.1 C.2.1 dX10_text_53 (lv_at hl 0 rfl) ?_
    refine z_ifne C (rgz g_43) (tgt := 90) dX10_text_55 (by decide) (fun hc55 => ?_) (fun hc55 => ?_)
    · rw [if_neg hc55] at h
      refine lv_aload_n C.1 C.2.1 dX10_text_90 rfl (lv_at hl 4 rfl) ?_
      refine lv_iload_n C.1 C.2.1 dX10_text_91 rfl (lv_at hl 5 rfl) ?_
      obtain ⟨μ_9, hq92, h⟩ := bnd_some h
      refine z_callV0 C X zk10 (hI.1 101 (by decide)) rfl (As := [zI x1]) (M_X10_emptySlots hI μ_8 x1 gx1 hq92) zc_X10_emptySlots kw_1224 (zroom (by decide) (by decide)) rfl hl.1 rfl (Nat.le_of_ble_eq_true rfl) dX10_text_92 ⟨Nat.zero_le _, Nat.zero_le _⟩ (fun H locs g_92 X => ?_)
      refine lv_aload_n C.1 C.2.1 dX10_text_95 rfl (lv_at hl 4 rfl) ?_
      refine z_get C X zk10 (hI.1 101 (by decide)) rfl 2 (by decide) kw_1034 (zR Ω 104) (zfvF (off := 3) X.2.2.2 (hI.1 101 (by decide)) hI.2 rfl rfl (by decide)) dX10_text_96 ?_
      refine lv_iload_n C.1 C.2.1 dX10_text_99 rfl (lv_at hl 5 rfl) ?_
      obtain ⟨hc100, h⟩ := chk_some h
      have g_100 : Rg (μ_9 104 x1) := zrg1 X.2.2.2 (hI.1 104 (by decide)) rfl
      refine z_iald C X (hI.1 104 (by decide)) rfl hc100 dX10_text_100 ?_
      obtain ⟨rfl, rfl⟩ := Prod.mk.inj (Option.some.inj h)
      exact rt X g_100 dX10_text_101
    · rw [if_pos hc55] at h
      refine lv_aload_n C.1 C.2.1 dX10_text_58 rfl (lv_at hl 4 rfl) ?_
      refine lv_iload_n C.1 C.2.1 dX10_text_59 rfl (lv_at hl 5 rfl) ?_
      obtain ⟨μ_10, hq60, h⟩ := bnd_some h
      refine z_callV0 C X zk10 (hI.1 101 (by decide)) rfl (As := [zI x1]) (M_X10_putBack hI μ_8 x1 gx1 hq60) zc_X10_putBack kw_1297 (zroom (by decide) (by decide)) rfl hl.1 rfl (Nat.le_of_ble_eq_true rfl) dX10_text_60 ⟨Nat.zero_le _, Nat.zero_le _⟩ (fun H locs g_60 X => ?_)
      refine lv_aload_n C.1 C.2.1 dX10_text_63 rfl (lv_at hl 4 rfl) ?_
      refine z_get C X zk10 (hI.1 101 (by decide)) rfl 0 (by decide) kw_1032 (zR Ω 102) (zfvF (off := 1) X.2.2.2 (hI.1 101 (by decide)) hI.2 rfl rfl (by decide)) dX10_text_64 ?_
      refine lv_iload_n C.1 C.2.1 dX10_text_67 rfl (lv_at hl 5 rfl) ?_
      refine lv_iload_n C.1 C.2.1 dX10_text_68 rfl (lv_at hl 3 rfl) ?_
      obtain ⟨hc69, h⟩ := chk_some h
      refine zlet_elim h (fun μ_11 em h => ?_)
      refine z_iast C X (hI.1 102 (by decide)) rfl hc69 (zok1 rfl gx_1) em dX10_text_69 (fun H locs X => ?_)
      clear em
      refine lv_aload_n C.1 C.2.1 dX10_text_70 rfl (lv_at hl 4 rfl) ?_
      refine z_get C X zk10 (hI.1 101 (by decide)) rfl 1 (by decide) kw_1033 (zR Ω 103) (zfvF (off := 2) X.2.2.2 (hI.1 101 (by decide)) hI.2 rfl rfl (by decide)) dX10_text_71 ?_
      refine lv_iload_n C.1 C.2.1 dX10_text_74 rfl (lv_at hl 5 rfl) ?_
      refine lv_iload_n C.1 C.2.1 dX10_text_75 rfl (lv_at hl 2 rfl) ?_
      obtain ⟨hc76, h⟩ := chk_some h
      refine zlet_elim h (fun μ_12 em h => ?_)
      refine z_iast C X (hI.1 103 (by decide)) rfl hc76 (zok1 rfl gx_2) em dX10_text_76 (fun H locs X => ?_)
      clear em
      refine lv_aload_n C.1 C.2.1 dX10_text_77 rfl (lv_at hl 4 rfl) ?_
      refine z_get C X zk10 (hI.1 101 (by decide)) rfl 2 (by decide) kw_1034 (zR Ω 104) (zfvF (off := 3) X.2.2.2 (hI.1 101 (by decide)) hI.2 rfl rfl (by decide)) dX10_text_78 ?_
      refine lv_iload_n C.1 C.2.1 dX10_text_81 rfl (lv_at hl 5 rfl) ?_
      refine lv_iload C.1 C.2.1 dX10_text_82 (lv_at hl 1 rfl) ?_
      obtain ⟨hc84, h⟩ := chk_some h
      refine zlet_elim h (fun μ_13 em h => ?_)
      refine z_iast C X (hI.1 104 (by decide)) rfl hc84 (zok1 rfl gx_3) em dX10_text_84 (fun H locs X => ?_)
      clear em
      refine lv_aload_n C.1 C.2.1 dX10_text_85 rfl (lv_at hl 4 rfl) ?_
      have g_86 : Rg (μ_13 101 11) := zrgf0 (ci := 10) X.2.2.2 (hI.1 101 (by decide)) rfl 11 rfl
      refine z_get C X zk10 (hI.1 101 (by decide)) rfl 11 (by decide) kw_1043 (zI (μ_13 101 11)) rfl dX10_text_86 ?_
      obtain ⟨rfl, rfl⟩ := Prod.mk.inj (Option.some.inj h)
      exact rt X g_86 dX10_text_89
  · rw [if_pos hc4] at h
    refine z_iconst C dX10_text_7 ?_
    obtain ⟨rfl, rfl⟩ := Prod.mk.inj (Option.some.inj h)
    exact rt X ⟨by decide, by decide⟩ dX10_text_8
theorem zc_X10_text : zcal yX10_text cX10_text 6 (some Jvm.ClassFile.FieldType.int) RX10 1 := ⟨⟨kw_1280, kw_1278, kw_1279, kw_12⟩, rfl, by decide, by decide, by decide +kernel⟩

def f_X10_layTree_J259 (x_5 : Int) (μ_11 : zMem) (g179 : Int → zMem → Option zMem) (x_12 : Int) (μ_13 : zMem) : Option zMem :=
  zlet (zup μ_13 101 20 (zw ((μ_11 101 20) + x_12))) fun μ_14 =>
  zlet (zw (x_5 + 1)) fun x_15 =>
  g179 x_15 μ_14
def f_X10_layTree_J243 (x_5 : Int) (x_7 : Int) (g179 : Int → zMem → Option zMem) (x_9 : Int) (μ_10 : zMem) : Option zMem :=
  chk ((0 : Int) ≤ x_5 ∧ x_5 < 48) <|
  zlet (zup μ_10 123 x_5 x_9) fun μ_11 =>
  (f_X10_layTree_J259 x_5 μ_11 g179) (if x_7 = 0 then 0 else 1) μ_11
def f_X10_layTree_J222 (x_5 : Int) (g179 : Int → zMem → Option zMem) (x_7 : Int) (μ_8 : zMem) : Option zMem :=
  (f_X10_layTree_J243 x_5 x_7 g179) (if x_7 = 0 then (-4) else (μ_8 101 20)) μ_8
def f_X10_layTree_J221 (g222 : Int → zMem → Option zMem) (μ_16 : zMem) : Option zMem :=
  g222 0 μ_16
def f_X10_layTree_L179 (x1 : Int) : Nat → Int → zMem → Option zMem
  | 0, _, _ => none
  | n + 1, x_5, μ_6 =>
    chk ((0 : Int) ≤ x1 ∧ x1 < 3) <|
    if x_5 < (μ_6 103 x1) then
      chk ((0 : Int) ≤ (zw ((zw (48 * x1)) + x_5)) ∧ (zw ((zw (48 * x1)) + x_5)) < 144) <|
      chk ((0 : Int) ≤ (μ_6 105 (zw ((zw (48 * x1)) + x_5))) ∧ (μ_6 105 (zw ((zw (48 * x1)) + x_5))) < 32) <|
      if (μ_6 120 (μ_6 105 (zw ((zw (48 * x1)) + x_5)))) = 0 then
        (f_X10_layTree_J221 (f_X10_layTree_J222 x_5 (f_X10_layTree_L179 x1 n))) μ_6
      else
        chk ((0 : Int) ≤ x_5 ∧ x_5 < 48) <|
        if (μ_6 121 x_5) = 0 then
          (f_X10_layTree_J222 x_5 (f_X10_layTree_L179 x1 n)) 1 μ_6
        else
          (f_X10_layTree_J221 (f_X10_layTree_J222 x_5 (f_X10_layTree_L179 x1 n))) μ_6
    else
      some μ_6
def f_X10_layTree_K172 (x1 : Int) (μ_3 : zMem) : Option zMem :=
  zlet (zup μ_3 101 20 0) fun μ_4 =>
  (f_X10_layTree_L179 x1) zfu 0 μ_4
def f_X10_layTree_J166 (x_18 : Int) (g172 : zMem → Option zMem) (g50 : zMem → Option zMem) (μ_20 : zMem) : Option zMem :=
  if x_18 = (-4) then
    g172 μ_20
  else
    g50 μ_20
def f_X10_layTree_K119 (x1 : Int) (g172 : zMem → Option zMem) (g50 : zMem → Option zMem) (x_18 : Int) (μ_19 : zMem) : Option zMem :=
  if x_18 = (-4) then
    (f_X10_layTree_J166 x_18 g172 g50) μ_19
  else
    chk ((0 : Int) ≤ x_18 ∧ x_18 < 48) <|
    zlet (zup μ_19 121 x_18 (zz 1)) fun μ_21 =>
    chk ((0 : Int) ≤ (zw ((zw (48 * x1)) + x_18)) ∧ (zw ((zw (48 * x1)) + x_18)) < 144) <|
    chk ((0 : Int) ≤ (μ_21 105 (zw ((zw (48 * x1)) + x_18))) ∧ (μ_21 105 (zw ((zw (48 * x1)) + x_18))) < 32) <|
    zlet (zup μ_21 120 (μ_21 105 (zw ((zw (48 * x1)) + x_18))) (zz 1)) fun μ_22 =>
    chk ((0 : Int) ≤ (zw ((zw (48 * x1)) + x_18)) ∧ (zw ((zw (48 * x1)) + x_18)) < 144) <|
    chk ((0 : Int) ≤ (μ_22 106 (zw ((zw (48 * x1)) + x_18))) ∧ (μ_22 106 (zw ((zw (48 * x1)) + x_18))) < 32) <|
    zlet (zup μ_22 120 (μ_22 106 (zw ((zw (48 * x1)) + x_18))) (zz 1)) fun μ_23 =>
    (f_X10_layTree_J166 x_18 g172 g50) μ_23
def f_X10_layTree_J112 (x_25 : Int) (g55 : Int → Int → zMem → Option zMem) (x_27 : Int) (μ_28 : zMem) : Option zMem :=
  zlet (zw (x_25 + 1)) fun x_29 =>
  g55 x_27 x_29 μ_28
def f_X10_layTree_L55 (x1 : Int) (g119 : Int → zMem → Option zMem) : Nat → Int → Int → zMem → Option zMem
  | 0, _, _, _ => none
  | n + 1, x_24, x_25, μ_26 =>
    chk ((0 : Int) ≤ x1 ∧ x1 < 3) <|
    if x_25 < (μ_26 103 x1) then
      if x_24 = (-4) then
        chk ((0 : Int) ≤ (zw ((zw (48 * x1)) + x_25)) ∧ (zw ((zw (48 * x1)) + x_25)) < 144) <|
        chk ((0 : Int) ≤ (μ_26 105 (zw ((zw (48 * x1)) + x_25))) ∧ (μ_26 105 (zw ((zw (48 * x1)) + x_25))) < 32) <|
        chk ((0 : Int) ≤ (zw ((zw (48 * x1)) + x_25)) ∧ (zw ((zw (48 * x1)) + x_25)) < 144) <|
        chk ((0 : Int) ≤ (μ_26 106 (zw ((zw (48 * x1)) + x_25))) ∧ (μ_26 106 (zw ((zw (48 * x1)) + x_25))) < 32) <|
        (f_X10_layTree_J112 x_25 (f_X10_layTree_L55 x1 g119 n)) (if (μ_26 120 (μ_26 105 (zw ((zw (48 * x1)) + x_25)))) = (μ_26 120 (μ_26 106 (zw ((zw (48 * x1)) + x_25)))) then (-4) else x_25) μ_26
      else
        g119 x_24 μ_26
    else
      g119 x_24 μ_26
def f_X10_layTree_L50 (x1 : Int) (g172 : zMem → Option zMem) : Nat → zMem → Option zMem
  | 0, _ => none
  | n + 1, μ_17 =>
    (f_X10_layTree_L55 x1 (f_X10_layTree_K119 x1 g172 (f_X10_layTree_L50 x1 g172 n))) zfu (-4) 0 μ_17
def f_X10_layTree_K50 (x1 : Int) (μ_2 : zMem) : Option zMem :=
  (f_X10_layTree_L50 x1 (f_X10_layTree_K172 x1)) zfu μ_2
def f_X10_layTree_L31 (g50 : zMem → Option zMem) : Nat → Int → zMem → Option zMem
  | 0, _, _ => none
  | n + 1, x_30, μ_31 =>
    if x_30 < 48 then
      chk ((0 : Int) ≤ x_30 ∧ x_30 < 48) <|
      zlet (zup μ_31 121 x_30 (zz 0)) fun μ_32 =>
      zlet (zw (x_30 + 1)) fun x_33 =>
      (f_X10_layTree_L31 g50 n) x_33 μ_32
    else
      g50 μ_31
def f_X10_layTree_K29 (x1 : Int) (μ_1 : zMem) : Option zMem :=
  (f_X10_layTree_L31 (f_X10_layTree_K50 x1)) zfu 0 μ_1
def f_X10_layTree_J22 (x_34 : Int) (g2 : Int → zMem → Option zMem) (x_36 : Int) (μ_37 : zMem) : Option zMem :=
  chk ((0 : Int) ≤ x_34 ∧ x_34 < 32) <|
  zlet (zup μ_37 120 x_34 (zz x_36)) fun μ_38 =>
  zlet (zw (x_34 + 1)) fun x_39 =>
  g2 x_39 μ_38
def f_X10_layTree_L2 (g29 : zMem → Option zMem) : Nat → Int → zMem → Option zMem
  | 0, _, _ => none
  | n + 1, x_34, μ_35 =>
    if x_34 < 32 then
      (f_X10_layTree_J22 x_34 (f_X10_layTree_L2 g29 n)) (if x_34 = 0 then 1 else 0) μ_35
    else
      g29 μ_35
def f_X10_layTree (x1 : Int) (μ : zMem) : Option zMem :=
  (f_X10_layTree_L2 (f_X10_layTree_K29 x1)) zfu 0 μ
set_option maxHeartbeats 4000000 in
set_option maxRecDepth 100000 in
theorem M_X10_layTree {l : Launch} {Ω : zO} (hI : zIm Ω) (μ : zMem) (x1 : Int) {μ' : zMem} (gx1 : Rg x1) (h : f_X10_layTree x1 μ = some μ') : XMet l yX10_layTree cX10_layTree 5 none 0 Ω [zR Ω 101, zI x1] μ none True μ' := by
  refine XMet.ofV (by decide) (Nat.le_of_ble_eq_true rfl) ?_
  intro p e s m args below meth c ls Q C rt X hl
  have C : zC p s m args c cX10_layTree RX10 5 Ω := C
  have hl : lv_has ls 5 [(0, zR Ω 101), (1, zI x1)] := hl
  unfold f_X10_layTree at h
  skip
  refine z_iconst C dX10_layTree_0 ?_
  refine lv_istore_n C.1 C.2.1 (lv' := [(2, zI 0), (0, zR Ω 101), (1, zI x1)]) dX10_layTree_1 rfl hl (by decide) rfl (fun ls hl => ?_)
  have K29 : ∀ (μ_1 : zMem) (H : Heap) (locs : List Loc) (ls : Array Slot), zX Ω μ_1 (zfree Ω) s.heap H locs → lv_has ls 5 [(0, zR Ω 101), (1, zI x1)] → (f_X10_layTree_K29 x1) μ_1 = some μ' → W p l e (zrm 0) s m args below meth c H locs 0 0 Q (F0 m 29 ls []) := by
    intro μ_1 H locs ls  X hl h
    unfold f_X10_layTree_K29 at h
    refine z_iconst C dX10_layTree_29 ?_
    refine lv_istore_n C.1 C.2.1 (lv' := [(2, zI 0), (0, zR Ω 101), (1, zI x1)]) dX10_layTree_30 rfl hl (by decide) rfl (fun ls hl => ?_)
    have K50 : ∀ (μ_2 : zMem) (H : Heap) (locs : List Loc) (ls : Array Slot), zX Ω μ_2 (zfree Ω) s.heap H locs → lv_has ls 5 [(0, zR Ω 101), (1, zI x1)] → (f_X10_layTree_K50 x1) μ_2 = some μ' → W p l e (zrm 0) s m args below meth c H locs 0 0 Q (F0 m 50 ls []) := by
      intro μ_2 H locs ls  X hl h
      unfold f_X10_layTree_K50 at h
      have K172 : ∀ (μ_3 : zMem) (H : Heap) (locs : List Loc) (ls : Array Slot), zX Ω μ_3 (zfree Ω) s.heap H locs → lv_has ls 5 [(0, zR Ω 101), (1, zI x1)] → (f_X10_layTree_K172 x1) μ_3 = some μ' → W p l e (zrm 0) s m args below meth c H locs 0 0 Q (F0 m 172 ls []) := by
        intro μ_3 H locs ls  X hl h
        unfold f_X10_layTree_K172 at h
        refine lv_aload_n C.1 C.2.1 dX10_layTree_172 rfl (lv_at hl 0 rfl) ?_
        refine z_iconst C dX10_layTree_173 ?_
        refine zlet_elim h (fun μ_4 em h => ?_)
        refine z_putI C X zk10 (hI.1 101 (by decide)) rfl 20 (by decide) kw_1052 rfl rfl rfl rfl ⟨by decide, by decide⟩ em dX10_layTree_174 (fun H locs X => ?_)
        clear em
        refine z_iconst C dX10_layTree_177 ?_
        refine lv_istore_n C.1 C.2.1 (lv' := [(3, zI 0), (0, zR Ω 101), (1, zI x1)]) dX10_layTree_178 rfl hl (by decide) rfl (fun ls hl => ?_)
        have L179 : ∀ (n179 : Nat) (x_5 : Int) (μ_6 : zMem) (H : Heap) (locs : List Loc) (ls : Array Slot), Rg x_5 → zX Ω μ_6 (zfree Ω) s.heap H locs → lv_has ls 5 [(0, zR Ω 101), (1, zI x1), (3, zI x_5)] → (f_X10_layTree_L179 x1 n179 x_5 μ_6) = some μ' → W p l e (zrm 0) s m args below meth c H locs 0 0 Q (F0 m 179 ls []) := by
          intro n179
          induction n179 with
          | zero =>
            intro x_5 μ_6 H locs ls _ _ _ h
            cases h
          | succ n179 ih179 =>
            intro x_5 μ_6 H locs ls gx_5 X hl h
            unfold f_X10_layTree_L179 at h
            refine lv_iload_n C.1 C.2.1 dX10_layTree_179 rfl (lv_at hl 2 rfl) ?_
            refine lv_aload_n C.1 C.2.1 dX10_layTree_180 rfl (lv_at hl 0 rfl) ?_
            refine z_get C X zk10 (hI.1 101 (by decide)) rfl 1 (by decide) kw_1033 (zR Ω 103) (zfvF (off := 2) X.2.2.2 (hI.1 101 (by decide)) hI.2 rfl rfl (by decide)) dX10_layTree_181 ?_
            refine lv_iload_n C.1 C.2.1 dX10_layTree_184 rfl (lv_at hl 1 rfl) ?_
            obtain ⟨hc185, h⟩ := chk_some h
            have g_185 : Rg (μ_6 103 x1) := zrg1 X.2.2.2 (hI.1 103 (by decide)) rfl
            refine z_iald C X (hI.1 103 (by decide)) rfl hc185 dX10_layTree_185 ?_
            refine z_icmpge C gx_5 g_185 (tgt := 269) dX10_layTree_186 (by decide) (fun hc186 => ?_) (fun hc186 => ?_)
            · rw [if_neg hc186] at h
              obtain rfl := Option.some.inj h
              exact rt X dX10_layTree_269
            · rw [if_pos hc186] at h
              refine lv_aload_n C.1 C.2.1 dX10_layTree_189 rfl (lv_at hl 0 rfl) ?_
              refine z_get C X zk10 (hI.1 101 (by decide)) rfl 18 (by decide) kw_1050 (zR Ω 120) (zfvF (off := 19) X.2.2.2 (hI.1 101 (by decide)) hI.2 rfl rfl (by decide)) dX10_layTree_190 ?_
              refine lv_aload_n C.1 C.2.1 dX10_layTree_193 rfl (lv_at hl 0 rfl) ?_
              refine z_get C X zk10 (hI.1 101 (by decide)) rfl 3 (by decide) kw_1035 (zR Ω 105) (zfvF (off := 4) X.2.2.2 (hI.1 101 (by decide)) hI.2 rfl rfl (by decide)) dX10_layTree_194 ?_
              refine z_bipush C dX10_layTree_197 (by decide) ?_
              refine lv_iload_n C.1 C.2.1 dX10_layTree_199 rfl (lv_at hl 1 rfl) ?_
              refine z_imul C dX10_layTree_200 ?_
              refine lv_iload_n C.1 C.2.1 dX10_layTree_201 rfl (lv_at hl 2 rfl) ?_
              refine z_iadd C dX10_layTree_202 ?_
              obtain ⟨hc203, h⟩ := chk_some h
              have g_203 : Rg (μ_6 105 (zw ((zw (48 * x1)) + x_5))) := zrg1 X.2.2.2 (hI.1 105 (by decide)) rfl
              refine z_iald C X (hI.1 105 (by decide)) rfl hc203 dX10_layTree_203 ?_
              obtain ⟨hc204, h⟩ := chk_some h
              have g_204 : 0 ≤ (μ_6 120 (μ_6 105 (zw ((zw (48 * x1)) + x_5)))) ∧ (μ_6 120 (μ_6 105 (zw ((zw (48 * x1)) + x_5)))) ≤ 1 := zrg3 X.2.2.2 (hI.1 120 (by decide)) rfl
              refine z_zald C X (hI.1 120 (by decide)) rfl hc204 dX10_layTree_204 ?_
              have K222 : ∀ (x_7 : Int) (μ_8 : zMem) (H : Heap) (locs : List Loc) (ls : Array Slot), Rg x_7 → zX Ω μ_8 (zfree Ω) s.heap H locs → lv_has ls 5 [(0, zR Ω 101), (1, zI x1), (3, zI x_5)] → (f_X10_layTree_J222 x_5 (f_X10_layTree_L179 x1 n179)) x_7 μ_8 = some μ' → W p l e (zrm 0) s m args below meth c H locs 0 0 Q (F0 m 222 ls [zI x_7]) := by
                intro x_7 μ_8 H locs ls gx_7 X hl h
                unfold f_X10_layTree_J222 at h
                refine lv_istore C.1 C.2.1 (lv' := [(4, zI x_7), (0, zR Ω 101), (1, zI x1), (3, zI x_5)]) dX10_layTree_222 hl (by decide) rfl (fun ls hl => ?_)
                refine lv_aload_n C.1 C.2.1 dX10_layTree_224 rfl (lv_at hl 1 rfl) ?_
                refine z_get C X zk10 (hI.1 101 (by decide)) rfl 21 (by decide) kw_1053 (zR Ω 123) (zfvF (off := 22) X.2.2.2 (hI.1 101 (by decide)) hI.2 rfl rfl (by decide)) dX10_layTree_225 ?_
                refine lv_iload_n C.1 C.2.1 dX10_layTree_228 rfl (lv_at hl 3 rfl) ?_
                refine lv_iload C.1 C.2.1 dX10_layTree_229 (lv_at hl 0 rfl) ?_
                have K243 : ∀ (x_9 : Int) (μ_10 : zMem) (H : Heap) (locs : List Loc) (ls : Array Slot), Rg x_9 → zX Ω μ_10 (zfree Ω) s.heap H locs → lv_has ls 5 [(0, zR Ω 101), (1, zI x1), (3, zI x_5), (4, zI x_7)] → (f_X10_layTree_J243 x_5 x_7 (f_X10_layTree_L179 x1 n179)) x_9 μ_10 = some μ' → W p l e (zrm 0) s m args below meth c H locs 0 0 Q (F0 m 243 ls [zI x_9, zI x_5, zR Ω 123]) := by
                  intro x_9 μ_10 H locs ls gx_9 X hl h
                  unfold f_X10_layTree_J243 at h
                  obtain ⟨hc243, h⟩ := chk_some h
                  refine zlet_elim h (fun μ_11 em h => ?_)
                  refine z_iast C X (hI.1 123 (by decide)) rfl hc243 (zok1 rfl gx_9) em dX10_layTree_243 (fun H locs X => ?_)
                  clear em
                  refine lv_aload_n C.1 C.2.1 dX10_layTree_244 rfl (lv_at hl 0 rfl) ?_
                  refine lv_dup C.1 C.2.1 dX10_layTree_245 rfl ?_
                  have g_246 : Rg (μ_11 101 20) := zrgf0 (ci := 10) X.2.2.2 (hI.1 101 (by decide)) rfl 20 rfl
                  refine z_get C X zk10 (hI.1 101 (by decide)) rfl 20 (by decide) kw_1052 (zI (μ_11 101 20)) rfl dX10_layTree_246 ?_
                  refine lv_iload C.1 C.2.1 dX10_layTree_249 (lv_at hl 3 rfl) ?_
                  have K259 : ∀ (x_12 : Int) (μ_13 : zMem) (H : Heap) (locs : List Loc) (ls : Array Slot), Rg x_12 → zX Ω μ_13 (zfree Ω) s.heap H locs → lv_has ls 5 [(0, zR Ω 101), (1, zI x1), (3, zI x_5)] → (f_X10_layTree_J259 x_5 μ_11 (f_X10_layTree_L179 x1 n179)) x_12 μ_13 = some μ' → W p l e (zrm 0) s m args below meth c H locs 0 0 Q (F0 m 259 ls [zI x_12, zI (μ_11 101 20), zR Ω 101]) := by
                    intro x_12 μ_13 H locs ls gx_12 X hl h
                    unfold f_X10_layTree_J259 at h
                    refine z_iadd C dX10_layTree_259 ?_
                    refine zlet_elim h (fun μ_14 em h => ?_)
                    refine z_putI C X zk10 (hI.1 101 (by decide)) rfl 20 (by decide) kw_1052 rfl rfl rfl rfl (Rg.w _) em dX10_layTree_260 (fun H locs X => ?_)
                    clear em
                    refine zlet_elim h (fun x_15 ex_15 h => ?_)
                    have gx_15 : Rg x_15 := by rw [ex_15]; exact Rg.w _
                    refine z_iinc C ex_15 dX10_layTree_263 hl (k := 2) rfl (by decide) (lv' := [(3, zI x_15), (0, zR Ω 101), (1, zI x1)]) rfl (fun ls hl => ?_)
                    clear ex_15
                    refine lv_goto (tgt := 179) C.1 C.2.1 dX10_layTree_266 (by decide) ?_
                    exact ih179 x_15 μ_14 _ _ _ gx_15 X (lv_sub hl [1, 2, 0] rfl) h
                  refine z_ifeq C gx_7 (tgt := 258) dX10_layTree_251 (by decide) (fun hc251 => ?_) (fun hc251 => ?_)
                  · rw [if_pos hc251] at h
                    refine z_iconst C dX10_layTree_258 ?_
                    exact K259 0 μ_11 _ _ _ ⟨by decide, by decide⟩ X (lv_sub hl [0, 1, 2] rfl) h
                  · rw [if_neg hc251] at h
                    refine z_iconst C dX10_layTree_254 ?_
                    refine lv_goto (tgt := 259) C.1 C.2.1 dX10_layTree_255 (by decide) ?_
                    exact K259 1 μ_11 _ _ _ ⟨by decide, by decide⟩ X (lv_sub hl [0, 1, 2] rfl) h
                refine z_ifeq C gx_7 (tgt := 241) dX10_layTree_231 (by decide) (fun hc231 => ?_) (fun hc231 => ?_)
                · rw [if_pos hc231] at h
                  refine z_bipush C dX10_layTree_241 (by decide) ?_
                  exact K243 (-4) μ_8 _ _ _ ⟨by decide, by decide⟩ X (lv_sub hl [1, 2, 3, 0] rfl) h
                · rw [if_neg hc231] at h
                  refine lv_aload_n C.1 C.2.1 dX10_layTree_234 rfl (lv_at hl 1 rfl) ?_
                  have g_235 : Rg (μ_8 101 20) := zrgf0 (ci := 10) X.2.2.2 (hI.1 101 (by decide)) rfl 20 rfl
                  refine z_get C X zk10 (hI.1 101 (by decide)) rfl 20 (by decide) kw_1052 (zI (μ_8 101 20)) rfl dX10_layTree_235 ?_
                  refine lv_goto (tgt := 243) C.1 C.2.1 dX10_layTree_238 (by decide) ?_
                  exact K243 (μ_8 101 20) μ_8 _ _ _ g_235 X (lv_sub hl [1, 2, 3, 0] rfl) h
              have K221 : ∀ (μ_16 : zMem) (H : Heap) (locs : List Loc) (ls : Array Slot), zX Ω μ_16 (zfree Ω) s.heap H locs → lv_has ls 5 [(0, zR Ω 101), (1, zI x1), (3, zI x_5)] → (f_X10_layTree_J221 (f_X10_layTree_J222 x_5 (f_X10_layTree_L179 x1 n179))) μ_16 = some μ' → W p l e (zrm 0) s m args below meth c H locs 0 0 Q (F0 m 221 ls []) := by
                intro μ_16 H locs ls  X hl h
                unfold f_X10_layTree_J221 at h
                refine z_iconst C dX10_layTree_221 ?_
                exact K222 0 μ_16 _ _ _ ⟨by decide, by decide⟩ X (lv_sub hl [0, 1, 2] rfl) h
              refine z_ifeq C (rgz g_204) (tgt := 221) dX10_layTree_205 (by decide) (fun hc205 => ?_) (fun hc205 => ?_)
              · rw [if_pos hc205] at h
                exact K221 μ_6 _ _ _ X (lv_sub hl [0, 1, 2] rfl) h
              · rw [if_neg hc205] at h
                refine lv_aload_n C.1 C.2.1 dX10_layTree_208 rfl (lv_at hl 0 rfl) ?_
                refine z_get C X zk10 (hI.1 101 (by decide)) rfl 19 (by decide) kw_1051 (zR Ω 121) (zfvF (off := 20) X.2.2.2 (hI.1 101 (by decide)) hI.2 rfl rfl (by decide)) dX10_layTree_209 ?_
                refine lv_iload_n C.1 C.2.1 dX10_layTree_212 rfl (lv_at hl 2 rfl) ?_
                obtain ⟨hc213, h⟩ := chk_some h
                have g_213 : 0 ≤ (μ_6 121 x_5) ∧ (μ_6 121 x_5) ≤ 1 := zrg3 X.2.2.2 (hI.1 121 (by decide)) rfl
                refine z_zald C X (hI.1 121 (by decide)) rfl hc213 dX10_layTree_213 ?_
                refine z_ifne C (rgz g_213) (tgt := 221) dX10_layTree_214 (by decide) (fun hc214 => ?_) (fun hc214 => ?_)
                · rw [if_neg hc214] at h
                  exact K221 μ_6 _ _ _ X (lv_sub hl [0, 1, 2] rfl) h
                · rw [if_pos hc214] at h
                  refine z_iconst C dX10_layTree_217 ?_
                  refine lv_goto (tgt := 222) C.1 C.2.1 dX10_layTree_218 (by decide) ?_
                  exact K222 1 μ_6 _ _ _ ⟨by decide, by decide⟩ X (lv_sub hl [0, 1, 2] rfl) h
        exact L179 zfu 0 μ_4 _ _ _ ⟨by decide, by decide⟩ X (lv_sub hl [1, 2, 0] rfl) h
      have L50 : ∀ (n50 : Nat) (μ_17 : zMem) (H : Heap) (locs : List Loc) (ls : Array Slot), zX Ω μ_17 (zfree Ω) s.heap H locs → lv_has ls 5 [(0, zR Ω 101), (1, zI x1)] → (f_X10_layTree_L50 x1 (f_X10_layTree_K172 x1) n50 μ_17) = some μ' → W p l e (zrm 0) s m args below meth c H locs 0 0 Q (F0 m 50 ls []) := by
        intro n50
        induction n50 with
        | zero =>
          intro μ_17 H locs ls _ _ h
          cases h
        | succ n50 ih50 =>
          intro μ_17 H locs ls  X hl h
          unfold f_X10_layTree_L50 at h
          refine z_bipush C dX10_layTree_50 (by decide) ?_
          refine lv_istore_n C.1 C.2.1 (lv' := [(2, zI (-4)), (0, zR Ω 101), (1, zI x1)]) dX10_layTree_52 rfl hl (by decide) rfl (fun ls hl => ?_)
          refine z_iconst C dX10_layTree_53 ?_
          refine lv_istore_n C.1 C.2.1 (lv' := [(3, zI 0), (2, zI (-4)), (0, zR Ω 101), (1, zI x1)]) dX10_layTree_54 rfl hl (by decide) rfl (fun ls hl => ?_)
          have K119 : ∀ (x_18 : Int) (μ_19 : zMem) (H : Heap) (locs : List Loc) (ls : Array Slot), Rg x_18 → zX Ω μ_19 (zfree Ω) s.heap H locs → lv_has ls 5 [(0, zR Ω 101), (1, zI x1), (2, zI x_18)] → (f_X10_layTree_K119 x1 (f_X10_layTree_K172 x1) (f_X10_layTree_L50 x1 (f_X10_layTree_K172 x1) n50)) x_18 μ_19 = some μ' → W p l e (zrm 0) s m args below meth c H locs 0 0 Q (F0 m 119 ls []) := by
            intro x_18 μ_19 H locs ls gx_18 X hl h
            unfold f_X10_layTree_K119 at h
            refine lv_iload_n C.1 C.2.1 dX10_layTree_119 rfl (lv_at hl 2 rfl) ?_
            refine z_bipush C dX10_layTree_120 (by decide) ?_
            have K166 : ∀ (μ_20 : zMem) (H : Heap) (locs : List Loc) (ls : Array Slot), zX Ω μ_20 (zfree Ω) s.heap H locs → lv_has ls 5 [(0, zR Ω 101), (1, zI x1), (2, zI x_18)] → (f_X10_layTree_J166 x_18 (f_X10_layTree_K172 x1) (f_X10_layTree_L50 x1 (f_X10_layTree_K172 x1) n50)) μ_20 = some μ' → W p l e (zrm 0) s m args below meth c H locs 0 0 Q (F0 m 166 ls []) := by
              intro μ_20 H locs ls  X hl h
              unfold f_X10_layTree_J166 at h
              refine lv_iload_n C.1 C.2.1 dX10_layTree_166 rfl (lv_at hl 2 rfl) ?_
              refine z_bipush C dX10_layTree_167 (by decide) ?_
              refine z_icmpne C gx_18 ⟨by decide, by decide⟩ (tgt := 50) dX10_layTree_169 (by decide) (fun hc169 => ?_) (fun hc169 => ?_)
              · rw [if_neg hc169] at h
                exact ih50 μ_20 _ _ _ X (lv_sub hl [0, 1] rfl) h
              · rw [if_pos hc169] at h
                exact K172 μ_20 _ _ _ X (lv_sub hl [0, 1] rfl) h
            refine z_icmpeq C gx_18 ⟨by decide, by decide⟩ (tgt := 166) dX10_layTree_122 (by decide) (fun hc122 => ?_) (fun hc122 => ?_)
            · rw [if_pos hc122] at h
              exact K166 μ_19 _ _ _ X (lv_sub hl [0, 1, 2] rfl) h
            · rw [if_neg hc122] at h
              refine lv_aload_n C.1 C.2.1 dX10_layTree_125 rfl (lv_at hl 0 rfl) ?_
              refine z_get C X zk10 (hI.1 101 (by decide)) rfl 19 (by decide) kw_1051 (zR Ω 121) (zfvF (off := 20) X.2.2.2 (hI.1 101 (by decide)) hI.2 rfl rfl (by decide)) dX10_layTree_126 ?_
              refine lv_iload_n C.1 C.2.1 dX10_layTree_129 rfl (lv_at hl 2 rfl) ?_
              refine z_iconst C dX10_layTree_130 ?_
              obtain ⟨hc131, h⟩ := chk_some h
              refine zlet_elim h (fun μ_21 em h => ?_)
              refine z_zast C X (hI.1 121 (by decide)) rfl hc131 (zok3 rfl) em dX10_layTree_131 (fun H locs X => ?_)
              clear em
              refine lv_aload_n C.1 C.2.1 dX10_layTree_132 rfl (lv_at hl 0 rfl) ?_
              refine z_get C X zk10 (hI.1 101 (by decide)) rfl 18 (by decide) kw_1050 (zR Ω 120) (zfvF (off := 19) X.2.2.2 (hI.1 101 (by decide)) hI.2 rfl rfl (by decide)) dX10_layTree_133 ?_
              refine lv_aload_n C.1 C.2.1 dX10_layTree_136 rfl (lv_at hl 0 rfl) ?_
              refine z_get C X zk10 (hI.1 101 (by decide)) rfl 3 (by decide) kw_1035 (zR Ω 105) (zfvF (off := 4) X.2.2.2 (hI.1 101 (by decide)) hI.2 rfl rfl (by decide)) dX10_layTree_137 ?_
              refine z_bipush C dX10_layTree_140 (by decide) ?_
              refine lv_iload_n C.1 C.2.1 dX10_layTree_142 rfl (lv_at hl 1 rfl) ?_
              refine z_imul C dX10_layTree_143 ?_
              refine lv_iload_n C.1 C.2.1 dX10_layTree_144 rfl (lv_at hl 2 rfl) ?_
              refine z_iadd C dX10_layTree_145 ?_
              obtain ⟨hc146, h⟩ := chk_some h
              have g_146 : Rg (μ_21 105 (zw ((zw (48 * x1)) + x_18))) := zrg1 X.2.2.2 (hI.1 105 (by decide)) rfl
              refine z_iald C X (hI.1 105 (by decide)) rfl hc146 dX10_layTree_146 ?_
              refine z_iconst C dX10_layTree_147 ?_
              obtain ⟨hc148, h⟩ := chk_some h
              refine zlet_elim h (fun μ_22 em h => ?_)
              refine z_zast C X (hI.1 120 (by decide)) rfl hc148 (zok3 rfl) em dX10_layTree_148 (fun H locs X => ?_)
              clear em
              refine lv_aload_n C.1 C.2.1 dX10_layTree_149 rfl (lv_at hl 0 rfl) ?_
              refine z_get C X zk10 (hI.1 101 (by decide)) rfl 18 (by decide) kw_1050 (zR Ω 120) (zfvF (off := 19) X.2.2.2 (hI.1 101 (by decide)) hI.2 rfl rfl (by decide)) dX10_layTree_150 ?_
              refine lv_aload_n C.1 C.2.1 dX10_layTree_153 rfl (lv_at hl 0 rfl) ?_
              refine z_get C X zk10 (hI.1 101 (by decide)) rfl 4 (by decide) kw_1036 (zR Ω 106) (zfvF (off := 5) X.2.2.2 (hI.1 101 (by decide)) hI.2 rfl rfl (by decide)) dX10_layTree_154 ?_
              refine z_bipush C dX10_layTree_157 (by decide) ?_
              refine lv_iload_n C.1 C.2.1 dX10_layTree_159 rfl (lv_at hl 1 rfl) ?_
              refine z_imul C dX10_layTree_160 ?_
              refine lv_iload_n C.1 C.2.1 dX10_layTree_161 rfl (lv_at hl 2 rfl) ?_
              refine z_iadd C dX10_layTree_162 ?_
              obtain ⟨hc163, h⟩ := chk_some h
              have g_163 : Rg (μ_22 106 (zw ((zw (48 * x1)) + x_18))) := zrg1 X.2.2.2 (hI.1 106 (by decide)) rfl
              refine z_iald C X (hI.1 106 (by decide)) rfl hc163 dX10_layTree_163 ?_
              refine z_iconst C dX10_layTree_164 ?_
              obtain ⟨hc165, h⟩ := chk_some h
              refine zlet_elim h (fun μ_23 em h => ?_)
              refine z_zast C X (hI.1 120 (by decide)) rfl hc165 (zok3 rfl) em dX10_layTree_165 (fun H locs X => ?_)
              clear em
              exact K166 μ_23 _ _ _ X (lv_sub hl [0, 1, 2] rfl) h
          have L55 : ∀ (n55 : Nat) (x_24 : Int) (x_25 : Int) (μ_26 : zMem) (H : Heap) (locs : List Loc) (ls : Array Slot), Rg x_24 → Rg x_25 → zX Ω μ_26 (zfree Ω) s.heap H locs → lv_has ls 5 [(0, zR Ω 101), (1, zI x1), (2, zI x_24), (3, zI x_25)] → (f_X10_layTree_L55 x1 (f_X10_layTree_K119 x1 (f_X10_layTree_K172 x1) (f_X10_layTree_L50 x1 (f_X10_layTree_K172 x1) n50)) n55 x_24 x_25 μ_26) = some μ' → W p l e (zrm 0) s m args below meth c H locs 0 0 Q (F0 m 55 ls []) := by
            intro n55
            induction n55 with
            | zero =>
              intro x_24 x_25 μ_26 H locs ls _ _ _ _ h
              cases h
            | succ n55 ih55 =>
              intro x_24 x_25 μ_26 H locs ls gx_24 gx_25 X hl h
              unfold f_X10_layTree_L55 at h
              refine lv_iload_n C.1 C.2.1 dX10_layTree_55 rfl (lv_at hl 3 rfl) ?_
              refine lv_aload_n C.1 C.2.1 dX10_layTree_56 rfl (lv_at hl 0 rfl) ?_
              refine z_get C X zk10 (hI.1 101 (by decide)) rfl 1 (by decide) kw_1033 (zR Ω 103) (zfvF (off := 2) X.2.2.2 (hI.1 101 (by decide)) hI.2 rfl rfl (by decide)) dX10_layTree_57 ?_
              refine lv_iload_n C.1 C.2.1 dX10_layTree_60 rfl (lv_at hl 1 rfl) ?_
              obtain ⟨hc61, h⟩ := chk_some h
              have g_61 : Rg (μ_26 103 x1) := zrg1 X.2.2.2 (hI.1 103 (by decide)) rfl
              refine z_iald C X (hI.1 103 (by decide)) rfl hc61 dX10_layTree_61 ?_
              refine z_icmpge C gx_25 g_61 (tgt := 119) dX10_layTree_62 (by decide) (fun hc62 => ?_) (fun hc62 => ?_)
              · rw [if_neg hc62] at h
                exact K119 x_24 μ_26 _ _ _ gx_24 X (lv_sub hl [0, 1, 2] rfl) h
              · rw [if_pos hc62] at h
                refine lv_iload_n C.1 C.2.1 dX10_layTree_65 rfl (lv_at hl 2 rfl) ?_
                refine z_bipush C dX10_layTree_66 (by decide) ?_
                refine z_icmpne C gx_24 ⟨by decide, by decide⟩ (tgt := 119) dX10_layTree_68 (by decide) (fun hc68 => ?_) (fun hc68 => ?_)
                · rw [if_neg hc68] at h
                  exact K119 x_24 μ_26 _ _ _ gx_24 X (lv_sub hl [0, 1, 2] rfl) h
                · rw [if_pos hc68] at h
                  refine lv_aload_n C.1 C.2.1 dX10_layTree_71 rfl (lv_at hl 0 rfl) ?_
                  refine z_get C X zk10 (hI.1 101 (by decide)) rfl 18 (by decide) kw_1050 (zR Ω 120) (zfvF (off := 19) X.2.2.2 (hI.1 101 (by decide)) hI.2 rfl rfl (by decide)) dX10_layTree_72 ?_
                  refine lv_aload_n C.1 C.2.1 dX10_layTree_75 rfl (lv_at hl 0 rfl) ?_
                  refine z_get C X zk10 (hI.1 101 (by decide)) rfl 3 (by decide) kw_1035 (zR Ω 105) (zfvF (off := 4) X.2.2.2 (hI.1 101 (by decide)) hI.2 rfl rfl (by decide)) dX10_layTree_76 ?_
                  refine z_bipush C dX10_layTree_79 (by decide) ?_
                  refine lv_iload_n C.1 C.2.1 dX10_layTree_81 rfl (lv_at hl 1 rfl) ?_
                  refine z_imul C dX10_layTree_82 ?_
                  refine lv_iload_n C.1 C.2.1 dX10_layTree_83 rfl (lv_at hl 3 rfl) ?_
                  refine z_iadd C dX10_layTree_84 ?_
                  obtain ⟨hc85, h⟩ := chk_some h
                  have g_85 : Rg (μ_26 105 (zw ((zw (48 * x1)) + x_25))) := zrg1 X.2.2.2 (hI.1 105 (by decide)) rfl
                  refine z_iald C X (hI.1 105 (by decide)) rfl hc85 dX10_layTree_85 ?_
                  obtain ⟨hc86, h⟩ := chk_some h
                  have g_86 : 0 ≤ (μ_26 120 (μ_26 105 (zw ((zw (48 * x1)) + x_25)))) ∧ (μ_26 120 (μ_26 105 (zw ((zw (48 * x1)) + x_25)))) ≤ 1 := zrg3 X.2.2.2 (hI.1 120 (by decide)) rfl
                  refine z_zald C X (hI.1 120 (by decide)) rfl hc86 dX10_layTree_86 ?_
                  refine lv_aload_n C.1 C.2.1 dX10_layTree_87 rfl (lv_at hl 0 rfl) ?_
                  refine z_get C X zk10 (hI.1 101 (by decide)) rfl 18 (by decide) kw_1050 (zR Ω 120) (zfvF (off := 19) X.2.2.2 (hI.1 101 (by decide)) hI.2 rfl rfl (by decide)) dX10_layTree_88 ?_
                  refine lv_aload_n C.1 C.2.1 dX10_layTree_91 rfl (lv_at hl 0 rfl) ?_
                  refine z_get C X zk10 (hI.1 101 (by decide)) rfl 4 (by decide) kw_1036 (zR Ω 106) (zfvF (off := 5) X.2.2.2 (hI.1 101 (by decide)) hI.2 rfl rfl (by decide)) dX10_layTree_92 ?_
                  refine z_bipush C dX10_layTree_95 (by decide) ?_
                  refine lv_iload_n C.1 C.2.1 dX10_layTree_97 rfl (lv_at hl 1 rfl) ?_
                  refine z_imul C dX10_layTree_98 ?_
                  refine lv_iload_n C.1 C.2.1 dX10_layTree_99 rfl (lv_at hl 3 rfl) ?_
                  refine z_iadd C dX10_layTree_100 ?_
                  obtain ⟨hc101, h⟩ := chk_some h
                  have g_101 : Rg (μ_26 106 (zw ((zw (48 * x1)) + x_25))) := zrg1 X.2.2.2 (hI.1 106 (by decide)) rfl
                  refine z_iald C X (hI.1 106 (by decide)) rfl hc101 dX10_layTree_101 ?_
                  obtain ⟨hc102, h⟩ := chk_some h
                  have g_102 : 0 ≤ (μ_26 120 (μ_26 106 (zw ((zw (48 * x1)) + x_25)))) ∧ (μ_26 120 (μ_26 106 (zw ((zw (48 * x1)) + x_25)))) ≤ 1 := zrg3 X.2.2.2 (hI.1 120 (by decide)) rfl
                  refine z_zald C X (hI.1 120 (by decide)) rfl hc102 dX10_layTree_102 ?_
                  have K112 : ∀ (x_27 : Int) (μ_28 : zMem) (H : Heap) (locs : List Loc) (ls : Array Slot), Rg x_27 → zX Ω μ_28 (zfree Ω) s.heap H locs → lv_has ls 5 [(0, zR Ω 101), (1, zI x1), (3, zI x_25)] → (f_X10_layTree_J112 x_25 (f_X10_layTree_L55 x1 (f_X10_layTree_K119 x1 (f_X10_layTree_K172 x1) (f_X10_layTree_L50 x1 (f_X10_layTree_K172 x1) n50)) n55)) x_27 μ_28 = some μ' → W p l e (zrm 0) s m args below meth c H locs 0 0 Q (F0 m 112 ls [zI x_27]) := by
                    intro x_27 μ_28 H locs ls gx_27 X hl h
                    unfold f_X10_layTree_J112 at h
                    refine lv_istore_n C.1 C.2.1 (lv' := [(2, zI x_27), (0, zR Ω 101), (1, zI x1), (3, zI x_25)]) dX10_layTree_112 rfl hl (by decide) rfl (fun ls hl => ?_)
                    refine zlet_elim h (fun x_29 ex_29 h => ?_)
                    have gx_29 : Rg x_29 := by rw [ex_29]; exact Rg.w _
                    refine z_iinc C ex_29 dX10_layTree_113 hl (k := 3) rfl (by decide) (lv' := [(3, zI x_29), (2, zI x_27), (0, zR Ω 101), (1, zI x1)]) rfl (fun ls hl => ?_)
                    clear ex_29
                    refine lv_goto (tgt := 55) C.1 C.2.1 dX10_layTree_116 (by decide) ?_
                    exact ih55 x_27 x_29 μ_28 _ _ _ gx_27 gx_29 X (lv_sub hl [2, 3, 1, 0] rfl) h
                  refine z_icmpeq C (rgz g_86) (rgz g_102) (tgt := 110) dX10_layTree_103 (by decide) (fun hc103 => ?_) (fun hc103 => ?_)
                  · rw [if_pos hc103] at h
                    refine z_bipush C dX10_layTree_110 (by decide) ?_
                    exact K112 (-4) μ_26 _ _ _ ⟨by decide, by decide⟩ X (lv_sub hl [0, 1, 3] rfl) h
                  · rw [if_neg hc103] at h
                    refine lv_iload_n C.1 C.2.1 dX10_layTree_106 rfl (lv_at hl 3 rfl) ?_
                    refine lv_goto (tgt := 112) C.1 C.2.1 dX10_layTree_107 (by decide) ?_
                    exact K112 x_25 μ_26 _ _ _ gx_25 X (lv_sub hl [0, 1, 3] rfl) h
          exact L55 zfu (-4) 0 μ_17 _ _ _ ⟨by decide, by decide⟩ ⟨by decide, by decide⟩ X (lv_sub hl [2, 3, 1, 0] rfl) h
      exact L50 zfu μ_2 _ _ _ X (lv_sub hl [0, 1] rfl) h
    have L31 : ∀ (n31 : Nat) (x_30 : Int) (μ_31 : zMem) (H : Heap) (locs : List Loc) (ls : Array Slot), Rg x_30 → zX Ω μ_31 (zfree Ω) s.heap H locs → lv_has ls 5 [(0, zR Ω 101), (1, zI x1), (2, zI x_30)] → (f_X10_layTree_L31 (f_X10_layTree_K50 x1) n31 x_30 μ_31) = some μ' → W p l e (zrm 0) s m args below meth c H locs 0 0 Q (F0 m 31 ls []) := by
      intro n31
      induction n31 with
      | zero =>
        intro x_30 μ_31 H locs ls _ _ _ h
        cases h
      | succ n31 ih31 =>
        intro x_30 μ_31 H locs ls gx_30 X hl h
        unfold f_X10_layTree_L31 at h
        refine lv_iload_n C.1 C.2.1 dX10_layTree_31 rfl (lv_at hl 2 rfl) ?_
        refine z_bipush C dX10_layTree_32 (by decide) ?_
        refine z_icmpge C gx_30 ⟨by decide, by decide⟩ (tgt := 50) dX10_layTree_34 (by decide) (fun hc34 => ?_) (fun hc34 => ?_)
        · rw [if_neg hc34] at h
          exact K50 μ_31 _ _ _ X (lv_sub hl [0, 1] rfl) h
        · rw [if_pos hc34] at h
          refine lv_aload_n C.1 C.2.1 dX10_layTree_37 rfl (lv_at hl 0 rfl) ?_
          refine z_get C X zk10 (hI.1 101 (by decide)) rfl 19 (by decide) kw_1051 (zR Ω 121) (zfvF (off := 20) X.2.2.2 (hI.1 101 (by decide)) hI.2 rfl rfl (by decide)) dX10_layTree_38 ?_
          refine lv_iload_n C.1 C.2.1 dX10_layTree_41 rfl (lv_at hl 2 rfl) ?_
          refine z_iconst C dX10_layTree_42 ?_
          obtain ⟨hc43, h⟩ := chk_some h
          refine zlet_elim h (fun μ_32 em h => ?_)
          refine z_zast C X (hI.1 121 (by decide)) rfl hc43 (zok3 rfl) em dX10_layTree_43 (fun H locs X => ?_)
          clear em
          refine zlet_elim h (fun x_33 ex_33 h => ?_)
          have gx_33 : Rg x_33 := by rw [ex_33]; exact Rg.w _
          refine z_iinc C ex_33 dX10_layTree_44 hl (k := 2) rfl (by decide) (lv' := [(2, zI x_33), (0, zR Ω 101), (1, zI x1)]) rfl (fun ls hl => ?_)
          clear ex_33
          refine lv_goto (tgt := 31) C.1 C.2.1 dX10_layTree_47 (by decide) ?_
          exact ih31 x_33 μ_32 _ _ _ gx_33 X (lv_sub hl [1, 2, 0] rfl) h
    exact L31 zfu 0 μ_1 _ _ _ ⟨by decide, by decide⟩ X (lv_sub hl [1, 2, 0] rfl) h
  have L2 : ∀ (n2 : Nat) (x_34 : Int) (μ_35 : zMem) (H : Heap) (locs : List Loc) (ls : Array Slot), Rg x_34 → zX Ω μ_35 (zfree Ω) s.heap H locs → lv_has ls 5 [(0, zR Ω 101), (1, zI x1), (2, zI x_34)] → (f_X10_layTree_L2 (f_X10_layTree_K29 x1) n2 x_34 μ_35) = some μ' → W p l e (zrm 0) s m args below meth c H locs 0 0 Q (F0 m 2 ls []) := by
    intro n2
    induction n2 with
    | zero =>
      intro x_34 μ_35 H locs ls _ _ _ h
      cases h
    | succ n2 ih2 =>
      intro x_34 μ_35 H locs ls gx_34 X hl h
      unfold f_X10_layTree_L2 at h
      refine lv_iload_n C.1 C.2.1 dX10_layTree_2 rfl (lv_at hl 2 rfl) ?_
      refine z_bipush C dX10_layTree_3 (by decide) ?_
      refine z_icmpge C gx_34 ⟨by decide, by decide⟩ (tgt := 29) dX10_layTree_5 (by decide) (fun hc5 => ?_) (fun hc5 => ?_)
      · rw [if_neg hc5] at h
        exact K29 μ_35 _ _ _ X (lv_sub hl [0, 1] rfl) h
      · rw [if_pos hc5] at h
        refine lv_aload_n C.1 C.2.1 dX10_layTree_8 rfl (lv_at hl 0 rfl) ?_
        refine z_get C X zk10 (hI.1 101 (by decide)) rfl 18 (by decide) kw_1050 (zR Ω 120) (zfvF (off := 19) X.2.2.2 (hI.1 101 (by decide)) hI.2 rfl rfl (by decide)) dX10_layTree_9 ?_
        refine lv_iload_n C.1 C.2.1 dX10_layTree_12 rfl (lv_at hl 2 rfl) ?_
        refine lv_iload_n C.1 C.2.1 dX10_layTree_13 rfl (lv_at hl 2 rfl) ?_
        have K22 : ∀ (x_36 : Int) (μ_37 : zMem) (H : Heap) (locs : List Loc) (ls : Array Slot), Rg x_36 → zX Ω μ_37 (zfree Ω) s.heap H locs → lv_has ls 5 [(0, zR Ω 101), (1, zI x1), (2, zI x_34)] → (f_X10_layTree_J22 x_34 (f_X10_layTree_L2 (f_X10_layTree_K29 x1) n2)) x_36 μ_37 = some μ' → W p l e (zrm 0) s m args below meth c H locs 0 0 Q (F0 m 22 ls [zI x_36, zI x_34, zR Ω 120]) := by
          intro x_36 μ_37 H locs ls gx_36 X hl h
          unfold f_X10_layTree_J22 at h
          obtain ⟨hc22, h⟩ := chk_some h
          refine zlet_elim h (fun μ_38 em h => ?_)
          refine z_zast C X (hI.1 120 (by decide)) rfl hc22 (zok3 rfl) em dX10_layTree_22 (fun H locs X => ?_)
          clear em
          refine zlet_elim h (fun x_39 ex_39 h => ?_)
          have gx_39 : Rg x_39 := by rw [ex_39]; exact Rg.w _
          refine z_iinc C ex_39 dX10_layTree_23 hl (k := 2) rfl (by decide) (lv' := [(2, zI x_39), (0, zR Ω 101), (1, zI x1)]) rfl (fun ls hl => ?_)
          clear ex_39
          refine lv_goto (tgt := 2) C.1 C.2.1 dX10_layTree_26 (by decide) ?_
          exact ih2 x_39 μ_38 _ _ _ gx_39 X (lv_sub hl [1, 2, 0] rfl) h
        refine z_ifne C gx_34 (tgt := 21) dX10_layTree_14 (by decide) (fun hc14 => ?_) (fun hc14 => ?_)
        · rw [if_neg hc14] at h
          refine z_iconst C dX10_layTree_21 ?_
          exact K22 0 μ_35 _ _ _ ⟨by decide, by decide⟩ X (lv_sub hl [0, 1, 2] rfl) h
        · rw [if_pos hc14] at h
          refine z_iconst C dX10_layTree_17 ?_
          refine lv_goto (tgt := 22) C.1 C.2.1 dX10_layTree_18 (by decide) ?_
          exact K22 1 μ_35 _ _ _ ⟨by decide, by decide⟩ X (lv_sub hl [0, 1, 2] rfl) h
  exact L2 zfu 0 μ _ _ _ ⟨by decide, by decide⟩ X (lv_sub hl [1, 2, 0] rfl) h
theorem zc_X10_layTree : zcal yX10_layTree cX10_layTree 5 none RX10 1 := ⟨⟨kw_1312, kw_1311, kp_69, kw_12⟩, rfl, by decide, by decide, by decide +kernel⟩

