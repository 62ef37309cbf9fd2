def f_X5_startOf (t0 : Int) (x1 : Int) (μ : zMem) : Option Int :=
  if (zand x1 1) = 0 then
    chk ((0 : Int) ≤ (zshr x1 1) ∧ (zshr x1 1) < zlen (t0 + 1)) <|
    some (μ (t0 + 1) (zshr x1 1))
  else
    chk ((0 : Int) ≤ (zshr x1 1) ∧ (zshr x1 1) < zlen (t0 + 2)) <|
    some (μ (t0 + 2) (zshr x1 1))
set_option maxHeartbeats 4000000 in
set_option maxRecDepth 100000 in
theorem M_X5_startOf {l : Launch} {Ω : zO} (μ : zMem) (t0 : Int) (x1 : Int) {r : Int} (o_t0 : zob Ω.2.2.1 5 t0) (gx1 : Rg x1) (h : f_X5_startOf t0 x1 μ = some r) : XMet l yX5_startOf cX5_startOf 2 (some Jvm.ClassFile.FieldType.int) 0 Ω [zR Ω t0, zI x1] μ (some (zI r)) (Rg r) μ := by
  refine XMet.ofI (by decide) (Nat.le_of_ble_eq_true rfl) ?_
  intro p e s m args below meth c ls Q C rt X hl
  have C : zC p s m args c cX5_startOf RX5 2 Ω := C
  have hl : lv_has ls 2 [(0, zR Ω t0), (1, zI x1)] := hl
  unfold f_X5_startOf at h
  skip
  refine lv_iload_n C.1 C.2.1 dX5_startOf_0 rfl (lv_at hl 1 rfl) ?_
  refine z_iconst C dX5_startOf_1 ?_
  refine z_iand C dX5_startOf_2 ?_
  refine z_ifne C (Rg.t _) (tgt := 17) dX5_startOf_3 (by decide) (fun hc3 => ?_) (fun hc3 => ?_)
  · rw [if_neg hc3] at h
    refine lv_aload_n C.1 C.2.1 dX5_startOf_17 rfl (lv_at hl 0 rfl) ?_
    refine z_get C X zk5 (zob.self o_t0) (zo5 o_t0) 1 (by decide) kw_60 (zR Ω (t0 + 2)) (zfvF (off := 2) X.2.2.2 (zob.self o_t0) o_t0.2.2 (zo5 o_t0) rfl (by rw [zo5_2 o_t0]; decide)) dX5_startOf_18 ?_
    refine lv_iload_n C.1 C.2.1 dX5_startOf_21 rfl (lv_at hl 1 rfl) ?_
    refine z_iconst C dX5_startOf_22 ?_
    refine z_ishr C dX5_startOf_23 ?_
    obtain ⟨hc24, h⟩ := chk_some h
    have g_24 : Rg (μ (t0 + 2) (zshr x1 1)) := zrg1 X.2.2.2 (o_t0.2.1 2 (by decide) (by decide)) (zo5_2 o_t0)
    refine z_iald C X (o_t0.2.1 2 (by decide) (by decide)) (zo5_2 o_t0) hc24 dX5_startOf_24 ?_
    obtain rfl := Option.some.inj h
    exact rt X g_24 dX5_startOf_25
  · rw [if_pos hc3] at h
    refine lv_aload_n C.1 C.2.1 dX5_startOf_6 rfl (lv_at hl 0 rfl) ?_
    refine z_get C X zk5 (zob.self o_t0) (zo5 o_t0) 0 (by decide) kw_56 (zR Ω (t0 + 1)) (zfvF (off := 1) X.2.2.2 (zob.self o_t0) o_t0.2.2 (zo5 o_t0) rfl (by rw [zo5_1 o_t0]; decide)) dX5_startOf_7 ?_
    refine lv_iload_n C.1 C.2.1 dX5_startOf_10 rfl (lv_at hl 1 rfl) ?_
    refine z_iconst C dX5_startOf_11 ?_
    refine z_ishr C dX5_startOf_12 ?_
    obtain ⟨hc13, h⟩ := chk_some h
    have g_13 : Rg (μ (t0 + 1) (zshr x1 1)) := zrg1 X.2.2.2 (o_t0.2.1 1 (by decide) (by decide)) (zo5_1 o_t0)
    refine z_iald C X (o_t0.2.1 1 (by decide) (by decide)) (zo5_1 o_t0) hc13 dX5_startOf_13 ?_
    refine lv_goto (tgt := 25) C.1 C.2.1 dX5_startOf_14 (by decide) ?_
    obtain rfl := Option.some.inj h
    exact rt X g_13 dX5_startOf_25
theorem zc_X5_startOf : zcal yX5_startOf cX5_startOf 2 (some Jvm.ClassFile.FieldType.int) RX5 1 := ⟨⟨kw_496, kw_494, kw_495, kw_3⟩, rfl, by decide, by decide, by decide +kernel⟩

def f_X0_drawAll_K125 (x1 : Int) (x2 : Int) (x_2 : Int) (x_3 : Int) (g9 : Int → Int → zMem → Option zMem) (μ_5 : zMem) : Option zMem :=
  if x_3 < (μ_5 x2 2) then
    chk ((0 : Int) ≤ x_3 ∧ x_3 < zlen (x2 + 1)) <|
    bnd (f_X5_endOf x1 (μ_5 (x2 + 1) x_3) μ_5) fun x_7 =>
    zlet (zw (x_3 + 1)) fun x_8 =>
    g9 x_7 x_8 μ_5
  else
    zlet (zw (x_3 + 1)) fun x_6 =>
    g9 x_2 x_6 μ_5
def f_X0_drawAll_K119 (x_9 : Int) (g21 : Int → zMem → Option zMem) (μ_11 : zMem) : Option zMem :=
  zlet (zw (x_9 + 1)) fun x_12 =>
  g21 x_12 μ_11
def f_X0_drawAll_J84 (x1 : Int) (x2 : Int) (x3 : Int) (x_2 : Int) (x_3 : Int) (x_9 : Int) (x_13 : Int) (x_15 : Int) (g33 : Int → zMem → Option zMem) (μ_17 : zMem) : Option zMem :=
  bnd (f_X5_endOf x1 x_15 μ_17) fun x_18 =>
  if x_18 = x_2 then
    bnd (f_X0_draw x1 x2 x_3 x_9 x_13 1 μ_17) fun μ_20 =>
    bnd (f_X0_meet x3 μ_20) fun μ_21 =>
    zlet (zw (x_13 + 1)) fun x_22 =>
    g33 x_22 μ_21
  else
    zlet (zw (x_13 + 1)) fun x_19 =>
    g33 x_19 μ_17
def f_X0_drawAll_L33 (x1 : Int) (x2 : Int) (x3 : Int) (x_2 : Int) (x_3 : Int) (x_9 : Int) (g119 : zMem → Option zMem) : Nat → Int → zMem → Option zMem
  | 0, _, _ => none
  | n + 1, x_13, μ_14 =>
    chk ((0 : Int) ≤ x_9 ∧ x_9 < zlen (x1 + 6)) <|
    if x_13 < (μ_14 (x1 + 6) x_9) then
      bnd (f_X5_rimStep x1 x_9 x_13 μ_14) fun x_15 =>
      bnd (f_X5_startOf x1 x_15 μ_14) fun x_16 =>
      if x_16 = x_2 then
        bnd (f_X0_draw x1 x2 x_3 x_9 x_13 0 μ_14) fun μ_23 =>
        bnd (f_X0_meet x3 μ_23) fun μ_24 =>
        (f_X0_drawAll_J84 x1 x2 x3 x_2 x_3 x_9 x_13 x_15 (f_X0_drawAll_L33 x1 x2 x3 x_2 x_3 x_9 g119 n)) μ_24
      else
        (f_X0_drawAll_J84 x1 x2 x3 x_2 x_3 x_9 x_13 x_15 (f_X0_drawAll_L33 x1 x2 x3 x_2 x_3 x_9 g119 n)) μ_14
    else
      g119 μ_14
def f_X0_drawAll_L21 (x1 : Int) (x2 : Int) (x3 : Int) (x_2 : Int) (x_3 : Int) (g125 : zMem → Option zMem) : Nat → Int → zMem → Option zMem
  | 0, _, _ => none
  | n + 1, x_9, μ_10 =>
    if x_9 < (μ_10 x1 8) then
      (f_X0_drawAll_L33 x1 x2 x3 x_2 x_3 x_9 (f_X0_drawAll_K119 x_9 (f_X0_drawAll_L21 x1 x2 x3 x_2 x_3 g125 n))) zfu 0 μ_10
    else
      g125 μ_10
def f_X0_drawAll_L9 (x1 : Int) (x2 : Int) (x3 : Int) : Nat → Int → Int → zMem → Option zMem
  | 0, _, _, _ => none
  | n + 1, x_2, x_3, μ_4 =>
    if x_3 ≤ (μ_4 x2 2) then
      (f_X0_drawAll_L21 x1 x2 x3 x_2 x_3 (f_X0_drawAll_K125 x1 x2 x_2 x_3 (f_X0_drawAll_L9 x1 x2 x3 n))) zfu 0 μ_4
    else
      some μ_4
def f_X0_drawAll (x1 : Int) (x2 : Int) (x3 : Int) (μ : zMem) : Option zMem :=
  zlet ((μ x2 3)) fun x_1 =>
  (f_X0_drawAll_L9 x1 x2 x3) zfu x_1 0 μ
set_option maxHeartbeats 4000000 in
set_option maxRecDepth 100000 in
theorem M_X0_drawAll {l : Launch} {Ω : zO} (hI : zIc Ω) (μ : zMem) (x1 : Int) (x2 : Int) (x3 : Int) {μ' : zMem} (o_x1 : zob Ω.2.2.1 5 x1) (o_x2 : zob Ω.2.2.1 8 x2) (gx3 : Rg x3) (h : f_X0_drawAll x1 x2 x3 μ = some μ') : XMet l yX0_drawAll cX0_drawAll 9 none 3 Ω [zR Ω 33, zR Ω x1, zR Ω x2, zI x3] μ none True μ' := by
  refine XMet.ofV (by decide) (Nat.le_of_ble_eq_true rfl) ?_
  intro p e s m args below meth c ls Q C rt X hl
  have C : zC p s m args c cX0_drawAll RX0 9 Ω := C
  have hl : lv_has ls 9 [(0, zR Ω 33), (1, zR Ω x1), (2, zR Ω x2), (3, zI x3)] := hl
  unfold f_X0_drawAll at h
  skip
  refine lv_aload_n C.1 C.2.1 dX0_drawAll_0 rfl (lv_at hl 2 rfl) ?_
  have g_1 : Rg (μ x2 3) := zrgf0 (ci := 8) X.2.2.2 (zob.self o_x2) (zo8 o_x2) 3 rfl
  refine z_get C X zk8 (zob.self o_x2) (zo8 o_x2) 3 (by decide) kw_202 (zI (μ x2 3)) rfl dX0_drawAll_1 ?_
  refine zlet_elim h (fun x_1 ex_1 h => ?_)
  have gx_1 : Rg x_1 := by rw [ex_1]; exact g_1
  refine z_istore C ex_1 dX0_drawAll_4 hl (by decide) (lv' := [(4, zI x_1), (0, zR Ω 33), (1, zR Ω x1), (2, zR Ω x2), (3, zI x3)]) rfl (fun ls hl => ?_)
  clear ex_1
  refine z_iconst C dX0_drawAll_6 ?_
  refine lv_istore C.1 C.2.1 (lv' := [(5, zI 0), (4, zI x_1), (0, zR Ω 33), (1, zR Ω x1), (2, zR Ω x2), (3, zI x3)]) dX0_drawAll_7 hl (by decide) rfl (fun ls hl => ?_)
  have L9 : ∀ (n9 : Nat) (x_2 : Int) (x_3 : Int) (μ_4 : zMem) (H : Heap) (locs : List Loc) (ls : Array Slot), Rg x_2 → Rg x_3 → zX Ω μ_4 (zfree Ω) s.heap H locs → lv_has ls 9 [(0, zR Ω 33), (1, zR Ω x1), (2, zR Ω x2), (3, zI x3), (4, zI x_2), (5, zI x_3)] → (f_X0_drawAll_L9 x1 x2 x3 n9 x_2 x_3 μ_4) = some μ' → W p l e (zrm 3) s m args below meth c H locs 0 0 Q (F0 m 9 ls []) := by
    intro n9
    induction n9 with
    | zero =>
      intro x_2 x_3 μ_4 H locs ls _ _ _ _ h
      cases h
    | succ n9 ih9 =>
      intro x_2 x_3 μ_4 H locs ls gx_2 gx_3 X hl h
      unfold f_X0_drawAll_L9 at h
      refine lv_iload C.1 C.2.1 dX0_drawAll_9 (lv_at hl 5 rfl) ?_
      refine lv_aload_n C.1 C.2.1 dX0_drawAll_11 rfl (lv_at hl 2 rfl) ?_
      have g_12 : Rg (μ_4 x2 2) := zrgf0 (ci := 8) X.2.2.2 (zob.self o_x2) (zo8 o_x2) 2 rfl
      refine z_get C X zk8 (zob.self o_x2) (zo8 o_x2) 2 (by decide) kw_196 (zI (μ_4 x2 2)) rfl dX0_drawAll_12 ?_
      refine z_icmpgt C gx_3 g_12 (tgt := 153) dX0_drawAll_15 (by decide) (fun hc15 => ?_) (fun hc15 => ?_)
      · rw [if_neg hc15] at h
        obtain rfl := Option.some.inj h
        exact rt X dX0_drawAll_153
      · rw [if_pos hc15] at h
        refine z_iconst C dX0_drawAll_18 ?_
        refine lv_istore C.1 C.2.1 (lv' := [(6, zI 0), (0, zR Ω 33), (1, zR Ω x1), (2, zR Ω x2), (3, zI x3), (4, zI x_2), (5, zI x_3)]) dX0_drawAll_19 hl (by decide) rfl (fun ls hl => ?_)
        have K125 : ∀ (μ_5 : zMem) (H : Heap) (locs : List Loc) (ls : Array Slot), zX Ω μ_5 (zfree Ω) s.heap H locs → lv_has ls 9 [(0, zR Ω 33), (1, zR Ω x1), (2, zR Ω x2), (3, zI x3), (4, zI x_2), (5, zI x_3)] → (f_X0_drawAll_K125 x1 x2 x_2 x_3 (f_X0_drawAll_L9 x1 x2 x3 n9)) μ_5 = some μ' → W p l e (zrm 3) s m args below meth c H locs 0 0 Q (F0 m 125 ls []) := by
          intro μ_5 H locs ls  X hl h
          unfold f_X0_drawAll_K125 at h
          refine lv_iload C.1 C.2.1 dX0_drawAll_125 (lv_at hl 5 rfl) ?_
          refine lv_aload_n C.1 C.2.1 dX0_drawAll_127 rfl (lv_at hl 2 rfl) ?_
          have g_128 : Rg (μ_5 x2 2) := zrgf0 (ci := 8) X.2.2.2 (zob.self o_x2) (zo8 o_x2) 2 rfl
          refine z_get C X zk8 (zob.self o_x2) (zo8 o_x2) 2 (by decide) kw_196 (zI (μ_5 x2 2)) rfl dX0_drawAll_128 ?_
          refine z_icmpge C gx_3 g_128 (tgt := 147) dX0_drawAll_131 (by decide) (fun hc131 => ?_) (fun hc131 => ?_)
          · rw [if_neg hc131] at h
            refine zlet_elim h (fun x_6 ex_6 h => ?_)
            have gx_6 : Rg x_6 := by rw [ex_6]; exact Rg.w _
            refine z_iinc C ex_6 dX0_drawAll_147 hl (k := 5) rfl (by decide) (lv' := [(5, zI x_6), (0, zR Ω 33), (1, zR Ω x1), (2, zR Ω x2), (3, zI x3), (4, zI x_2)]) rfl (fun ls hl => ?_)
            clear ex_6
            refine lv_goto (tgt := 9) C.1 C.2.1 dX0_drawAll_150 (by decide) ?_
            exact ih9 x_2 x_6 μ_5 _ _ _ gx_2 gx_6 X (lv_sub hl [1, 2, 3, 4, 5, 0] rfl) h
          · rw [if_pos hc131] at h
            refine lv_aload_n C.1 C.2.1 dX0_drawAll_134 rfl (lv_at hl 1 rfl) ?_
            refine lv_aload_n C.1 C.2.1 dX0_drawAll_135 rfl (lv_at hl 2 rfl) ?_
            refine z_get C X zk8 (zob.self o_x2) (zo8 o_x2) 0 (by decide) kw_189 (zR Ω (x2 + 1)) (zfvF (off := 1) X.2.2.2 (zob.self o_x2) o_x2.2.2 (zo8 o_x2) rfl (by rw [zo8_1 o_x2]; decide)) dX0_drawAll_136 ?_
            refine lv_iload C.1 C.2.1 dX0_drawAll_139 (lv_at hl 5 rfl) ?_
            obtain ⟨hc141, h⟩ := chk_some h
            have g_141 : Rg (μ_5 (x2 + 1) x_3) := zrg1 X.2.2.2 (o_x2.2.1 1 (by decide) (by decide)) (zo8_1 o_x2)
            refine z_iald C X (o_x2.2.1 1 (by decide) (by decide)) (zo8_1 o_x2) hc141 dX0_drawAll_141 ?_
            obtain ⟨x_7, hq142, h⟩ := bnd_some h
            refine z_callV1 C X zk5 (zob.self o_x1) (zo5 o_x1) (As := [zI (μ_5 (x2 + 1) x_3)]) (M_X5_endOf μ_5 x1 (μ_5 (x2 + 1) x_3) o_x1 g_141 hq142) zc_X5_endOf kw_928 (zroom (by decide) (by decide)) rfl hl.1 rfl (Nat.le_of_ble_eq_true rfl) dX0_drawAll_142 ⟨Nat.zero_le _, Nat.zero_le _⟩ (fun H locs g_142 X => ?_)
            refine lv_istore C.1 C.2.1 (lv' := [(4, zI x_7), (0, zR Ω 33), (1, zR Ω x1), (2, zR Ω x2), (3, zI x3), (5, zI x_3)]) dX0_drawAll_145 hl (by decide) rfl (fun ls hl => ?_)
            refine zlet_elim h (fun x_8 ex_8 h => ?_)
            have gx_8 : Rg x_8 := by rw [ex_8]; exact Rg.w _
            refine z_iinc C ex_8 dX0_drawAll_147 hl (k := 5) rfl (by decide) (lv' := [(5, zI x_8), (4, zI x_7), (0, zR Ω 33), (1, zR Ω x1), (2, zR Ω x2), (3, zI x3)]) rfl (fun ls hl => ?_)
            clear ex_8
            refine lv_goto (tgt := 9) C.1 C.2.1 dX0_drawAll_150 (by decide) ?_
            exact ih9 x_7 x_8 μ_5 _ _ _ g_142 gx_8 X (lv_sub hl [2, 3, 4, 5, 1, 0] rfl) h
        have L21 : ∀ (n21 : Nat) (x_9 : Int) (μ_10 : zMem) (H : Heap) (locs : List Loc) (ls : Array Slot), Rg x_9 → zX Ω μ_10 (zfree Ω) s.heap H locs → lv_has ls 9 [(0, zR Ω 33), (1, zR Ω x1), (2, zR Ω x2), (3, zI x3), (4, zI x_2), (5, zI x_3), (6, zI x_9)] → (f_X0_drawAll_L21 x1 x2 x3 x_2 x_3 (f_X0_drawAll_K125 x1 x2 x_2 x_3 (f_X0_drawAll_L9 x1 x2 x3 n9)) n21 x_9 μ_10) = some μ' → W p l e (zrm 3) s m args below meth c H locs 0 0 Q (F0 m 21 ls []) := by
          intro n21
          induction n21 with
          | zero =>
            intro x_9 μ_10 H locs ls _ _ _ h
            cases h
          | succ n21 ih21 =>
            intro x_9 μ_10 H locs ls gx_9 X hl h
            unfold f_X0_drawAll_L21 at h
            refine lv_iload C.1 C.2.1 dX0_drawAll_21 (lv_at hl 6 rfl) ?_
            refine lv_aload_n C.1 C.2.1 dX0_drawAll_23 rfl (lv_at hl 1 rfl) ?_
            have g_24 : Rg (μ_10 x1 8) := zrgf0 (ci := 5) X.2.2.2 (zob.self o_x1) (zo5 o_x1) 8 rfl
            refine z_get C X zk5 (zob.self o_x1) (zo5 o_x1) 8 (by decide) kw_89 (zI (μ_10 x1 8)) rfl dX0_drawAll_24 ?_
            refine z_icmpge C gx_9 g_24 (tgt := 125) dX0_drawAll_27 (by decide) (fun hc27 => ?_) (fun hc27 => ?_)
            · rw [if_neg hc27] at h
              exact K125 μ_10 _ _ _ X (lv_sub hl [0, 1, 2, 3, 4, 5] rfl) h
            · rw [if_pos hc27] at h
              refine z_iconst C dX0_drawAll_30 ?_
              refine lv_istore C.1 C.2.1 (lv' := [(7, zI 0), (0, zR Ω 33), (1, zR Ω x1), (2, zR Ω x2), (3, zI x3), (4, zI x_2), (5, zI x_3), (6, zI x_9)]) dX0_drawAll_31 hl (by decide) rfl (fun ls hl => ?_)
              have K119 : ∀ (μ_11 : zMem) (H : Heap) (locs : List Loc) (ls : Array Slot), zX Ω μ_11 (zfree Ω) s.heap H locs → lv_has ls 9 [(0, zR Ω 33), (1, zR Ω x1), (2, zR Ω x2), (3, zI x3), (4, zI x_2), (5, zI x_3), (6, zI x_9)] → (f_X0_drawAll_K119 x_9 (f_X0_drawAll_L21 x1 x2 x3 x_2 x_3 (f_X0_drawAll_K125 x1 x2 x_2 x_3 (f_X0_drawAll_L9 x1 x2 x3 n9)) n21)) μ_11 = some μ' → W p l e (zrm 3) s m args below meth c H locs 0 0 Q (F0 m 119 ls []) := by
                intro μ_11 H locs ls  X hl h
                unfold f_X0_drawAll_K119 at h
                refine zlet_elim h (fun x_12 ex_12 h => ?_)
                have gx_12 : Rg x_12 := by rw [ex_12]; exact Rg.w _
                refine z_iinc C ex_12 dX0_drawAll_119 hl (k := 6) rfl (by decide) (lv' := [(6, zI x_12), (0, zR Ω 33), (1, zR Ω x1), (2, zR Ω x2), (3, zI x3), (4, zI x_2), (5, zI x_3)]) rfl (fun ls hl => ?_)
                clear ex_12
                refine lv_goto (tgt := 21) C.1 C.2.1 dX0_drawAll_122 (by decide) ?_
                exact ih21 x_12 μ_11 _ _ _ gx_12 X (lv_sub hl [1, 2, 3, 4, 5, 6, 0] rfl) h
              have L33 : ∀ (n33 : Nat) (x_13 : Int) (μ_14 : zMem) (H : Heap) (locs : List Loc) (ls : Array Slot), Rg x_13 → zX Ω μ_14 (zfree Ω) s.heap H locs → lv_has ls 9 [(0, zR Ω 33), (1, zR Ω x1), (2, zR Ω x2), (3, zI x3), (4, zI x_2), (5, zI x_3), (6, zI x_9), (7, zI x_13)] → (f_X0_drawAll_L33 x1 x2 x3 x_2 x_3 x_9 (f_X0_drawAll_K119 x_9 (f_X0_drawAll_L21 x1 x2 x3 x_2 x_3 (f_X0_drawAll_K125 x1 x2 x_2 x_3 (f_X0_drawAll_L9 x1 x2 x3 n9)) n21)) n33 x_13 μ_14) = some μ' → W p l e (zrm 3) s m args below meth c H locs 0 0 Q (F0 m 33 ls []) := by
                intro n33
                induction n33 with
                | zero =>
                  intro x_13 μ_14 H locs ls _ _ _ h
                  cases h
                | succ n33 ih33 =>
                  intro x_13 μ_14 H locs ls gx_13 X hl h
                  unfold f_X0_drawAll_L33 at h
                  refine lv_iload C.1 C.2.1 dX0_drawAll_33 (lv_at hl 7 rfl) ?_
                  refine lv_aload_n C.1 C.2.1 dX0_drawAll_35 rfl (lv_at hl 1 rfl) ?_
                  refine z_get C X zk5 (zob.self o_x1) (zo5 o_x1) 5 (by decide) kw_73 (zR Ω (x1 + 6)) (zfvF (off := 6) X.2.2.2 (zob.self o_x1) o_x1.2.2 (zo5 o_x1) rfl (by rw [zo5_6 o_x1]; decide)) dX0_drawAll_36 ?_
                  refine lv_iload C.1 C.2.1 dX0_drawAll_39 (lv_at hl 6 rfl) ?_
                  obtain ⟨hc41, h⟩ := chk_some h
                  have g_41 : Rg (μ_14 (x1 + 6) x_9) := zrg1 X.2.2.2 (o_x1.2.1 6 (by decide) (by decide)) (zo5_6 o_x1)
                  refine z_iald C X (o_x1.2.1 6 (by decide) (by decide)) (zo5_6 o_x1) hc41 dX0_drawAll_41 ?_
                  refine z_icmpge C gx_13 g_41 (tgt := 119) dX0_drawAll_42 (by decide) (fun hc42 => ?_) (fun hc42 => ?_)
                  · rw [if_neg hc42] at h
                    exact K119 μ_14 _ _ _ X (lv_sub hl [0, 1, 2, 3, 4, 5, 6] rfl) h
                  · rw [if_pos hc42] at h
                    refine lv_aload_n C.1 C.2.1 dX0_drawAll_45 rfl (lv_at hl 1 rfl) ?_
                    refine lv_iload C.1 C.2.1 dX0_drawAll_46 (lv_at hl 6 rfl) ?_
                    refine lv_iload C.1 C.2.1 dX0_drawAll_48 (lv_at hl 7 rfl) ?_
                    obtain ⟨x_15, hq50, h⟩ := bnd_some h
                    refine z_callV1 C X zk5 (zob.self o_x1) (zo5 o_x1) (As := [zI x_9, zI x_13]) (M_X5_rimStep μ_14 x1 x_9 x_13 o_x1 gx_9 gx_13 hq50) zc_X5_rimStep kw_913 (zroom (by decide) (by decide)) rfl hl.1 rfl (Nat.le_of_ble_eq_true rfl) dX0_drawAll_50 ⟨Nat.zero_le _, Nat.zero_le _⟩ (fun H locs g_50 X => ?_)
                    refine lv_istore C.1 C.2.1 (lv' := [(8, zI x_15), (0, zR Ω 33), (1, zR Ω x1), (2, zR Ω x2), (3, zI x3), (4, zI x_2), (5, zI x_3), (6, zI x_9), (7, zI x_13)]) dX0_drawAll_53 hl (by decide) rfl (fun ls hl => ?_)
                    refine lv_aload_n C.1 C.2.1 dX0_drawAll_55 rfl (lv_at hl 2 rfl) ?_
                    refine lv_iload C.1 C.2.1 dX0_drawAll_56 (lv_at hl 0 rfl) ?_
                    obtain ⟨x_16, hq58, h⟩ := bnd_some h
                    refine z_callV1 C X zk5 (zob.self o_x1) (zo5 o_x1) (As := [zI x_15]) (M_X5_startOf μ_14 x1 x_15 o_x1 g_50 hq58) zc_X5_startOf kw_914 (zroom (by decide) (by decide)) rfl hl.1 rfl (Nat.le_of_ble_eq_true rfl) dX0_drawAll_58 ⟨Nat.zero_le _, Nat.zero_le _⟩ (fun H locs g_58 X => ?_)
                    refine lv_iload C.1 C.2.1 dX0_drawAll_61 (lv_at hl 5 rfl) ?_
                    have K84 : ∀ (μ_17 : zMem) (H : Heap) (locs : List Loc) (ls : Array Slot), zX Ω μ_17 (zfree Ω) s.heap H locs → lv_has ls 9 [(0, zR Ω 33), (1, zR Ω x1), (2, zR Ω x2), (3, zI x3), (4, zI x_2), (5, zI x_3), (6, zI x_9), (7, zI x_13), (8, zI x_15)] → (f_X0_drawAll_J84 x1 x2 x3 x_2 x_3 x_9 x_13 x_15 (f_X0_drawAll_L33 x1 x2 x3 x_2 x_3 x_9 (f_X0_drawAll_K119 x_9 (f_X0_drawAll_L21 x1 x2 x3 x_2 x_3 (f_X0_drawAll_K125 x1 x2 x_2 x_3 (f_X0_drawAll_L9 x1 x2 x3 n9)) n21)) n33)) μ_17 = some μ' → W p l e (zrm 3) s m args below meth c H locs 0 0 Q (F0 m 84 ls []) := by
                      intro μ_17 H locs ls  X hl h
                      unfold f_X0_drawAll_J84 at h
                      refine lv_aload_n C.1 C.2.1 dX0_drawAll_84 rfl (lv_at hl 1 rfl) ?_
                      refine lv_iload C.1 C.2.1 dX0_drawAll_85 (lv_at hl 8 rfl) ?_
                      obtain ⟨x_18, hq87, h⟩ := bnd_some h
                      refine z_callV1 C X zk5 (zob.self o_x1) (zo5 o_x1) (As := [zI x_15]) (M_X5_endOf μ_17 x1 x_15 o_x1 g_50 hq87) zc_X5_endOf kw_928 (zroom (by decide) (by decide)) rfl hl.1 rfl (Nat.le_of_ble_eq_true rfl) dX0_drawAll_87 ⟨Nat.zero_le _, Nat.zero_le _⟩ (fun H locs g_87 X => ?_)
                      refine lv_iload C.1 C.2.1 dX0_drawAll_90 (lv_at hl 4 rfl) ?_
                      refine z_icmpne C g_87 gx_2 (tgt := 113) dX0_drawAll_92 (by decide) (fun hc92 => ?_) (fun hc92 => ?_)
                      · rw [if_neg hc92] at h
                        refine zlet_elim h (fun x_19 ex_19 h => ?_)
                        have gx_19 : Rg x_19 := by rw [ex_19]; exact Rg.w _
                        refine z_iinc C ex_19 dX0_drawAll_113 hl (k := 7) rfl (by decide) (lv' := [(7, zI x_19), (0, zR Ω 33), (1, zR Ω x1), (2, zR Ω x2), (3, zI x3), (4, zI x_2), (5, zI x_3), (6, zI x_9), (8, zI x_15)]) rfl (fun ls hl => ?_)
                        clear ex_19
                        refine lv_goto (tgt := 33) C.1 C.2.1 dX0_drawAll_116 (by decide) ?_
                        exact ih33 x_19 μ_17 _ _ _ gx_19 X (lv_sub hl [1, 2, 3, 4, 5, 6, 7, 0] rfl) h
                      · rw [if_pos hc92] at h
                        refine lv_aload_n C.1 C.2.1 dX0_drawAll_95 rfl (lv_at hl 0 rfl) ?_
                        refine lv_aload_n C.1 C.2.1 dX0_drawAll_96 rfl (lv_at hl 1 rfl) ?_
                        refine lv_aload_n C.1 C.2.1 dX0_drawAll_97 rfl (lv_at hl 2 rfl) ?_
                        refine lv_iload C.1 C.2.1 dX0_drawAll_98 (lv_at hl 5 rfl) ?_
                        refine lv_iload C.1 C.2.1 dX0_drawAll_100 (lv_at hl 6 rfl) ?_
                        refine lv_iload C.1 C.2.1 dX0_drawAll_102 (lv_at hl 7 rfl) ?_
                        refine z_iconst C dX0_drawAll_104 ?_
                        obtain ⟨μ_20, hq105, h⟩ := bnd_some h
                        refine z_callV0 C X zk0 (hI.1 33 (by decide)) rfl (As := [zR Ω x1, zR Ω x2, zI x_3, zI x_9, zI x_13, zI 1]) (M_X0_draw hI μ_17 x1 x2 x_3 x_9 x_13 1 o_x1 o_x2 gx_3 gx_9 gx_13 ⟨by decide, by decide⟩ hq105) zc_X0_draw kw_915 (zroom (by decide) (by decide)) rfl hl.1 rfl (Nat.le_of_ble_eq_true rfl) dX0_drawAll_105 ⟨Nat.zero_le _, Nat.zero_le _⟩ (fun H locs g_105 X => ?_)
                        refine lv_aload_n C.1 C.2.1 dX0_drawAll_108 rfl (lv_at hl 0 rfl) ?_
                        refine lv_iload_n C.1 C.2.1 dX0_drawAll_109 rfl (lv_at hl 3 rfl) ?_
                        obtain ⟨μ_21, hq110, h⟩ := bnd_some h
                        refine z_callV0 C X zk0 (hI.1 33 (by decide)) rfl (As := [zI x3]) (M_X0_meet hI μ_20 x3 gx3 hq110) zc_X0_meet kw_919 (zroom (by decide) (by decide)) rfl hl.1 rfl (Nat.le_of_ble_eq_true rfl) dX0_drawAll_110 ⟨Nat.zero_le _, Nat.zero_le _⟩ (fun H locs g_110 X => ?_)
                        refine zlet_elim h (fun x_22 ex_22 h => ?_)
                        have gx_22 : Rg x_22 := by rw [ex_22]; exact Rg.w _
                        refine z_iinc C ex_22 dX0_drawAll_113 hl (k := 7) rfl (by decide) (lv' := [(7, zI x_22), (0, zR Ω 33), (1, zR Ω x1), (2, zR Ω x2), (3, zI x3), (4, zI x_2), (5, zI x_3), (6, zI x_9), (8, zI x_15)]) rfl (fun ls hl => ?_)
                        clear ex_22
                        refine lv_goto (tgt := 33) C.1 C.2.1 dX0_drawAll_116 (by decide) ?_
                        exact ih33 x_22 μ_21 _ _ _ gx_22 X (lv_sub hl [1, 2, 3, 4, 5, 6, 7, 0] rfl) h
                    refine z_icmpne C g_58 gx_2 (tgt := 84) dX0_drawAll_63 (by decide) (fun hc63 => ?_) (fun hc63 => ?_)
                    · rw [if_neg hc63] at h
                      exact K84 μ_14 _ _ _ X (lv_sub hl [1, 2, 3, 4, 5, 6, 7, 8, 0] rfl) h
                    · rw [if_pos hc63] at h
                      refine lv_aload_n C.1 C.2.1 dX0_drawAll_66 rfl (lv_at hl 1 rfl) ?_
                      refine lv_aload_n C.1 C.2.1 dX0_drawAll_67 rfl (lv_at hl 2 rfl) ?_
                      refine lv_aload_n C.1 C.2.1 dX0_drawAll_68 rfl (lv_at hl 3 rfl) ?_
                      refine lv_iload C.1 C.2.1 dX0_drawAll_69 (lv_at hl 6 rfl) ?_
                      refine lv_iload C.1 C.2.1 dX0_drawAll_71 (lv_at hl 7 rfl) ?_
                      refine lv_iload C.1 C.2.1 dX0_drawAll_73 (lv_at hl 8 rfl) ?_
                      refine z_iconst C dX0_drawAll_75 ?_
                      obtain ⟨μ_23, hq76, h⟩ := bnd_some h
                      refine z_callV0 C X zk0 (hI.1 33 (by decide)) rfl (As := [zR Ω x1, zR Ω x2, zI x_3, zI x_9, zI x_13, zI 0]) (M_X0_draw hI μ_14 x1 x2 x_3 x_9 x_13 0 o_x1 o_x2 gx_3 gx_9 gx_13 ⟨by decide, by decide⟩ hq76) zc_X0_draw kw_915 (zroom (by decide) (by decide)) rfl hl.1 rfl (Nat.le_of_ble_eq_true rfl) dX0_drawAll_76 ⟨Nat.zero_le _, Nat.zero_le _⟩ (fun H locs g_76 X => ?_)
                      refine lv_aload_n C.1 C.2.1 dX0_drawAll_79 rfl (lv_at hl 1 rfl) ?_
                      refine lv_iload_n C.1 C.2.1 dX0_drawAll_80 rfl (lv_at hl 4 rfl) ?_
                      obtain ⟨μ_24, hq81, h⟩ := bnd_some h
                      refine z_callV0 C X zk0 (hI.1 33 (by decide)) rfl (As := [zI x3]) (M_X0_meet hI μ_23 x3 gx3 hq81) zc_X0_meet kw_919 (zroom (by decide) (by decide)) rfl hl.1 rfl (Nat.le_of_ble_eq_true rfl) dX0_drawAll_81 ⟨Nat.zero_le _, Nat.zero_le _⟩ (fun H locs g_81 X => ?_)
                      exact K84 μ_24 _ _ _ X (lv_sub hl [1, 2, 3, 4, 5, 6, 7, 8, 0] rfl) h
              exact L33 zfu 0 μ_10 _ _ _ ⟨by decide, by decide⟩ X (lv_sub hl [1, 2, 3, 4, 5, 6, 7, 0] rfl) h
        exact L21 zfu 0 μ_4 _ _ _ ⟨by decide, by decide⟩ X (lv_sub hl [1, 2, 3, 4, 5, 6, 0] rfl) h
  exact L9 zfu x_1 0 μ _ _ _ gx_1 ⟨by decide, by decide⟩ X (lv_sub hl [2, 3, 4, 5, 1, 0] rfl) h
theorem zc_X0_drawAll : zcal yX0_drawAll cX0_drawAll 9 none RX0 3 := ⟨⟨kw_912, kw_911, kp_42, kw_9⟩, rfl, by decide, by decide, by decide +kernel⟩

def f_X0_seek (x1 : Int) (μ : zMem) : Option zMem :=
  zlet (zup μ 33 3 0) fun μ_1 =>
  bnd (f_X0_pushAll x1 0 (μ_1 x1 2) μ_1) fun μ_2 =>
  bnd (f_X0_pack μ_2) fun μ_3 =>
  zlet (zup μ_3 33 6 (μ_3 33 4)) fun μ_4 =>
  zlet (zup μ_4 33 7 (μ_4 33 5)) fun μ_5 =>
  zlet (zup μ_5 33 8 0) fun μ_6 =>
  some μ_6
set_option maxHeartbeats 4000000 in
set_option maxRecDepth 100000 in
theorem M_X0_seek {l : Launch} {Ω : zO} (hI : zIc Ω) (μ : zMem) (x1 : Int) {μ' : zMem} (o_x1 : zob Ω.2.2.1 8 x1) (h : f_X0_seek x1 μ = some μ') : XMet l yX0_seek cX0_seek 2 none 2 Ω [zR Ω 33, zR Ω x1] μ none True μ' := by
  refine XMet.ofV (by decide) (Nat.le_of_ble_eq_true rfl) ?_
  intro p e s m args below meth c ls Q C rt X hl
  have C : zC p s m args c cX0_seek RX0 2 Ω := C
  have hl : lv_has ls 2 [(0, zR Ω 33), (1, zR Ω x1)] := hl
  unfold f_X0_seek at h
  skip
  refine lv_aload_n C.1 C.2.1 dX0_seek_0 rfl (lv_at hl 0 rfl) ?_
  refine z_iconst C dX0_seek_1 ?_
  refine zlet_elim h (fun μ_1 em h => ?_)
  refine z_putI C X zk0 (hI.1 33 (by decide)) rfl 3 (by decide) kw_296 rfl rfl rfl rfl ⟨by decide, by decide⟩ em dX0_seek_2 (fun H locs X => ?_)
  clear em
  refine lv_aload_n C.1 C.2.1 dX0_seek_5 rfl (lv_at hl 0 rfl) ?_
  refine lv_aload_n C.1 C.2.1 dX0_seek_6 rfl (lv_at hl 1 rfl) ?_
  refine z_iconst C dX0_seek_7 ?_
  refine lv_aload_n C.1 C.2.1 dX0_seek_8 rfl (lv_at hl 1 rfl) ?_
  have g_9 : Rg (μ_1 x1 2) := zrgf0 (ci := 8) X.2.2.2 (zob.self o_x1) (zo8 o_x1) 2 rfl
  refine z_get C X zk8 (zob.self o_x1) (zo8 o_x1) 2 (by decide) kw_196 (zI (μ_1 x1 2)) rfl dX0_seek_9 ?_
  obtain ⟨μ_2, hq12, h⟩ := bnd_some h
  refine z_callV0 C X zk0 (hI.1 33 (by decide)) rfl (As := [zR Ω x1, zI 0, zI (μ_1 x1 2)]) (M_X0_pushAll hI μ_1 x1 0 (μ_1 x1 2) o_x1 ⟨by decide, by decide⟩ g_9 hq12) zc_X0_pushAll kw_896 (zroom (by decide) (by decide)) rfl hl.1 rfl (Nat.le_of_ble_eq_true rfl) dX0_seek_12 ⟨Nat.zero_le _, Nat.zero_le _⟩ (fun H locs g_12 X => ?_)
  refine lv_aload_n C.1 C.2.1 dX0_seek_15 rfl (lv_at hl 0 rfl) ?_
  obtain ⟨μ_3, hq16, h⟩ := bnd_some h
  refine z_callV0 C X zk0 (hI.1 33 (by decide)) rfl (As := []) (M_X0_pack hI μ_2 hq16) zc_X0_pack kw_904 (zroom (by decide) (by decide)) rfl hl.1 rfl (Nat.le_of_ble_eq_true rfl) dX0_seek_16 ⟨Nat.zero_le _, Nat.zero_le _⟩ (fun H locs g_16 X => ?_)
  refine lv_aload_n C.1 C.2.1 dX0_seek_19 rfl (lv_at hl 0 rfl) ?_
  refine lv_aload_n C.1 C.2.1 dX0_seek_20 rfl (lv_at hl 0 rfl) ?_
  have g_21 : Rl (μ_3 33 4) := zrgf1 (ci := 0) X.2.2.2 (hI.1 33 (by decide)) rfl 4 rfl
  refine z_get C X zk0 (hI.1 33 (by decide)) rfl 4 (by decide) kw_297 (zJ (μ_3 33 4)) rfl dX0_seek_21 ?_
  refine zlet_elim h (fun μ_4 em h => ?_)
  refine z_putJ C X zk0 (hI.1 33 (by decide)) rfl 6 (by decide) kw_299 rfl rfl rfl rfl g_21 em dX0_seek_24 (fun H locs X => ?_)
  clear em
  refine lv_aload_n C.1 C.2.1 dX0_seek_27 rfl (lv_at hl 0 rfl) ?_
  refine lv_aload_n C.1 C.2.1 dX0_seek_28 rfl (lv_at hl 0 rfl) ?_
  have g_29 : Rl (μ_4 33 5) := zrgf1 (ci := 0) X.2.2.2 (hI.1 33 (by decide)) rfl 5 rfl
  refine z_get C X zk0 (hI.1 33 (by decide)) rfl 5 (by decide) kw_298 (zJ (μ_4 33 5)) rfl dX0_seek_29 ?_
  refine zlet_elim h (fun μ_5 em h => ?_)
  refine z_putJ C X zk0 (hI.1 33 (by decide)) rfl 7 (by decide) kw_300 rfl rfl rfl rfl g_29 em dX0_seek_32 (fun H locs X => ?_)
  clear em
  refine lv_aload_n C.1 C.2.1 dX0_seek_35 rfl (lv_at hl 0 rfl) ?_
  refine z_iconst C dX0_seek_36 ?_
  refine zlet_elim h (fun μ_6 em h => ?_)
  refine z_putZ C X zk0 (hI.1 33 (by decide)) rfl 8 (by decide) kw_301 rfl rfl rfl rfl ⟨by decide, by decide⟩ em dX0_seek_37 (fun H locs X => ?_)
  clear em
  obtain rfl := Option.some.inj h
  exact rt X dX0_seek_40
theorem zc_X0_seek : zcal yX0_seek cX0_seek 2 none RX0 1 := ⟨⟨kw_895, kw_894, kp_38, kw_9⟩, rfl, by decide, by decide, by decide +kernel⟩

def f_X0_findApart_J57 (x1 : Int) (x2 : Int) (x3 : Int) (μ_7 : zMem) : Option (Int × zMem) :=
  bnd (f_X0_drawAll x1 x2 1 μ_7) fun μ_8 =>
  if (μ_8 33 8) = 0 then
    bnd (f_X0_seek x2 μ_8) fun μ_9 =>
    bnd (f_X0_drawAll x1 x3 0 μ_9) fun μ_10 =>
    if (μ_10 33 8) = 0 then
      if (μ_10 33 9) = 0 then
        some ((-5), μ_10)
      else
        some (2, μ_10)
    else
      some (1, μ_10)
  else
    some (1, μ_8)
def f_X0_findApart (x1 : Int) (x2 : Int) (x3 : Int) (μ : zMem) : Option (Int × zMem) :=
  bnd (f_J7_fill_d0a16 35 0 μ) fun μ_1 =>
  zlet (zup μ_1 33 9 0) fun μ_2 =>
  bnd (f_X0_seek x2 μ_2) fun μ_3 =>
  zlet ((μ_3 33 4)) fun x_4 =>
  zlet ((μ_3 33 5)) fun x_5 =>
  bnd (f_X0_seek x3 μ_3) fun μ_6 =>
  if x_4 = (μ_6 33 4) then
    if x_5 = (μ_6 33 5) then
      some (0, μ_6)
    else
      (f_X0_findApart_J57 x1 x2 x3) μ_6
  else
    (f_X0_findApart_J57 x1 x2 x3) μ_6
set_option maxHeartbeats 4000000 in
set_option maxRecDepth 100000 in
theorem M_X0_findApart {l : Launch} {Ω : zO} (hI : zIc Ω) (μ : zMem) (x1 : Int) (x2 : Int) (x3 : Int) {r : Int} {μ' : zMem} (o_x1 : zob Ω.2.2.1 5 x1) (o_x2 : zob Ω.2.2.1 8 x2) (o_x3 : zob Ω.2.2.1 8 x3) (h : f_X0_findApart x1 x2 x3 μ = some (r, μ')) : XMet l yX0_findApart cX0_findApart 8 (some Jvm.ClassFile.FieldType.int) 4 Ω [zR Ω 33, zR Ω x1, zR Ω x2, zR Ω x3] μ (some (zI r)) (Rg r) μ' := by
  refine XMet.ofI (by decide) (Nat.le_of_ble_eq_true rfl) ?_
  intro p e s m args below meth c ls Q C rt X hl
  have C : zC p s m args c cX0_findApart RX0 8 Ω := C
  have hl : lv_has ls 8 [(0, zR Ω 33), (1, zR Ω x1), (2, zR Ω x2), (3, zR Ω x3)] := hl
  unfold f_X0_findApart at h
  skip
  refine lv_aload_n C.1 C.2.1 dX0_findApart_0 rfl (lv_at hl 0 rfl) ?_
  refine z_get C X zk0 (hI.1 33 (by decide)) rfl 1 (by decide) kw_294 (zR Ω 35) (zfvF (off := 2) X.2.2.2 (hI.1 33 (by decide)) (hI.2 33 (by decide)) rfl rfl (by decide)) dX0_findApart_1 ?_
  refine z_lconst C 0 rfl dX0_findApart_4 ?_
  obtain ⟨μ_1, hq5, h⟩ := bnd_some h
  refine z_callS0 C X (As := [zR Ω 35, zJ 0]) (M_J7_fill_d0a16 μ 35 0 (hI.1 35 (by decide)) rfl ⟨by decide, by decide⟩ hq5) zc_J7_fill_d0a16 kw_891 (zroom (by decide) (by decide)) rfl hl.1 rfl (Nat.le_of_ble_eq_true rfl) dX0_findApart_5 ⟨Nat.zero_le _, Nat.zero_le _⟩ (fun H locs g_5 X => ?_)
  refine lv_aload_n C.1 C.2.1 dX0_findApart_8 rfl (lv_at hl 0 rfl) ?_
  refine z_iconst C dX0_findApart_9 ?_
  refine zlet_elim h (fun μ_2 em h => ?_)
  refine z_putZ C X zk0 (hI.1 33 (by decide)) rfl 9 (by decide) kw_302 rfl rfl rfl rfl ⟨by decide, by decide⟩ em dX0_findApart_10 (fun H locs X => ?_)
  clear em
  refine lv_aload_n C.1 C.2.1 dX0_findApart_13 rfl (lv_at hl 0 rfl) ?_
  refine lv_aload_n C.1 C.2.1 dX0_findApart_14 rfl (lv_at hl 2 rfl) ?_
  obtain ⟨μ_3, hq15, h⟩ := bnd_some h
  refine z_callV0 C X zk0 (hI.1 33 (by decide)) rfl (As := [zR Ω x2]) (M_X0_seek hI μ_2 x2 o_x2 hq15) zc_X0_seek kw_892 (zroom (by decide) (by decide)) rfl hl.1 rfl (Nat.le_of_ble_eq_true rfl) dX0_findApart_15 ⟨Nat.zero_le _, Nat.zero_le _⟩ (fun H locs g_15 X => ?_)
  refine lv_aload_n C.1 C.2.1 dX0_findApart_18 rfl (lv_at hl 0 rfl) ?_
  have g_19 : Rl (μ_3 33 4) := zrgf1 (ci := 0) X.2.2.2 (hI.1 33 (by decide)) rfl 4 rfl
  refine z_get C X zk0 (hI.1 33 (by decide)) rfl 4 (by decide) kw_297 (zJ (μ_3 33 4)) rfl dX0_findApart_19 ?_
  refine zlet_elim h (fun x_4 ex_4 h => ?_)
  have gx_4 : Rl x_4 := by rw [ex_4]; exact g_19
  refine z_lstore C ex_4 dX0_findApart_22 hl (by decide) (lv' := [(4, zJ x_4), (0, zR Ω 33), (1, zR Ω x1), (2, zR Ω x2), (3, zR Ω x3)]) rfl (fun ls hl => ?_)
  clear ex_4
  refine lv_aload_n C.1 C.2.1 dX0_findApart_24 rfl (lv_at hl 1 rfl) ?_
  have g_25 : Rl (μ_3 33 5) := zrgf1 (ci := 0) X.2.2.2 (hI.1 33 (by decide)) rfl 5 rfl
  refine z_get C X zk0 (hI.1 33 (by decide)) rfl 5 (by decide) kw_298 (zJ (μ_3 33 5)) rfl dX0_findApart_25 ?_
  refine zlet_elim h (fun x_5 ex_5 h => ?_)
  have gx_5 : Rl x_5 := by rw [ex_5]; exact g_25
  refine z_lstore C ex_5 dX0_findApart_28 hl (by decide) (lv' := [(6, zJ x_5), (4, zJ x_4), (0, zR Ω 33), (1, zR Ω x1), (2, zR Ω x2), (3, zR Ω x3)]) rfl (fun ls hl => ?_)
  clear ex_5
  refine lv_aload_n C.1 C.2.1 dX0_findApart_30 rfl (lv_at hl 2 rfl) ?_
  refine lv_aload_n C.1 C.2.1 dX0_findApart_31 rfl (lv_at hl 5 rfl) ?_
  obtain ⟨μ_6, hq32, h⟩ := bnd_some h
  refine z_callV0 C X zk0 (hI.1 33 (by decide)) rfl (As := [zR Ω x3]) (M_X0_seek hI μ_3 x3 o_x3 hq32) zc_X0_seek kw_892 (zroom (by decide) (by decide)) rfl hl.1 rfl (Nat.le_of_ble_eq_true rfl) dX0_findApart_32 ⟨Nat.zero_le _, Nat.zero_le _⟩ (fun H locs g_32 X => ?_)
  refine lv_lload C.1 C.2.1 dX0_findApart_35 (lv_at hl 1 rfl) ?_
  refine lv_aload_n C.1 C.2.1 dX0_findApart_37 rfl (lv_at hl 2 rfl) ?_
  have g_38 : Rl (μ_6 33 4) := zrgf1 (ci := 0) X.2.2.2 (hI.1 33 (by decide)) rfl 4 rfl
  refine z_get C X zk0 (hI.1 33 (by decide)) rfl 4 (by decide) kw_297 (zJ (μ_6 33 4)) rfl dX0_findApart_38 ?_
  have K57 : ∀ (μ_7 : zMem) (H : Heap) (locs : List Loc) (ls : Array Slot), zX Ω μ_7 (zfree Ω) s.heap H locs → lv_has ls 8 [(0, zR Ω 33), (1, zR Ω x1), (2, zR Ω x2), (3, zR Ω x3)] → (f_X0_findApart_J57 x1 x2 x3) μ_7 = some (r, μ') → W p l e (zrm 4) s m args below meth c H locs 0 0 Q (F0 m 57 ls []) := by
    intro μ_7 H locs ls  X hl h
    unfold f_X0_findApart_J57 at h
    refine lv_aload_n C.1 C.2.1 dX0_findApart_57 rfl (lv_at hl 0 rfl) ?_
    refine lv_aload_n C.1 C.2.1 dX0_findApart_58 rfl (lv_at hl 1 rfl) ?_
    refine lv_aload_n C.1 C.2.1 dX0_findApart_59 rfl (lv_at hl 2 rfl) ?_
    refine z_iconst C dX0_findApart_60 ?_
    obtain ⟨μ_8, hq61, h⟩ := bnd_some h
    refine z_callV0 C X zk0 (hI.1 33 (by decide)) rfl (As := [zR Ω x1, zR Ω x2, zI 1]) (M_X0_drawAll hI μ_7 x1 x2 1 o_x1 o_x2 ⟨by decide, by decide⟩ hq61) zc_X0_drawAll kw_909 (zroom (by decide) (by decide)) rfl hl.1 rfl (Nat.le_of_ble_eq_true rfl) dX0_findApart_61 ⟨Nat.zero_le _, Nat.zero_le _⟩ (fun H locs g_61 X => ?_)
    refine lv_aload_n C.1 C.2.1 dX0_findApart_64 rfl (lv_at hl 0 rfl) ?_
    have g_65 : 0 ≤ (μ_8 33 8) ∧ (μ_8 33 8) ≤ 1 := zrgf2 (ci := 0) X.2.2.2 (hI.1 33 (by decide)) rfl 8 rfl
    refine z_get C X zk0 (hI.1 33 (by decide)) rfl 8 (by decide) kw_301 (zI (μ_8 33 8)) rfl dX0_findApart_65 ?_
    refine z_ifeq C (rgz g_65) (tgt := 73) dX0_findApart_68 (by decide) (fun hc68 => ?_) (fun hc68 => ?_)
    · rw [if_pos hc68] at h
      refine lv_aload_n C.1 C.2.1 dX0_findApart_73 rfl (lv_at hl 0 rfl) ?_
      refine lv_aload_n C.1 C.2.1 dX0_findApart_74 rfl (lv_at hl 2 rfl) ?_
      obtain ⟨μ_9, hq75, h⟩ := bnd_some h
      refine z_callV0 C X zk0 (hI.1 33 (by decide)) rfl (As := [zR Ω x2]) (M_X0_seek hI μ_8 x2 o_x2 hq75) zc_X0_seek kw_892 (zroom (by decide) (by decide)) rfl hl.1 rfl (Nat.le_of_ble_eq_true rfl) dX0_findApart_75 ⟨Nat.zero_le _, Nat.zero_le _⟩ (fun H locs g_75 X => ?_)
      refine lv_aload_n C.1 C.2.1 dX0_findApart_78 rfl (lv_at hl 0 rfl) ?_
      refine lv_aload_n C.1 C.2.1 dX0_findApart_79 rfl (lv_at hl 1 rfl) ?_
      refine lv_aload_n C.1 C.2.1 dX0_findApart_80 rfl (lv_at hl 3 rfl) ?_
      refine z_iconst C dX0_findApart_81 ?_
      obtain ⟨μ_10, hq82, h⟩ := bnd_some h
      refine z_callV0 C X zk0 (hI.1 33 (by decide)) rfl (As := [zR Ω x1, zR Ω x3, zI 0]) (M_X0_drawAll hI μ_9 x1 x3 0 o_x1 o_x3 ⟨by decide, by decide⟩ hq82) zc_X0_drawAll kw_909 (zroom (by decide) (by decide)) rfl hl.1 rfl (Nat.le_of_ble_eq_true rfl) dX0_findApart_82 ⟨Nat.zero_le _, Nat.zero_le _⟩ (fun H locs g_82 X => ?_)
      refine lv_aload_n C.1 C.2.1 dX0_findApart_85 rfl (lv_at hl 0 rfl) ?_
      have g_86 : 0 ≤ (μ_10 33 8) ∧ (μ_10 33 8) ≤ 1 := zrgf2 (ci := 0) X.2.2.2 (hI.1 33 (by decide)) rfl 8 rfl
      refine z_get C X zk0 (hI.1 33 (by decide)) rfl 8 (by decide) kw_301 (zI (μ_10 33 8)) rfl dX0_findApart_86 ?_
      refine z_ifeq C (rgz g_86) (tgt := 94) dX0_findApart_89 (by decide) (fun hc89 => ?_) (fun hc89 => ?_)
      · rw [if_pos hc89] at h
        refine lv_aload_n C.1 C.2.1 dX0_findApart_94 rfl (lv_at hl 0 rfl) ?_
        have g_95 : 0 ≤ (μ_10 33 9) ∧ (μ_10 33 9) ≤ 1 := zrgf2 (ci := 0) X.2.2.2 (hI.1 33 (by decide)) rfl 9 rfl
        refine z_get C X zk0 (hI.1 33 (by decide)) rfl 9 (by decide) kw_302 (zI (μ_10 33 9)) rfl dX0_findApart_95 ?_
        refine z_ifeq C (rgz g_95) (tgt := 105) dX0_findApart_98 (by decide) (fun hc98 => ?_) (fun hc98 => ?_)
        · rw [if_pos hc98] at h
          refine z_bipush C dX0_findApart_105 (by decide) ?_
          obtain ⟨rfl, rfl⟩ := Prod.mk.inj (Option.some.inj h)
          exact rt X ⟨by decide, by decide⟩ dX0_findApart_107
        · rw [if_neg hc98] at h
          refine z_iconst C dX0_findApart_101 ?_
          refine lv_goto (tgt := 107) C.1 C.2.1 dX0_findApart_102 (by decide) ?_
          obtain ⟨rfl, rfl⟩ := Prod.mk.inj (Option.some.inj h)
          exact rt X ⟨by decide, by decide⟩ dX0_findApart_107
      · rw [if_neg hc89] at h
        refine z_iconst C dX0_findApart_92 ?_
        obtain ⟨rfl, rfl⟩ := Prod.mk.inj (Option.some.inj h)
        exact rt X ⟨by decide, by decide⟩ dX0_findApart_93
    · rw [if_neg hc68] at h
      refine z_iconst C dX0_findApart_71 ?_
      obtain ⟨rfl, rfl⟩ := Prod.mk.inj (Option.some.inj h)
      exact rt X ⟨by decide, by decide⟩ dX0_findApart_72
  refine z_lne C gx_4 g_38 (tgt := 57) dX0_findApart_41 dX0_findApart_42 (by decide) (fun hc41 => ?_) (fun hc41 => ?_)
  · rw [if_neg hc41] at h
    exact K57 μ_6 _ _ _ X (lv_sub hl [2, 3, 4, 5] rfl) h
  · rw [if_pos hc41] at h
    refine lv_lload C.1 C.2.1 dX0_findApart_45 (lv_at hl 0 rfl) ?_
    refine lv_aload_n C.1 C.2.1 dX0_findApart_47 rfl (lv_at hl 2 rfl) ?_
    have g_48 : Rl (μ_6 33 5) := zrgf1 (ci := 0) X.2.2.2 (hI.1 33 (by decide)) rfl 5 rfl
    refine z_get C X zk0 (hI.1 33 (by decide)) rfl 5 (by decide) kw_298 (zJ (μ_6 33 5)) rfl dX0_findApart_48 ?_
    refine z_lne C gx_5 g_48 (tgt := 57) dX0_findApart_51 dX0_findApart_52 (by decide) (fun hc51 => ?_) (fun hc51 => ?_)
    · rw [if_neg hc51] at h
      exact K57 μ_6 _ _ _ X (lv_sub hl [2, 3, 4, 5] rfl) h
    · rw [if_pos hc51] at h
      refine z_iconst C dX0_findApart_55 ?_
      obtain ⟨rfl, rfl⟩ := Prod.mk.inj (Option.some.inj h)
      exact rt X ⟨by decide, by decide⟩ dX0_findApart_56
theorem zc_X0_findApart : zcal yX0_findApart cX0_findApart 8 (some Jvm.ClassFile.FieldType.int) RX0 3 := ⟨⟨kw_890, kw_888, kw_889, kw_9⟩, rfl, by decide, by decide, by decide +kernel⟩

def f_X1_isLaid (μ : zMem) : Int :=
  if (μ 3 8) = 0 then
    0
  else
    1
set_option maxHeartbeats 4000000 in
set_option maxRecDepth 100000 in
theorem M_X1_isLaid {l : Launch} {Ω : zO} (hI : zIc Ω) (μ : zMem) : XMet l yX1_isLaid cX1_isLaid 1 (some Jvm.ClassFile.FieldType.boolean) 0 Ω [zR Ω 3] μ (some (zI (f_X1_isLaid μ))) (0 ≤ (f_X1_isLaid μ) ∧ (f_X1_isLaid μ) ≤ 1) μ := by
  obtain ⟨r, h⟩ : ∃ r, f_X1_isLaid μ = r := ⟨_, rfl⟩
  rw [h]
  refine XMet.ofZ (by decide) (Nat.le_of_ble_eq_true rfl) ?_
  intro p e s m args below meth c ls Q C rt X hl
  have C : zC p s m args c cX1_isLaid RX1 1 Ω := C
  have hl : lv_has ls 1 [(0, zR Ω 3)] := hl
  unfold f_X1_isLaid at h
  skip
  refine lv_aload_n C.1 C.2.1 dX1_isLaid_0 rfl (lv_at hl 0 rfl) ?_
  have g_1 : (μ 3 8) = 0 ∨ zob Ω.2.2.1 4 (μ 3 8) := zrgf4 (ci := 1) X.2.2.2 (hI.1 3 (by decide)) rfl 8 4 rfl rfl
  refine z_get C X zk1 (hI.1 3 (by decide)) rfl 8 (by decide) kw_137 (zQ Ω (μ 3 8)) rfl dX1_isLaid_1 ?_
  refine z_ifnull C (tgt := 11) dX1_isLaid_4 (by decide) (fun hc4 => ?_) (fun hc4 => ?_)
  · rw [if_pos hc4] at h
    refine z_iconst C dX1_isLaid_11 ?_
    subst h
    exact rt X ⟨by decide, by decide⟩ dX1_isLaid_12
  · rw [if_neg hc4] at h
    refine z_iconst C dX1_isLaid_7 ?_
    refine lv_goto (tgt := 12) C.1 C.2.1 dX1_isLaid_8 (by decide) ?_
    subst h
    exact rt X ⟨by decide, by decide⟩ dX1_isLaid_12
theorem zc_X1_isLaid : zcal yX1_isLaid cX1_isLaid 1 (some Jvm.ClassFile.FieldType.boolean) RX1 0 := ⟨⟨kw_565, kw_563, kw_564, kw_2⟩, rfl, by decide, by decide, by decide +kernel⟩

def f_X1_hasStorey (x1 : Int) (μ : zMem) : Option Int :=
  if (μ 3 8) = 0 then
    some 0
  else
    if x1 < 0 then
      some 0
    else
      chk ((μ 3 8) ≠ 0) <|
      zlet (μ 3 8) fun x_1 =>
      if x1 < (μ x_1 0) then
        some 1
      else
        some 0
set_option maxHeartbeats 4000000 in
set_option maxRecDepth 100000 in
theorem M_X1_hasStorey {l : Launch} {Ω : zO} (hI : zIc Ω) (μ : zMem) (x1 : Int) {r : Int} (gx1 : Rg x1) (h : f_X1_hasStorey x1 μ = some r) : XMet l yX1_hasStorey cX1_hasStorey 2 (some Jvm.ClassFile.FieldType.boolean) 0 Ω [zR Ω 3, zI x1] μ (some (zI r)) (0 ≤ r ∧ r ≤ 1) μ := by
  refine XMet.ofZ (by decide) (Nat.le_of_ble_eq_true rfl) ?_
  intro p e s m args below meth c ls Q C rt X hl
  have C : zC p s m args c cX1_hasStorey RX1 2 Ω := C
  have hl : lv_has ls 2 [(0, zR Ω 3), (1, zI x1)] := hl
  unfold f_X1_hasStorey at h
  skip
  refine lv_aload_n C.1 C.2.1 dX1_hasStorey_0 rfl (lv_at hl 0 rfl) ?_
  have g_1 : (μ 3 8) = 0 ∨ zob Ω.2.2.1 4 (μ 3 8) := zrgf4 (ci := 1) X.2.2.2 (hI.1 3 (by decide)) rfl 8 4 rfl rfl
  refine z_get C X zk1 (hI.1 3 (by decide)) rfl 8 (by decide) kw_137 (zQ Ω (μ 3 8)) rfl dX1_hasStorey_1 ?_
  refine z_ifnull C (tgt := 26) dX1_hasStorey_4 (by decide) (fun hc4 => ?_) (fun hc4 => ?_)
  · rw [if_pos hc4] at h
    refine z_iconst C dX1_hasStorey_26 ?_
    obtain rfl := Option.some.inj h
    exact rt X ⟨by decide, by decide⟩ dX1_hasStorey_27
  · rw [if_neg hc4] at h
    refine lv_iload_n C.1 C.2.1 dX1_hasStorey_7 rfl (lv_at hl 1 rfl) ?_
    refine z_iflt C gx1 (tgt := 26) dX1_hasStorey_8 (by decide) (fun hc8 => ?_) (fun hc8 => ?_)
    · rw [if_pos hc8] at h
      refine z_iconst C dX1_hasStorey_26 ?_
      obtain rfl := Option.some.inj h
      exact rt X ⟨by decide, by decide⟩ dX1_hasStorey_27
    · rw [if_neg hc8] at h
      refine lv_iload_n C.1 C.2.1 dX1_hasStorey_11 rfl (lv_at hl 1 rfl) ?_
      refine lv_aload_n C.1 C.2.1 dX1_hasStorey_12 rfl (lv_at hl 0 rfl) ?_
      obtain ⟨hn13, h⟩ := chk_some h
      have o_13 : zob Ω.2.2.1 4 (μ 3 8) := (zrgf4 (ci := 1) X.2.2.2 (hI.1 3 (by decide)) rfl 8 4 rfl rfl).resolve_left hn13
      refine z_get C X zk1 (hI.1 3 (by decide)) rfl 8 (by decide) kw_137 (zQ Ω (μ 3 8)) rfl dX1_hasStorey_13 ?_
      rw [zQ_pos Ω hn13]
      refine zlet_elim h (fun x_1 ex_1 h => ?_)
      rw [← ex_1] at o_13 ⊢
      clear hn13 ex_1
      have g_16 : Rg (μ x_1 0) := zrgf0 (ci := 4) X.2.2.2 (zob.self o_13) (zo4 o_13) 0 rfl
      refine z_get C X zk4 (zob.self o_13) (zo4 o_13) 0 (by decide) kw_370 (zI (μ x_1 0)) rfl dX1_hasStorey_16 ?_
      refine z_icmpge C gx1 g_16 (tgt := 26) dX1_hasStorey_19 (by decide) (fun hc19 => ?_) (fun hc19 => ?_)
      · rw [if_neg hc19] at h
        refine z_iconst C dX1_hasStorey_26 ?_
        obtain rfl := Option.some.inj h
        exact rt X ⟨by decide, by decide⟩ dX1_hasStorey_27
      · rw [if_pos hc19] at h
        refine z_iconst C dX1_hasStorey_22 ?_
        refine lv_goto (tgt := 27) C.1 C.2.1 dX1_hasStorey_23 (by decide) ?_
        obtain rfl := Option.some.inj h
        exact rt X ⟨by decide, by decide⟩ dX1_hasStorey_27
theorem zc_X1_hasStorey : zcal yX1_hasStorey cX1_hasStorey 2 (some Jvm.ClassFile.FieldType.boolean) RX1 1 := ⟨⟨kw_820, kw_818, kw_819, kw_2⟩, rfl, by decide, by decide, by decide +kernel⟩

def f_X1_knows_L2 (x1 : Int) (μ : zMem) : Nat → Int → Option Int
  | 0, _ => none
  | n + 1, x_1 =>
    if x_1 < (μ x1 2) then
      chk ((0 : Int) ≤ x_1 ∧ x_1 < zlen (x1 + 1)) <|
      chk ((0 : Int) ≤ (zshr (μ (x1 + 1) x_1) 1) ∧ (zshr (μ (x1 + 1) x_1) 1) < 12) <|
      if (μ 12 (zshr (μ (x1 + 1) x_1) 1)) = (-2) then
        some 0
      else
        zlet (zw (x_1 + 1)) fun x_2 =>
        (f_X1_knows_L2 x1 μ n) x_2
    else
      some 1
def f_X1_knows (x1 : Int) (μ : zMem) : Option Int :=
  (f_X1_knows_L2 x1 μ) zfu 0
set_option maxHeartbeats 4000000 in
set_option maxRecDepth 100000 in
theorem M_X1_knows {l : Launch} {Ω : zO} (hI : zIc Ω) (μ : zMem) (x1 : Int) {r : Int} (o_x1 : zob Ω.2.2.1 8 x1) (h : f_X1_knows x1 μ = some r) : XMet l yX1_knows cX1_knows 3 (some Jvm.ClassFile.FieldType.boolean) 0 Ω [zR Ω 3, zR Ω x1] μ (some (zI r)) (0 ≤ r ∧ r ≤ 1) μ := by
  refine XMet.ofZ (by decide) (Nat.le_of_ble_eq_true rfl) ?_
  intro p e s m args below meth c ls Q C rt X hl
  have C : zC p s m args c cX1_knows RX1 3 Ω := C
  have hl : lv_has ls 3 [(0, zR Ω 3), (1, zR Ω x1)] := hl
  unfold f_X1_knows at h
  skip
  refine z_iconst C dX1_knows_0 ?_
  refine lv_istore_n C.1 C.2.1 (lv' := [(2, zI 0), (0, zR Ω 3), (1, zR Ω x1)]) dX1_knows_1 rfl hl (by decide) rfl (fun ls hl => ?_)
  have L2 : ∀ (n2 : Nat) (x_1 : Int) (H : Heap) (locs : List Loc) (ls : Array Slot), Rg x_1 → zX Ω μ (zfree Ω) s.heap H locs → lv_has ls 3 [(0, zR Ω 3), (1, zR Ω x1), (2, zI x_1)] → (f_X1_knows_L2 x1 μ n2 x_1) = some r → W p l e (zrm 0) s m args below meth c H locs 0 0 Q (F0 m 2 ls []) := by
    intro n2
    induction n2 with
    | zero =>
      intro x_1 H locs ls _ _ _ h
      cases h
    | succ n2 ih2 =>
      intro x_1 H locs ls gx_1 X hl h
      unfold f_X1_knows_L2 at h
      refine lv_iload_n C.1 C.2.1 dX1_knows_2 rfl (lv_at hl 2 rfl) ?_
      refine lv_aload_n C.1 C.2.1 dX1_knows_3 rfl (lv_at hl 1 rfl) ?_
      have g_4 : Rg (μ x1 2) := zrgf0 (ci := 8) X.2.2.2 (zob.self o_x1) (zo8 o_x1) 2 rfl
      refine z_get C X zk8 (zob.self o_x1) (zo8 o_x1) 2 (by decide) kw_197 (zI (μ x1 2)) rfl dX1_knows_4 ?_
      refine z_icmpge C gx_1 g_4 (tgt := 36) dX1_knows_7 (by decide) (fun hc7 => ?_) (fun hc7 => ?_)
      · rw [if_neg hc7] at h
        refine z_iconst C dX1_knows_36 ?_
        obtain rfl := Option.some.inj h
        exact rt X ⟨by decide, by decide⟩ dX1_knows_37
      · rw [if_pos hc7] at h
        refine lv_aload_n C.1 C.2.1 dX1_knows_10 rfl (lv_at hl 0 rfl) ?_
        refine z_get C X zk1 (hI.1 3 (by decide)) rfl 2 (by decide) kw_129 (zR Ω 12) (zfvF (off := 9) X.2.2.2 (hI.1 3 (by decide)) (hI.2 3 (by decide)) rfl rfl (by decide)) dX1_knows_11 ?_
        refine lv_aload_n C.1 C.2.1 dX1_knows_14 rfl (lv_at hl 1 rfl) ?_
        refine z_get C X zk8 (zob.self o_x1) (zo8 o_x1) 0 (by decide) kw_188 (zR Ω (x1 + 1)) (zfvF (off := 1) X.2.2.2 (zob.self o_x1) o_x1.2.2 (zo8 o_x1) rfl (by rw [zo8_1 o_x1]; decide)) dX1_knows_15 ?_
        refine lv_iload_n C.1 C.2.1 dX1_knows_18 rfl (lv_at hl 2 rfl) ?_
        obtain ⟨hc19, h⟩ := chk_some h
        have g_19 : Rg (μ (x1 + 1) x_1) := zrg1 X.2.2.2 (o_x1.2.1 1 (by decide) (by decide)) (zo8_1 o_x1)
        refine z_iald C X (o_x1.2.1 1 (by decide) (by decide)) (zo8_1 o_x1) hc19 dX1_knows_19 ?_
        refine z_iconst C dX1_knows_20 ?_
        refine z_ishr C dX1_knows_21 ?_
        obtain ⟨hc22, h⟩ := chk_some h
        have g_22 : Rg (μ 12 (zshr (μ (x1 + 1) x_1) 1)) := zrg1 X.2.2.2 (hI.1 12 (by decide)) rfl
        refine z_iald C X (hI.1 12 (by decide)) rfl hc22 dX1_knows_22 ?_
        refine z_bipush C dX1_knows_23 (by decide) ?_
        refine z_icmpne C g_22 ⟨by decide, by decide⟩ (tgt := 30) dX1_knows_25 (by decide) (fun hc25 => ?_) (fun hc25 => ?_)
        · rw [if_neg hc25] at h
          refine zlet_elim h (fun x_2 ex_2 h => ?_)
          have gx_2 : Rg x_2 := by rw [ex_2]; exact Rg.w _
          refine z_iinc C ex_2 dX1_knows_30 hl (k := 2) rfl (by decide) (lv' := [(2, zI x_2), (0, zR Ω 3), (1, zR Ω x1)]) rfl (fun ls hl => ?_)
          clear ex_2
          refine lv_goto (tgt := 2) C.1 C.2.1 dX1_knows_33 (by decide) ?_
          exact ih2 x_2 _ _ _ gx_2 X (lv_sub hl [1, 2, 0] rfl) h
        · rw [if_pos hc25] at h
          refine z_iconst C dX1_knows_28 ?_
          obtain rfl := Option.some.inj h
          exact rt X ⟨by decide, by decide⟩ dX1_knows_29
  exact L2 zfu 0 _ _ _ ⟨by decide, by decide⟩ X (lv_sub hl [1, 2, 0] rfl) h
theorem zc_X1_knows : zcal yX1_knows cX1_knows 3 (some Jvm.ClassFile.FieldType.boolean) RX1 1 := ⟨⟨kw_832, kw_830, kw_831, kw_2⟩, rfl, by decide, by decide, by decide +kernel⟩

def f_X4_back (t0 : Int) (x1 : Int) (μ : zMem) : Option Int :=
  chk ((0 : Int) ≤ x1 ∧ x1 < zlen (t0 + 3)) <|
  some (μ (t0 + 3) x1)
set_option maxHeartbeats 4000000 in
set_option maxRecDepth 100000 in
theorem M_X4_back {l : Launch} {Ω : zO} (μ : zMem) (t0 : Int) (x1 : Int) {r : Int} (o_t0 : zob Ω.2.2.1 4 t0) (gx1 : Rg x1) (h : f_X4_back t0 x1 μ = some r) : XMet l yX4_back cX4_back 2 (some Jvm.ClassFile.FieldType.int) 0 Ω [zR Ω t0, zI x1] μ (some (zI r)) (Rg r) μ := by
  refine XMet.ofI (by decide) (Nat.le_of_ble_eq_true rfl) ?_
  intro p e s m args below meth c ls Q C rt X hl
  have C : zC p s m args c cX4_back RX4 2 Ω := C
  have hl : lv_has ls 2 [(0, zR Ω t0), (1, zI x1)] := hl
  unfold f_X4_back at h
  skip
  refine lv_aload_n C.1 C.2.1 dX4_back_0 rfl (lv_at hl 0 rfl) ?_
  refine z_get C X zk4 (zob.self o_t0) (zo4 o_t0) 4 (by decide) kw_377 (zR Ω (t0 + 3)) (zfvF (off := 3) X.2.2.2 (zob.self o_t0) o_t0.2.2 (zo4 o_t0) rfl (by rw [zo4_3 o_t0]; decide)) dX4_back_1 ?_
  refine lv_iload_n C.1 C.2.1 dX4_back_4 rfl (lv_at hl 1 rfl) ?_
  obtain ⟨hc5, h⟩ := chk_some h
  have g_5 : Rg (μ (t0 + 3) x1) := zrg1 X.2.2.2 (o_t0.2.1 3 (by decide) (by decide)) (zo4_3 o_t0)
  refine z_iald C X (o_t0.2.1 3 (by decide) (by decide)) (zo4_3 o_t0) hc5 dX4_back_5 ?_
  obtain rfl := Option.some.inj h
  exact rt X g_5 dX4_back_6
theorem zc_X4_back : zcal yX4_back cX4_back 2 (some Jvm.ClassFile.FieldType.int) RX4 1 := ⟨⟨kw_735, kw_733, kw_734, kw_11⟩, rfl, by decide, by decide, by decide +kernel⟩

def f_X4_move (t0 : Int) (x1 : Int) (x2 : Int) (μ : zMem) : Option Int :=
  chk ((0 : Int) ≤ (zw ((zw (x1 * (μ t0 0))) + x2)) ∧ (zw ((zw (x1 * (μ t0 0))) + x2)) < zlen (t0 + 1)) <|
  some (μ (t0 + 1) (zw ((zw (x1 * (μ t0 0))) + x2)))
set_option maxHeartbeats 4000000 in
set_option maxRecDepth 100000 in
theorem M_X4_move {l : Launch} {Ω : zO} (μ : zMem) (t0 : Int) (x1 : Int) (x2 : Int) {r : Int} (o_t0 : zob Ω.2.2.1 4 t0) (gx1 : Rg x1) (gx2 : Rg x2) (h : f_X4_move t0 x1 x2 μ = some r) : XMet l yX4_move cX4_move 3 (some Jvm.ClassFile.FieldType.int) 0 Ω [zR Ω t0, zI x1, zI x2] μ (some (zI r)) (Rg r) μ := by
  refine XMet.ofI (by decide) (Nat.le_of_ble_eq_true rfl) ?_
  intro p e s m args below meth c ls Q C rt X hl
  have C : zC p s m args c cX4_move RX4 3 Ω := C
  have hl : lv_has ls 3 [(0, zR Ω t0), (1, zI x1), (2, zI x2)] := hl
  unfold f_X4_move at h
  skip
  refine lv_aload_n C.1 C.2.1 dX4_move_0 rfl (lv_at hl 0 rfl) ?_
  refine z_get C X zk4 (zob.self o_t0) (zo4 o_t0) 2 (by decide) kw_375 (zR Ω (t0 + 1)) (zfvF (off := 1) X.2.2.2 (zob.self o_t0) o_t0.2.2 (zo4 o_t0) rfl (by rw [zo4_1 o_t0]; decide)) dX4_move_1 ?_
  refine lv_iload_n C.1 C.2.1 dX4_move_4 rfl (lv_at hl 1 rfl) ?_
  refine lv_aload_n C.1 C.2.1 dX4_move_5 rfl (lv_at hl 0 rfl) ?_
  have g_6 : Rg (μ t0 0) := zrgf0 (ci := 4) X.2.2.2 (zob.self o_t0) (zo4 o_t0) 0 rfl
  refine z_get C X zk4 (zob.self o_t0) (zo4 o_t0) 0 (by decide) kw_369 (zI (μ t0 0)) rfl dX4_move_6 ?_
  refine z_imul C dX4_move_9 ?_
  refine lv_iload_n C.1 C.2.1 dX4_move_10 rfl (lv_at hl 2 rfl) ?_
  refine z_iadd C dX4_move_11 ?_
  obtain ⟨hc12, h⟩ := chk_some h
  have g_12 : Rg (μ (t0 + 1) (zw ((zw (x1 * (μ t0 0))) + x2))) := zrg1 X.2.2.2 (o_t0.2.1 1 (by decide) (by decide)) (zo4_1 o_t0)
  refine z_iald C X (o_t0.2.1 1 (by decide) (by decide)) (zo4_1 o_t0) hc12 dX4_move_12 ?_
  obtain rfl := Option.some.inj h
  exact rt X g_12 dX4_move_13
theorem zc_X4_move : zcal yX4_move cX4_move 3 (some Jvm.ClassFile.FieldType.int) RX4 2 := ⟨⟨kw_368, kw_366, kw_367, kw_11⟩, rfl, by decide, by decide, by decide +kernel⟩

def f_X1_moveByStep_J47 (x2 : Int) (μ : zMem) (x_3 : Int) (x_4 : Int) : Option Int :=
  bnd (f_X4_move x_3 x_4 x2 μ) fun x_5 =>
  some x_5
def f_X1_moveByStep (x1 : Int) (x2 : Int) (μ : zMem) : Option Int :=
  chk ((0 : Int) ≤ (zshr x1 1) ∧ (zshr x1 1) < 12) <|
  zlet ((μ 12 (zshr x1 1))) fun x_1 =>
  if x_1 < 0 then
    some x2
  else
    chk ((0 : Int) ≤ x_1 ∧ x_1 < 12) <|
    zlet ((μ 11 x_1)) fun x_2 =>
    chk ((μ 3 8) ≠ 0) <|
    zlet (μ 3 8) fun x_3 =>
    if (zand x1 1) = 0 then
      (f_X1_moveByStep_J47 x2 μ x_3) x_2
    else
      chk ((μ 3 8) ≠ 0) <|
      zlet (μ 3 8) fun x_6 =>
      bnd (f_X4_back x_6 x_2 μ) fun x_7 =>
      (f_X1_moveByStep_J47 x2 μ x_3) x_7
set_option maxHeartbeats 4000000 in
set_option maxRecDepth 100000 in
theorem M_X1_moveByStep {l : Launch} {Ω : zO} (hI : zIc Ω) (μ : zMem) (x1 : Int) (x2 : Int) {r : Int} (gx1 : Rg x1) (gx2 : Rg x2) (h : f_X1_moveByStep x1 x2 μ = some r) : XMet l yX1_moveByStep cX1_moveByStep 5 (some Jvm.ClassFile.FieldType.int) 1 Ω [zR Ω 3, zI x1, zI x2] μ (some (zI r)) (Rg r) μ := by
  refine XMet.ofI (by decide) (Nat.le_of_ble_eq_true rfl) ?_
  intro p e s m args below meth c ls Q C rt X hl
  have C : zC p s m args c cX1_moveByStep RX1 5 Ω := C
  have hl : lv_has ls 5 [(0, zR Ω 3), (1, zI x1), (2, zI x2)] := hl
  unfold f_X1_moveByStep at h
  skip
  refine lv_aload_n C.1 C.2.1 dX1_moveByStep_0 rfl (lv_at hl 0 rfl) ?_
  refine z_get C X zk1 (hI.1 3 (by decide)) rfl 2 (by decide) kw_129 (zR Ω 12) (zfvF (off := 9) X.2.2.2 (hI.1 3 (by decide)) (hI.2 3 (by decide)) rfl rfl (by decide)) dX1_moveByStep_1 ?_
  refine lv_iload_n C.1 C.2.1 dX1_moveByStep_4 rfl (lv_at hl 1 rfl) ?_
  refine z_iconst C dX1_moveByStep_5 ?_
  refine z_ishr C dX1_moveByStep_6 ?_
  obtain ⟨hc7, h⟩ := chk_some h
  have g_7 : Rg (μ 12 (zshr x1 1)) := zrg1 X.2.2.2 (hI.1 12 (by decide)) rfl
  refine z_iald C X (hI.1 12 (by decide)) rfl hc7 dX1_moveByStep_7 ?_
  refine zlet_elim h (fun x_1 ex_1 h => ?_)
  have gx_1 : Rg x_1 := by rw [ex_1]; exact g_7
  refine z_istore_n C ex_1 dX1_moveByStep_8 rfl hl (by decide) (lv' := [(3, zI x_1), (0, zR Ω 3), (1, zI x1), (2, zI x2)]) rfl (fun ls hl => ?_)
  clear ex_1
  refine lv_iload_n C.1 C.2.1 dX1_moveByStep_9 rfl (lv_at hl 0 rfl) ?_
  refine z_ifge C gx_1 (tgt := 15) dX1_moveByStep_10 (by decide) (fun hc10 => ?_) (fun hc10 => ?_)
  · rw [if_neg hc10] at h
    refine lv_aload_n C.1 C.2.1 dX1_moveByStep_15 rfl (lv_at hl 1 rfl) ?_
    refine z_get C X zk1 (hI.1 3 (by decide)) rfl 1 (by decide) kw_127 (zR Ω 11) (zfvF (off := 8) X.2.2.2 (hI.1 3 (by decide)) (hI.2 3 (by decide)) rfl rfl (by decide)) dX1_moveByStep_16 ?_
    refine lv_iload_n C.1 C.2.1 dX1_moveByStep_19 rfl (lv_at hl 0 rfl) ?_
    obtain ⟨hc20, h⟩ := chk_some h
    have g_20 : Rg (μ 11 x_1) := zrg1 X.2.2.2 (hI.1 11 (by decide)) rfl
    refine z_iald C X (hI.1 11 (by decide)) rfl hc20 dX1_moveByStep_20 ?_
    refine zlet_elim h (fun x_2 ex_2 h => ?_)
    have gx_2 : Rg x_2 := by rw [ex_2]; exact g_20
    refine z_istore C ex_2 dX1_moveByStep_21 hl (by decide) (lv' := [(4, zI x_2), (3, zI x_1), (0, zR Ω 3), (1, zI x1), (2, zI x2)]) rfl (fun ls hl => ?_)
    clear ex_2
    refine lv_aload_n C.1 C.2.1 dX1_moveByStep_23 rfl (lv_at hl 2 rfl) ?_
    obtain ⟨hn24, h⟩ := chk_some h
    have o_24 : zob Ω.2.2.1 4 (μ 3 8) := (zrgf4 (ci := 1) X.2.2.2 (hI.1 3 (by decide)) rfl 8 4 rfl rfl).resolve_left hn24
    refine z_get C X zk1 (hI.1 3 (by decide)) rfl 8 (by decide) kw_137 (zQ Ω (μ 3 8)) rfl dX1_moveByStep_24 ?_
    rw [zQ_pos Ω hn24]
    refine zlet_elim h (fun x_3 ex_3 h => ?_)
    rw [← ex_3] at o_24 ⊢
    clear hn24 ex_3
    refine lv_iload_n C.1 C.2.1 dX1_moveByStep_27 rfl (lv_at hl 3 rfl) ?_
    refine z_iconst C dX1_moveByStep_28 ?_
    refine z_iand C dX1_moveByStep_29 ?_
    have K47 : ∀ (x_4 : Int) (H : Heap) (locs : List Loc) (ls : Array Slot), Rg x_4 → zX Ω μ (zfree Ω) s.heap H locs → lv_has ls 5 [(2, zI x2)] → (f_X1_moveByStep_J47 x2 μ x_3) x_4 = some r → W p l e (zrm 1) s m args below meth c H locs 0 0 Q (F0 m 47 ls [zI x_4, zR Ω x_3]) := by
      intro x_4 H locs ls gx_4 X hl h
      unfold f_X1_moveByStep_J47 at h
      refine lv_iload_n C.1 C.2.1 dX1_moveByStep_47 rfl (lv_at hl 0 rfl) ?_
      obtain ⟨x_5, hq48, h⟩ := bnd_some h
      refine z_callV1 C X zk4 (zob.self o_24) (zo4 o_24) (As := [zI x_4, zI x2]) (M_X4_move μ x_3 x_4 x2 o_24 gx_4 gx2 hq48) zc_X4_move kw_795 (zroom (by decide) (by decide)) rfl hl.1 rfl (Nat.le_of_ble_eq_true rfl) dX1_moveByStep_48 ⟨Nat.zero_le _, Nat.zero_le _⟩ (fun H locs g_48 X => ?_)
      obtain rfl := Option.some.inj h
      exact rt X g_48 dX1_moveByStep_51
    refine z_ifne C (Rg.t _) (tgt := 38) dX1_moveByStep_30 (by decide) (fun hc30 => ?_) (fun hc30 => ?_)
    · rw [if_neg hc30] at h
      refine lv_aload_n C.1 C.2.1 dX1_moveByStep_38 rfl (lv_at hl 2 rfl) ?_
      obtain ⟨hn39, h⟩ := chk_some h
      have o_39 : zob Ω.2.2.1 4 (μ 3 8) := (zrgf4 (ci := 1) X.2.2.2 (hI.1 3 (by decide)) rfl 8 4 rfl rfl).resolve_left hn39
      refine z_get C X zk1 (hI.1 3 (by decide)) rfl 8 (by decide) kw_137 (zQ Ω (μ 3 8)) rfl dX1_moveByStep_39 ?_
      rw [zQ_pos Ω hn39]
      refine zlet_elim h (fun x_6 ex_6 h => ?_)
      rw [← ex_6] at o_39 ⊢
      clear hn39 ex_6
      refine lv_iload C.1 C.2.1 dX1_moveByStep_42 (lv_at hl 0 rfl) ?_
      obtain ⟨x_7, hq44, h⟩ := bnd_some h
      refine z_callV1 C X zk4 (zob.self o_39) (zo4 o_39) (As := [zI x_2]) (M_X4_back μ x_6 x_2 o_39 gx_2 hq44) zc_X4_back kw_794 (zroom (by decide) (by decide)) rfl hl.1 rfl (Nat.le_of_ble_eq_true rfl) dX1_moveByStep_44 ⟨Nat.zero_le _, Nat.zero_le _⟩ (fun H locs g_44 X => ?_)
      exact K47 x_7 _ _ _ g_44 X (lv_sub hl [4] rfl) h
    · rw [if_pos hc30] at h
      refine lv_iload C.1 C.2.1 dX1_moveByStep_33 (lv_at hl 0 rfl) ?_
      refine lv_goto (tgt := 47) C.1 C.2.1 dX1_moveByStep_35 (by decide) ?_
      exact K47 x_2 _ _ _ gx_2 X (lv_sub hl [4] rfl) h
  · rw [if_pos hc10] at h
    refine lv_iload_n C.1 C.2.1 dX1_moveByStep_13 rfl (lv_at hl 3 rfl) ?_
    obtain rfl := Option.some.inj h
    exact rt X gx2 dX1_moveByStep_14
theorem zc_X1_moveByStep : zcal yX1_moveByStep cX1_moveByStep 5 (some Jvm.ClassFile.FieldType.int) RX1 2 := ⟨⟨kw_793, kw_791, kw_792, kw_2⟩, rfl, by decide, by decide, by decide +kernel⟩

def f_J7_fill_53178_L5 (x0 : Int) (x1 : Int) (x_1 : Int) : Nat → Int → zMem → Option zMem
  | 0, _, _ => none
  | n + 1, x_2, μ_3 =>
    if x_2 < x_1 then
      chk ((0 : Int) ≤ x_2 ∧ x_2 < zlen x0) <|
      zlet (zup μ_3 x0 x_2 x1) fun μ_4 =>
      zlet (zw (x_2 + 1)) fun x_5 =>
      (f_J7_fill_53178_L5 x0 x1 x_1 n) x_5 μ_4
    else
      some μ_3
def f_J7_fill_53178 (x0 : Int) (x1 : Int) (μ : zMem) : Option zMem :=
  zlet ((zlen x0)) fun x_1 =>
  (f_J7_fill_53178_L5 x0 x1 x_1) zfu 0 μ
set_option maxHeartbeats 4000000 in
set_option maxRecDepth 100000 in
theorem M_J7_fill_53178 {l : Launch} {Ω : zO} (μ : zMem) (x0 : Int) (x1 : Int) {μ' : zMem} (mx0 : x0 ∈ Ω.2.2.1.1) (sx0 : (zsh x0).1 = 1) (gx1 : Rg x1) (h : f_J7_fill_53178 x0 x1 μ = some μ') : XMet l yJ7_fill_53178 cJ7_fill_53178 4 none 0 Ω [zR Ω x0, zI x1] μ none True μ' := by
  refine XMet.ofV (by decide) (Nat.le_of_ble_eq_true rfl) ?_
  intro p e s m args below meth c ls Q C rt X hl
  have C : zC p s m args c cJ7_fill_53178 RJ7 4 Ω := C
  have hl : lv_has ls 4 [(0, zR Ω x0), (1, zI x1)] := hl
  unfold f_J7_fill_53178 at h
  skip
  refine z_iconst C dJ7_fill_53178_0 ?_
  refine lv_istore_n C.1 C.2.1 (lv' := [(2, zI 0), (0, zR Ω x0), (1, zI x1)]) dJ7_fill_53178_1 rfl hl (by decide) rfl (fun ls hl => ?_)
  refine lv_aload_n C.1 C.2.1 dJ7_fill_53178_2 rfl (lv_at hl 1 rfl) ?_
  have g_3 : Rg (zlen x0) := zlen_rg x0
  refine z_alen C X mx0 (a := 1) sx0 (by decide) (zlen x0) rfl dJ7_fill_53178_3 ?_
  refine zlet_elim h (fun x_1 ex_1 h => ?_)
  have gx_1 : Rg x_1 := by rw [ex_1]; exact g_3
  refine z_istore_n C ex_1 dJ7_fill_53178_4 rfl hl (by decide) (lv' := [(3, zI x_1), (2, zI 0), (0, zR Ω x0), (1, zI x1)]) rfl (fun ls hl => ?_)
  clear ex_1
  have L5 : ∀ (n5 : Nat) (x_2 : Int) (μ_3 : zMem) (H : Heap) (locs : List Loc) (ls : Array Slot), Rg x_2 → zX Ω μ_3 (zfree Ω) s.heap H locs → lv_has ls 4 [(0, zR Ω x0), (1, zI x1), (2, zI x_2), (3, zI x_1)] → (f_J7_fill_53178_L5 x0 x1 x_1 n5 x_2 μ_3) = some μ' → W p l e (zrm 0) s m args below meth c H locs 0 0 Q (F0 m 5 ls []) := by
    intro n5
    induction n5 with
    | zero =>
      intro x_2 μ_3 H locs ls _ _ _ h
      cases h
    | succ n5 ih5 =>
      intro x_2 μ_3 H locs ls gx_2 X hl h
      unfold f_J7_fill_53178_L5 at h
      refine lv_iload_n C.1 C.2.1 dJ7_fill_53178_5 rfl (lv_at hl 2 rfl) ?_
      refine lv_iload_n C.1 C.2.1 dJ7_fill_53178_6 rfl (lv_at hl 3 rfl) ?_
      refine z_icmpge C gx_2 gx_1 (tgt := 20) dJ7_fill_53178_7 (by decide) (fun hc7 => ?_) (fun hc7 => ?_)
      · rw [if_neg hc7] at h
        obtain rfl := Option.some.inj h
        exact rt X dJ7_fill_53178_20
      · rw [if_pos hc7] at h
        refine lv_aload_n C.1 C.2.1 dJ7_fill_53178_10 rfl (lv_at hl 0 rfl) ?_
        refine lv_iload_n C.1 C.2.1 dJ7_fill_53178_11 rfl (lv_at hl 2 rfl) ?_
        refine lv_iload_n C.1 C.2.1 dJ7_fill_53178_12 rfl (lv_at hl 1 rfl) ?_
        obtain ⟨hc13, h⟩ := chk_some h
        refine zlet_elim h (fun μ_4 em h => ?_)
        refine z_iast C X mx0 sx0 hc13 (zok1 sx0 gx1) em dJ7_fill_53178_13 (fun H locs X => ?_)
        clear em
        refine zlet_elim h (fun x_5 ex_5 h => ?_)
        have gx_5 : Rg x_5 := by rw [ex_5]; exact Rg.w _
        refine z_iinc C ex_5 dJ7_fill_53178_14 hl (k := 2) rfl (by decide) (lv' := [(2, zI x_5), (0, zR Ω x0), (1, zI x1), (3, zI x_1)]) rfl (fun ls hl => ?_)
        clear ex_5
        refine lv_goto (tgt := 5) C.1 C.2.1 dJ7_fill_53178_17 (by decide) ?_
        exact ih5 x_5 μ_4 _ _ _ gx_5 X (lv_sub hl [1, 2, 0, 3] rfl) h
  exact L5 zfu 0 μ _ _ _ ⟨by decide, by decide⟩ X (lv_sub hl [2, 3, 1, 0] rfl) h
theorem zc_J7_fill_53178 : zcas yJ7_fill_53178 cJ7_fill_53178 4 none 2 := ⟨⟨kw_780, kw_779, kw_14⟩, by decide, by decide, by decide +kernel⟩

