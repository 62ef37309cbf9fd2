def f_X6_begin_L37 (x1 : Int) : Nat → Int → zMem → Option zMem
  | 0, _, _ => none
  | n + 1, x_7, μ_8 =>
    if x_7 < (μ_8 x1 8) then
      bnd (f_X5_isPaneOfPart x1 x_7 μ_8) fun x_9 =>
      if x_9 = 0 then
        zlet (zw (x_7 + 1)) fun x_10 =>
        (f_X6_begin_L37 x1 n) x_10 μ_8
      else
        bnd (f_X6_takeRim x1 x_7 μ_8) fun μ_11 =>
        zlet (zw (x_7 + 1)) fun x_12 =>
        (f_X6_begin_L37 x1 n) x_12 μ_11
    else
      some μ_8
def f_X6_begin (x1 : Int) (x2 : Int) (μ : zMem) : Option zMem :=
  zlet (zup μ 27 9 x2) fun μ_1 =>
  zlet (zup μ_1 27 8 (μ_1 x1 10)) fun μ_2 =>
  zlet (zup μ_2 27 6 0) fun μ_3 =>
  zlet (zup μ_3 27 7 0) fun μ_4 =>
  zlet (zup μ_4 28 0 (-1)) fun μ_5 =>
  zlet (zup μ_5 27 5 0) fun μ_6 =>
  (f_X6_begin_L37 x1) zfu 0 μ_6
set_option maxHeartbeats 4000000 in
set_option maxRecDepth 100000 in
theorem M_X6_begin {l : Launch} {Ω : zO} (hI : zIc Ω) (μ : zMem) (x1 : Int) (x2 : Int) {μ' : zMem} (o_x1 : zob Ω.2.2.1 5 x1) (o_x2 : zob Ω.2.2.1 4 x2) (h : f_X6_begin x1 x2 μ = some μ') : XMet l yX6_begin cX6_begin 4 none 2 Ω [zR Ω 27, zR Ω x1, zR Ω x2] μ none True μ' := by
  refine XMet.ofV (by decide) (Nat.le_of_ble_eq_true rfl) ?_
  intro p e s m args below meth c ls Q C rt X hl
  have C : zC p s m args c cX6_begin RX6 4 Ω := C
  have hl : lv_has ls 4 [(0, zR Ω 27), (1, zR Ω x1), (2, zR Ω x2)] := hl
  unfold f_X6_begin at h
  skip
  refine lv_aload_n C.1 C.2.1 dX6_begin_0 rfl (lv_at hl 0 rfl) ?_
  refine lv_aload_n C.1 C.2.1 dX6_begin_1 rfl (lv_at hl 2 rfl) ?_
  refine zlet_elim h (fun μ_1 em h => ?_)
  refine z_putQ (co := 4) C X zk6 (hI.1 27 (by decide)) rfl 9 (by decide) kw_264 rfl rfl rfl rfl o_x2 (zob.ne o_x2) em dX6_begin_2 (fun H locs X => ?_)
  clear em
  refine lv_aload_n C.1 C.2.1 dX6_begin_5 rfl (lv_at hl 0 rfl) ?_
  refine lv_aload_n C.1 C.2.1 dX6_begin_6 rfl (lv_at hl 1 rfl) ?_
  have g_7 : Rg (μ_1 x1 10) := zrgf0 (ci := 5) X.2.2.2 (zob.self o_x1) (zo5 o_x1) 10 rfl
  refine z_get C X zk5 (zob.self o_x1) (zo5 o_x1) 10 (by decide) kw_97 (zI (μ_1 x1 10)) rfl dX6_begin_7 ?_
  refine zlet_elim h (fun μ_2 em h => ?_)
  refine z_putI C X zk6 (hI.1 27 (by decide)) rfl 8 (by decide) kw_262 rfl rfl rfl rfl g_7 em dX6_begin_10 (fun H locs X => ?_)
  clear em
  refine lv_aload_n C.1 C.2.1 dX6_begin_13 rfl (lv_at hl 0 rfl) ?_
  refine z_iconst C dX6_begin_14 ?_
  refine zlet_elim h (fun μ_3 em h => ?_)
  refine z_putI C X zk6 (hI.1 27 (by decide)) rfl 6 (by decide) kw_260 rfl rfl rfl rfl ⟨by decide, by decide⟩ em dX6_begin_15 (fun H locs X => ?_)
  clear em
  refine lv_aload_n C.1 C.2.1 dX6_begin_18 rfl (lv_at hl 0 rfl) ?_
  refine z_iconst C dX6_begin_19 ?_
  refine zlet_elim h (fun μ_4 em h => ?_)
  refine z_putZ C X zk6 (hI.1 27 (by decide)) rfl 7 (by decide) kw_261 rfl rfl rfl rfl ⟨by decide, by decide⟩ em dX6_begin_20 (fun H locs X => ?_)
  clear em
  refine lv_aload_n C.1 C.2.1 dX6_begin_23 rfl (lv_at hl 0 rfl) ?_
  refine z_get C X zk6 (hI.1 27 (by decide)) rfl 0 (by decide) kw_253 (zR Ω 28) (zfvF (off := 1) X.2.2.2 (hI.1 27 (by decide)) (hI.2 27 (by decide)) rfl rfl (by decide)) dX6_begin_24 ?_
  refine z_iconst C dX6_begin_27 ?_
  refine z_iconst C dX6_begin_28 ?_
  refine zlet_elim h (fun μ_5 em h => ?_)
  refine z_iast C X (hI.1 28 (by decide)) rfl (by decide) (zok1 rfl ⟨by decide, by decide⟩) em dX6_begin_29 (fun H locs X => ?_)
  clear em
  refine lv_aload_n C.1 C.2.1 dX6_begin_30 rfl (lv_at hl 0 rfl) ?_
  refine z_iconst C dX6_begin_31 ?_
  refine zlet_elim h (fun μ_6 em h => ?_)
  refine z_putI C X zk6 (hI.1 27 (by decide)) rfl 5 (by decide) kw_259 rfl rfl rfl rfl ⟨by decide, by decide⟩ em dX6_begin_32 (fun H locs X => ?_)
  clear em
  refine z_iconst C dX6_begin_35 ?_
  refine lv_istore_n C.1 C.2.1 (lv' := [(3, zI 0), (0, zR Ω 27), (1, zR Ω x1), (2, zR Ω x2)]) dX6_begin_36 rfl hl (by decide) rfl (fun ls hl => ?_)
  have L37 : ∀ (n37 : Nat) (x_7 : Int) (μ_8 : zMem) (H : Heap) (locs : List Loc) (ls : Array Slot), Rg x_7 → zX Ω μ_8 (zfree Ω) s.heap H locs → lv_has ls 4 [(0, zR Ω 27), (1, zR Ω x1), (3, zI x_7)] → (f_X6_begin_L37 x1 n37 x_7 μ_8) = some μ' → W p l e (zrm 2) s m args below meth c H locs 0 0 Q (F0 m 37 ls []) := by
    intro n37
    induction n37 with
    | zero =>
      intro x_7 μ_8 H locs ls _ _ _ h
      cases h
    | succ n37 ih37 =>
      intro x_7 μ_8 H locs ls gx_7 X hl h
      unfold f_X6_begin_L37 at h
      refine lv_iload_n C.1 C.2.1 dX6_begin_37 rfl (lv_at hl 2 rfl) ?_
      refine lv_aload_n C.1 C.2.1 dX6_begin_38 rfl (lv_at hl 1 rfl) ?_
      have g_39 : Rg (μ_8 x1 8) := zrgf0 (ci := 5) X.2.2.2 (zob.self o_x1) (zo5 o_x1) 8 rfl
      refine z_get C X zk5 (zob.self o_x1) (zo5 o_x1) 8 (by decide) kw_88 (zI (μ_8 x1 8)) rfl dX6_begin_39 ?_
      refine z_icmpge C gx_7 g_39 (tgt := 65) dX6_begin_42 (by decide) (fun hc42 => ?_) (fun hc42 => ?_)
      · rw [if_neg hc42] at h
        obtain rfl := Option.some.inj h
        exact rt X dX6_begin_65
      · rw [if_pos hc42] at h
        refine lv_aload_n C.1 C.2.1 dX6_begin_45 rfl (lv_at hl 1 rfl) ?_
        refine lv_iload_n C.1 C.2.1 dX6_begin_46 rfl (lv_at hl 2 rfl) ?_
        obtain ⟨x_9, hq47, h⟩ := bnd_some h
        refine z_callV1 C X zk5 (zob.self o_x1) (zo5 o_x1) (As := [zI x_7]) (M_X5_isPaneOfPart μ_8 x1 x_7 o_x1 gx_7 hq47) zc_X5_isPaneOfPart kw_705 (zroom (by decide) (by decide)) rfl hl.1 rfl (Nat.le_of_ble_eq_true rfl) dX6_begin_47 ⟨Nat.zero_le _, Nat.zero_le _⟩ (fun H locs g_47 X => ?_)
        refine z_ifeq C (rgz g_47) (tgt := 59) dX6_begin_50 (by decide) (fun hc50 => ?_) (fun hc50 => ?_)
        · rw [if_pos hc50] at h
          refine zlet_elim h (fun x_10 ex_10 h => ?_)
          have gx_10 : Rg x_10 := by rw [ex_10]; exact Rg.w _
          refine z_iinc C ex_10 dX6_begin_59 hl (k := 2) rfl (by decide) (lv' := [(3, zI x_10), (0, zR Ω 27), (1, zR Ω x1)]) rfl (fun ls hl => ?_)
          clear ex_10
          refine lv_goto (tgt := 37) C.1 C.2.1 dX6_begin_62 (by decide) ?_
          exact ih37 x_10 μ_8 _ _ _ gx_10 X (lv_sub hl [1, 2, 0] rfl) h
        · rw [if_neg hc50] at h
          refine lv_aload_n C.1 C.2.1 dX6_begin_53 rfl (lv_at hl 0 rfl) ?_
          refine lv_aload_n C.1 C.2.1 dX6_begin_54 rfl (lv_at hl 1 rfl) ?_
          refine lv_iload_n C.1 C.2.1 dX6_begin_55 rfl (lv_at hl 2 rfl) ?_
          obtain ⟨μ_11, hq56, h⟩ := bnd_some h
          refine z_callV0 C X zk6 (hI.1 27 (by decide)) rfl (As := [zR Ω x1, zI x_7]) (M_X6_takeRim hI μ_8 x1 x_7 o_x1 gx_7 hq56) zc_X6_takeRim kw_711 (zroom (by decide) (by decide)) rfl hl.1 rfl (Nat.le_of_ble_eq_true rfl) dX6_begin_56 ⟨Nat.zero_le _, Nat.zero_le _⟩ (fun H locs g_56 X => ?_)
          refine zlet_elim h (fun x_12 ex_12 h => ?_)
          have gx_12 : Rg x_12 := by rw [ex_12]; exact Rg.w _
          refine z_iinc C ex_12 dX6_begin_59 hl (k := 2) rfl (by decide) (lv' := [(3, zI x_12), (0, zR Ω 27), (1, zR Ω x1)]) rfl (fun ls hl => ?_)
          clear ex_12
          refine lv_goto (tgt := 37) C.1 C.2.1 dX6_begin_62 (by decide) ?_
          exact ih37 x_12 μ_11 _ _ _ gx_12 X (lv_sub hl [1, 2, 0] rfl) h
  exact L37 zfu 0 μ_6 _ _ _ ⟨by decide, by decide⟩ X (lv_sub hl [1, 2, 0] rfl) h
theorem zc_X6_begin : zcal yX6_begin cX6_begin 4 none RX6 2 := ⟨⟨kw_704, kw_702, kw_703, kw_8⟩, rfl, by decide, by decide, by decide +kernel⟩

def f_X6_moveAlong_J56 (μ : zMem) (x_1 : Int) (x_2 : Int) (x_4 : Int) (g6 : Int → Int → Option Int) (x_5 : Int) : Option Int :=
  bnd (f_X4_follow x_4 x_1 x_5 μ) fun x_6 =>
  zlet (zw (x_2 + 1)) fun x_7 =>
  g6 x_6 x_7
def f_X6_moveAlong_L6 (x1 : Int) (x2 : Int) (x3 : Int) (μ : zMem) : Nat → Int → Int → Option Int
  | 0, _, _ => none
  | n + 1, x_1, x_2 =>
    if x_2 < (zw (x2 + x3)) then
      chk ((0 : Int) ≤ x_2 ∧ x_2 < zlen x1) <|
      chk ((0 : Int) ≤ (zshr (μ x1 x_2) 1) ∧ (zshr (μ x1 x_2) 1) < 12) <|
      zlet ((μ 28 (zshr (μ x1 x_2) 1))) fun x_3 =>
      chk ((μ 27 9) ≠ 0) <|
      zlet (μ 27 9) fun x_4 =>
      chk ((0 : Int) ≤ x_2 ∧ x_2 < zlen x1) <|
      if (zand (μ x1 x_2) 1) = 0 then
        (f_X6_moveAlong_J56 μ x_1 x_2 x_4 (f_X6_moveAlong_L6 x1 x2 x3 μ n)) x_3
      else
        chk ((μ 27 9) ≠ 0) <|
        zlet (μ 27 9) fun x_8 =>
        bnd (f_X4_back x_8 x_3 μ) fun x_9 =>
        (f_X6_moveAlong_J56 μ x_1 x_2 x_4 (f_X6_moveAlong_L6 x1 x2 x3 μ n)) x_9
    else
      some x_1
def f_X6_moveAlong (x1 : Int) (x2 : Int) (x3 : Int) (μ : zMem) : Option Int :=
  (f_X6_moveAlong_L6 x1 x2 x3 μ) zfu 0 x2
set_option maxHeartbeats 4000000 in
set_option maxRecDepth 100000 in
theorem M_X6_moveAlong {l : Launch} {Ω : zO} (hI : zIc Ω) (μ : zMem) (x1 : Int) (x2 : Int) (x3 : Int) {r : Int} (mx1 : x1 ∈ Ω.2.2.1.1) (sx1 : (zsh x1).1 = 1) (gx2 : Rg x2) (gx3 : Rg x3) (h : f_X6_moveAlong x1 x2 x3 μ = some r) : XMet l yX6_moveAlong cX6_moveAlong 7 (some Jvm.ClassFile.FieldType.int) 1 Ω [zR Ω 27, zR Ω x1, zI x2, zI x3] μ (some (zI r)) (Rg r) μ := by
  refine XMet.ofI (by decide) (Nat.le_of_ble_eq_true rfl) ?_
  intro p e s m args below meth c ls Q C rt X hl
  have C : zC p s m args c cX6_moveAlong RX6 7 Ω := C
  have hl : lv_has ls 7 [(0, zR Ω 27), (1, zR Ω x1), (2, zI x2), (3, zI x3)] := hl
  unfold f_X6_moveAlong at h
  skip
  refine z_iconst C dX6_moveAlong_0 ?_
  refine lv_istore C.1 C.2.1 (lv' := [(4, zI 0), (0, zR Ω 27), (1, zR Ω x1), (2, zI x2), (3, zI x3)]) dX6_moveAlong_1 hl (by decide) rfl (fun ls hl => ?_)
  refine lv_iload_n C.1 C.2.1 dX6_moveAlong_3 rfl (lv_at hl 3 rfl) ?_
  refine lv_istore C.1 C.2.1 (lv' := [(5, zI x2), (4, zI 0), (0, zR Ω 27), (1, zR Ω x1), (2, zI x2), (3, zI x3)]) dX6_moveAlong_4 hl (by decide) rfl (fun ls hl => ?_)
  have L6 : ∀ (n6 : Nat) (x_1 : Int) (x_2 : Int) (H : Heap) (locs : List Loc) (ls : Array Slot), Rg x_1 → Rg x_2 → zX Ω μ (zfree Ω) s.heap H locs → lv_has ls 7 [(0, zR Ω 27), (1, zR Ω x1), (2, zI x2), (3, zI x3), (4, zI x_1), (5, zI x_2)] → (f_X6_moveAlong_L6 x1 x2 x3 μ n6 x_1 x_2) = some r → W p l e (zrm 1) s m args below meth c H locs 0 0 Q (F0 m 6 ls []) := by
    intro n6
    induction n6 with
    | zero =>
      intro x_1 x_2 H locs ls _ _ _ _ h
      cases h
    | succ n6 ih6 =>
      intro x_1 x_2 H locs ls gx_1 gx_2 X hl h
      unfold f_X6_moveAlong_L6 at h
      refine lv_iload C.1 C.2.1 dX6_moveAlong_6 (lv_at hl 5 rfl) ?_
      refine lv_iload_n C.1 C.2.1 dX6_moveAlong_8 rfl (lv_at hl 2 rfl) ?_
      refine lv_iload_n C.1 C.2.1 dX6_moveAlong_9 rfl (lv_at hl 3 rfl) ?_
      refine z_iadd C dX6_moveAlong_10 ?_
      refine z_icmpge C gx_2 (Rg.w _) (tgt := 67) dX6_moveAlong_11 (by decide) (fun hc11 => ?_) (fun hc11 => ?_)
      · rw [if_neg hc11] at h
        refine lv_iload C.1 C.2.1 dX6_moveAlong_67 (lv_at hl 4 rfl) ?_
        obtain rfl := Option.some.inj h
        exact rt X gx_1 dX6_moveAlong_69
      · rw [if_pos hc11] at h
        refine lv_aload_n C.1 C.2.1 dX6_moveAlong_14 rfl (lv_at hl 0 rfl) ?_
        refine z_get C X zk6 (hI.1 27 (by decide)) rfl 0 (by decide) kw_253 (zR Ω 28) (zfvF (off := 1) X.2.2.2 (hI.1 27 (by decide)) (hI.2 27 (by decide)) rfl rfl (by decide)) dX6_moveAlong_15 ?_
        refine lv_aload_n C.1 C.2.1 dX6_moveAlong_18 rfl (lv_at hl 1 rfl) ?_
        refine lv_iload C.1 C.2.1 dX6_moveAlong_19 (lv_at hl 5 rfl) ?_
        obtain ⟨hc21, h⟩ := chk_some h
        have g_21 : Rg (μ x1 x_2) := zrg1 X.2.2.2 mx1 sx1
        refine z_iald C X mx1 sx1 hc21 dX6_moveAlong_21 ?_
        refine z_iconst C dX6_moveAlong_22 ?_
        refine z_ishr C dX6_moveAlong_23 ?_
        obtain ⟨hc24, h⟩ := chk_some h
        have g_24 : Rg (μ 28 (zshr (μ x1 x_2) 1)) := zrg1 X.2.2.2 (hI.1 28 (by decide)) rfl
        refine z_iald C X (hI.1 28 (by decide)) rfl hc24 dX6_moveAlong_24 ?_
        refine zlet_elim h (fun x_3 ex_3 h => ?_)
        have gx_3 : Rg x_3 := by rw [ex_3]; exact g_24
        refine z_istore C ex_3 dX6_moveAlong_25 hl (by decide) (lv' := [(6, zI x_3), (0, zR Ω 27), (1, zR Ω x1), (2, zI x2), (3, zI x3), (4, zI x_1), (5, zI x_2)]) rfl (fun ls hl => ?_)
        clear ex_3
        refine lv_aload_n C.1 C.2.1 dX6_moveAlong_27 rfl (lv_at hl 1 rfl) ?_
        obtain ⟨hn28, h⟩ := chk_some h
        have o_28 : zob Ω.2.2.1 4 (μ 27 9) := (zrgf4 (ci := 6) X.2.2.2 (hI.1 27 (by decide)) rfl 9 4 rfl rfl).resolve_left hn28
        refine z_get C X zk6 (hI.1 27 (by decide)) rfl 9 (by decide) kw_264 (zQ Ω (μ 27 9)) rfl dX6_moveAlong_28 ?_
        rw [zQ_pos Ω hn28]
        refine zlet_elim h (fun x_4 ex_4 h => ?_)
        rw [← ex_4] at o_28 ⊢
        clear hn28 ex_4
        refine lv_iload C.1 C.2.1 dX6_moveAlong_31 (lv_at hl 5 rfl) ?_
        refine lv_aload_n C.1 C.2.1 dX6_moveAlong_33 rfl (lv_at hl 2 rfl) ?_
        refine lv_iload C.1 C.2.1 dX6_moveAlong_34 (lv_at hl 6 rfl) ?_
        obtain ⟨hc36, h⟩ := chk_some h
        have g_36 : Rg (μ x1 x_2) := zrg1 X.2.2.2 mx1 sx1
        refine z_iald C X mx1 sx1 hc36 dX6_moveAlong_36 ?_
        refine z_iconst C dX6_moveAlong_37 ?_
        refine z_iand C dX6_moveAlong_38 ?_
        have K56 : ∀ (x_5 : Int) (H : Heap) (locs : List Loc) (ls : Array Slot), Rg x_5 → zX Ω μ (zfree Ω) s.heap H locs → lv_has ls 7 [(0, zR Ω 27), (1, zR Ω x1), (2, zI x2), (3, zI x3), (5, zI x_2)] → (f_X6_moveAlong_J56 μ x_1 x_2 x_4 (f_X6_moveAlong_L6 x1 x2 x3 μ n6)) x_5 = some r → W p l e (zrm 1) s m args below meth c H locs 0 0 Q (F0 m 56 ls [zI x_5, zI x_1, zR Ω x_4]) := by
          intro x_5 H locs ls gx_5 X hl h
          unfold f_X6_moveAlong_J56 at h
          obtain ⟨x_6, hq56, h⟩ := bnd_some h
          refine z_callV1 C X zk4 (zob.self o_28) (zo4 o_28) (As := [zI x_1, zI x_5]) (M_X4_follow μ x_4 x_1 x_5 o_28 gx_1 gx_5 hq56) zc_X4_follow kw_736 (zroom (by decide) (by decide)) rfl hl.1 rfl (Nat.le_of_ble_eq_true rfl) dX6_moveAlong_56 ⟨Nat.zero_le _, Nat.zero_le _⟩ (fun H locs g_56 X => ?_)
          refine lv_istore C.1 C.2.1 (lv' := [(4, zI x_6), (0, zR Ω 27), (1, zR Ω x1), (2, zI x2), (3, zI x3), (5, zI x_2)]) dX6_moveAlong_59 hl (by decide) rfl (fun ls hl => ?_)
          refine zlet_elim h (fun x_7 ex_7 h => ?_)
          have gx_7 : Rg x_7 := by rw [ex_7]; exact Rg.w _
          refine z_iinc C ex_7 dX6_moveAlong_61 hl (k := 5) rfl (by decide) (lv' := [(5, zI x_7), (4, zI x_6), (0, zR Ω 27), (1, zR Ω x1), (2, zI x2), (3, zI x3)]) rfl (fun ls hl => ?_)
          clear ex_7
          refine lv_goto (tgt := 6) C.1 C.2.1 dX6_moveAlong_64 (by decide) ?_
          exact ih6 x_6 x_7 _ _ _ g_56 gx_7 X (lv_sub hl [2, 3, 4, 5, 1, 0] rfl) h
        refine z_ifne C (Rg.t _) (tgt := 47) dX6_moveAlong_39 (by decide) (fun hc39 => ?_) (fun hc39 => ?_)
        · rw [if_neg hc39] at h
          refine lv_aload_n C.1 C.2.1 dX6_moveAlong_47 rfl (lv_at hl 1 rfl) ?_
          obtain ⟨hn48, h⟩ := chk_some h
          have o_48 : zob Ω.2.2.1 4 (μ 27 9) := (zrgf4 (ci := 6) X.2.2.2 (hI.1 27 (by decide)) rfl 9 4 rfl rfl).resolve_left hn48
          refine z_get C X zk6 (hI.1 27 (by decide)) rfl 9 (by decide) kw_264 (zQ Ω (μ 27 9)) rfl dX6_moveAlong_48 ?_
          rw [zQ_pos Ω hn48]
          refine zlet_elim h (fun x_8 ex_8 h => ?_)
          rw [← ex_8] at o_48 ⊢
          clear hn48 ex_8
          refine lv_iload C.1 C.2.1 dX6_moveAlong_51 (lv_at hl 0 rfl) ?_
          obtain ⟨x_9, hq53, h⟩ := bnd_some h
          refine z_callV1 C X zk4 (zob.self o_48) (zo4 o_48) (As := [zI x_3]) (M_X4_back μ x_8 x_3 o_48 gx_3 hq53) zc_X4_back kw_732 (zroom (by decide) (by decide)) rfl hl.1 rfl (Nat.le_of_ble_eq_true rfl) dX6_moveAlong_53 ⟨Nat.zero_le _, Nat.zero_le _⟩ (fun H locs g_53 X => ?_)
          exact K56 x_9 _ _ _ g_53 X (lv_sub hl [1, 2, 3, 4, 6] rfl) h
        · rw [if_pos hc39] at h
          refine lv_iload C.1 C.2.1 dX6_moveAlong_42 (lv_at hl 0 rfl) ?_
          refine lv_goto (tgt := 56) C.1 C.2.1 dX6_moveAlong_44 (by decide) ?_
          exact K56 x_3 _ _ _ gx_3 X (lv_sub hl [1, 2, 3, 4, 6] rfl) h
  exact L6 zfu 0 x2 _ _ _ ⟨by decide, by decide⟩ gx2 X (lv_sub hl [2, 3, 4, 5, 1, 0] rfl) h
theorem zc_X6_moveAlong : zcal yX6_moveAlong cX6_moveAlong 7 (some Jvm.ClassFile.FieldType.int) RX6 3 := ⟨⟨kw_731, kw_730, kp_29, kw_8⟩, rfl, by decide, by decide, by decide +kernel⟩

def f_X6_doRimsHold_L2 (μ : zMem) : Nat → Int → Option Int
  | 0, _ => none
  | n + 1, x_1 =>
    if x_1 < (μ 27 5) then
      chk ((0 : Int) ≤ x_1 ∧ x_1 < 8) <|
      if (μ 31 x_1) = (μ 27 6) then
        chk ((0 : Int) ≤ x_1 ∧ x_1 < 8) <|
        bnd (f_X6_moveAlong 29 (zw (x_1 * 8)) (μ 30 x_1) μ) fun x_3 =>
        if x_3 = 0 then
          zlet (zw (x_1 + 1)) fun x_4 =>
          (f_X6_doRimsHold_L2 μ n) x_4
        else
          some 0
      else
        zlet (zw (x_1 + 1)) fun x_2 =>
        (f_X6_doRimsHold_L2 μ n) x_2
    else
      some 1
def f_X6_doRimsHold (μ : zMem) : Option Int :=
  (f_X6_doRimsHold_L2 μ) zfu 0
set_option maxHeartbeats 4000000 in
set_option maxRecDepth 100000 in
theorem M_X6_doRimsHold {l : Launch} {Ω : zO} (hI : zIc Ω) (μ : zMem) {r : Int} (h : f_X6_doRimsHold μ = some r) : XMet l yX6_doRimsHold cX6_doRimsHold 2 (some Jvm.ClassFile.FieldType.boolean) 2 Ω [zR Ω 27] μ (some (zI r)) (0 ≤ r ∧ r ≤ 1) μ := by
  refine XMet.ofZ (by decide) (Nat.le_of_ble_eq_true rfl) ?_
  intro p e s m args below meth c ls Q C rt X hl
  have C : zC p s m args c cX6_doRimsHold RX6 2 Ω := C
  have hl : lv_has ls 2 [(0, zR Ω 27)] := hl
  unfold f_X6_doRimsHold at h
  skip
  refine z_iconst C dX6_doRimsHold_0 ?_
  refine lv_istore_n C.1 C.2.1 (lv' := [(1, zI 0), (0, zR Ω 27)]) dX6_doRimsHold_1 rfl hl (by decide) rfl (fun ls hl => ?_)
  have L2 : ∀ (n2 : Nat) (x_1 : Int) (H : Heap) (locs : List Loc) (ls : Array Slot), Rg x_1 → zX Ω μ (zfree Ω) s.heap H locs → lv_has ls 2 [(0, zR Ω 27), (1, zI x_1)] → (f_X6_doRimsHold_L2 μ n2 x_1) = some r → W p l e (zrm 2) s m args below meth c H locs 0 0 Q (F0 m 2 ls []) := by
    intro n2
    induction n2 with
    | zero =>
      intro x_1 H locs ls _ _ _ h
      cases h
    | succ n2 ih2 =>
      intro x_1 H locs ls gx_1 X hl h
      unfold f_X6_doRimsHold_L2 at h
      refine lv_iload_n C.1 C.2.1 dX6_doRimsHold_2 rfl (lv_at hl 1 rfl) ?_
      refine lv_aload_n C.1 C.2.1 dX6_doRimsHold_3 rfl (lv_at hl 0 rfl) ?_
      have g_4 : Rg (μ 27 5) := zrgf0 (ci := 6) X.2.2.2 (hI.1 27 (by decide)) rfl 5 rfl
      refine z_get C X zk6 (hI.1 27 (by decide)) rfl 5 (by decide) kw_259 (zI (μ 27 5)) rfl dX6_doRimsHold_4 ?_
      refine z_icmpge C gx_1 g_4 (tgt := 52) dX6_doRimsHold_7 (by decide) (fun hc7 => ?_) (fun hc7 => ?_)
      · rw [if_neg hc7] at h
        refine z_iconst C dX6_doRimsHold_52 ?_
        obtain rfl := Option.some.inj h
        exact rt X ⟨by decide, by decide⟩ dX6_doRimsHold_53
      · rw [if_pos hc7] at h
        refine lv_aload_n C.1 C.2.1 dX6_doRimsHold_10 rfl (lv_at hl 0 rfl) ?_
        refine z_get C X zk6 (hI.1 27 (by decide)) rfl 3 (by decide) kw_257 (zR Ω 31) (zfvF (off := 4) X.2.2.2 (hI.1 27 (by decide)) (hI.2 27 (by decide)) rfl rfl (by decide)) dX6_doRimsHold_11 ?_
        refine lv_iload_n C.1 C.2.1 dX6_doRimsHold_14 rfl (lv_at hl 1 rfl) ?_
        obtain ⟨hc15, h⟩ := chk_some h
        have g_15 : Rg (μ 31 x_1) := zrg1 X.2.2.2 (hI.1 31 (by decide)) rfl
        refine z_iald C X (hI.1 31 (by decide)) rfl hc15 dX6_doRimsHold_15 ?_
        refine lv_aload_n C.1 C.2.1 dX6_doRimsHold_16 rfl (lv_at hl 0 rfl) ?_
        have g_17 : Rg (μ 27 6) := zrgf0 (ci := 6) X.2.2.2 (hI.1 27 (by decide)) rfl 6 rfl
        refine z_get C X zk6 (hI.1 27 (by decide)) rfl 6 (by decide) kw_260 (zI (μ 27 6)) rfl dX6_doRimsHold_17 ?_
        refine z_icmpne C g_15 g_17 (tgt := 46) dX6_doRimsHold_20 (by decide) (fun hc20 => ?_) (fun hc20 => ?_)
        · rw [if_neg hc20] at h
          refine zlet_elim h (fun x_2 ex_2 h => ?_)
          have gx_2 : Rg x_2 := by rw [ex_2]; exact Rg.w _
          refine z_iinc C ex_2 dX6_doRimsHold_46 hl (k := 1) rfl (by decide) (lv' := [(1, zI x_2), (0, zR Ω 27)]) rfl (fun ls hl => ?_)
          clear ex_2
          refine lv_goto (tgt := 2) C.1 C.2.1 dX6_doRimsHold_49 (by decide) ?_
          exact ih2 x_2 _ _ _ gx_2 X (lv_sub hl [1, 0] rfl) h
        · rw [if_pos hc20] at h
          refine lv_aload_n C.1 C.2.1 dX6_doRimsHold_23 rfl (lv_at hl 0 rfl) ?_
          refine lv_aload_n C.1 C.2.1 dX6_doRimsHold_24 rfl (lv_at hl 0 rfl) ?_
          refine z_get C X zk6 (hI.1 27 (by decide)) rfl 1 (by decide) kw_255 (zR Ω 29) (zfvF (off := 2) X.2.2.2 (hI.1 27 (by decide)) (hI.2 27 (by decide)) rfl rfl (by decide)) dX6_doRimsHold_25 ?_
          refine lv_iload_n C.1 C.2.1 dX6_doRimsHold_28 rfl (lv_at hl 1 rfl) ?_
          refine z_bipush C dX6_doRimsHold_29 (by decide) ?_
          refine z_imul C dX6_doRimsHold_31 ?_
          refine lv_aload_n C.1 C.2.1 dX6_doRimsHold_32 rfl (lv_at hl 0 rfl) ?_
          refine z_get C X zk6 (hI.1 27 (by decide)) rfl 2 (by decide) kw_256 (zR Ω 30) (zfvF (off := 3) X.2.2.2 (hI.1 27 (by decide)) (hI.2 27 (by decide)) rfl rfl (by decide)) dX6_doRimsHold_33 ?_
          refine lv_iload_n C.1 C.2.1 dX6_doRimsHold_36 rfl (lv_at hl 1 rfl) ?_
          obtain ⟨hc37, h⟩ := chk_some h
          have g_37 : Rg (μ 30 x_1) := zrg1 X.2.2.2 (hI.1 30 (by decide)) rfl
          refine z_iald C X (hI.1 30 (by decide)) rfl hc37 dX6_doRimsHold_37 ?_
          obtain ⟨x_3, hq38, h⟩ := bnd_some h
          refine z_callV1 C X zk6 (hI.1 27 (by decide)) rfl (As := [zR Ω 29, zI (zw (x_1 * 8)), zI (μ 30 x_1)]) (M_X6_moveAlong hI μ 29 (zw (x_1 * 8)) (μ 30 x_1) (hI.1 29 (by decide)) rfl (Rg.w _) g_37 hq38) zc_X6_moveAlong kw_728 (zroom (by decide) (by decide)) rfl hl.1 rfl (Nat.le_of_ble_eq_true rfl) dX6_doRimsHold_38 ⟨Nat.zero_le _, Nat.zero_le _⟩ (fun H locs g_38 X => ?_)
          refine z_ifeq C g_38 (tgt := 46) dX6_doRimsHold_41 (by decide) (fun hc41 => ?_) (fun hc41 => ?_)
          · rw [if_pos hc41] at h
            refine zlet_elim h (fun x_4 ex_4 h => ?_)
            have gx_4 : Rg x_4 := by rw [ex_4]; exact Rg.w _
            refine z_iinc C ex_4 dX6_doRimsHold_46 hl (k := 1) rfl (by decide) (lv' := [(1, zI x_4), (0, zR Ω 27)]) rfl (fun ls hl => ?_)
            clear ex_4
            refine lv_goto (tgt := 2) C.1 C.2.1 dX6_doRimsHold_49 (by decide) ?_
            exact ih2 x_4 _ _ _ gx_4 X (lv_sub hl [1, 0] rfl) h
          · rw [if_neg hc41] at h
            refine z_iconst C dX6_doRimsHold_44 ?_
            obtain rfl := Option.some.inj h
            exact rt X ⟨by decide, by decide⟩ dX6_doRimsHold_45
  exact L2 zfu 0 _ _ _ ⟨by decide, by decide⟩ X (lv_sub hl [1, 0] rfl) h
theorem zc_X6_doRimsHold : zcal yX6_doRimsHold cX6_doRimsHold 2 (some Jvm.ClassFile.FieldType.boolean) RX6 0 := ⟨⟨kw_727, kw_726, kp_28, kw_8⟩, rfl, by decide, by decide, by decide +kernel⟩

def f_X6_isFirstOfLike_K52 (μ : zMem) (x_1 : Int) (g2 : Int → Option Int) (x_3 : Int) : Option Int :=
  chk ((μ 27 9) ≠ 0) <|
  zlet (μ 27 9) fun x_4 =>
  chk ((0 : Int) ≤ x_3 ∧ x_3 < 12) <|
  bnd (f_X4_renumber x_4 (μ 28 x_3) x_1 μ) fun x_5 =>
  chk ((0 : Int) ≤ x_3 ∧ x_3 < 12) <|
  if x_5 < (μ 28 x_3) then
    some 0
  else
    zlet (zw (x_1 + 1)) fun x_6 =>
    g2 x_6
def f_X6_isFirstOfLike_L15 (μ : zMem) (x_1 : Int) (g52 : Int → Option Int) : Nat → Int → Option Int
  | 0, _ => none
  | n + 1, x_7 =>
    if x_7 < (μ 27 6) then
      chk ((μ 27 9) ≠ 0) <|
      zlet (μ 27 9) fun x_8 =>
      chk ((0 : Int) ≤ x_7 ∧ x_7 < 12) <|
      bnd (f_X4_renumber x_8 (μ 28 x_7) x_1 μ) fun x_9 =>
      chk ((0 : Int) ≤ x_7 ∧ x_7 < 12) <|
      if x_9 = (μ 28 x_7) then
        zlet (zw (x_7 + 1)) fun x_10 =>
        (f_X6_isFirstOfLike_L15 μ x_1 g52 n) x_10
      else
        g52 x_7
    else
      g52 x_7
def f_X6_isFirstOfLike_L2 (μ : zMem) : Nat → Int → Option Int
  | 0, _ => none
  | n + 1, x_1 =>
    chk ((μ 27 9) ≠ 0) <|
    zlet (μ 27 9) fun x_2 =>
    if x_1 < (μ x_2 1) then
      (f_X6_isFirstOfLike_L15 μ x_1 (f_X6_isFirstOfLike_K52 μ x_1 (f_X6_isFirstOfLike_L2 μ n))) zfu 0
    else
      some 1
def f_X6_isFirstOfLike (μ : zMem) : Option Int :=
  (f_X6_isFirstOfLike_L2 μ) zfu 1
set_option maxHeartbeats 4000000 in
set_option maxRecDepth 100000 in
theorem M_X6_isFirstOfLike {l : Launch} {Ω : zO} (hI : zIc Ω) (μ : zMem) {r : Int} (h : f_X6_isFirstOfLike μ = some r) : XMet l yX6_isFirstOfLike cX6_isFirstOfLike 3 (some Jvm.ClassFile.FieldType.boolean) 2 Ω [zR Ω 27] μ (some (zI r)) (0 ≤ r ∧ r ≤ 1) μ := by
  refine XMet.ofZ (by decide) (Nat.le_of_ble_eq_true rfl) ?_
  intro p e s m args below meth c ls Q C rt X hl
  have C : zC p s m args c cX6_isFirstOfLike RX6 3 Ω := C
  have hl : lv_has ls 3 [(0, zR Ω 27)] := hl
  unfold f_X6_isFirstOfLike at h
  skip
  refine z_iconst C dX6_isFirstOfLike_0 ?_
  refine lv_istore_n C.1 C.2.1 (lv' := [(1, zI 1), (0, zR Ω 27)]) dX6_isFirstOfLike_1 rfl hl (by decide) rfl (fun ls hl => ?_)
  have L2 : ∀ (n2 : Nat) (x_1 : Int) (H : Heap) (locs : List Loc) (ls : Array Slot), Rg x_1 → zX Ω μ (zfree Ω) s.heap H locs → lv_has ls 3 [(0, zR Ω 27), (1, zI x_1)] → (f_X6_isFirstOfLike_L2 μ n2 x_1) = some r → W p l e (zrm 2) s m args below meth c H locs 0 0 Q (F0 m 2 ls []) := by
    intro n2
    induction n2 with
    | zero =>
      intro x_1 H locs ls _ _ _ h
      cases h
    | succ n2 ih2 =>
      intro x_1 H locs ls gx_1 X hl h
      unfold f_X6_isFirstOfLike_L2 at h
      refine lv_iload_n C.1 C.2.1 dX6_isFirstOfLike_2 rfl (lv_at hl 1 rfl) ?_
      refine lv_aload_n C.1 C.2.1 dX6_isFirstOfLike_3 rfl (lv_at hl 0 rfl) ?_
      obtain ⟨hn4, h⟩ := chk_some h
      have o_4 : zob Ω.2.2.1 4 (μ 27 9) := (zrgf4 (ci := 6) X.2.2.2 (hI.1 27 (by decide)) rfl 9 4 rfl rfl).resolve_left hn4
      refine z_get C X zk6 (hI.1 27 (by decide)) rfl 9 (by decide) kw_264 (zQ Ω (μ 27 9)) rfl dX6_isFirstOfLike_4 ?_
      rw [zQ_pos Ω hn4]
      refine zlet_elim h (fun x_2 ex_2 h => ?_)
      rw [← ex_2] at o_4 ⊢
      clear hn4 ex_2
      have g_7 : Rg (μ x_2 1) := zrgf0 (ci := 4) X.2.2.2 (zob.self o_4) (zo4 o_4) 1 rfl
      refine z_get C X zk4 (zob.self o_4) (zo4 o_4) 1 (by decide) kw_374 (zI (μ x_2 1)) rfl dX6_isFirstOfLike_7 ?_
      refine z_icmpge C gx_1 g_7 (tgt := 83) dX6_isFirstOfLike_10 (by decide) (fun hc10 => ?_) (fun hc10 => ?_)
      · rw [if_neg hc10] at h
        refine z_iconst C dX6_isFirstOfLike_83 ?_
        obtain rfl := Option.some.inj h
        exact rt X ⟨by decide, by decide⟩ dX6_isFirstOfLike_84
      · rw [if_pos hc10] at h
        refine z_iconst C dX6_isFirstOfLike_13 ?_
        refine lv_istore_n C.1 C.2.1 (lv' := [(2, zI 0), (0, zR Ω 27), (1, zI x_1)]) dX6_isFirstOfLike_14 rfl hl (by decide) rfl (fun ls hl => ?_)
        have K52 : ∀ (x_3 : Int) (H : Heap) (locs : List Loc) (ls : Array Slot), Rg x_3 → zX Ω μ (zfree Ω) s.heap H locs → lv_has ls 3 [(0, zR Ω 27), (1, zI x_1), (2, zI x_3)] → (f_X6_isFirstOfLike_K52 μ x_1 (f_X6_isFirstOfLike_L2 μ n2)) x_3 = some r → W p l e (zrm 2) s m args below meth c H locs 0 0 Q (F0 m 52 ls []) := by
          intro x_3 H locs ls gx_3 X hl h
          unfold f_X6_isFirstOfLike_K52 at h
          refine lv_aload_n C.1 C.2.1 dX6_isFirstOfLike_52 rfl (lv_at hl 0 rfl) ?_
          obtain ⟨hn53, h⟩ := chk_some h
          have o_53 : zob Ω.2.2.1 4 (μ 27 9) := (zrgf4 (ci := 6) X.2.2.2 (hI.1 27 (by decide)) rfl 9 4 rfl rfl).resolve_left hn53
          refine z_get C X zk6 (hI.1 27 (by decide)) rfl 9 (by decide) kw_264 (zQ Ω (μ 27 9)) rfl dX6_isFirstOfLike_53 ?_
          rw [zQ_pos Ω hn53]
          refine zlet_elim h (fun x_4 ex_4 h => ?_)
          rw [← ex_4] at o_53 ⊢
          clear hn53 ex_4
          refine lv_aload_n C.1 C.2.1 dX6_isFirstOfLike_56 rfl (lv_at hl 0 rfl) ?_
          refine z_get C X zk6 (hI.1 27 (by decide)) rfl 0 (by decide) kw_253 (zR Ω 28) (zfvF (off := 1) X.2.2.2 (hI.1 27 (by decide)) (hI.2 27 (by decide)) rfl rfl (by decide)) dX6_isFirstOfLike_57 ?_
          refine lv_iload_n C.1 C.2.1 dX6_isFirstOfLike_60 rfl (lv_at hl 2 rfl) ?_
          obtain ⟨hc61, h⟩ := chk_some h
          have g_61 : Rg (μ 28 x_3) := zrg1 X.2.2.2 (hI.1 28 (by decide)) rfl
          refine z_iald C X (hI.1 28 (by decide)) rfl hc61 dX6_isFirstOfLike_61 ?_
          refine lv_iload_n C.1 C.2.1 dX6_isFirstOfLike_62 rfl (lv_at hl 1 rfl) ?_
          obtain ⟨x_5, hq63, h⟩ := bnd_some h
          refine z_callV1 C X zk4 (zob.self o_53) (zo4 o_53) (As := [zI (μ 28 x_3), zI x_1]) (M_X4_renumber μ x_4 (μ 28 x_3) x_1 o_53 g_61 gx_1 hq63) zc_X4_renumber kw_744 (zroom (by decide) (by decide)) rfl hl.1 rfl (Nat.le_of_ble_eq_true rfl) dX6_isFirstOfLike_63 ⟨Nat.zero_le _, Nat.zero_le _⟩ (fun H locs g_63 X => ?_)
          refine lv_aload_n C.1 C.2.1 dX6_isFirstOfLike_66 rfl (lv_at hl 0 rfl) ?_
          refine z_get C X zk6 (hI.1 27 (by decide)) rfl 0 (by decide) kw_253 (zR Ω 28) (zfvF (off := 1) X.2.2.2 (hI.1 27 (by decide)) (hI.2 27 (by decide)) rfl rfl (by decide)) dX6_isFirstOfLike_67 ?_
          refine lv_iload_n C.1 C.2.1 dX6_isFirstOfLike_70 rfl (lv_at hl 2 rfl) ?_
          obtain ⟨hc71, h⟩ := chk_some h
          have g_71 : Rg (μ 28 x_3) := zrg1 X.2.2.2 (hI.1 28 (by decide)) rfl
          refine z_iald C X (hI.1 28 (by decide)) rfl hc71 dX6_isFirstOfLike_71 ?_
          refine z_icmpge C g_63 g_71 (tgt := 77) dX6_isFirstOfLike_72 (by decide) (fun hc72 => ?_) (fun hc72 => ?_)
          · rw [if_neg hc72] at h
            refine zlet_elim h (fun x_6 ex_6 h => ?_)
            have gx_6 : Rg x_6 := by rw [ex_6]; exact Rg.w _
            refine z_iinc C ex_6 dX6_isFirstOfLike_77 hl (k := 1) rfl (by decide) (lv' := [(1, zI x_6), (0, zR Ω 27), (2, zI x_3)]) rfl (fun ls hl => ?_)
            clear ex_6
            refine lv_goto (tgt := 2) C.1 C.2.1 dX6_isFirstOfLike_80 (by decide) ?_
            exact ih2 x_6 _ _ _ gx_6 X (lv_sub hl [1, 0] rfl) h
          · rw [if_pos hc72] at h
            refine z_iconst C dX6_isFirstOfLike_75 ?_
            obtain rfl := Option.some.inj h
            exact rt X ⟨by decide, by decide⟩ dX6_isFirstOfLike_76
        have L15 : ∀ (n15 : Nat) (x_7 : Int) (H : Heap) (locs : List Loc) (ls : Array Slot), Rg x_7 → zX Ω μ (zfree Ω) s.heap H locs → lv_has ls 3 [(0, zR Ω 27), (1, zI x_1), (2, zI x_7)] → (f_X6_isFirstOfLike_L15 μ x_1 (f_X6_isFirstOfLike_K52 μ x_1 (f_X6_isFirstOfLike_L2 μ n2)) n15 x_7) = some r → W p l e (zrm 2) s m args below meth c H locs 0 0 Q (F0 m 15 ls []) := by
          intro n15
          induction n15 with
          | zero =>
            intro x_7 H locs ls _ _ _ h
            cases h
          | succ n15 ih15 =>
            intro x_7 H locs ls gx_7 X hl h
            unfold f_X6_isFirstOfLike_L15 at h
            refine lv_iload_n C.1 C.2.1 dX6_isFirstOfLike_15 rfl (lv_at hl 2 rfl) ?_
            refine lv_aload_n C.1 C.2.1 dX6_isFirstOfLike_16 rfl (lv_at hl 0 rfl) ?_
            have g_17 : Rg (μ 27 6) := zrgf0 (ci := 6) X.2.2.2 (hI.1 27 (by decide)) rfl 6 rfl
            refine z_get C X zk6 (hI.1 27 (by decide)) rfl 6 (by decide) kw_260 (zI (μ 27 6)) rfl dX6_isFirstOfLike_17 ?_
            refine z_icmpge C gx_7 g_17 (tgt := 52) dX6_isFirstOfLike_20 (by decide) (fun hc20 => ?_) (fun hc20 => ?_)
            · rw [if_neg hc20] at h
              exact K52 x_7 _ _ _ gx_7 X (lv_sub hl [0, 1, 2] rfl) h
            · rw [if_pos hc20] at h
              refine lv_aload_n C.1 C.2.1 dX6_isFirstOfLike_23 rfl (lv_at hl 0 rfl) ?_
              obtain ⟨hn24, h⟩ := chk_some h
              have o_24 : zob Ω.2.2.1 4 (μ 27 9) := (zrgf4 (ci := 6) X.2.2.2 (hI.1 27 (by decide)) rfl 9 4 rfl rfl).resolve_left hn24
              refine z_get C X zk6 (hI.1 27 (by decide)) rfl 9 (by decide) kw_264 (zQ Ω (μ 27 9)) rfl dX6_isFirstOfLike_24 ?_
              rw [zQ_pos Ω hn24]
              refine zlet_elim h (fun x_8 ex_8 h => ?_)
              rw [← ex_8] at o_24 ⊢
              clear hn24 ex_8
              refine lv_aload_n C.1 C.2.1 dX6_isFirstOfLike_27 rfl (lv_at hl 0 rfl) ?_
              refine z_get C X zk6 (hI.1 27 (by decide)) rfl 0 (by decide) kw_253 (zR Ω 28) (zfvF (off := 1) X.2.2.2 (hI.1 27 (by decide)) (hI.2 27 (by decide)) rfl rfl (by decide)) dX6_isFirstOfLike_28 ?_
              refine lv_iload_n C.1 C.2.1 dX6_isFirstOfLike_31 rfl (lv_at hl 2 rfl) ?_
              obtain ⟨hc32, h⟩ := chk_some h
              have g_32 : Rg (μ 28 x_7) := zrg1 X.2.2.2 (hI.1 28 (by decide)) rfl
              refine z_iald C X (hI.1 28 (by decide)) rfl hc32 dX6_isFirstOfLike_32 ?_
              refine lv_iload_n C.1 C.2.1 dX6_isFirstOfLike_33 rfl (lv_at hl 1 rfl) ?_
              obtain ⟨x_9, hq34, h⟩ := bnd_some h
              refine z_callV1 C X zk4 (zob.self o_24) (zo4 o_24) (As := [zI (μ 28 x_7), zI x_1]) (M_X4_renumber μ x_8 (μ 28 x_7) x_1 o_24 g_32 gx_1 hq34) zc_X4_renumber kw_744 (zroom (by decide) (by decide)) rfl hl.1 rfl (Nat.le_of_ble_eq_true rfl) dX6_isFirstOfLike_34 ⟨Nat.zero_le _, Nat.zero_le _⟩ (fun H locs g_34 X => ?_)
              refine lv_aload_n C.1 C.2.1 dX6_isFirstOfLike_37 rfl (lv_at hl 0 rfl) ?_
              refine z_get C X zk6 (hI.1 27 (by decide)) rfl 0 (by decide) kw_253 (zR Ω 28) (zfvF (off := 1) X.2.2.2 (hI.1 27 (by decide)) (hI.2 27 (by decide)) rfl rfl (by decide)) dX6_isFirstOfLike_38 ?_
              refine lv_iload_n C.1 C.2.1 dX6_isFirstOfLike_41 rfl (lv_at hl 2 rfl) ?_
              obtain ⟨hc42, h⟩ := chk_some h
              have g_42 : Rg (μ 28 x_7) := zrg1 X.2.2.2 (hI.1 28 (by decide)) rfl
              refine z_iald C X (hI.1 28 (by decide)) rfl hc42 dX6_isFirstOfLike_42 ?_
              refine z_icmpne C g_34 g_42 (tgt := 52) dX6_isFirstOfLike_43 (by decide) (fun hc43 => ?_) (fun hc43 => ?_)
              · rw [if_neg hc43] at h
                exact K52 x_7 _ _ _ gx_7 X (lv_sub hl [0, 1, 2] rfl) h
              · rw [if_pos hc43] at h
                refine zlet_elim h (fun x_10 ex_10 h => ?_)
                have gx_10 : Rg x_10 := by rw [ex_10]; exact Rg.w _
                refine z_iinc C ex_10 dX6_isFirstOfLike_46 hl (k := 2) rfl (by decide) (lv' := [(2, zI x_10), (0, zR Ω 27), (1, zI x_1)]) rfl (fun ls hl => ?_)
                clear ex_10
                refine lv_goto (tgt := 15) C.1 C.2.1 dX6_isFirstOfLike_49 (by decide) ?_
                exact ih15 x_10 _ _ _ gx_10 X (lv_sub hl [1, 2, 0] rfl) h
        exact L15 zfu 0 _ _ _ ⟨by decide, by decide⟩ X (lv_sub hl [1, 2, 0] rfl) h
  exact L2 zfu 1 _ _ _ ⟨by decide, by decide⟩ X (lv_sub hl [1, 0] rfl) h
theorem zc_X6_isFirstOfLike : zcal yX6_isFirstOfLike cX6_isFirstOfLike 3 (some Jvm.ClassFile.FieldType.boolean) RX6 0 := ⟨⟨kw_743, kw_742, kp_30, kw_8⟩, rfl, by decide, by decide, by decide +kernel⟩

def f_X6_findNext_J105 (x_1 : Int) (g29 : Int → zMem → Option (Int × zMem)) (μ_7 : zMem) : Option (Int × zMem) :=
  if (μ_7 27 6) = (zw ((μ_7 27 8) - 1)) then
    some (1, μ_7)
  else
    zlet (zup μ_7 27 6 (zw ((μ_7 27 6) + 1))) fun μ_8 =>
    chk ((0 : Int) ≤ (μ_8 27 6) ∧ (μ_8 27 6) < 12) <|
    zlet (zup μ_8 28 (μ_8 27 6) (-1)) fun μ_9 =>
    zlet (zw (x_1 + 1)) fun x_10 =>
    g29 x_10 μ_9
def f_X6_findNext_L29 (x1 : Int) : Nat → Int → zMem → Option (Int × zMem)
  | 0, _, _ => none
  | n + 1, x_1, μ_2 =>
    if x_1 < 1000000 then
      if (μ_2 27 6) < 0 then
        some (0, μ_2)
      else
        chk ((0 : Int) ≤ (μ_2 27 6) ∧ (μ_2 27 6) < 12) <|
        chk ((0 : Int) ≤ (μ_2 27 6) ∧ (μ_2 27 6) < 12) <|
        zlet (zup μ_2 28 (μ_2 27 6) (zw ((μ_2 28 (μ_2 27 6)) + 1))) fun μ_3 =>
        chk ((0 : Int) ≤ (μ_3 27 6) ∧ (μ_3 27 6) < 12) <|
        chk ((μ_3 27 9) ≠ 0) <|
        zlet (μ_3 27 9) fun x_4 =>
        if (μ_3 28 (μ_3 27 6)) < (μ_3 x_4 1) then
          bnd (f_X6_doRimsHold μ_3) fun x_5 =>
          if x_5 = 0 then
            zlet (zw (x_1 + 1)) fun x_6 =>
            (f_X6_findNext_L29 x1 n) x_6 μ_3
          else
            if x1 = 0 then
              (f_X6_findNext_J105 x_1 (f_X6_findNext_L29 x1 n)) μ_3
            else
              bnd (f_X6_isFirstOfLike μ_3) fun x_11 =>
              if x_11 = 0 then
                zlet (zw (x_1 + 1)) fun x_12 =>
                (f_X6_findNext_L29 x1 n) x_12 μ_3
              else
                (f_X6_findNext_J105 x_1 (f_X6_findNext_L29 x1 n)) μ_3
        else
          zlet (zup μ_3 27 6 (zw ((μ_3 27 6) - 1))) fun μ_13 =>
          zlet (zw (x_1 + 1)) fun x_14 =>
          (f_X6_findNext_L29 x1 n) x_14 μ_13
    else
      some (0, μ_2)
def f_X6_findNext_J19 (x_15 : Int) (μ_16 : zMem) : Option (Int × zMem) :=
  zlet (zup μ_16 27 7 1) fun μ_17 =>
  chk (0 ≤ x_15 ∧ x_15 ≤ 1) <|
  some (x_15, μ_17)
def f_X6_findNext (x1 : Int) (μ : zMem) : Option (Int × zMem) :=
  if (μ 27 8) = 0 then
    f_X6_findNext_J19 (if (μ 27 7) = 0 then 1 else 0) μ
  else
    (f_X6_findNext_L29 x1) zfu 0 μ
set_option maxHeartbeats 4000000 in
set_option maxRecDepth 100000 in
theorem M_X6_findNext {l : Launch} {Ω : zO} (hI : zIc Ω) (μ : zMem) (x1 : Int) {r : Int} {μ' : zMem} (gx1 : Rg x1) (h : f_X6_findNext x1 μ = some (r, μ')) : XMet l yX6_findNext cX6_findNext 3 (some Jvm.ClassFile.FieldType.boolean) 3 Ω [zR Ω 27, zI x1] μ (some (zI r)) (0 ≤ r ∧ r ≤ 1) μ' := by
  refine XMet.ofZ (by decide) (Nat.le_of_ble_eq_true rfl) ?_
  intro p e s m args below meth c ls Q C rt X hl
  have C : zC p s m args c cX6_findNext RX6 3 Ω := C
  have hl : lv_has ls 3 [(0, zR Ω 27), (1, zI x1)] := hl
  unfold f_X6_findNext at h
  skip
  refine lv_aload_n C.1 C.2.1 dX6_findNext_0 rfl (lv_at hl 0 rfl) ?_
  have g_1 : Rg (μ 27 8) := zrgf0 (ci := 6) X.2.2.2 (hI.1 27 (by decide)) rfl 8 rfl
  refine z_get C X zk6 (hI.1 27 (by decide)) rfl 8 (by decide) kw_262 (zI (μ 27 8)) rfl dX6_findNext_1 ?_
  refine z_ifne C g_1 (tgt := 27) dX6_findNext_4 (by decide) (fun hc4 => ?_) (fun hc4 => ?_)
  · rw [if_neg hc4] at h
    refine z_iconst C dX6_findNext_27 ?_
    refine lv_istore_n C.1 C.2.1 (lv' := [(2, zI 0), (0, zR Ω 27), (1, zI x1)]) dX6_findNext_28 rfl hl (by decide) rfl (fun ls hl => ?_)
    have L29 : ∀ (n29 : Nat) (x_1 : Int) (μ_2 : zMem) (H : Heap) (locs : List Loc) (ls : Array Slot), Rg x_1 → zX Ω μ_2 (zfree Ω) s.heap H locs → lv_has ls 3 [(0, zR Ω 27), (1, zI x1), (2, zI x_1)] → (f_X6_findNext_L29 x1 n29 x_1 μ_2) = some (r, μ') → W p l e (zrm 3) s m args below meth c H locs 0 0 Q (F0 m 29 ls []) := by
      intro n29
      induction n29 with
      | zero =>
        intro x_1 μ_2 H locs ls _ _ _ h
        cases h
      | succ n29 ih29 =>
        intro x_1 μ_2 H locs ls gx_1 X hl h
        unfold f_X6_findNext_L29 at h
        refine lv_iload_n C.1 C.2.1 dX6_findNext_29 rfl (lv_at hl 2 rfl) ?_
        refine z_ldc C 1000000 kw_723 (by decide) dX6_findNext_30 ?_
        refine z_icmpge C gx_1 ⟨by decide, by decide⟩ (tgt := 146) dX6_findNext_32 (by decide) (fun hc32 => ?_) (fun hc32 => ?_)
        · rw [if_neg hc32] at h
          refine z_iconst C dX6_findNext_146 ?_
          obtain ⟨rfl, rfl⟩ := Prod.mk.inj (Option.some.inj h)
          exact rt X ⟨by decide, by decide⟩ dX6_findNext_147
        · rw [if_pos hc32] at h
          refine lv_aload_n C.1 C.2.1 dX6_findNext_35 rfl (lv_at hl 0 rfl) ?_
          have g_36 : Rg (μ_2 27 6) := zrgf0 (ci := 6) X.2.2.2 (hI.1 27 (by decide)) rfl 6 rfl
          refine z_get C X zk6 (hI.1 27 (by decide)) rfl 6 (by decide) kw_260 (zI (μ_2 27 6)) rfl dX6_findNext_36 ?_
          refine z_iflt C g_36 (tgt := 146) dX6_findNext_39 (by decide) (fun hc39 => ?_) (fun hc39 => ?_)
          · rw [if_pos hc39] at h
            refine z_iconst C dX6_findNext_146 ?_
            obtain ⟨rfl, rfl⟩ := Prod.mk.inj (Option.some.inj h)
            exact rt X ⟨by decide, by decide⟩ dX6_findNext_147
          · rw [if_neg hc39] at h
            refine lv_aload_n C.1 C.2.1 dX6_findNext_42 rfl (lv_at hl 0 rfl) ?_
            refine z_get C X zk6 (hI.1 27 (by decide)) rfl 0 (by decide) kw_253 (zR Ω 28) (zfvF (off := 1) X.2.2.2 (hI.1 27 (by decide)) (hI.2 27 (by decide)) rfl rfl (by decide)) dX6_findNext_43 ?_
            refine lv_aload_n C.1 C.2.1 dX6_findNext_46 rfl (lv_at hl 0 rfl) ?_
            have g_47 : Rg (μ_2 27 6) := zrgf0 (ci := 6) X.2.2.2 (hI.1 27 (by decide)) rfl 6 rfl
            refine z_get C X zk6 (hI.1 27 (by decide)) rfl 6 (by decide) kw_260 (zI (μ_2 27 6)) rfl dX6_findNext_47 ?_
            refine lv_dup2_11 C.1 C.2.1 dX6_findNext_50 rfl rfl ?_
            obtain ⟨hc51, h⟩ := chk_some h
            have g_51 : Rg (μ_2 28 (μ_2 27 6)) := zrg1 X.2.2.2 (hI.1 28 (by decide)) rfl
            refine z_iald C X (hI.1 28 (by decide)) rfl hc51 dX6_findNext_51 ?_
            refine z_iconst C dX6_findNext_52 ?_
            refine z_iadd C dX6_findNext_53 ?_
            obtain ⟨hc54, h⟩ := chk_some h
            refine zlet_elim h (fun μ_3 em h => ?_)
            refine z_iast C X (hI.1 28 (by decide)) rfl hc54 (zok1 rfl (Rg.w _)) em dX6_findNext_54 (fun H locs X => ?_)
            clear em
            refine lv_aload_n C.1 C.2.1 dX6_findNext_55 rfl (lv_at hl 0 rfl) ?_
            refine z_get C X zk6 (hI.1 27 (by decide)) rfl 0 (by decide) kw_253 (zR Ω 28) (zfvF (off := 1) X.2.2.2 (hI.1 27 (by decide)) (hI.2 27 (by decide)) rfl rfl (by decide)) dX6_findNext_56 ?_
            refine lv_aload_n C.1 C.2.1 dX6_findNext_59 rfl (lv_at hl 0 rfl) ?_
            have g_60 : Rg (μ_3 27 6) := zrgf0 (ci := 6) X.2.2.2 (hI.1 27 (by decide)) rfl 6 rfl
            refine z_get C X zk6 (hI.1 27 (by decide)) rfl 6 (by decide) kw_260 (zI (μ_3 27 6)) rfl dX6_findNext_60 ?_
            obtain ⟨hc63, h⟩ := chk_some h
            have g_63 : Rg (μ_3 28 (μ_3 27 6)) := zrg1 X.2.2.2 (hI.1 28 (by decide)) rfl
            refine z_iald C X (hI.1 28 (by decide)) rfl hc63 dX6_findNext_63 ?_
            refine lv_aload_n C.1 C.2.1 dX6_findNext_64 rfl (lv_at hl 0 rfl) ?_
            obtain ⟨hn65, h⟩ := chk_some h
            have o_65 : zob Ω.2.2.1 4 (μ_3 27 9) := (zrgf4 (ci := 6) X.2.2.2 (hI.1 27 (by decide)) rfl 9 4 rfl rfl).resolve_left hn65
            refine z_get C X zk6 (hI.1 27 (by decide)) rfl 9 (by decide) kw_264 (zQ Ω (μ_3 27 9)) rfl dX6_findNext_65 ?_
            rw [zQ_pos Ω hn65]
            refine zlet_elim h (fun x_4 ex_4 h => ?_)
            rw [← ex_4] at o_65 ⊢
            clear hn65 ex_4
            have g_68 : Rg (μ_3 x_4 1) := zrgf0 (ci := 4) X.2.2.2 (zob.self o_65) (zo4 o_65) 1 rfl
            refine z_get C X zk4 (zob.self o_65) (zo4 o_65) 1 (by decide) kw_374 (zI (μ_3 x_4 1)) rfl dX6_findNext_68 ?_
            refine z_icmplt C g_63 g_68 (tgt := 87) dX6_findNext_71 (by decide) (fun hc71 => ?_) (fun hc71 => ?_)
            · rw [if_pos hc71] at h
              refine lv_aload_n C.1 C.2.1 dX6_findNext_87 rfl (lv_at hl 0 rfl) ?_
              obtain ⟨x_5, hq88, h⟩ := bnd_some h
              refine z_callV1 C X zk6 (hI.1 27 (by decide)) rfl (As := []) (M_X6_doRimsHold hI μ_3 hq88) zc_X6_doRimsHold kw_724 (zroom (by decide) (by decide)) rfl hl.1 rfl (Nat.le_of_ble_eq_true rfl) dX6_findNext_88 ⟨Nat.zero_le _, Nat.zero_le _⟩ (fun H locs g_88 X => ?_)
              refine z_ifeq C (rgz g_88) (tgt := 140) dX6_findNext_91 (by decide) (fun hc91 => ?_) (fun hc91 => ?_)
              · rw [if_pos hc91] at h
                refine zlet_elim h (fun x_6 ex_6 h => ?_)
                have gx_6 : Rg x_6 := by rw [ex_6]; exact Rg.w _
                refine z_iinc C ex_6 dX6_findNext_140 hl (k := 2) rfl (by decide) (lv' := [(2, zI x_6), (0, zR Ω 27), (1, zI x1)]) rfl (fun ls hl => ?_)
                clear ex_6
                refine lv_goto (tgt := 29) C.1 C.2.1 dX6_findNext_143 (by decide) ?_
                exact ih29 x_6 μ_3 _ _ _ gx_6 X (lv_sub hl [1, 2, 0] rfl) h
              · rw [if_neg hc91] at h
                refine lv_iload_n C.1 C.2.1 dX6_findNext_94 rfl (lv_at hl 1 rfl) ?_
                have K105 : ∀ (μ_7 : zMem) (H : Heap) (locs : List Loc) (ls : Array Slot), zX Ω μ_7 (zfree Ω) s.heap H locs → lv_has ls 3 [(0, zR Ω 27), (1, zI x1), (2, zI x_1)] → (f_X6_findNext_J105 x_1 (f_X6_findNext_L29 x1 n29)) μ_7 = some (r, μ') → W p l e (zrm 3) s m args below meth c H locs 0 0 Q (F0 m 105 ls []) := by
                  intro μ_7 H locs ls  X hl h
                  unfold f_X6_findNext_J105 at h
                  refine lv_aload_n C.1 C.2.1 dX6_findNext_105 rfl (lv_at hl 0 rfl) ?_
                  have g_106 : Rg (μ_7 27 6) := zrgf0 (ci := 6) X.2.2.2 (hI.1 27 (by decide)) rfl 6 rfl
                  refine z_get C X zk6 (hI.1 27 (by decide)) rfl 6 (by decide) kw_260 (zI (μ_7 27 6)) rfl dX6_findNext_106 ?_
                  refine lv_aload_n C.1 C.2.1 dX6_findNext_109 rfl (lv_at hl 0 rfl) ?_
                  have g_110 : Rg (μ_7 27 8) := zrgf0 (ci := 6) X.2.2.2 (hI.1 27 (by decide)) rfl 8 rfl
                  refine z_get C X zk6 (hI.1 27 (by decide)) rfl 8 (by decide) kw_262 (zI (μ_7 27 8)) rfl dX6_findNext_110 ?_
                  refine z_iconst C dX6_findNext_113 ?_
                  refine z_isub C dX6_findNext_114 ?_
                  refine z_icmpne C g_106 (Rg.w _) (tgt := 120) dX6_findNext_115 (by decide) (fun hc115 => ?_) (fun hc115 => ?_)
                  · rw [if_neg hc115] at h
                    refine lv_aload_n C.1 C.2.1 dX6_findNext_120 rfl (lv_at hl 0 rfl) ?_
                    refine lv_dup C.1 C.2.1 dX6_findNext_121 rfl ?_
                    have g_122 : Rg (μ_7 27 6) := zrgf0 (ci := 6) X.2.2.2 (hI.1 27 (by decide)) rfl 6 rfl
                    refine z_get C X zk6 (hI.1 27 (by decide)) rfl 6 (by decide) kw_260 (zI (μ_7 27 6)) rfl dX6_findNext_122 ?_
                    refine z_iconst C dX6_findNext_125 ?_
                    refine z_iadd C dX6_findNext_126 ?_
                    refine zlet_elim h (fun μ_8 em h => ?_)
                    refine z_putI C X zk6 (hI.1 27 (by decide)) rfl 6 (by decide) kw_260 rfl rfl rfl rfl (Rg.w _) em dX6_findNext_127 (fun H locs X => ?_)
                    clear em
                    refine lv_aload_n C.1 C.2.1 dX6_findNext_130 rfl (lv_at hl 0 rfl) ?_
                    refine z_get C X zk6 (hI.1 27 (by decide)) rfl 0 (by decide) kw_253 (zR Ω 28) (zfvF (off := 1) X.2.2.2 (hI.1 27 (by decide)) (hI.2 27 (by decide)) rfl rfl (by decide)) dX6_findNext_131 ?_
                    refine lv_aload_n C.1 C.2.1 dX6_findNext_134 rfl (lv_at hl 0 rfl) ?_
                    have g_135 : Rg (μ_8 27 6) := zrgf0 (ci := 6) X.2.2.2 (hI.1 27 (by decide)) rfl 6 rfl
                    refine z_get C X zk6 (hI.1 27 (by decide)) rfl 6 (by decide) kw_260 (zI (μ_8 27 6)) rfl dX6_findNext_135 ?_
                    refine z_iconst C dX6_findNext_138 ?_
                    obtain ⟨hc139, h⟩ := chk_some h
                    refine zlet_elim h (fun μ_9 em h => ?_)
                    refine z_iast C X (hI.1 28 (by decide)) rfl hc139 (zok1 rfl ⟨by decide, by decide⟩) em dX6_findNext_139 (fun H locs X => ?_)
                    clear em
                    refine zlet_elim h (fun x_10 ex_10 h => ?_)
                    have gx_10 : Rg x_10 := by rw [ex_10]; exact Rg.w _
                    refine z_iinc C ex_10 dX6_findNext_140 hl (k := 2) rfl (by decide) (lv' := [(2, zI x_10), (0, zR Ω 27), (1, zI x1)]) rfl (fun ls hl => ?_)
                    clear ex_10
                    refine lv_goto (tgt := 29) C.1 C.2.1 dX6_findNext_143 (by decide) ?_
                    exact ih29 x_10 μ_9 _ _ _ gx_10 X (lv_sub hl [1, 2, 0] rfl) h
                  · rw [if_pos hc115] at h
                    refine z_iconst C dX6_findNext_118 ?_
                    obtain ⟨rfl, rfl⟩ := Prod.mk.inj (Option.some.inj h)
                    exact rt X ⟨by decide, by decide⟩ dX6_findNext_119
                refine z_ifeq C gx1 (tgt := 105) dX6_findNext_95 (by decide) (fun hc95 => ?_) (fun hc95 => ?_)
                · rw [if_pos hc95] at h
                  exact K105 μ_3 _ _ _ X (lv_sub hl [0, 1, 2] rfl) h
                · rw [if_neg hc95] at h
                  refine lv_aload_n C.1 C.2.1 dX6_findNext_98 rfl (lv_at hl 0 rfl) ?_
                  obtain ⟨x_11, hq99, h⟩ := bnd_some h
                  refine z_callV1 C X zk6 (hI.1 27 (by decide)) rfl (As := []) (M_X6_isFirstOfLike hI μ_3 hq99) zc_X6_isFirstOfLike kw_740 (zroom (by decide) (by decide)) rfl hl.1 rfl (Nat.le_of_ble_eq_true rfl) dX6_findNext_99 ⟨Nat.zero_le _, Nat.zero_le _⟩ (fun H locs g_99 X => ?_)
                  refine z_ifeq C (rgz g_99) (tgt := 140) dX6_findNext_102 (by decide) (fun hc102 => ?_) (fun hc102 => ?_)
                  · rw [if_pos hc102] at h
                    refine zlet_elim h (fun x_12 ex_12 h => ?_)
                    have gx_12 : Rg x_12 := by rw [ex_12]; exact Rg.w _
                    refine z_iinc C ex_12 dX6_findNext_140 hl (k := 2) rfl (by decide) (lv' := [(2, zI x_12), (0, zR Ω 27), (1, zI x1)]) rfl (fun ls hl => ?_)
                    clear ex_12
                    refine lv_goto (tgt := 29) C.1 C.2.1 dX6_findNext_143 (by decide) ?_
                    exact ih29 x_12 μ_3 _ _ _ gx_12 X (lv_sub hl [1, 2, 0] rfl) h
                  · rw [if_neg hc102] at h
                    exact K105 μ_3 _ _ _ X (lv_sub hl [0, 1, 2] rfl) h
            · rw [if_neg hc71] at h
              refine lv_aload_n C.1 C.2.1 dX6_findNext_74 rfl (lv_at hl 0 rfl) ?_
              refine lv_dup C.1 C.2.1 dX6_findNext_75 rfl ?_
              have g_76 : Rg (μ_3 27 6) := zrgf0 (ci := 6) X.2.2.2 (hI.1 27 (by decide)) rfl 6 rfl
              refine z_get C X zk6 (hI.1 27 (by decide)) rfl 6 (by decide) kw_260 (zI (μ_3 27 6)) rfl dX6_findNext_76 ?_
              refine z_iconst C dX6_findNext_79 ?_
              refine z_isub C dX6_findNext_80 ?_
              refine zlet_elim h (fun μ_13 em h => ?_)
              refine z_putI C X zk6 (hI.1 27 (by decide)) rfl 6 (by decide) kw_260 rfl rfl rfl rfl (Rg.w _) em dX6_findNext_81 (fun H locs X => ?_)
              clear em
              refine lv_goto (tgt := 140) C.1 C.2.1 dX6_findNext_84 (by decide) ?_
              refine zlet_elim h (fun x_14 ex_14 h => ?_)
              have gx_14 : Rg x_14 := by rw [ex_14]; exact Rg.w _
              refine z_iinc C ex_14 dX6_findNext_140 hl (k := 2) rfl (by decide) (lv' := [(2, zI x_14), (0, zR Ω 27), (1, zI x1)]) rfl (fun ls hl => ?_)
              clear ex_14
              refine lv_goto (tgt := 29) C.1 C.2.1 dX6_findNext_143 (by decide) ?_
              exact ih29 x_14 μ_13 _ _ _ gx_14 X (lv_sub hl [1, 2, 0] rfl) h
    exact L29 zfu 0 μ _ _ _ ⟨by decide, by decide⟩ X (lv_sub hl [1, 2, 0] rfl) h
  · rw [if_pos hc4] at h
    refine lv_aload_n C.1 C.2.1 dX6_findNext_7 rfl (lv_at hl 0 rfl) ?_
    have g_8 : 0 ≤ (μ 27 7) ∧ (μ 27 7) ≤ 1 := zrgf2 (ci := 6) X.2.2.2 (hI.1 27 (by decide)) rfl 7 rfl
    refine z_get C X zk6 (hI.1 27 (by decide)) rfl 7 (by decide) kw_261 (zI (μ 27 7)) rfl dX6_findNext_8 ?_
    have K19 : ∀ (x_15 : Int) (μ_16 : zMem) (H : Heap) (locs : List Loc) (ls : Array Slot), Rg x_15 → zX Ω μ_16 (zfree Ω) s.heap H locs → lv_has ls 3 [(0, zR Ω 27)] → f_X6_findNext_J19 x_15 μ_16 = some (r, μ') → W p l e (zrm 3) s m args below meth c H locs 0 0 Q (F0 m 19 ls [zI x_15]) := by
      intro x_15 μ_16 H locs ls gx_15 X hl h
      unfold f_X6_findNext_J19 at h
      refine lv_istore_n C.1 C.2.1 (lv' := [(2, zI x_15), (0, zR Ω 27)]) dX6_findNext_19 rfl hl (by decide) rfl (fun ls hl => ?_)
      refine lv_aload_n C.1 C.2.1 dX6_findNext_20 rfl (lv_at hl 1 rfl) ?_
      refine z_iconst C dX6_findNext_21 ?_
      refine zlet_elim h (fun μ_17 em h => ?_)
      refine z_putZ C X zk6 (hI.1 27 (by decide)) rfl 7 (by decide) kw_261 rfl rfl rfl rfl ⟨by decide, by decide⟩ em dX6_findNext_22 (fun H locs X => ?_)
      clear em
      refine lv_iload_n C.1 C.2.1 dX6_findNext_25 rfl (lv_at hl 0 rfl) ?_
      obtain ⟨hz26, h⟩ := chk_some h
      obtain ⟨rfl, rfl⟩ := Prod.mk.inj (Option.some.inj h)
      exact rt X hz26 dX6_findNext_26
    refine z_ifne C (rgz g_8) (tgt := 18) dX6_findNext_11 (by decide) (fun hc11 => ?_) (fun hc11 => ?_)
    · rw [if_neg hc11] at h
      refine z_iconst C dX6_findNext_18 ?_
      exact K19 0 μ _ _ _ ⟨by decide, by decide⟩ X (lv_sub hl [0] rfl) h
    · rw [if_pos hc11] at h
      refine z_iconst C dX6_findNext_14 ?_
      refine lv_goto (tgt := 19) C.1 C.2.1 dX6_findNext_15 (by decide) ?_
      exact K19 1 μ _ _ _ ⟨by decide, by decide⟩ X (lv_sub hl [0] rfl) h
theorem zc_X6_findNext : zcal yX6_findNext cX6_findNext 3 (some Jvm.ClassFile.FieldType.boolean) RX6 1 := ⟨⟨kw_722, kw_720, kw_721, kw_8⟩, rfl, by decide, by decide, by decide +kernel⟩

def f_X6_isOne_K87 (μ : zMem) (x_1 : Int) : Option Int :=
  chk ((μ 27 9) ≠ 0) <|
  zlet (μ 27 9) fun x_2 =>
  if x_1 = (zw ((zshl 1 (μ x_2 0)) - 1)) then
    some 1
  else
    some 0
def f_X6_isOne_K81 (x_4 : Int) (g4 : Int → Int → Option Int) (x_6 : Int) : Option Int :=
  zlet (zw (x_4 + 1)) fun x_7 =>
  g4 x_6 x_7
def f_X6_isOne_K75 (x_9 : Int) (g17 : Int → Int → Option Int) (x_11 : Int) : Option Int :=
  zlet (zw (x_9 + 1)) fun x_12 =>
  g17 x_11 x_12
def f_X6_isOne_L31 (μ : zMem) (x_9 : Int) (g75 : Int → Option Int) : Nat → Int → Int → Option Int
  | 0, _, _ => none
  | n + 1, x_13, x_14 =>
    if x_14 < (μ 27 8) then
      if (zand (zshr x_13 x_9) 1) = 1 then
        chk ((μ 27 9) ≠ 0) <|
        zlet (μ 27 9) fun x_15 =>
        chk ((0 : Int) ≤ x_14 ∧ x_14 < 12) <|
        bnd (f_X4_move x_15 (μ 28 x_14) x_9 μ) fun x_16 =>
        zlet ((zor x_13 (zshl 1 x_16))) fun x_17 =>
        zlet (zw (x_14 + 1)) fun x_18 =>
        (f_X6_isOne_L31 μ x_9 g75 n) x_17 x_18
      else
        g75 x_13
    else
      g75 x_13
def f_X6_isOne_L17 (μ : zMem) (g81 : Int → Option Int) : Nat → Int → Int → Option Int
  | 0, _, _ => none
  | n + 1, x_8, x_9 =>
    chk ((μ 27 9) ≠ 0) <|
    zlet (μ 27 9) fun x_10 =>
    if x_9 < (μ x_10 0) then
      (f_X6_isOne_L31 μ x_9 (f_X6_isOne_K75 x_9 (f_X6_isOne_L17 μ g81 n))) zfu x_8 0
    else
      g81 x_8
def f_X6_isOne_L4 (μ : zMem) (g87 : Int → Option Int) : Nat → Int → Int → Option Int
  | 0, _, _ => none
  | n + 1, x_3, x_4 =>
    chk ((μ 27 9) ≠ 0) <|
    zlet (μ 27 9) fun x_5 =>
    if x_4 < (μ x_5 0) then
      (f_X6_isOne_L17 μ (f_X6_isOne_K81 x_4 (f_X6_isOne_L4 μ g87 n))) zfu x_3 0
    else
      g87 x_3
def f_X6_isOne (μ : zMem) : Option Int :=
  (f_X6_isOne_L4 μ (f_X6_isOne_K87 μ)) zfu 1 1
set_option maxHeartbeats 4000000 in
set_option maxRecDepth 100000 in
theorem M_X6_isOne {l : Launch} {Ω : zO} (hI : zIc Ω) (μ : zMem) {r : Int} (h : f_X6_isOne μ = some r) : XMet l yX6_isOne cX6_isOne 5 (some Jvm.ClassFile.FieldType.boolean) 1 Ω [zR Ω 27] μ (some (zI r)) (0 ≤ r ∧ r ≤ 1) μ := by
  refine XMet.ofZ (by decide) (Nat.le_of_ble_eq_true rfl) ?_
  intro p e s m args below meth c ls Q C rt X hl
  have C : zC p s m args c cX6_isOne RX6 5 Ω := C
  have hl : lv_has ls 5 [(0, zR Ω 27)] := hl
  unfold f_X6_isOne at h
  skip
  refine z_iconst C dX6_isOne_0 ?_
  refine lv_istore_n C.1 C.2.1 (lv' := [(1, zI 1), (0, zR Ω 27)]) dX6_isOne_1 rfl hl (by decide) rfl (fun ls hl => ?_)
  refine z_iconst C dX6_isOne_2 ?_
  refine lv_istore_n C.1 C.2.1 (lv' := [(2, zI 1), (1, zI 1), (0, zR Ω 27)]) dX6_isOne_3 rfl hl (by decide) rfl (fun ls hl => ?_)
  have K87 : ∀ (x_1 : Int) (H : Heap) (locs : List Loc) (ls : Array Slot), Rg x_1 → zX Ω μ (zfree Ω) s.heap H locs → lv_has ls 5 [(0, zR Ω 27), (1, zI x_1)] → (f_X6_isOne_K87 μ) x_1 = some r → W p l e (zrm 1) s m args below meth c H locs 0 0 Q (F0 m 87 ls []) := by
    intro x_1 H locs ls gx_1 X hl h
    unfold f_X6_isOne_K87 at h
    refine lv_iload_n C.1 C.2.1 dX6_isOne_87 rfl (lv_at hl 1 rfl) ?_
    refine z_iconst C dX6_isOne_88 ?_
    refine lv_aload_n C.1 C.2.1 dX6_isOne_89 rfl (lv_at hl 0 rfl) ?_
    obtain ⟨hn90, h⟩ := chk_some h
    have o_90 : zob Ω.2.2.1 4 (μ 27 9) := (zrgf4 (ci := 6) X.2.2.2 (hI.1 27 (by decide)) rfl 9 4 rfl rfl).resolve_left hn90
    refine z_get C X zk6 (hI.1 27 (by decide)) rfl 9 (by decide) kw_264 (zQ Ω (μ 27 9)) rfl dX6_isOne_90 ?_
    rw [zQ_pos Ω hn90]
    refine zlet_elim h (fun x_2 ex_2 h => ?_)
    rw [← ex_2] at o_90 ⊢
    clear hn90 ex_2
    have g_93 : Rg (μ x_2 0) := zrgf0 (ci := 4) X.2.2.2 (zob.self o_90) (zo4 o_90) 0 rfl
    refine z_get C X zk4 (zob.self o_90) (zo4 o_90) 0 (by decide) kw_371 (zI (μ x_2 0)) rfl dX6_isOne_93 ?_
    refine z_ishl C dX6_isOne_96 ?_
    refine z_iconst C dX6_isOne_97 ?_
    refine z_isub C dX6_isOne_98 ?_
    refine z_icmpne C gx_1 (Rg.w _) (tgt := 106) dX6_isOne_99 (by decide) (fun hc99 => ?_) (fun hc99 => ?_)
    · rw [if_neg hc99] at h
      refine z_iconst C dX6_isOne_106 ?_
      obtain rfl := Option.some.inj h
      exact rt X ⟨by decide, by decide⟩ dX6_isOne_107
    · rw [if_pos hc99] at h
      refine z_iconst C dX6_isOne_102 ?_
      refine lv_goto (tgt := 107) C.1 C.2.1 dX6_isOne_103 (by decide) ?_
      obtain rfl := Option.some.inj h
      exact rt X ⟨by decide, by decide⟩ dX6_isOne_107
  have L4 : ∀ (n4 : Nat) (x_3 : Int) (x_4 : Int) (H : Heap) (locs : List Loc) (ls : Array Slot), Rg x_3 → Rg x_4 → zX Ω μ (zfree Ω) s.heap H locs → lv_has ls 5 [(0, zR Ω 27), (1, zI x_3), (2, zI x_4)] → (f_X6_isOne_L4 μ (f_X6_isOne_K87 μ) n4 x_3 x_4) = some r → W p l e (zrm 1) s m args below meth c H locs 0 0 Q (F0 m 4 ls []) := by
    intro n4
    induction n4 with
    | zero =>
      intro x_3 x_4 H locs ls _ _ _ _ h
      cases h
    | succ n4 ih4 =>
      intro x_3 x_4 H locs ls gx_3 gx_4 X hl h
      unfold f_X6_isOne_L4 at h
      refine lv_iload_n C.1 C.2.1 dX6_isOne_4 rfl (lv_at hl 2 rfl) ?_
      refine lv_aload_n C.1 C.2.1 dX6_isOne_5 rfl (lv_at hl 0 rfl) ?_
      obtain ⟨hn6, h⟩ := chk_some h
      have o_6 : zob Ω.2.2.1 4 (μ 27 9) := (zrgf4 (ci := 6) X.2.2.2 (hI.1 27 (by decide)) rfl 9 4 rfl rfl).resolve_left hn6
      refine z_get C X zk6 (hI.1 27 (by decide)) rfl 9 (by decide) kw_264 (zQ Ω (μ 27 9)) rfl dX6_isOne_6 ?_
      rw [zQ_pos Ω hn6]
      refine zlet_elim h (fun x_5 ex_5 h => ?_)
      rw [← ex_5] at o_6 ⊢
      clear hn6 ex_5
      have g_9 : Rg (μ x_5 0) := zrgf0 (ci := 4) X.2.2.2 (zob.self o_6) (zo4 o_6) 0 rfl
      refine z_get C X zk4 (zob.self o_6) (zo4 o_6) 0 (by decide) kw_371 (zI (μ x_5 0)) rfl dX6_isOne_9 ?_
      refine z_icmpge C gx_4 g_9 (tgt := 87) dX6_isOne_12 (by decide) (fun hc12 => ?_) (fun hc12 => ?_)
      · rw [if_neg hc12] at h
        exact K87 x_3 _ _ _ gx_3 X (lv_sub hl [0, 1] rfl) h
      · rw [if_pos hc12] at h
        refine z_iconst C dX6_isOne_15 ?_
        refine lv_istore_n C.1 C.2.1 (lv' := [(3, zI 0), (0, zR Ω 27), (1, zI x_3), (2, zI x_4)]) dX6_isOne_16 rfl hl (by decide) rfl (fun ls hl => ?_)
        have K81 : ∀ (x_6 : Int) (H : Heap) (locs : List Loc) (ls : Array Slot), Rg x_6 → zX Ω μ (zfree Ω) s.heap H locs → lv_has ls 5 [(0, zR Ω 27), (1, zI x_6), (2, zI x_4)] → (f_X6_isOne_K81 x_4 (f_X6_isOne_L4 μ (f_X6_isOne_K87 μ) n4)) x_6 = some r → W p l e (zrm 1) s m args below meth c H locs 0 0 Q (F0 m 81 ls []) := by
          intro x_6 H locs ls gx_6 X hl h
          unfold f_X6_isOne_K81 at h
          refine zlet_elim h (fun x_7 ex_7 h => ?_)
          have gx_7 : Rg x_7 := by rw [ex_7]; exact Rg.w _
          refine z_iinc C ex_7 dX6_isOne_81 hl (k := 2) rfl (by decide) (lv' := [(2, zI x_7), (0, zR Ω 27), (1, zI x_6)]) rfl (fun ls hl => ?_)
          clear ex_7
          refine lv_goto (tgt := 4) C.1 C.2.1 dX6_isOne_84 (by decide) ?_
          exact ih4 x_6 x_7 _ _ _ gx_6 gx_7 X (lv_sub hl [1, 2, 0] rfl) h
        have L17 : ∀ (n17 : Nat) (x_8 : Int) (x_9 : Int) (H : Heap) (locs : List Loc) (ls : Array Slot), Rg x_8 → Rg x_9 → zX Ω μ (zfree Ω) s.heap H locs → lv_has ls 5 [(0, zR Ω 27), (1, zI x_8), (2, zI x_4), (3, zI x_9)] → (f_X6_isOne_L17 μ (f_X6_isOne_K81 x_4 (f_X6_isOne_L4 μ (f_X6_isOne_K87 μ) n4)) n17 x_8 x_9) = some r → W p l e (zrm 1) s m args below meth c H locs 0 0 Q (F0 m 17 ls []) := by
          intro n17
          induction n17 with
          | zero =>
            intro x_8 x_9 H locs ls _ _ _ _ h
            cases h
          | succ n17 ih17 =>
            intro x_8 x_9 H locs ls gx_8 gx_9 X hl h
            unfold f_X6_isOne_L17 at h
            refine lv_iload_n C.1 C.2.1 dX6_isOne_17 rfl (lv_at hl 3 rfl) ?_
            refine lv_aload_n C.1 C.2.1 dX6_isOne_18 rfl (lv_at hl 0 rfl) ?_
            obtain ⟨hn19, h⟩ := chk_some h
            have o_19 : zob Ω.2.2.1 4 (μ 27 9) := (zrgf4 (ci := 6) X.2.2.2 (hI.1 27 (by decide)) rfl 9 4 rfl rfl).resolve_left hn19
            refine z_get C X zk6 (hI.1 27 (by decide)) rfl 9 (by decide) kw_264 (zQ Ω (μ 27 9)) rfl dX6_isOne_19 ?_
            rw [zQ_pos Ω hn19]
            refine zlet_elim h (fun x_10 ex_10 h => ?_)
            rw [← ex_10] at o_19 ⊢
            clear hn19 ex_10
            have g_22 : Rg (μ x_10 0) := zrgf0 (ci := 4) X.2.2.2 (zob.self o_19) (zo4 o_19) 0 rfl
            refine z_get C X zk4 (zob.self o_19) (zo4 o_19) 0 (by decide) kw_371 (zI (μ x_10 0)) rfl dX6_isOne_22 ?_
            refine z_icmpge C gx_9 g_22 (tgt := 81) dX6_isOne_25 (by decide) (fun hc25 => ?_) (fun hc25 => ?_)
            · rw [if_neg hc25] at h
              exact K81 x_8 _ _ _ gx_8 X (lv_sub hl [0, 1, 2] rfl) h
            · rw [if_pos hc25] at h
              refine z_iconst C dX6_isOne_28 ?_
              refine lv_istore C.1 C.2.1 (lv' := [(4, zI 0), (0, zR Ω 27), (1, zI x_8), (2, zI x_4), (3, zI x_9)]) dX6_isOne_29 hl (by decide) rfl (fun ls hl => ?_)
              have K75 : ∀ (x_11 : Int) (H : Heap) (locs : List Loc) (ls : Array Slot), Rg x_11 → zX Ω μ (zfree Ω) s.heap H locs → lv_has ls 5 [(0, zR Ω 27), (1, zI x_11), (2, zI x_4), (3, zI x_9)] → (f_X6_isOne_K75 x_9 (f_X6_isOne_L17 μ (f_X6_isOne_K81 x_4 (f_X6_isOne_L4 μ (f_X6_isOne_K87 μ) n4)) n17)) x_11 = some r → W p l e (zrm 1) s m args below meth c H locs 0 0 Q (F0 m 75 ls []) := by
                intro x_11 H locs ls gx_11 X hl h
                unfold f_X6_isOne_K75 at h
                refine zlet_elim h (fun x_12 ex_12 h => ?_)
                have gx_12 : Rg x_12 := by rw [ex_12]; exact Rg.w _
                refine z_iinc C ex_12 dX6_isOne_75 hl (k := 3) rfl (by decide) (lv' := [(3, zI x_12), (0, zR Ω 27), (1, zI x_11), (2, zI x_4)]) rfl (fun ls hl => ?_)
                clear ex_12
                refine lv_goto (tgt := 17) C.1 C.2.1 dX6_isOne_78 (by decide) ?_
                exact ih17 x_11 x_12 _ _ _ gx_11 gx_12 X (lv_sub hl [1, 2, 3, 0] rfl) h
              have L31 : ∀ (n31 : Nat) (x_13 : Int) (x_14 : Int) (H : Heap) (locs : List Loc) (ls : Array Slot), Rg x_13 → Rg x_14 → zX Ω μ (zfree Ω) s.heap H locs → lv_has ls 5 [(0, zR Ω 27), (1, zI x_13), (2, zI x_4), (3, zI x_9), (4, zI x_14)] → (f_X6_isOne_L31 μ x_9 (f_X6_isOne_K75 x_9 (f_X6_isOne_L17 μ (f_X6_isOne_K81 x_4 (f_X6_isOne_L4 μ (f_X6_isOne_K87 μ) n4)) n17)) n31 x_13 x_14) = some r → W p l e (zrm 1) s m args below meth c H locs 0 0 Q (F0 m 31 ls []) := by
                intro n31
                induction n31 with
                | zero =>
                  intro x_13 x_14 H locs ls _ _ _ _ h
                  cases h
                | succ n31 ih31 =>
                  intro x_13 x_14 H locs ls gx_13 gx_14 X hl h
                  unfold f_X6_isOne_L31 at h
                  refine lv_iload C.1 C.2.1 dX6_isOne_31 (lv_at hl 4 rfl) ?_
                  refine lv_aload_n C.1 C.2.1 dX6_isOne_33 rfl (lv_at hl 0 rfl) ?_
                  have g_34 : Rg (μ 27 8) := zrgf0 (ci := 6) X.2.2.2 (hI.1 27 (by decide)) rfl 8 rfl
                  refine z_get C X zk6 (hI.1 27 (by decide)) rfl 8 (by decide) kw_262 (zI (μ 27 8)) rfl dX6_isOne_34 ?_
                  refine z_icmpge C gx_14 g_34 (tgt := 75) dX6_isOne_37 (by decide) (fun hc37 => ?_) (fun hc37 => ?_)
                  · rw [if_neg hc37] at h
                    exact K75 x_13 _ _ _ gx_13 X (lv_sub hl [0, 1, 2, 3] rfl) h
                  · rw [if_pos hc37] at h
                    refine lv_iload_n C.1 C.2.1 dX6_isOne_40 rfl (lv_at hl 1 rfl) ?_
                    refine lv_iload_n C.1 C.2.1 dX6_isOne_41 rfl (lv_at hl 3 rfl) ?_
                    refine z_ishr C dX6_isOne_42 ?_
                    refine z_iconst C dX6_isOne_43 ?_
                    refine z_iand C dX6_isOne_44 ?_
                    refine z_iconst C dX6_isOne_45 ?_
                    refine z_icmpne C (Rg.t _) ⟨by decide, by decide⟩ (tgt := 75) dX6_isOne_46 (by decide) (fun hc46 => ?_) (fun hc46 => ?_)
                    · rw [if_neg hc46] at h
                      exact K75 x_13 _ _ _ gx_13 X (lv_sub hl [0, 1, 2, 3] rfl) h
                    · rw [if_pos hc46] at h
                      refine lv_iload_n C.1 C.2.1 dX6_isOne_49 rfl (lv_at hl 1 rfl) ?_
                      refine z_iconst C dX6_isOne_50 ?_
                      refine lv_aload_n C.1 C.2.1 dX6_isOne_51 rfl (lv_at hl 0 rfl) ?_
                      obtain ⟨hn52, h⟩ := chk_some h
                      have o_52 : zob Ω.2.2.1 4 (μ 27 9) := (zrgf4 (ci := 6) X.2.2.2 (hI.1 27 (by decide)) rfl 9 4 rfl rfl).resolve_left hn52
                      refine z_get C X zk6 (hI.1 27 (by decide)) rfl 9 (by decide) kw_264 (zQ Ω (μ 27 9)) rfl dX6_isOne_52 ?_
                      rw [zQ_pos Ω hn52]
                      refine zlet_elim h (fun x_15 ex_15 h => ?_)
                      rw [← ex_15] at o_52 ⊢
                      clear hn52 ex_15
                      refine lv_aload_n C.1 C.2.1 dX6_isOne_55 rfl (lv_at hl 0 rfl) ?_
                      refine z_get C X zk6 (hI.1 27 (by decide)) rfl 0 (by decide) kw_253 (zR Ω 28) (zfvF (off := 1) X.2.2.2 (hI.1 27 (by decide)) (hI.2 27 (by decide)) rfl rfl (by decide)) dX6_isOne_56 ?_
                      refine lv_iload C.1 C.2.1 dX6_isOne_59 (lv_at hl 4 rfl) ?_
                      obtain ⟨hc61, h⟩ := chk_some h
                      have g_61 : Rg (μ 28 x_14) := zrg1 X.2.2.2 (hI.1 28 (by decide)) rfl
                      refine z_iald C X (hI.1 28 (by decide)) rfl hc61 dX6_isOne_61 ?_
                      refine lv_iload_n C.1 C.2.1 dX6_isOne_62 rfl (lv_at hl 3 rfl) ?_
                      obtain ⟨x_16, hq63, h⟩ := bnd_some h
                      refine z_callV1 C X zk4 (zob.self o_52) (zo4 o_52) (As := [zI (μ 28 x_14), zI x_9]) (M_X4_move μ x_15 (μ 28 x_14) x_9 o_52 g_61 gx_9 hq63) zc_X4_move kw_763 (zroom (by decide) (by decide)) rfl hl.1 rfl (Nat.le_of_ble_eq_true rfl) dX6_isOne_63 ⟨Nat.zero_le _, Nat.zero_le _⟩ (fun H locs g_63 X => ?_)
                      refine z_ishl C dX6_isOne_66 ?_
                      refine z_ior C dX6_isOne_67 ?_
                      refine zlet_elim h (fun x_17 ex_17 h => ?_)
                      have gx_17 : Rg x_17 := by rw [ex_17]; exact (Rg.t _)
                      refine z_istore_n C ex_17 dX6_isOne_68 rfl hl (by decide) (lv' := [(1, zI x_17), (0, zR Ω 27), (2, zI x_4), (3, zI x_9), (4, zI x_14)]) rfl (fun ls hl => ?_)
                      clear ex_17
                      refine zlet_elim h (fun x_18 ex_18 h => ?_)
                      have gx_18 : Rg x_18 := by rw [ex_18]; exact Rg.w _
                      refine z_iinc C ex_18 dX6_isOne_69 hl (k := 4) rfl (by decide) (lv' := [(4, zI x_18), (1, zI x_17), (0, zR Ω 27), (2, zI x_4), (3, zI x_9)]) rfl (fun ls hl => ?_)
                      clear ex_18
                      refine lv_goto (tgt := 31) C.1 C.2.1 dX6_isOne_72 (by decide) ?_
                      exact ih31 x_17 x_18 _ _ _ gx_17 gx_18 X (lv_sub hl [2, 1, 3, 4, 0] rfl) h
              exact L31 zfu x_8 0 _ _ _ gx_8 ⟨by decide, by decide⟩ X (lv_sub hl [1, 2, 3, 4, 0] rfl) h
        exact L17 zfu x_3 0 _ _ _ gx_3 ⟨by decide, by decide⟩ X (lv_sub hl [1, 2, 3, 0] rfl) h
  exact L4 zfu 1 1 _ _ _ ⟨by decide, by decide⟩ ⟨by decide, by decide⟩ X (lv_sub hl [2, 1, 0] rfl) h
theorem zc_X6_isOne : zcal yX6_isOne cX6_isOne 5 (some Jvm.ClassFile.FieldType.boolean) RX6 0 := ⟨⟨kw_762, kw_761, kp_31, kw_8⟩, rfl, by decide, by decide, by decide +kernel⟩

