def f_X2_divisorOf_L9 : Nat → Int → Int → Int → Option Int
  | 0, _, _, _ => none
  | n + 1, x_1, x_2, x_3 =>
    if x_3 < 1000000 then
      if x_2 = 0 then
        some x_1
      else
        chk (x_2 ≠ 0) <|
        zlet ((Int.tmod x_1 x_2)) fun x_4 =>
        zlet (zw (x_3 + 1)) fun x_5 =>
        (f_X2_divisorOf_L9 n) x_2 x_4 x_5
    else
      some x_1
def f_X2_divisorOf (x0 : Int) (x2 : Int) : Option Int :=
  (f_X2_divisorOf_L9) zfu x0 x2 0
set_option maxHeartbeats 4000000 in
set_option maxRecDepth 100000 in
theorem M_X2_divisorOf {l : Launch} {Ω : zO} (hI : zIc Ω) (μ : zMem) (x0 : Int) (x2 : Int) {r : Int} (gx0 : Rl x0) (gx2 : Rl x2) (h : f_X2_divisorOf x0 x2 = some r) : XMet l yX2_divisorOf cX2_divisorOf 11 (some Jvm.ClassFile.FieldType.long) 0 Ω [zJ x0, zJ x2] μ (some (zJ r)) (Rl r) μ := by
  refine XMet.ofJ (by decide) (Nat.le_of_ble_eq_true rfl) ?_
  intro p e s m args below meth c ls Q C rt X hl
  have C : zC p s m args c cX2_divisorOf RX2 11 Ω := C
  have hl : lv_has ls 11 [(0, zJ x0), (2, zJ x2)] := hl
  unfold f_X2_divisorOf at h
  skip
  refine lv_lload_n C.1 C.2.1 dX2_divisorOf_0 rfl (lv_at hl 0 rfl) ?_
  refine lv_lstore C.1 C.2.1 (lv' := [(4, zJ x0), (0, zJ x0), (2, zJ x2)]) dX2_divisorOf_1 hl (by decide) rfl (fun ls hl => ?_)
  refine lv_lload_n C.1 C.2.1 dX2_divisorOf_3 rfl (lv_at hl 2 rfl) ?_
  refine lv_lstore C.1 C.2.1 (lv' := [(6, zJ x2), (4, zJ x0), (0, zJ x0), (2, zJ x2)]) dX2_divisorOf_4 hl (by decide) rfl (fun ls hl => ?_)
  refine z_iconst C dX2_divisorOf_6 ?_
  refine lv_istore C.1 C.2.1 (lv' := [(8, zI 0), (6, zJ x2), (4, zJ x0), (0, zJ x0), (2, zJ x2)]) dX2_divisorOf_7 hl (by decide) rfl (fun ls hl => ?_)
  have L9 : ∀ (n9 : Nat) (x_1 : Int) (x_2 : Int) (x_3 : Int) (H : Heap) (locs : List Loc) (ls : Array Slot), Rl x_1 → Rl x_2 → Rg x_3 → zX Ω μ (zfree Ω) s.heap H locs → lv_has ls 11 [(4, zJ x_1), (6, zJ x_2), (8, zI x_3)] → (f_X2_divisorOf_L9 n9 x_1 x_2 x_3) = some r → W p l e (zrm 0) s m args below meth c H locs 0 0 Q (F0 m 9 ls []) := by
    intro n9
    induction n9 with
    | zero =>
      intro x_1 x_2 x_3 H locs ls _ _ _ _ _ h
      cases h
    | succ n9 ih9 =>
      intro x_1 x_2 x_3 H locs ls gx_1 gx_2 gx_3 X hl h
      unfold f_X2_divisorOf_L9 at h
      refine lv_iload C.1 C.2.1 dX2_divisorOf_9 (lv_at hl 2 rfl) ?_
      refine z_ldc C 1000000 kw_661 (by decide) dX2_divisorOf_11 ?_
      refine z_icmpge C gx_3 ⟨by decide, by decide⟩ (tgt := 44) dX2_divisorOf_13 (by decide) (fun hc13 => ?_) (fun hc13 => ?_)
      · rw [if_neg hc13] at h
        refine lv_lload C.1 C.2.1 dX2_divisorOf_44 (lv_at hl 0 rfl) ?_
        obtain rfl := Option.some.inj h
        exact rt X gx_1 dX2_divisorOf_46
      · rw [if_pos hc13] at h
        refine lv_lload C.1 C.2.1 dX2_divisorOf_16 (lv_at hl 1 rfl) ?_
        refine z_lconst C 0 rfl dX2_divisorOf_18 ?_
        refine z_leq C gx_2 ⟨by decide, by decide⟩ (tgt := 44) dX2_divisorOf_19 dX2_divisorOf_20 (by decide) (fun hc19 => ?_) (fun hc19 => ?_)
        · rw [if_pos hc19] at h
          refine lv_lload C.1 C.2.1 dX2_divisorOf_44 (lv_at hl 0 rfl) ?_
          obtain rfl := Option.some.inj h
          exact rt X gx_1 dX2_divisorOf_46
        · rw [if_neg hc19] at h
          refine lv_lload C.1 C.2.1 dX2_divisorOf_23 (lv_at hl 0 rfl) ?_
          refine lv_lload C.1 C.2.1 dX2_divisorOf_25 (lv_at hl 1 rfl) ?_
          obtain ⟨hc27, h⟩ := chk_some h
          refine z_lrem C gx_1 gx_2 hc27 dX2_divisorOf_27 ?_
          refine zlet_elim h (fun x_4 ex_4 h => ?_)
          have gx_4 : Rl x_4 := by rw [ex_4]; exact (Rl.rem gx_1 gx_2)
          refine z_lstore C ex_4 dX2_divisorOf_28 hl (by decide) (lv' := [(9, zJ x_4), (4, zJ x_1), (6, zJ x_2), (8, zI x_3)]) rfl (fun ls hl => ?_)
          clear ex_4
          refine lv_lload C.1 C.2.1 dX2_divisorOf_30 (lv_at hl 2 rfl) ?_
          refine lv_lstore C.1 C.2.1 (lv' := [(4, zJ x_2), (9, zJ x_4), (6, zJ x_2), (8, zI x_3)]) dX2_divisorOf_32 hl (by decide) rfl (fun ls hl => ?_)
          refine lv_lload C.1 C.2.1 dX2_divisorOf_34 (lv_at hl 1 rfl) ?_
          refine lv_lstore C.1 C.2.1 (lv' := [(6, zJ x_4), (4, zJ x_2), (9, zJ x_4), (8, zI x_3)]) dX2_divisorOf_36 hl (by decide) rfl (fun ls hl => ?_)
          refine zlet_elim h (fun x_5 ex_5 h => ?_)
          have gx_5 : Rg x_5 := by rw [ex_5]; exact Rg.w _
          refine z_iinc C ex_5 dX2_divisorOf_38 hl (k := 3) rfl (by decide) (lv' := [(8, zI x_5), (6, zJ x_4), (4, zJ x_2), (9, zJ x_4)]) rfl (fun ls hl => ?_)
          clear ex_5
          refine lv_goto (tgt := 9) C.1 C.2.1 dX2_divisorOf_41 (by decide) ?_
          exact ih9 x_2 x_4 x_5 _ _ _ gx_2 gx_4 gx_5 X (lv_sub hl [2, 1, 0] rfl) h
  exact L9 zfu x0 x2 0 _ _ _ gx0 gx2 ⟨by decide, by decide⟩ X (lv_sub hl [2, 1, 0] rfl) h
theorem zc_X2_divisorOf : zcas yX2_divisorOf cX2_divisorOf 11 (some Jvm.ClassFile.FieldType.long) 2 := ⟨⟨kw_680, kw_679, kw_7⟩, by decide, by decide, by decide +kernel⟩

def f_X2_rowNotDivided_K65 (x_2 : Int) (g5 : Int → Option Int) : Option Int :=
  zlet (zw (x_2 + 1)) fun x_4 =>
  g5 x_4
def f_X2_rowNotDivided_L19 (x2 : Int) (μ : zMem) (x_2 : Int) (g65 : Option Int) : Nat → Int → Option Int
  | 0, _ => none
  | n + 1, x_5 =>
    if x_5 < (μ 23 4) then
      if x2 = 0 then
        zlet (zw (x_5 + 1)) fun x_6 =>
        (f_X2_rowNotDivided_L19 x2 μ x_2 g65 n) x_6
      else
        chk ((0 : Int) ≤ (zw ((zw (x_2 * (μ 23 4))) + x_5)) ∧ (zw ((zw (x_2 * (μ 23 4))) + x_5)) < 1536) <|
        chk (x2 ≠ 0) <|
        if (Int.tmod (μ 24 (zw ((zw (x_2 * (μ 23 4))) + x_5))) x2) = 0 then
          zlet (zw (x_5 + 1)) fun x_7 =>
          (f_X2_rowNotDivided_L19 x2 μ x_2 g65 n) x_7
        else
          some x_2
    else
      g65
def f_X2_rowNotDivided_L5 (x1 : Int) (x2 : Int) (μ : zMem) : Nat → Int → Option Int
  | 0, _ => none
  | n + 1, x_2 =>
    if x_2 < (μ 23 3) then
      zlet ((zw (x1 + 1))) fun x_3 =>
      (f_X2_rowNotDivided_L19 x2 μ x_2 (f_X2_rowNotDivided_K65 x_2 (f_X2_rowNotDivided_L5 x1 x2 μ n))) zfu x_3
    else
      some (-1)
def f_X2_rowNotDivided (x1 : Int) (x2 : Int) (μ : zMem) : Option Int :=
  zlet ((zw (x1 + 1))) fun x_1 =>
  (f_X2_rowNotDivided_L5 x1 x2 μ) zfu x_1
set_option maxHeartbeats 4000000 in
set_option maxRecDepth 100000 in
theorem M_X2_rowNotDivided {l : Launch} {Ω : zO} (hI : zIc Ω) (μ : zMem) (x1 : Int) (x2 : Int) {r : Int} (gx1 : Rg x1) (gx2 : Rl x2) (h : f_X2_rowNotDivided x1 x2 μ = some r) : XMet l yX2_rowNotDivided cX2_rowNotDivided 6 (some Jvm.ClassFile.FieldType.int) 0 Ω [zR Ω 23, zI x1, zJ x2] μ (some (zI r)) (Rg r) μ := by
  refine XMet.ofI (by decide) (Nat.le_of_ble_eq_true rfl) ?_
  intro p e s m args below meth c ls Q C rt X hl
  have C : zC p s m args c cX2_rowNotDivided RX2 6 Ω := C
  have hl : lv_has ls 6 [(0, zR Ω 23), (1, zI x1), (2, zJ x2)] := hl
  unfold f_X2_rowNotDivided at h
  skip
  refine lv_iload_n C.1 C.2.1 dX2_rowNotDivided_0 rfl (lv_at hl 1 rfl) ?_
  refine z_iconst C dX2_rowNotDivided_1 ?_
  refine z_iadd C dX2_rowNotDivided_2 ?_
  refine zlet_elim h (fun x_1 ex_1 h => ?_)
  have gx_1 : Rg x_1 := by rw [ex_1]; exact (Rg.w _)
  refine z_istore C ex_1 dX2_rowNotDivided_3 hl (by decide) (lv' := [(4, zI x_1), (0, zR Ω 23), (1, zI x1), (2, zJ x2)]) rfl (fun ls hl => ?_)
  clear ex_1
  have L5 : ∀ (n5 : Nat) (x_2 : Int) (H : Heap) (locs : List Loc) (ls : Array Slot), Rg x_2 → zX Ω μ (zfree Ω) s.heap H locs → lv_has ls 6 [(0, zR Ω 23), (1, zI x1), (2, zJ x2), (4, zI x_2)] → (f_X2_rowNotDivided_L5 x1 x2 μ n5 x_2) = some r → W p l e (zrm 0) s m args below meth c H locs 0 0 Q (F0 m 5 ls []) := by
    intro n5
    induction n5 with
    | zero =>
      intro x_2 H locs ls _ _ _ h
      cases h
    | succ n5 ih5 =>
      intro x_2 H locs ls gx_2 X hl h
      unfold f_X2_rowNotDivided_L5 at h
      refine lv_iload C.1 C.2.1 dX2_rowNotDivided_5 (lv_at hl 3 rfl) ?_
      refine lv_aload_n C.1 C.2.1 dX2_rowNotDivided_7 rfl (lv_at hl 0 rfl) ?_
      have g_8 : Rg (μ 23 3) := zrgf0 (ci := 2) X.2.2.2 (hI.1 23 (by decide)) rfl 3 rfl
      refine z_get C X zk2 (hI.1 23 (by decide)) rfl 3 (by decide) kw_227 (zI (μ 23 3)) rfl dX2_rowNotDivided_8 ?_
      refine z_icmpge C gx_2 g_8 (tgt := 71) dX2_rowNotDivided_11 (by decide) (fun hc11 => ?_) (fun hc11 => ?_)
      · rw [if_neg hc11] at h
        refine z_iconst C dX2_rowNotDivided_71 ?_
        obtain rfl := Option.some.inj h
        exact rt X ⟨by decide, by decide⟩ dX2_rowNotDivided_72
      · rw [if_pos hc11] at h
        refine lv_iload_n C.1 C.2.1 dX2_rowNotDivided_14 rfl (lv_at hl 1 rfl) ?_
        refine z_iconst C dX2_rowNotDivided_15 ?_
        refine z_iadd C dX2_rowNotDivided_16 ?_
        refine zlet_elim h (fun x_3 ex_3 h => ?_)
        have gx_3 : Rg x_3 := by rw [ex_3]; exact (Rg.w _)
        refine z_istore C ex_3 dX2_rowNotDivided_17 hl (by decide) (lv' := [(5, zI x_3), (0, zR Ω 23), (1, zI x1), (2, zJ x2), (4, zI x_2)]) rfl (fun ls hl => ?_)
        clear ex_3
        have K65 : ∀ (H : Heap) (locs : List Loc) (ls : Array Slot), zX Ω μ (zfree Ω) s.heap H locs → lv_has ls 6 [(0, zR Ω 23), (1, zI x1), (2, zJ x2), (4, zI x_2)] → (f_X2_rowNotDivided_K65 x_2 (f_X2_rowNotDivided_L5 x1 x2 μ n5)) = some r → W p l e (zrm 0) s m args below meth c H locs 0 0 Q (F0 m 65 ls []) := by
          intro  H locs ls  X hl h
          unfold f_X2_rowNotDivided_K65 at h
          refine zlet_elim h (fun x_4 ex_4 h => ?_)
          have gx_4 : Rg x_4 := by rw [ex_4]; exact Rg.w _
          refine z_iinc C ex_4 dX2_rowNotDivided_65 hl (k := 3) rfl (by decide) (lv' := [(4, zI x_4), (0, zR Ω 23), (1, zI x1), (2, zJ x2)]) rfl (fun ls hl => ?_)
          clear ex_4
          refine lv_goto (tgt := 5) C.1 C.2.1 dX2_rowNotDivided_68 (by decide) ?_
          exact ih5 x_4 _ _ _ gx_4 X (lv_sub hl [1, 2, 3, 0] rfl) h
        have L19 : ∀ (n19 : Nat) (x_5 : Int) (H : Heap) (locs : List Loc) (ls : Array Slot), Rg x_5 → zX Ω μ (zfree Ω) s.heap H locs → lv_has ls 6 [(0, zR Ω 23), (1, zI x1), (2, zJ x2), (4, zI x_2), (5, zI x_5)] → (f_X2_rowNotDivided_L19 x2 μ x_2 (f_X2_rowNotDivided_K65 x_2 (f_X2_rowNotDivided_L5 x1 x2 μ n5)) n19 x_5) = some r → W p l e (zrm 0) s m args below meth c H locs 0 0 Q (F0 m 19 ls []) := by
          intro n19
          induction n19 with
          | zero =>
            intro x_5 H locs ls _ _ _ h
            cases h
          | succ n19 ih19 =>
            intro x_5 H locs ls gx_5 X hl h
            unfold f_X2_rowNotDivided_L19 at h
            refine lv_iload C.1 C.2.1 dX2_rowNotDivided_19 (lv_at hl 4 rfl) ?_
            refine lv_aload_n C.1 C.2.1 dX2_rowNotDivided_21 rfl (lv_at hl 0 rfl) ?_
            have g_22 : Rg (μ 23 4) := zrgf0 (ci := 2) X.2.2.2 (hI.1 23 (by decide)) rfl 4 rfl
            refine z_get C X zk2 (hI.1 23 (by decide)) rfl 4 (by decide) kw_228 (zI (μ 23 4)) rfl dX2_rowNotDivided_22 ?_
            refine z_icmpge C gx_5 g_22 (tgt := 65) dX2_rowNotDivided_25 (by decide) (fun hc25 => ?_) (fun hc25 => ?_)
            · rw [if_neg hc25] at h
              exact K65 _ _ _ X (lv_sub hl [0, 1, 2, 3] rfl) h
            · rw [if_pos hc25] at h
              refine lv_lload_n C.1 C.2.1 dX2_rowNotDivided_28 rfl (lv_at hl 2 rfl) ?_
              refine z_lconst C 0 rfl dX2_rowNotDivided_29 ?_
              refine z_leq C gx2 ⟨by decide, by decide⟩ (tgt := 59) dX2_rowNotDivided_30 dX2_rowNotDivided_31 (by decide) (fun hc30 => ?_) (fun hc30 => ?_)
              · rw [if_pos hc30] at h
                refine zlet_elim h (fun x_6 ex_6 h => ?_)
                have gx_6 : Rg x_6 := by rw [ex_6]; exact Rg.w _
                refine z_iinc C ex_6 dX2_rowNotDivided_59 hl (k := 4) rfl (by decide) (lv' := [(5, zI x_6), (0, zR Ω 23), (1, zI x1), (2, zJ x2), (4, zI x_2)]) rfl (fun ls hl => ?_)
                clear ex_6
                refine lv_goto (tgt := 19) C.1 C.2.1 dX2_rowNotDivided_62 (by decide) ?_
                exact ih19 x_6 _ _ _ gx_6 X (lv_sub hl [1, 2, 3, 4, 0] rfl) h
              · rw [if_neg hc30] at h
                refine lv_aload_n C.1 C.2.1 dX2_rowNotDivided_34 rfl (lv_at hl 0 rfl) ?_
                refine z_get C X zk2 (hI.1 23 (by decide)) rfl 0 (by decide) kw_223 (zR Ω 24) (zfvF (off := 1) X.2.2.2 (hI.1 23 (by decide)) (hI.2 23 (by decide)) rfl rfl (by decide)) dX2_rowNotDivided_35 ?_
                refine lv_iload C.1 C.2.1 dX2_rowNotDivided_38 (lv_at hl 3 rfl) ?_
                refine lv_aload_n C.1 C.2.1 dX2_rowNotDivided_40 rfl (lv_at hl 0 rfl) ?_
                have g_41 : Rg (μ 23 4) := zrgf0 (ci := 2) X.2.2.2 (hI.1 23 (by decide)) rfl 4 rfl
                refine z_get C X zk2 (hI.1 23 (by decide)) rfl 4 (by decide) kw_228 (zI (μ 23 4)) rfl dX2_rowNotDivided_41 ?_
                refine z_imul C dX2_rowNotDivided_44 ?_
                refine lv_iload C.1 C.2.1 dX2_rowNotDivided_45 (lv_at hl 4 rfl) ?_
                refine z_iadd C dX2_rowNotDivided_47 ?_
                obtain ⟨hc48, h⟩ := chk_some h
                have g_48 : Rl (μ 24 (zw ((zw (x_2 * (μ 23 4))) + x_5))) := zrg2 X.2.2.2 (hI.1 24 (by decide)) rfl
                refine z_lald C X (hI.1 24 (by decide)) rfl hc48 dX2_rowNotDivided_48 ?_
                refine lv_lload_n C.1 C.2.1 dX2_rowNotDivided_49 rfl (lv_at hl 2 rfl) ?_
                obtain ⟨hc50, h⟩ := chk_some h
                refine z_lrem C g_48 gx2 hc50 dX2_rowNotDivided_50 ?_
                refine z_lconst C 0 rfl dX2_rowNotDivided_51 ?_
                refine z_leq C (Rl.rem g_48 gx2) ⟨by decide, by decide⟩ (tgt := 59) dX2_rowNotDivided_52 dX2_rowNotDivided_53 (by decide) (fun hc52 => ?_) (fun hc52 => ?_)
                · rw [if_pos hc52] at h
                  refine zlet_elim h (fun x_7 ex_7 h => ?_)
                  have gx_7 : Rg x_7 := by rw [ex_7]; exact Rg.w _
                  refine z_iinc C ex_7 dX2_rowNotDivided_59 hl (k := 4) rfl (by decide) (lv' := [(5, zI x_7), (0, zR Ω 23), (1, zI x1), (2, zJ x2), (4, zI x_2)]) rfl (fun ls hl => ?_)
                  clear ex_7
                  refine lv_goto (tgt := 19) C.1 C.2.1 dX2_rowNotDivided_62 (by decide) ?_
                  exact ih19 x_7 _ _ _ gx_7 X (lv_sub hl [1, 2, 3, 4, 0] rfl) h
                · rw [if_neg hc52] at h
                  refine lv_iload C.1 C.2.1 dX2_rowNotDivided_56 (lv_at hl 3 rfl) ?_
                  obtain rfl := Option.some.inj h
                  exact rt X gx_2 dX2_rowNotDivided_58
        exact L19 zfu x_3 _ _ _ gx_3 X (lv_sub hl [1, 2, 3, 4, 0] rfl) h
  exact L5 zfu x_1 _ _ _ gx_1 X (lv_sub hl [1, 2, 3, 0] rfl) h
theorem zc_X2_rowNotDivided : zcal yX2_rowNotDivided cX2_rowNotDivided 6 (some Jvm.ClassFile.FieldType.int) RX2 2 := ⟨⟨kw_684, kw_683, kp_25, kw_7⟩, rfl, by decide, by decide, by decide +kernel⟩

def f_X2_nextFactor_L2 (x1 : Int) : Nat → Int → zMem → Option (Int × zMem)
  | 0, _, _ => none
  | n + 1, x_1, μ_2 =>
    if x_1 < 1000000 then
      bnd2 (f_X2_bringLeast x1 μ_2) fun x_3 μ_4 =>
      if x_3 = 0 then
        some ((μ_4 23 6), μ_4)
      else
        bnd2 (f_X2_clearLines x1 μ_4) fun x_5 μ_6 =>
        if x_5 = 0 then
          zlet (zw (x_1 + 1)) fun x_7 =>
          (f_X2_nextFactor_L2 x1 n) x_7 μ_6
        else
          chk ((0 : Int) ≤ (zw ((zw (x1 * (μ_6 23 4))) + x1)) ∧ (zw ((zw (x1 * (μ_6 23 4))) + x1)) < 1536) <|
          bnd (f_X2_divisorOf (μ_6 24 (zw ((zw (x1 * (μ_6 23 4))) + x1))) (μ_6 23 6)) fun x_8 =>
          chk ((0 : Int) ≤ (zw ((zw (x1 * (μ_6 23 4))) + x1)) ∧ (zw ((zw (x1 * (μ_6 23 4))) + x1)) < 1536) <|
          zlet (zup μ_6 24 (zw ((zw (x1 * (μ_6 23 4))) + x1)) x_8) fun μ_9 =>
          bnd (f_X2_rowNotDivided x1 x_8 μ_9) fun x_10 =>
          if x_10 = (-1) then
            some (x_8, μ_9)
          else
            bnd (f_X2_addRow x_10 x1 μ_9) fun μ_11 =>
            bnd2 (f_X2_clearLines x1 μ_11) fun x_12 μ_13 =>
            zlet (zw (x_1 + 1)) fun x_14 =>
            (f_X2_nextFactor_L2 x1 n) x_14 μ_13
    else
      some ((μ_2 23 6), μ_2)
def f_X2_nextFactor (x1 : Int) (μ : zMem) : Option (Int × zMem) :=
  (f_X2_nextFactor_L2 x1) zfu 0 μ
set_option maxHeartbeats 4000000 in
set_option maxRecDepth 100000 in
theorem M_X2_nextFactor {l : Launch} {Ω : zO} (hI : zIc Ω) (μ : zMem) (x1 : Int) {r : Int} {μ' : zMem} (gx1 : Rg x1) (h : f_X2_nextFactor x1 μ = some (r, μ')) : XMet l yX2_nextFactor cX2_nextFactor 6 (some Jvm.ClassFile.FieldType.long) 2 Ω [zR Ω 23, zI x1] μ (some (zJ r)) (Rl r) μ' := by
  refine XMet.ofJ (by decide) (Nat.le_of_ble_eq_true rfl) ?_
  intro p e s m args below meth c ls Q C rt X hl
  have C : zC p s m args c cX2_nextFactor RX2 6 Ω := C
  have hl : lv_has ls 6 [(0, zR Ω 23), (1, zI x1)] := hl
  unfold f_X2_nextFactor at h
  skip
  refine z_iconst C dX2_nextFactor_0 ?_
  refine lv_istore_n C.1 C.2.1 (lv' := [(2, zI 0), (0, zR Ω 23), (1, zI x1)]) dX2_nextFactor_1 rfl hl (by decide) rfl (fun ls hl => ?_)
  have L2 : ∀ (n2 : Nat) (x_1 : Int) (μ_2 : zMem) (H : Heap) (locs : List Loc) (ls : Array Slot), Rg x_1 → zX Ω μ_2 (zfree Ω) s.heap H locs → lv_has ls 6 [(0, zR Ω 23), (1, zI x1), (2, zI x_1)] → (f_X2_nextFactor_L2 x1 n2 x_1 μ_2) = some (r, μ') → W p l e (zrm 2) s m args below meth c H locs 0 0 Q (F0 m 2 ls []) := by
    intro n2
    induction n2 with
    | zero =>
      intro x_1 μ_2 H locs ls _ _ _ h
      cases h
    | succ n2 ih2 =>
      intro x_1 μ_2 H locs ls gx_1 X hl h
      unfold f_X2_nextFactor_L2 at h
      refine lv_iload_n C.1 C.2.1 dX2_nextFactor_2 rfl (lv_at hl 2 rfl) ?_
      refine z_ldc C 1000000 kw_661 (by decide) dX2_nextFactor_3 ?_
      refine z_icmpge C gx_1 ⟨by decide, by decide⟩ (tgt := 99) dX2_nextFactor_5 (by decide) (fun hc5 => ?_) (fun hc5 => ?_)
      · rw [if_neg hc5] at h
        refine lv_aload_n C.1 C.2.1 dX2_nextFactor_99 rfl (lv_at hl 0 rfl) ?_
        have g_100 : Rl (μ_2 23 6) := zrgf1 (ci := 2) X.2.2.2 (hI.1 23 (by decide)) rfl 6 rfl
        refine z_get C X zk2 (hI.1 23 (by decide)) rfl 6 (by decide) kw_230 (zJ (μ_2 23 6)) rfl dX2_nextFactor_100 ?_
        obtain ⟨rfl, rfl⟩ := Prod.mk.inj (Option.some.inj h)
        exact rt X g_100 dX2_nextFactor_103
      · rw [if_pos hc5] at h
        refine lv_aload_n C.1 C.2.1 dX2_nextFactor_8 rfl (lv_at hl 0 rfl) ?_
        refine lv_iload_n C.1 C.2.1 dX2_nextFactor_9 rfl (lv_at hl 1 rfl) ?_
        obtain ⟨x_3, μ_4, hq10, h⟩ := bnd2_some h
        refine z_callV1 C X zk2 (hI.1 23 (by decide)) rfl (As := [zI x1]) (M_X2_bringLeast hI μ_2 x1 gx1 hq10) zc_X2_bringLeast kw_662 (zroom (by decide) (by decide)) rfl hl.1 rfl (Nat.le_of_ble_eq_true rfl) dX2_nextFactor_10 ⟨Nat.zero_le _, Nat.zero_le _⟩ (fun H locs g_10 X => ?_)
        refine z_ifne C (rgz g_10) (tgt := 21) dX2_nextFactor_13 (by decide) (fun hc13 => ?_) (fun hc13 => ?_)
        · rw [if_neg hc13] at h
          refine lv_aload_n C.1 C.2.1 dX2_nextFactor_21 rfl (lv_at hl 0 rfl) ?_
          refine lv_iload_n C.1 C.2.1 dX2_nextFactor_22 rfl (lv_at hl 1 rfl) ?_
          obtain ⟨x_5, μ_6, hq23, h⟩ := bnd2_some h
          refine z_callV1 C X zk2 (hI.1 23 (by decide)) rfl (As := [zI x1]) (M_X2_clearLines hI μ_4 x1 gx1 hq23) zc_X2_clearLines kw_670 (zroom (by decide) (by decide)) rfl hl.1 rfl (Nat.le_of_ble_eq_true rfl) dX2_nextFactor_23 ⟨Nat.zero_le _, Nat.zero_le _⟩ (fun H locs g_23 X => ?_)
          refine z_ifeq C (rgz g_23) (tgt := 93) dX2_nextFactor_26 (by decide) (fun hc26 => ?_) (fun hc26 => ?_)
          · rw [if_pos hc26] at h
            refine zlet_elim h (fun x_7 ex_7 h => ?_)
            have gx_7 : Rg x_7 := by rw [ex_7]; exact Rg.w _
            refine z_iinc C ex_7 dX2_nextFactor_93 hl (k := 2) rfl (by decide) (lv' := [(2, zI x_7), (0, zR Ω 23), (1, zI x1)]) rfl (fun ls hl => ?_)
            clear ex_7
            refine lv_goto (tgt := 2) C.1 C.2.1 dX2_nextFactor_96 (by decide) ?_
            exact ih2 x_7 μ_6 _ _ _ gx_7 X (lv_sub hl [1, 2, 0] rfl) h
          · rw [if_neg hc26] at h
            refine lv_aload_n C.1 C.2.1 dX2_nextFactor_29 rfl (lv_at hl 0 rfl) ?_
            refine z_get C X zk2 (hI.1 23 (by decide)) rfl 0 (by decide) kw_223 (zR Ω 24) (zfvF (off := 1) X.2.2.2 (hI.1 23 (by decide)) (hI.2 23 (by decide)) rfl rfl (by decide)) dX2_nextFactor_30 ?_
            refine lv_iload_n C.1 C.2.1 dX2_nextFactor_33 rfl (lv_at hl 1 rfl) ?_
            refine lv_aload_n C.1 C.2.1 dX2_nextFactor_34 rfl (lv_at hl 0 rfl) ?_
            have g_35 : Rg (μ_6 23 4) := zrgf0 (ci := 2) X.2.2.2 (hI.1 23 (by decide)) rfl 4 rfl
            refine z_get C X zk2 (hI.1 23 (by decide)) rfl 4 (by decide) kw_228 (zI (μ_6 23 4)) rfl dX2_nextFactor_35 ?_
            refine z_imul C dX2_nextFactor_38 ?_
            refine lv_iload_n C.1 C.2.1 dX2_nextFactor_39 rfl (lv_at hl 1 rfl) ?_
            refine z_iadd C dX2_nextFactor_40 ?_
            obtain ⟨hc41, h⟩ := chk_some h
            have g_41 : Rl (μ_6 24 (zw ((zw (x1 * (μ_6 23 4))) + x1))) := zrg2 X.2.2.2 (hI.1 24 (by decide)) rfl
            refine z_lald C X (hI.1 24 (by decide)) rfl hc41 dX2_nextFactor_41 ?_
            refine lv_aload_n C.1 C.2.1 dX2_nextFactor_42 rfl (lv_at hl 0 rfl) ?_
            have g_43 : Rl (μ_6 23 6) := zrgf1 (ci := 2) X.2.2.2 (hI.1 23 (by decide)) rfl 6 rfl
            refine z_get C X zk2 (hI.1 23 (by decide)) rfl 6 (by decide) kw_230 (zJ (μ_6 23 6)) rfl dX2_nextFactor_43 ?_
            obtain ⟨x_8, hq46, h⟩ := bnd_some h
            refine z_callS1 C X (As := [zJ (μ_6 24 (zw ((zw (x1 * (μ_6 23 4))) + x1))), zJ (μ_6 23 6)]) (M_X2_divisorOf hI μ_6 (μ_6 24 (zw ((zw (x1 * (μ_6 23 4))) + x1))) (μ_6 23 6) g_41 g_43 hq46) zc_X2_divisorOf kw_678 (zroom (by decide) (by decide)) rfl hl.1 rfl (Nat.le_of_ble_eq_true rfl) dX2_nextFactor_46 ⟨Nat.zero_le _, Nat.zero_le _⟩ (fun H locs g_46 X => ?_)
            refine lv_lstore_n C.1 C.2.1 (lv' := [(3, zJ x_8), (0, zR Ω 23), (1, zI x1), (2, zI x_1)]) dX2_nextFactor_49 rfl hl (by decide) rfl (fun ls hl => ?_)
            refine lv_aload_n C.1 C.2.1 dX2_nextFactor_50 rfl (lv_at hl 1 rfl) ?_
            refine z_get C X zk2 (hI.1 23 (by decide)) rfl 0 (by decide) kw_223 (zR Ω 24) (zfvF (off := 1) X.2.2.2 (hI.1 23 (by decide)) (hI.2 23 (by decide)) rfl rfl (by decide)) dX2_nextFactor_51 ?_
            refine lv_iload_n C.1 C.2.1 dX2_nextFactor_54 rfl (lv_at hl 2 rfl) ?_
            refine lv_aload_n C.1 C.2.1 dX2_nextFactor_55 rfl (lv_at hl 1 rfl) ?_
            have g_56 : Rg (μ_6 23 4) := zrgf0 (ci := 2) X.2.2.2 (hI.1 23 (by decide)) rfl 4 rfl
            refine z_get C X zk2 (hI.1 23 (by decide)) rfl 4 (by decide) kw_228 (zI (μ_6 23 4)) rfl dX2_nextFactor_56 ?_
            refine z_imul C dX2_nextFactor_59 ?_
            refine lv_iload_n C.1 C.2.1 dX2_nextFactor_60 rfl (lv_at hl 2 rfl) ?_
            refine z_iadd C dX2_nextFactor_61 ?_
            refine lv_lload_n C.1 C.2.1 dX2_nextFactor_62 rfl (lv_at hl 0 rfl) ?_
            obtain ⟨hc63, h⟩ := chk_some h
            refine zlet_elim h (fun μ_9 em h => ?_)
            refine z_last C X (hI.1 24 (by decide)) rfl hc63 (zok2 rfl g_46) em dX2_nextFactor_63 (fun H locs X => ?_)
            clear em
            refine lv_aload_n C.1 C.2.1 dX2_nextFactor_64 rfl (lv_at hl 1 rfl) ?_
            refine lv_iload_n C.1 C.2.1 dX2_nextFactor_65 rfl (lv_at hl 2 rfl) ?_
            refine lv_lload_n C.1 C.2.1 dX2_nextFactor_66 rfl (lv_at hl 0 rfl) ?_
            obtain ⟨x_10, hq67, h⟩ := bnd_some h
            refine z_callV1 C X zk2 (hI.1 23 (by decide)) rfl (As := [zI x1, zJ x_8]) (M_X2_rowNotDivided hI μ_9 x1 x_8 gx1 g_46 hq67) zc_X2_rowNotDivided kw_681 (zroom (by decide) (by decide)) rfl hl.1 rfl (Nat.le_of_ble_eq_true rfl) dX2_nextFactor_67 ⟨Nat.zero_le _, Nat.zero_le _⟩ (fun H locs g_67 X => ?_)
            refine lv_istore C.1 C.2.1 (lv' := [(5, zI x_10), (3, zJ x_8), (0, zR Ω 23), (1, zI x1), (2, zI x_1)]) dX2_nextFactor_70 hl (by decide) rfl (fun ls hl => ?_)
            refine lv_iload C.1 C.2.1 dX2_nextFactor_72 (lv_at hl 0 rfl) ?_
            refine z_iconst C dX2_nextFactor_74 ?_
            refine z_icmpne C g_67 ⟨by decide, by decide⟩ (tgt := 80) dX2_nextFactor_75 (by decide) (fun hc75 => ?_) (fun hc75 => ?_)
            · rw [if_neg hc75] at h
              refine lv_aload_n C.1 C.2.1 dX2_nextFactor_80 rfl (lv_at hl 2 rfl) ?_
              refine lv_iload C.1 C.2.1 dX2_nextFactor_81 (lv_at hl 0 rfl) ?_
              refine lv_iload_n C.1 C.2.1 dX2_nextFactor_83 rfl (lv_at hl 3 rfl) ?_
              obtain ⟨μ_11, hq84, h⟩ := bnd_some h
              refine z_callV0 C X zk2 (hI.1 23 (by decide)) rfl (As := [zI x_10, zI x1]) (M_X2_addRow hI μ_9 x_10 x1 g_67 gx1 hq84) zc_X2_addRow kw_685 (zroom (by decide) (by decide)) rfl hl.1 rfl (Nat.le_of_ble_eq_true rfl) dX2_nextFactor_84 ⟨Nat.zero_le _, Nat.zero_le _⟩ (fun H locs g_84 X => ?_)
              refine lv_aload_n C.1 C.2.1 dX2_nextFactor_87 rfl (lv_at hl 2 rfl) ?_
              refine lv_iload_n C.1 C.2.1 dX2_nextFactor_88 rfl (lv_at hl 3 rfl) ?_
              obtain ⟨x_12, μ_13, hq89, h⟩ := bnd2_some h
              refine z_callV1 C X zk2 (hI.1 23 (by decide)) rfl (As := [zI x1]) (M_X2_clearLines hI μ_11 x1 gx1 hq89) zc_X2_clearLines kw_670 (zroom (by decide) (by decide)) rfl hl.1 rfl (Nat.le_of_ble_eq_true rfl) dX2_nextFactor_89 ⟨Nat.zero_le _, Nat.zero_le _⟩ (fun H locs g_89 X => ?_)
              refine lv_pop C.1 C.2.1 dX2_nextFactor_92 rfl ?_
              refine zlet_elim h (fun x_14 ex_14 h => ?_)
              have gx_14 : Rg x_14 := by rw [ex_14]; exact Rg.w _
              refine z_iinc C ex_14 dX2_nextFactor_93 hl (k := 4) rfl (by decide) (lv' := [(2, zI x_14), (5, zI x_10), (3, zJ x_8), (0, zR Ω 23), (1, zI x1)]) rfl (fun ls hl => ?_)
              clear ex_14
              refine lv_goto (tgt := 2) C.1 C.2.1 dX2_nextFactor_96 (by decide) ?_
              exact ih2 x_14 μ_13 _ _ _ gx_14 X (lv_sub hl [3, 4, 0] rfl) h
            · rw [if_pos hc75] at h
              refine lv_lload_n C.1 C.2.1 dX2_nextFactor_78 rfl (lv_at hl 1 rfl) ?_
              obtain ⟨rfl, rfl⟩ := Prod.mk.inj (Option.some.inj h)
              exact rt X g_46 dX2_nextFactor_79
        · rw [if_pos hc13] at h
          refine lv_aload_n C.1 C.2.1 dX2_nextFactor_16 rfl (lv_at hl 0 rfl) ?_
          have g_17 : Rl (μ_4 23 6) := zrgf1 (ci := 2) X.2.2.2 (hI.1 23 (by decide)) rfl 6 rfl
          refine z_get C X zk2 (hI.1 23 (by decide)) rfl 6 (by decide) kw_230 (zJ (μ_4 23 6)) rfl dX2_nextFactor_17 ?_
          obtain ⟨rfl, rfl⟩ := Prod.mk.inj (Option.some.inj h)
          exact rt X g_17 dX2_nextFactor_20
  exact L2 zfu 0 μ _ _ _ ⟨by decide, by decide⟩ X (lv_sub hl [1, 2, 0] rfl) h
theorem zc_X2_nextFactor : zcal yX2_nextFactor cX2_nextFactor 6 (some Jvm.ClassFile.FieldType.long) RX2 1 := ⟨⟨kw_660, kw_659, kp_20, kw_7⟩, rfl, by decide, by decide, by decide +kernel⟩

def f_X2_findFactors_L45 (x_3 : Int) : Nat → Int → zMem → Option (Int × zMem)
  | 0, _, _ => none
  | n + 1, x_7, μ_8 =>
    if x_7 < x_3 then
      bnd2 (f_X2_nextFactor x_7 μ_8) fun x_9 μ_10 =>
      chk ((0 : Int) ≤ x_7 ∧ x_7 < 8) <|
      zlet (zup μ_10 25 x_7 x_9) fun μ_11 =>
      zlet (zw (x_7 + 1)) fun x_12 =>
      (f_X2_findFactors_L45 x_3 n) x_12 μ_11
    else
      some (x_3, μ_8)
def f_X2_findFactors (x1 : Int) (μ : zMem) : Option (Int × zMem) :=
  bnd2 (f_X2_rankOfPanes x1 0 μ) fun x_1 μ_2 =>
  zlet ((zmin x_1 8)) fun x_3 =>
  zlet (zup μ_2 23 6 (zmax 1 (zlabs (μ_2 23 5)))) fun μ_4 =>
  bnd (f_X2_fillPanes x1 μ_4) fun μ_5 =>
  bnd (f_X2_keepBelow (μ_5 23 6) μ_5) fun μ_6 =>
  (f_X2_findFactors_L45 x_3) zfu 0 μ_6
set_option maxHeartbeats 4000000 in
set_option maxRecDepth 100000 in
theorem M_X2_findFactors {l : Launch} {Ω : zO} (hI : zIc Ω) (μ : zMem) (x1 : Int) {r : Int} {μ' : zMem} (o_x1 : zob Ω.2.2.1 5 x1) (h : f_X2_findFactors x1 μ = some (r, μ')) : XMet l yX2_findFactors cX2_findFactors 4 (some Jvm.ClassFile.FieldType.int) 4 Ω [zR Ω 23, zR Ω x1] μ (some (zI r)) (Rg r) μ' := by
  refine XMet.ofI (by decide) (Nat.le_of_ble_eq_true rfl) ?_
  intro p e s m args below meth c ls Q C rt X hl
  have C : zC p s m args c cX2_findFactors RX2 4 Ω := C
  have hl : lv_has ls 4 [(0, zR Ω 23), (1, zR Ω x1)] := hl
  unfold f_X2_findFactors at h
  skip
  refine lv_aload_n C.1 C.2.1 dX2_findFactors_0 rfl (lv_at hl 0 rfl) ?_
  refine lv_aload_n C.1 C.2.1 dX2_findFactors_1 rfl (lv_at hl 1 rfl) ?_
  refine z_iconst C dX2_findFactors_2 ?_
  obtain ⟨x_1, μ_2, hq3, h⟩ := bnd2_some h
  refine z_callV1 C X zk2 (hI.1 23 (by decide)) rfl (As := [zR Ω x1, zI 0]) (M_X2_rankOfPanes hI μ x1 0 o_x1 ⟨by decide, by decide⟩ hq3) zc_X2_rankOfPanes kw_649 (zroom (by decide) (by decide)) rfl hl.1 rfl (Nat.le_of_ble_eq_true rfl) dX2_findFactors_3 ⟨Nat.zero_le _, Nat.zero_le _⟩ (fun H locs g_3 X => ?_)
  refine lv_aload_n C.1 C.2.1 dX2_findFactors_6 rfl (lv_at hl 0 rfl) ?_
  refine z_get C X zk2 (hI.1 23 (by decide)) rfl 1 (by decide) kw_224 (zR Ω 25) (zfvF (off := 2) X.2.2.2 (hI.1 23 (by decide)) (hI.2 23 (by decide)) rfl rfl (by decide)) dX2_findFactors_7 ?_
  have g_10 : Rg 8 := zlen_rg 25
  refine z_alen C X (hI.1 25 (by decide)) (a := 2) rfl (by decide) 8 rfl dX2_findFactors_10 ?_
  refine z_mmin C g_3 g_10 hl.1 kw_650 kw_42 kw_4 kw_43 (by decide) (Nat.le_of_ble_eq_true rfl) (Nat.zero_le _) (Nat.zero_le _) dX2_findFactors_11 ?_
  refine zlet_elim h (fun x_3 ex_3 h => ?_)
  have gx_3 : Rg x_3 := by rw [ex_3]; exact (zmin_rg g_3 g_10)
  refine z_istore_n C ex_3 dX2_findFactors_14 rfl hl (by decide) (lv' := [(2, zI x_3), (0, zR Ω 23), (1, zR Ω x1)]) rfl (fun ls hl => ?_)
  clear ex_3
  refine lv_aload_n C.1 C.2.1 dX2_findFactors_15 rfl (lv_at hl 1 rfl) ?_
  refine z_lconst C 1 rfl dX2_findFactors_16 ?_
  refine lv_aload_n C.1 C.2.1 dX2_findFactors_17 rfl (lv_at hl 1 rfl) ?_
  have g_18 : Rl (μ_2 23 5) := zrgf1 (ci := 2) X.2.2.2 (hI.1 23 (by decide)) rfl 5 rfl
  refine z_get C X zk2 (hI.1 23 (by decide)) rfl 5 (by decide) kw_229 (zJ (μ_2 23 5)) rfl dX2_findFactors_18 ?_
  refine z_mabsl C g_18 hl.1 kw_651 kw_652 kw_4 kw_653 (by decide) (Nat.le_of_ble_eq_true rfl) (Nat.zero_le _) (Nat.zero_le _) dX2_findFactors_21 ?_
  refine z_mmaxl C ⟨by decide, by decide⟩ (zlabs_rl g_18) hl.1 kw_654 kw_655 kw_4 kw_656 (by decide) (Nat.le_of_ble_eq_true rfl) (Nat.zero_le _) (Nat.zero_le _) dX2_findFactors_24 ?_
  refine zlet_elim h (fun μ_4 em h => ?_)
  refine z_putJ C X zk2 (hI.1 23 (by decide)) rfl 6 (by decide) kw_230 rfl rfl rfl rfl (zmax_rl ⟨by decide, by decide⟩ (zlabs_rl g_18)) em dX2_findFactors_27 (fun H locs X => ?_)
  clear em
  refine lv_aload_n C.1 C.2.1 dX2_findFactors_30 rfl (lv_at hl 1 rfl) ?_
  refine lv_aload_n C.1 C.2.1 dX2_findFactors_31 rfl (lv_at hl 2 rfl) ?_
  obtain ⟨μ_5, hq32, h⟩ := bnd_some h
  refine z_callV0 C X zk2 (hI.1 23 (by decide)) rfl (As := [zR Ω x1]) (M_X2_fillPanes hI μ_4 x1 o_x1 hq32) zc_X2_fillPanes kw_634 (zroom (by decide) (by decide)) rfl hl.1 rfl (Nat.le_of_ble_eq_true rfl) dX2_findFactors_32 ⟨Nat.zero_le _, Nat.zero_le _⟩ (fun H locs g_32 X => ?_)
  refine lv_aload_n C.1 C.2.1 dX2_findFactors_35 rfl (lv_at hl 1 rfl) ?_
  refine lv_aload_n C.1 C.2.1 dX2_findFactors_36 rfl (lv_at hl 1 rfl) ?_
  have g_37 : Rl (μ_5 23 6) := zrgf1 (ci := 2) X.2.2.2 (hI.1 23 (by decide)) rfl 6 rfl
  refine z_get C X zk2 (hI.1 23 (by decide)) rfl 6 (by decide) kw_230 (zJ (μ_5 23 6)) rfl dX2_findFactors_37 ?_
  obtain ⟨μ_6, hq40, h⟩ := bnd_some h
  refine z_callV0 C X zk2 (hI.1 23 (by decide)) rfl (As := [zJ (μ_5 23 6)]) (M_X2_keepBelow hI μ_5 (μ_5 23 6) g_37 hq40) zc_X2_keepBelow kw_619 (zroom (by decide) (by decide)) rfl hl.1 rfl (Nat.le_of_ble_eq_true rfl) dX2_findFactors_40 ⟨Nat.zero_le _, Nat.zero_le _⟩ (fun H locs g_40 X => ?_)
  refine z_iconst C dX2_findFactors_43 ?_
  refine lv_istore_n C.1 C.2.1 (lv' := [(3, zI 0), (2, zI x_3), (0, zR Ω 23), (1, zR Ω x1)]) dX2_findFactors_44 rfl hl (by decide) rfl (fun ls hl => ?_)
  have L45 : ∀ (n45 : Nat) (x_7 : Int) (μ_8 : zMem) (H : Heap) (locs : List Loc) (ls : Array Slot), Rg x_7 → zX Ω μ_8 (zfree Ω) s.heap H locs → lv_has ls 4 [(0, zR Ω 23), (2, zI x_3), (3, zI x_7)] → (f_X2_findFactors_L45 x_3 n45 x_7 μ_8) = some (r, μ') → W p l e (zrm 4) s m args below meth c H locs 0 0 Q (F0 m 45 ls []) := by
    intro n45
    induction n45 with
    | zero =>
      intro x_7 μ_8 H locs ls _ _ _ h
      cases h
    | succ n45 ih45 =>
      intro x_7 μ_8 H locs ls gx_7 X hl h
      unfold f_X2_findFactors_L45 at h
      refine lv_iload_n C.1 C.2.1 dX2_findFactors_45 rfl (lv_at hl 2 rfl) ?_
      refine lv_iload_n C.1 C.2.1 dX2_findFactors_46 rfl (lv_at hl 1 rfl) ?_
      refine z_icmpge C gx_7 gx_3 (tgt := 67) dX2_findFactors_47 (by decide) (fun hc47 => ?_) (fun hc47 => ?_)
      · rw [if_neg hc47] at h
        refine lv_iload_n C.1 C.2.1 dX2_findFactors_67 rfl (lv_at hl 1 rfl) ?_
        obtain ⟨rfl, rfl⟩ := Prod.mk.inj (Option.some.inj h)
        exact rt X gx_3 dX2_findFactors_68
      · rw [if_pos hc47] at h
        refine lv_aload_n C.1 C.2.1 dX2_findFactors_50 rfl (lv_at hl 0 rfl) ?_
        refine z_get C X zk2 (hI.1 23 (by decide)) rfl 1 (by decide) kw_224 (zR Ω 25) (zfvF (off := 2) X.2.2.2 (hI.1 23 (by decide)) (hI.2 23 (by decide)) rfl rfl (by decide)) dX2_findFactors_51 ?_
        refine lv_iload_n C.1 C.2.1 dX2_findFactors_54 rfl (lv_at hl 2 rfl) ?_
        refine lv_aload_n C.1 C.2.1 dX2_findFactors_55 rfl (lv_at hl 0 rfl) ?_
        refine lv_iload_n C.1 C.2.1 dX2_findFactors_56 rfl (lv_at hl 2 rfl) ?_
        obtain ⟨x_9, μ_10, hq57, h⟩ := bnd2_some h
        refine z_callV1 C X zk2 (hI.1 23 (by decide)) rfl (As := [zI x_7]) (M_X2_nextFactor hI μ_8 x_7 gx_7 hq57) zc_X2_nextFactor kw_657 (zroom (by decide) (by decide)) rfl hl.1 rfl (Nat.le_of_ble_eq_true rfl) dX2_findFactors_57 ⟨Nat.zero_le _, Nat.zero_le _⟩ (fun H locs g_57 X => ?_)
        obtain ⟨hc60, h⟩ := chk_some h
        refine zlet_elim h (fun μ_11 em h => ?_)
        refine z_last C X (hI.1 25 (by decide)) rfl hc60 (zok2 rfl g_57) em dX2_findFactors_60 (fun H locs X => ?_)
        clear em
        refine zlet_elim h (fun x_12 ex_12 h => ?_)
        have gx_12 : Rg x_12 := by rw [ex_12]; exact Rg.w _
        refine z_iinc C ex_12 dX2_findFactors_61 hl (k := 2) rfl (by decide) (lv' := [(3, zI x_12), (0, zR Ω 23), (2, zI x_3)]) rfl (fun ls hl => ?_)
        clear ex_12
        refine lv_goto (tgt := 45) C.1 C.2.1 dX2_findFactors_64 (by decide) ?_
        exact ih45 x_12 μ_11 _ _ _ gx_12 X (lv_sub hl [1, 2, 0] rfl) h
  exact L45 zfu 0 μ_6 _ _ _ ⟨by decide, by decide⟩ X (lv_sub hl [2, 1, 0] rfl) h
theorem zc_X2_findFactors : zcal yX2_findFactors cX2_findFactors 4 (some Jvm.ClassFile.FieldType.int) RX2 1 := ⟨⟨kw_648, kw_646, kw_647, kw_7⟩, rfl, by decide, by decide, by decide +kernel⟩

def f_X2_clearByBasis_L5 (μ : zMem) : Nat → Int → Int → Option Int
  | 0, _, _ => none
  | n + 1, x_1, x_2 =>
    if x_2 < 0 then
      some x_1
    else
      if (zand (zshr x_1 x_2) 1) = 1 then
        chk ((0 : Int) ≤ x_2 ∧ x_2 < 8) <|
        zlet ((zxor x_1 (μ 26 x_2))) fun x_4 =>
        zlet (zw (x_2 + (-1))) fun x_5 =>
        (f_X2_clearByBasis_L5 μ n) x_4 x_5
      else
        zlet (zw (x_2 + (-1))) fun x_3 =>
        (f_X2_clearByBasis_L5 μ n) x_1 x_3
def f_X2_clearByBasis (x1 : Int) (μ : zMem) : Option Int :=
  (f_X2_clearByBasis_L5 μ) zfu x1 7
set_option maxHeartbeats 4000000 in
set_option maxRecDepth 100000 in
theorem M_X2_clearByBasis {l : Launch} {Ω : zO} (hI : zIc Ω) (μ : zMem) (x1 : Int) {r : Int} (gx1 : Rg x1) (h : f_X2_clearByBasis x1 μ = some r) : XMet l yX2_clearByBasis cX2_clearByBasis 4 (some Jvm.ClassFile.FieldType.int) 0 Ω [zR Ω 23, zI x1] μ (some (zI r)) (Rg r) μ := by
  refine XMet.ofI (by decide) (Nat.le_of_ble_eq_true rfl) ?_
  intro p e s m args below meth c ls Q C rt X hl
  have C : zC p s m args c cX2_clearByBasis RX2 4 Ω := C
  have hl : lv_has ls 4 [(0, zR Ω 23), (1, zI x1)] := hl
  unfold f_X2_clearByBasis at h
  skip
  refine lv_iload_n C.1 C.2.1 dX2_clearByBasis_0 rfl (lv_at hl 1 rfl) ?_
  refine lv_istore_n C.1 C.2.1 (lv' := [(2, zI x1), (0, zR Ω 23), (1, zI x1)]) dX2_clearByBasis_1 rfl hl (by decide) rfl (fun ls hl => ?_)
  refine z_bipush C dX2_clearByBasis_2 (by decide) ?_
  refine lv_istore_n C.1 C.2.1 (lv' := [(3, zI 7), (2, zI x1), (0, zR Ω 23), (1, zI x1)]) dX2_clearByBasis_4 rfl hl (by decide) rfl (fun ls hl => ?_)
  have L5 : ∀ (n5 : Nat) (x_1 : Int) (x_2 : Int) (H : Heap) (locs : List Loc) (ls : Array Slot), Rg x_1 → Rg x_2 → zX Ω μ (zfree Ω) s.heap H locs → lv_has ls 4 [(0, zR Ω 23), (2, zI x_1), (3, zI x_2)] → (f_X2_clearByBasis_L5 μ n5 x_1 x_2) = some r → W p l e (zrm 0) s m args below meth c H locs 0 0 Q (F0 m 5 ls []) := by
    intro n5
    induction n5 with
    | zero =>
      intro x_1 x_2 H locs ls _ _ _ _ h
      cases h
    | succ n5 ih5 =>
      intro x_1 x_2 H locs ls gx_1 gx_2 X hl h
      unfold f_X2_clearByBasis_L5 at h
      refine lv_iload_n C.1 C.2.1 dX2_clearByBasis_5 rfl (lv_at hl 2 rfl) ?_
      refine z_iflt C gx_2 (tgt := 33) dX2_clearByBasis_6 (by decide) (fun hc6 => ?_) (fun hc6 => ?_)
      · rw [if_pos hc6] at h
        refine lv_iload_n C.1 C.2.1 dX2_clearByBasis_33 rfl (lv_at hl 1 rfl) ?_
        obtain rfl := Option.some.inj h
        exact rt X gx_1 dX2_clearByBasis_34
      · rw [if_neg hc6] at h
        refine lv_iload_n C.1 C.2.1 dX2_clearByBasis_9 rfl (lv_at hl 1 rfl) ?_
        refine lv_iload_n C.1 C.2.1 dX2_clearByBasis_10 rfl (lv_at hl 2 rfl) ?_
        refine z_ishr C dX2_clearByBasis_11 ?_
        refine z_iconst C dX2_clearByBasis_12 ?_
        refine z_iand C dX2_clearByBasis_13 ?_
        refine z_iconst C dX2_clearByBasis_14 ?_
        refine z_icmpne C (Rg.t _) ⟨by decide, by decide⟩ (tgt := 27) dX2_clearByBasis_15 (by decide) (fun hc15 => ?_) (fun hc15 => ?_)
        · rw [if_neg hc15] at h
          refine zlet_elim h (fun x_3 ex_3 h => ?_)
          have gx_3 : Rg x_3 := by rw [ex_3]; exact Rg.w _
          refine z_iinc C ex_3 dX2_clearByBasis_27 hl (k := 2) rfl (by decide) (lv' := [(3, zI x_3), (0, zR Ω 23), (2, zI x_1)]) rfl (fun ls hl => ?_)
          clear ex_3
          refine lv_goto (tgt := 5) C.1 C.2.1 dX2_clearByBasis_30 (by decide) ?_
          exact ih5 x_1 x_3 _ _ _ gx_1 gx_3 X (lv_sub hl [1, 2, 0] rfl) h
        · rw [if_pos hc15] at h
          refine lv_iload_n C.1 C.2.1 dX2_clearByBasis_18 rfl (lv_at hl 1 rfl) ?_
          refine lv_aload_n C.1 C.2.1 dX2_clearByBasis_19 rfl (lv_at hl 0 rfl) ?_
          refine z_get C X zk2 (hI.1 23 (by decide)) rfl 2 (by decide) kw_226 (zR Ω 26) (zfvF (off := 3) X.2.2.2 (hI.1 23 (by decide)) (hI.2 23 (by decide)) rfl rfl (by decide)) dX2_clearByBasis_20 ?_
          refine lv_iload_n C.1 C.2.1 dX2_clearByBasis_23 rfl (lv_at hl 2 rfl) ?_
          obtain ⟨hc24, h⟩ := chk_some h
          have g_24 : Rg (μ 26 x_2) := zrg1 X.2.2.2 (hI.1 26 (by decide)) rfl
          refine z_iald C X (hI.1 26 (by decide)) rfl hc24 dX2_clearByBasis_24 ?_
          refine z_ixor C dX2_clearByBasis_25 ?_
          refine zlet_elim h (fun x_4 ex_4 h => ?_)
          have gx_4 : Rg x_4 := by rw [ex_4]; exact (Rg.t _)
          refine z_istore_n C ex_4 dX2_clearByBasis_26 rfl hl (by decide) (lv' := [(2, zI x_4), (0, zR Ω 23), (3, zI x_2)]) rfl (fun ls hl => ?_)
          clear ex_4
          refine zlet_elim h (fun x_5 ex_5 h => ?_)
          have gx_5 : Rg x_5 := by rw [ex_5]; exact Rg.w _
          refine z_iinc C ex_5 dX2_clearByBasis_27 hl (k := 2) rfl (by decide) (lv' := [(3, zI x_5), (2, zI x_4), (0, zR Ω 23)]) rfl (fun ls hl => ?_)
          clear ex_5
          refine lv_goto (tgt := 5) C.1 C.2.1 dX2_clearByBasis_30 (by decide) ?_
          exact ih5 x_4 x_5 _ _ _ gx_4 gx_5 X (lv_sub hl [2, 1, 0] rfl) h
  exact L5 zfu x1 7 _ _ _ gx1 ⟨by decide, by decide⟩ X (lv_sub hl [2, 1, 0] rfl) h
theorem zc_X2_clearByBasis : zcal yX2_clearByBasis cX2_clearByBasis 4 (some Jvm.ClassFile.FieldType.int) RX2 1 := ⟨⟨kw_964, kw_963, kp_47, kw_7⟩, rfl, by decide, by decide, by decide +kernel⟩

def f_X2_highestBit_L3 (x0 : Int) : Nat → Int → Option Int
  | 0, _ => none
  | n + 1, x_1 =>
    if x_1 ≤ 0 then
      some x_1
    else
      if (zshr x0 x_1) = 0 then
        zlet (zw (x_1 + (-1))) fun x_2 =>
        (f_X2_highestBit_L3 x0 n) x_2
      else
        some x_1
def f_X2_highestBit (x0 : Int) : Option Int :=
  (f_X2_highestBit_L3 x0) zfu 7
set_option maxHeartbeats 4000000 in
set_option maxRecDepth 100000 in
theorem M_X2_highestBit {l : Launch} {Ω : zO} (hI : zIc Ω) (μ : zMem) (x0 : Int) {r : Int} (gx0 : Rg x0) (h : f_X2_highestBit x0 = some r) : XMet l yX2_highestBit cX2_highestBit 2 (some Jvm.ClassFile.FieldType.int) 0 Ω [zI x0] μ (some (zI r)) (Rg r) μ := by
  refine XMet.ofI (by decide) (Nat.le_of_ble_eq_true rfl) ?_
  intro p e s m args below meth c ls Q C rt X hl
  have C : zC p s m args c cX2_highestBit RX2 2 Ω := C
  have hl : lv_has ls 2 [(0, zI x0)] := hl
  unfold f_X2_highestBit at h
  skip
  refine z_bipush C dX2_highestBit_0 (by decide) ?_
  refine lv_istore_n C.1 C.2.1 (lv' := [(1, zI 7), (0, zI x0)]) dX2_highestBit_2 rfl hl (by decide) rfl (fun ls hl => ?_)
  have L3 : ∀ (n3 : Nat) (x_1 : Int) (H : Heap) (locs : List Loc) (ls : Array Slot), Rg x_1 → zX Ω μ (zfree Ω) s.heap H locs → lv_has ls 2 [(0, zI x0), (1, zI x_1)] → (f_X2_highestBit_L3 x0 n3 x_1) = some r → W p l e (zrm 0) s m args below meth c H locs 0 0 Q (F0 m 3 ls []) := by
    intro n3
    induction n3 with
    | zero =>
      intro x_1 H locs ls _ _ _ h
      cases h
    | succ n3 ih3 =>
      intro x_1 H locs ls gx_1 X hl h
      unfold f_X2_highestBit_L3 at h
      refine lv_iload_n C.1 C.2.1 dX2_highestBit_3 rfl (lv_at hl 1 rfl) ?_
      refine z_ifle C gx_1 (tgt := 19) dX2_highestBit_4 (by decide) (fun hc4 => ?_) (fun hc4 => ?_)
      · rw [if_pos hc4] at h
        refine lv_iload_n C.1 C.2.1 dX2_highestBit_19 rfl (lv_at hl 1 rfl) ?_
        obtain rfl := Option.some.inj h
        exact rt X gx_1 dX2_highestBit_20
      · rw [if_neg hc4] at h
        refine lv_iload_n C.1 C.2.1 dX2_highestBit_7 rfl (lv_at hl 0 rfl) ?_
        refine lv_iload_n C.1 C.2.1 dX2_highestBit_8 rfl (lv_at hl 1 rfl) ?_
        refine z_ishr C dX2_highestBit_9 ?_
        refine z_ifne C (Rg.t _) (tgt := 19) dX2_highestBit_10 (by decide) (fun hc10 => ?_) (fun hc10 => ?_)
        · rw [if_neg hc10] at h
          refine lv_iload_n C.1 C.2.1 dX2_highestBit_19 rfl (lv_at hl 1 rfl) ?_
          obtain rfl := Option.some.inj h
          exact rt X gx_1 dX2_highestBit_20
        · rw [if_pos hc10] at h
          refine zlet_elim h (fun x_2 ex_2 h => ?_)
          have gx_2 : Rg x_2 := by rw [ex_2]; exact Rg.w _
          refine z_iinc C ex_2 dX2_highestBit_13 hl (k := 1) rfl (by decide) (lv' := [(1, zI x_2), (0, zI x0)]) rfl (fun ls hl => ?_)
          clear ex_2
          refine lv_goto (tgt := 3) C.1 C.2.1 dX2_highestBit_16 (by decide) ?_
          exact ih3 x_2 _ _ _ gx_2 X (lv_sub hl [1, 0] rfl) h
  exact L3 zfu 7 _ _ _ ⟨by decide, by decide⟩ X (lv_sub hl [1, 0] rfl) h
theorem zc_X2_highestBit : zcas yX2_highestBit cX2_highestBit 2 (some Jvm.ClassFile.FieldType.int) 1 := ⟨⟨kw_967, kw_966, kw_7⟩, by decide, by decide, by decide +kernel⟩

def f_X5_stepsBy_L5 (t0 : Int) (x1 : Int) (x2 : Int) (μ : zMem) : Nat → Int → Int → Option Int
  | 0, _, _ => none
  | n + 1, x_1, x_2 =>
    chk ((0 : Int) ≤ x1 ∧ x1 < zlen (t0 + 6)) <|
    if x_2 < (μ (t0 + 6) x1) then
      bnd (f_X5_rimStep t0 x1 x_2 μ) fun x_3 =>
      if (zshr x_3 1) = x2 then
        zlet (zw (x_1 + 1)) fun x_5 =>
        zlet (zw (x_2 + 1)) fun x_6 =>
        (f_X5_stepsBy_L5 t0 x1 x2 μ n) x_5 x_6
      else
        zlet (zw (x_2 + 1)) fun x_4 =>
        (f_X5_stepsBy_L5 t0 x1 x2 μ n) x_1 x_4
    else
      some x_1
def f_X5_stepsBy (t0 : Int) (x1 : Int) (x2 : Int) (μ : zMem) : Option Int :=
  (f_X5_stepsBy_L5 t0 x1 x2 μ) zfu 0 0
set_option maxHeartbeats 4000000 in
set_option maxRecDepth 100000 in
theorem M_X5_stepsBy {l : Launch} {Ω : zO} (μ : zMem) (t0 : Int) (x1 : Int) (x2 : Int) {r : Int} (o_t0 : zob Ω.2.2.1 5 t0) (gx1 : Rg x1) (gx2 : Rg x2) (h : f_X5_stepsBy t0 x1 x2 μ = some r) : XMet l yX5_stepsBy cX5_stepsBy 5 (some Jvm.ClassFile.FieldType.int) 1 Ω [zR Ω t0, zI x1, zI x2] μ (some (zI r)) (Rg r) μ := by
  refine XMet.ofI (by decide) (Nat.le_of_ble_eq_true rfl) ?_
  intro p e s m args below meth c ls Q C rt X hl
  have C : zC p s m args c cX5_stepsBy RX5 5 Ω := C
  have hl : lv_has ls 5 [(0, zR Ω t0), (1, zI x1), (2, zI x2)] := hl
  unfold f_X5_stepsBy at h
  skip
  refine z_iconst C dX5_stepsBy_0 ?_
  refine lv_istore_n C.1 C.2.1 (lv' := [(3, zI 0), (0, zR Ω t0), (1, zI x1), (2, zI x2)]) dX5_stepsBy_1 rfl hl (by decide) rfl (fun ls hl => ?_)
  refine z_iconst C dX5_stepsBy_2 ?_
  refine lv_istore C.1 C.2.1 (lv' := [(4, zI 0), (3, zI 0), (0, zR Ω t0), (1, zI x1), (2, zI x2)]) dX5_stepsBy_3 hl (by decide) rfl (fun ls hl => ?_)
  have L5 : ∀ (n5 : Nat) (x_1 : Int) (x_2 : Int) (H : Heap) (locs : List Loc) (ls : Array Slot), Rg x_1 → Rg x_2 → zX Ω μ (zfree Ω) s.heap H locs → lv_has ls 5 [(0, zR Ω t0), (1, zI x1), (2, zI x2), (3, zI x_1), (4, zI x_2)] → (f_X5_stepsBy_L5 t0 x1 x2 μ n5 x_1 x_2) = some r → W p l e (zrm 1) s m args below meth c H locs 0 0 Q (F0 m 5 ls []) := by
    intro n5
    induction n5 with
    | zero =>
      intro x_1 x_2 H locs ls _ _ _ _ h
      cases h
    | succ n5 ih5 =>
      intro x_1 x_2 H locs ls gx_1 gx_2 X hl h
      unfold f_X5_stepsBy_L5 at h
      refine lv_iload C.1 C.2.1 dX5_stepsBy_5 (lv_at hl 4 rfl) ?_
      refine lv_aload_n C.1 C.2.1 dX5_stepsBy_7 rfl (lv_at hl 0 rfl) ?_
      refine z_get C X zk5 (zob.self o_t0) (zo5 o_t0) 5 (by decide) kw_71 (zR Ω (t0 + 6)) (zfvF (off := 6) X.2.2.2 (zob.self o_t0) o_t0.2.2 (zo5 o_t0) rfl (by rw [zo5_6 o_t0]; decide)) dX5_stepsBy_8 ?_
      refine lv_iload_n C.1 C.2.1 dX5_stepsBy_11 rfl (lv_at hl 1 rfl) ?_
      obtain ⟨hc12, h⟩ := chk_some h
      have g_12 : Rg (μ (t0 + 6) x1) := zrg1 X.2.2.2 (o_t0.2.1 6 (by decide) (by decide)) (zo5_6 o_t0)
      refine z_iald C X (o_t0.2.1 6 (by decide) (by decide)) (zo5_6 o_t0) hc12 dX5_stepsBy_12 ?_
      refine z_icmpge C gx_2 g_12 (tgt := 38) dX5_stepsBy_13 (by decide) (fun hc13 => ?_) (fun hc13 => ?_)
      · rw [if_neg hc13] at h
        refine lv_iload_n C.1 C.2.1 dX5_stepsBy_38 rfl (lv_at hl 3 rfl) ?_
        obtain rfl := Option.some.inj h
        exact rt X gx_1 dX5_stepsBy_39
      · rw [if_pos hc13] at h
        refine lv_aload_n C.1 C.2.1 dX5_stepsBy_16 rfl (lv_at hl 0 rfl) ?_
        refine lv_iload_n C.1 C.2.1 dX5_stepsBy_17 rfl (lv_at hl 1 rfl) ?_
        refine lv_iload C.1 C.2.1 dX5_stepsBy_18 (lv_at hl 4 rfl) ?_
        obtain ⟨x_3, hq20, h⟩ := bnd_some h
        refine z_callV1 C X zk5 (zob.self o_t0) (zo5 o_t0) (As := [zI x1, zI x_2]) (M_X5_rimStep μ t0 x1 x_2 o_t0 gx1 gx_2 hq20) zc_X5_rimStep kw_709 (zroom (by decide) (by decide)) rfl hl.1 rfl (Nat.le_of_ble_eq_true rfl) dX5_stepsBy_20 ⟨Nat.zero_le _, Nat.zero_le _⟩ (fun H locs g_20 X => ?_)
        refine z_iconst C dX5_stepsBy_23 ?_
        refine z_ishr C dX5_stepsBy_24 ?_
        refine lv_iload_n C.1 C.2.1 dX5_stepsBy_25 rfl (lv_at hl 2 rfl) ?_
        refine z_icmpne C (Rg.t _) gx2 (tgt := 32) dX5_stepsBy_26 (by decide) (fun hc26 => ?_) (fun hc26 => ?_)
        · rw [if_neg hc26] at h
          refine zlet_elim h (fun x_4 ex_4 h => ?_)
          have gx_4 : Rg x_4 := by rw [ex_4]; exact Rg.w _
          refine z_iinc C ex_4 dX5_stepsBy_32 hl (k := 4) rfl (by decide) (lv' := [(4, zI x_4), (0, zR Ω t0), (1, zI x1), (2, zI x2), (3, zI x_1)]) rfl (fun ls hl => ?_)
          clear ex_4
          refine lv_goto (tgt := 5) C.1 C.2.1 dX5_stepsBy_35 (by decide) ?_
          exact ih5 x_1 x_4 _ _ _ gx_1 gx_4 X (lv_sub hl [1, 2, 3, 4, 0] rfl) h
        · rw [if_pos hc26] at h
          refine zlet_elim h (fun x_5 ex_5 h => ?_)
          have gx_5 : Rg x_5 := by rw [ex_5]; exact Rg.w _
          refine z_iinc C ex_5 dX5_stepsBy_29 hl (k := 3) rfl (by decide) (lv' := [(3, zI x_5), (0, zR Ω t0), (1, zI x1), (2, zI x2), (4, zI x_2)]) rfl (fun ls hl => ?_)
          clear ex_5
          refine zlet_elim h (fun x_6 ex_6 h => ?_)
          have gx_6 : Rg x_6 := by rw [ex_6]; exact Rg.w _
          refine z_iinc C ex_6 dX5_stepsBy_32 hl (k := 4) rfl (by decide) (lv' := [(4, zI x_6), (3, zI x_5), (0, zR Ω t0), (1, zI x1), (2, zI x2)]) rfl (fun ls hl => ?_)
          clear ex_6
          refine lv_goto (tgt := 5) C.1 C.2.1 dX5_stepsBy_35 (by decide) ?_
          exact ih5 x_5 x_6 _ _ _ gx_5 gx_6 X (lv_sub hl [2, 3, 4, 1, 0] rfl) h
  exact L5 zfu 0 0 _ _ _ ⟨by decide, by decide⟩ ⟨by decide, by decide⟩ X (lv_sub hl [2, 3, 4, 1, 0] rfl) h
theorem zc_X5_stepsBy : zcal yX5_stepsBy cX5_stepsBy 5 (some Jvm.ClassFile.FieldType.int) RX5 2 := ⟨⟨kw_960, kw_959, kp_46, kw_3⟩, rfl, by decide, by decide, by decide +kernel⟩

def f_X5_oddPanes_L4 (t0 : Int) (x1 : Int) (μ : zMem) : Nat → Int → Int → Option Int
  | 0, _, _ => none
  | n + 1, x_1, x_2 =>
    if x_2 < (μ t0 8) then
      bnd (f_X5_stepsBy t0 x_2 x1 μ) fun x_3 =>
      zlet ((zor x_1 (zshl (zand x_3 1) x_2))) fun x_4 =>
      zlet (zw (x_2 + 1)) fun x_5 =>
      (f_X5_oddPanes_L4 t0 x1 μ n) x_4 x_5
    else
      some x_1
def f_X5_oddPanes (t0 : Int) (x1 : Int) (μ : zMem) : Option Int :=
  (f_X5_oddPanes_L4 t0 x1 μ) zfu 0 0
set_option maxHeartbeats 4000000 in
set_option maxRecDepth 100000 in
theorem M_X5_oddPanes {l : Launch} {Ω : zO} (μ : zMem) (t0 : Int) (x1 : Int) {r : Int} (o_t0 : zob Ω.2.2.1 5 t0) (gx1 : Rg x1) (h : f_X5_oddPanes t0 x1 μ = some r) : XMet l yX5_oddPanes cX5_oddPanes 4 (some Jvm.ClassFile.FieldType.int) 2 Ω [zR Ω t0, zI x1] μ (some (zI r)) (Rg r) μ := by
  refine XMet.ofI (by decide) (Nat.le_of_ble_eq_true rfl) ?_
  intro p e s m args below meth c ls Q C rt X hl
  have C : zC p s m args c cX5_oddPanes RX5 4 Ω := C
  have hl : lv_has ls 4 [(0, zR Ω t0), (1, zI x1)] := hl
  unfold f_X5_oddPanes at h
  skip
  refine z_iconst C dX5_oddPanes_0 ?_
  refine lv_istore_n C.1 C.2.1 (lv' := [(2, zI 0), (0, zR Ω t0), (1, zI x1)]) dX5_oddPanes_1 rfl hl (by decide) rfl (fun ls hl => ?_)
  refine z_iconst C dX5_oddPanes_2 ?_
  refine lv_istore_n C.1 C.2.1 (lv' := [(3, zI 0), (2, zI 0), (0, zR Ω t0), (1, zI x1)]) dX5_oddPanes_3 rfl hl (by decide) rfl (fun ls hl => ?_)
  have L4 : ∀ (n4 : Nat) (x_1 : Int) (x_2 : Int) (H : Heap) (locs : List Loc) (ls : Array Slot), Rg x_1 → Rg x_2 → zX Ω μ (zfree Ω) s.heap H locs → lv_has ls 4 [(0, zR Ω t0), (1, zI x1), (2, zI x_1), (3, zI x_2)] → (f_X5_oddPanes_L4 t0 x1 μ n4 x_1 x_2) = some r → W p l e (zrm 2) s m args below meth c H locs 0 0 Q (F0 m 4 ls []) := by
    intro n4
    induction n4 with
    | zero =>
      intro x_1 x_2 H locs ls _ _ _ _ h
      cases h
    | succ n4 ih4 =>
      intro x_1 x_2 H locs ls gx_1 gx_2 X hl h
      unfold f_X5_oddPanes_L4 at h
      refine lv_iload_n C.1 C.2.1 dX5_oddPanes_4 rfl (lv_at hl 3 rfl) ?_
      refine lv_aload_n C.1 C.2.1 dX5_oddPanes_5 rfl (lv_at hl 0 rfl) ?_
      have g_6 : Rg (μ t0 8) := zrgf0 (ci := 5) X.2.2.2 (zob.self o_t0) (zo5 o_t0) 8 rfl
      refine z_get C X zk5 (zob.self o_t0) (zo5 o_t0) 8 (by decide) kw_87 (zI (μ t0 8)) rfl dX5_oddPanes_6 ?_
      refine z_icmpge C gx_2 g_6 (tgt := 31) dX5_oddPanes_9 (by decide) (fun hc9 => ?_) (fun hc9 => ?_)
      · rw [if_neg hc9] at h
        refine lv_iload_n C.1 C.2.1 dX5_oddPanes_31 rfl (lv_at hl 2 rfl) ?_
        obtain rfl := Option.some.inj h
        exact rt X gx_1 dX5_oddPanes_32
      · rw [if_pos hc9] at h
        refine lv_iload_n C.1 C.2.1 dX5_oddPanes_12 rfl (lv_at hl 2 rfl) ?_
        refine lv_aload_n C.1 C.2.1 dX5_oddPanes_13 rfl (lv_at hl 0 rfl) ?_
        refine lv_iload_n C.1 C.2.1 dX5_oddPanes_14 rfl (lv_at hl 3 rfl) ?_
        refine lv_iload_n C.1 C.2.1 dX5_oddPanes_15 rfl (lv_at hl 1 rfl) ?_
        obtain ⟨x_3, hq16, h⟩ := bnd_some h
        refine z_callV1 C X zk5 (zob.self o_t0) (zo5 o_t0) (As := [zI x_2, zI x1]) (M_X5_stepsBy μ t0 x_2 x1 o_t0 gx_2 gx1 hq16) zc_X5_stepsBy kw_957 (zroom (by decide) (by decide)) rfl hl.1 rfl (Nat.le_of_ble_eq_true rfl) dX5_oddPanes_16 ⟨Nat.zero_le _, Nat.zero_le _⟩ (fun H locs g_16 X => ?_)
        refine z_iconst C dX5_oddPanes_19 ?_
        refine z_iand C dX5_oddPanes_20 ?_
        refine lv_iload_n C.1 C.2.1 dX5_oddPanes_21 rfl (lv_at hl 3 rfl) ?_
        refine z_ishl C dX5_oddPanes_22 ?_
        refine z_ior C dX5_oddPanes_23 ?_
        refine zlet_elim h (fun x_4 ex_4 h => ?_)
        have gx_4 : Rg x_4 := by rw [ex_4]; exact (Rg.t _)
        refine z_istore_n C ex_4 dX5_oddPanes_24 rfl hl (by decide) (lv' := [(2, zI x_4), (0, zR Ω t0), (1, zI x1), (3, zI x_2)]) rfl (fun ls hl => ?_)
        clear ex_4
        refine zlet_elim h (fun x_5 ex_5 h => ?_)
        have gx_5 : Rg x_5 := by rw [ex_5]; exact Rg.w _
        refine z_iinc C ex_5 dX5_oddPanes_25 hl (k := 3) rfl (by decide) (lv' := [(3, zI x_5), (2, zI x_4), (0, zR Ω t0), (1, zI x1)]) rfl (fun ls hl => ?_)
        clear ex_5
        refine lv_goto (tgt := 4) C.1 C.2.1 dX5_oddPanes_28 (by decide) ?_
        exact ih4 x_4 x_5 _ _ _ gx_4 gx_5 X (lv_sub hl [2, 3, 1, 0] rfl) h
  exact L4 zfu 0 0 _ _ _ ⟨by decide, by decide⟩ ⟨by decide, by decide⟩ X (lv_sub hl [2, 3, 1, 0] rfl) h
theorem zc_X5_oddPanes : zcal yX5_oddPanes cX5_oddPanes 4 (some Jvm.ClassFile.FieldType.int) RX5 1 := ⟨⟨kw_956, kw_954, kw_955, kw_3⟩, rfl, by decide, by decide, by decide +kernel⟩

def f_X2_isSumOfEdges_K52 (x2 : Int) (μ_2 : zMem) : Option (Int × zMem) :=
  bnd (f_X2_clearByBasis x2 μ_2) fun x_3 =>
  if x_3 = 0 then
    some (1, μ_2)
  else
    some (0, μ_2)
def f_X2_isSumOfEdges_L10 (x1 : Int) (g52 : zMem → Option (Int × zMem)) : Nat → Int → zMem → Option (Int × zMem)
  | 0, _, _ => none
  | n + 1, x_4, μ_5 =>
    if x_4 < (μ_5 x1 7) then
      bnd (f_X5_oddPanes x1 x_4 μ_5) fun x_6 =>
      bnd (f_X2_clearByBasis x_6 μ_5) fun x_7 =>
      if x_7 = 0 then
        zlet (zw (x_4 + 1)) fun x_8 =>
        (f_X2_isSumOfEdges_L10 x1 g52 n) x_8 μ_5
      else
        bnd (f_X2_highestBit x_7) fun x_9 =>
        chk ((0 : Int) ≤ x_9 ∧ x_9 < 8) <|
        zlet (zup μ_5 26 x_9 x_7) fun μ_10 =>
        zlet (zw (x_4 + 1)) fun x_11 =>
        (f_X2_isSumOfEdges_L10 x1 g52 n) x_11 μ_10
    else
      g52 μ_5
def f_X2_isSumOfEdges (x1 : Int) (x2 : Int) (μ : zMem) : Option (Int × zMem) :=
  bnd (f_J7_fill_53178 26 0 μ) fun μ_1 =>
  (f_X2_isSumOfEdges_L10 x1 (f_X2_isSumOfEdges_K52 x2)) zfu 0 μ_1
set_option maxHeartbeats 4000000 in
set_option maxRecDepth 100000 in
theorem M_X2_isSumOfEdges {l : Launch} {Ω : zO} (hI : zIc Ω) (μ : zMem) (x1 : Int) (x2 : Int) {r : Int} {μ' : zMem} (o_x1 : zob Ω.2.2.1 5 x1) (gx2 : Rg x2) (h : f_X2_isSumOfEdges x1 x2 μ = some (r, μ')) : XMet l yX2_isSumOfEdges cX2_isSumOfEdges 5 (some Jvm.ClassFile.FieldType.boolean) 3 Ω [zR Ω 23, zR Ω x1, zI x2] μ (some (zI r)) (0 ≤ r ∧ r ≤ 1) μ' := by
  refine XMet.ofZ (by decide) (Nat.le_of_ble_eq_true rfl) ?_
  intro p e s m args below meth c ls Q C rt X hl
  have C : zC p s m args c cX2_isSumOfEdges RX2 5 Ω := C
  have hl : lv_has ls 5 [(0, zR Ω 23), (1, zR Ω x1), (2, zI x2)] := hl
  unfold f_X2_isSumOfEdges at h
  skip
  refine lv_aload_n C.1 C.2.1 dX2_isSumOfEdges_0 rfl (lv_at hl 0 rfl) ?_
  refine z_get C X zk2 (hI.1 23 (by decide)) rfl 2 (by decide) kw_226 (zR Ω 26) (zfvF (off := 3) X.2.2.2 (hI.1 23 (by decide)) (hI.2 23 (by decide)) rfl rfl (by decide)) dX2_isSumOfEdges_1 ?_
  refine z_iconst C dX2_isSumOfEdges_4 ?_
  obtain ⟨μ_1, hq5, h⟩ := bnd_some h
  refine z_callS0 C X (As := [zR Ω 26, zI 0]) (M_J7_fill_53178 μ 26 0 (hI.1 26 (by decide)) rfl ⟨by decide, by decide⟩ hq5) zc_J7_fill_53178 kw_952 (zroom (by decide) (by decide)) rfl hl.1 rfl (Nat.le_of_ble_eq_true rfl) dX2_isSumOfEdges_5 ⟨Nat.zero_le _, Nat.zero_le _⟩ (fun H locs g_5 X => ?_)
  refine z_iconst C dX2_isSumOfEdges_8 ?_
  refine lv_istore_n C.1 C.2.1 (lv' := [(3, zI 0), (0, zR Ω 23), (1, zR Ω x1), (2, zI x2)]) dX2_isSumOfEdges_9 rfl hl (by decide) rfl (fun ls hl => ?_)
  have K52 : ∀ (μ_2 : zMem) (H : Heap) (locs : List Loc) (ls : Array Slot), zX Ω μ_2 (zfree Ω) s.heap H locs → lv_has ls 5 [(0, zR Ω 23), (2, zI x2)] → (f_X2_isSumOfEdges_K52 x2) μ_2 = some (r, μ') → W p l e (zrm 3) s m args below meth c H locs 0 0 Q (F0 m 52 ls []) := by
    intro μ_2 H locs ls  X hl h
    unfold f_X2_isSumOfEdges_K52 at h
    refine lv_aload_n C.1 C.2.1 dX2_isSumOfEdges_52 rfl (lv_at hl 0 rfl) ?_
    refine lv_iload_n C.1 C.2.1 dX2_isSumOfEdges_53 rfl (lv_at hl 1 rfl) ?_
    obtain ⟨x_3, hq54, h⟩ := bnd_some h
    refine z_callV1 C X zk2 (hI.1 23 (by decide)) rfl (As := [zI x2]) (M_X2_clearByBasis hI μ_2 x2 gx2 hq54) zc_X2_clearByBasis kw_961 (zroom (by decide) (by decide)) rfl hl.1 rfl (Nat.le_of_ble_eq_true rfl) dX2_isSumOfEdges_54 ⟨Nat.zero_le _, Nat.zero_le _⟩ (fun H locs g_54 X => ?_)
    refine z_ifne C g_54 (tgt := 64) dX2_isSumOfEdges_57 (by decide) (fun hc57 => ?_) (fun hc57 => ?_)
    · rw [if_neg hc57] at h
      refine z_iconst C dX2_isSumOfEdges_64 ?_
      obtain ⟨rfl, rfl⟩ := Prod.mk.inj (Option.some.inj h)
      exact rt X ⟨by decide, by decide⟩ dX2_isSumOfEdges_65
    · rw [if_pos hc57] at h
      refine z_iconst C dX2_isSumOfEdges_60 ?_
      refine lv_goto (tgt := 65) C.1 C.2.1 dX2_isSumOfEdges_61 (by decide) ?_
      obtain ⟨rfl, rfl⟩ := Prod.mk.inj (Option.some.inj h)
      exact rt X ⟨by decide, by decide⟩ dX2_isSumOfEdges_65
  have L10 : ∀ (n10 : Nat) (x_4 : Int) (μ_5 : zMem) (H : Heap) (locs : List Loc) (ls : Array Slot), Rg x_4 → zX Ω μ_5 (zfree Ω) s.heap H locs → lv_has ls 5 [(0, zR Ω 23), (1, zR Ω x1), (2, zI x2), (3, zI x_4)] → (f_X2_isSumOfEdges_L10 x1 (f_X2_isSumOfEdges_K52 x2) n10 x_4 μ_5) = some (r, μ') → W p l e (zrm 3) s m args below meth c H locs 0 0 Q (F0 m 10 ls []) := by
    intro n10
    induction n10 with
    | zero =>
      intro x_4 μ_5 H locs ls _ _ _ h
      cases h
    | succ n10 ih10 =>
      intro x_4 μ_5 H locs ls gx_4 X hl h
      unfold f_X2_isSumOfEdges_L10 at h
      refine lv_iload_n C.1 C.2.1 dX2_isSumOfEdges_10 rfl (lv_at hl 3 rfl) ?_
      refine lv_aload_n C.1 C.2.1 dX2_isSumOfEdges_11 rfl (lv_at hl 1 rfl) ?_
      have g_12 : Rg (μ_5 x1 7) := zrgf0 (ci := 5) X.2.2.2 (zob.self o_x1) (zo5 o_x1) 7 rfl
      refine z_get C X zk5 (zob.self o_x1) (zo5 o_x1) 7 (by decide) kw_82 (zI (μ_5 x1 7)) rfl dX2_isSumOfEdges_12 ?_
      refine z_icmpge C gx_4 g_12 (tgt := 52) dX2_isSumOfEdges_15 (by decide) (fun hc15 => ?_) (fun hc15 => ?_)
      · rw [if_neg hc15] at h
        exact K52 μ_5 _ _ _ X (lv_sub hl [0, 2] rfl) h
      · rw [if_pos hc15] at h
        refine lv_aload_n C.1 C.2.1 dX2_isSumOfEdges_18 rfl (lv_at hl 0 rfl) ?_
        refine lv_aload_n C.1 C.2.1 dX2_isSumOfEdges_19 rfl (lv_at hl 1 rfl) ?_
        refine lv_iload_n C.1 C.2.1 dX2_isSumOfEdges_20 rfl (lv_at hl 3 rfl) ?_
        obtain ⟨x_6, hq21, h⟩ := bnd_some h
        refine z_callV1 C X zk5 (zob.self o_x1) (zo5 o_x1) (As := [zI x_4]) (M_X5_oddPanes μ_5 x1 x_4 o_x1 gx_4 hq21) zc_X5_oddPanes kw_953 (zroom (by decide) (by decide)) rfl hl.1 rfl (Nat.le_of_ble_eq_true rfl) dX2_isSumOfEdges_21 ⟨Nat.zero_le _, Nat.zero_le _⟩ (fun H locs g_21 X => ?_)
        obtain ⟨x_7, hq24, h⟩ := bnd_some h
        refine z_callV1 C X zk2 (hI.1 23 (by decide)) rfl (As := [zI x_6]) (M_X2_clearByBasis hI μ_5 x_6 g_21 hq24) zc_X2_clearByBasis kw_961 (zroom (by decide) (by decide)) rfl hl.1 rfl (Nat.le_of_ble_eq_true rfl) dX2_isSumOfEdges_24 ⟨Nat.zero_le _, Nat.zero_le _⟩ (fun H locs g_24 X => ?_)
        refine lv_istore C.1 C.2.1 (lv' := [(4, zI x_7), (0, zR Ω 23), (1, zR Ω x1), (2, zI x2), (3, zI x_4)]) dX2_isSumOfEdges_27 hl (by decide) rfl (fun ls hl => ?_)
        refine lv_iload C.1 C.2.1 dX2_isSumOfEdges_29 (lv_at hl 0 rfl) ?_
        refine z_ifeq C g_24 (tgt := 46) dX2_isSumOfEdges_31 (by decide) (fun hc31 => ?_) (fun hc31 => ?_)
        · rw [if_pos hc31] at h
          refine zlet_elim h (fun x_8 ex_8 h => ?_)
          have gx_8 : Rg x_8 := by rw [ex_8]; exact Rg.w _
          refine z_iinc C ex_8 dX2_isSumOfEdges_46 hl (k := 4) rfl (by decide) (lv' := [(3, zI x_8), (4, zI x_7), (0, zR Ω 23), (1, zR Ω x1), (2, zI x2)]) rfl (fun ls hl => ?_)
          clear ex_8
          refine lv_goto (tgt := 10) C.1 C.2.1 dX2_isSumOfEdges_49 (by decide) ?_
          exact ih10 x_8 μ_5 _ _ _ gx_8 X (lv_sub hl [2, 3, 4, 0] rfl) h
        · rw [if_neg hc31] at h
          refine lv_aload_n C.1 C.2.1 dX2_isSumOfEdges_34 rfl (lv_at hl 1 rfl) ?_
          refine z_get C X zk2 (hI.1 23 (by decide)) rfl 2 (by decide) kw_226 (zR Ω 26) (zfvF (off := 3) X.2.2.2 (hI.1 23 (by decide)) (hI.2 23 (by decide)) rfl rfl (by decide)) dX2_isSumOfEdges_35 ?_
          refine lv_iload C.1 C.2.1 dX2_isSumOfEdges_38 (lv_at hl 0 rfl) ?_
          obtain ⟨x_9, hq40, h⟩ := bnd_some h
          refine z_callS1 C X (As := [zI x_7]) (M_X2_highestBit hI μ_5 x_7 g_24 hq40) zc_X2_highestBit kw_965 (zroom (by decide) (by decide)) rfl hl.1 rfl (Nat.le_of_ble_eq_true rfl) dX2_isSumOfEdges_40 ⟨Nat.zero_le _, Nat.zero_le _⟩ (fun H locs g_40 X => ?_)
          refine lv_iload C.1 C.2.1 dX2_isSumOfEdges_43 (lv_at hl 0 rfl) ?_
          obtain ⟨hc45, h⟩ := chk_some h
          refine zlet_elim h (fun μ_10 em h => ?_)
          refine z_iast C X (hI.1 26 (by decide)) rfl hc45 (zok1 rfl g_24) em dX2_isSumOfEdges_45 (fun H locs X => ?_)
          clear em
          refine zlet_elim h (fun x_11 ex_11 h => ?_)
          have gx_11 : Rg x_11 := by rw [ex_11]; exact Rg.w _
          refine z_iinc C ex_11 dX2_isSumOfEdges_46 hl (k := 4) rfl (by decide) (lv' := [(3, zI x_11), (4, zI x_7), (0, zR Ω 23), (1, zR Ω x1), (2, zI x2)]) rfl (fun ls hl => ?_)
          clear ex_11
          refine lv_goto (tgt := 10) C.1 C.2.1 dX2_isSumOfEdges_49 (by decide) ?_
          exact ih10 x_11 μ_10 _ _ _ gx_11 X (lv_sub hl [2, 3, 4, 0] rfl) h
  exact L10 zfu 0 μ_1 _ _ _ ⟨by decide, by decide⟩ X (lv_sub hl [1, 2, 3, 0] rfl) h
theorem zc_X2_isSumOfEdges : zcal yX2_isSumOfEdges cX2_isSumOfEdges 5 (some Jvm.ClassFile.FieldType.boolean) RX2 2 := ⟨⟨kw_951, kw_949, kw_950, kw_7⟩, rfl, by decide, by decide, by decide +kernel⟩

