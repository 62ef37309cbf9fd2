def f_X10_joinedCorner (x1 : Int) (μ : zMem) : Int :=
  if x1 = 0 then
    0
  else
    (zw ((zw ((μ 102 0) + x1)) - 1))
set_option maxHeartbeats 4000000 in
set_option maxRecDepth 100000 in
theorem M_X10_joinedCorner {l : Launch} {Ω : zO} (hI : zIm Ω) (μ : zMem) (x1 : Int) (gx1 : Rg x1) : XMet l yX10_joinedCorner cX10_joinedCorner 2 (some Jvm.ClassFile.FieldType.int) 0 Ω [zR Ω 101, zI x1] μ (some (zI (f_X10_joinedCorner x1 μ))) (Rg (f_X10_joinedCorner x1 μ)) μ := by
  obtain ⟨r, h⟩ : ∃ r, f_X10_joinedCorner x1 μ = r := ⟨_, rfl⟩
  rw [h]
  refine XMet.ofI (by decide) (Nat.le_of_ble_eq_true rfl) ?_
  intro p e s m args below meth c ls Q C rt X hl
  have C : zC p s m args c cX10_joinedCorner RX10 2 Ω := C
  have hl : lv_has ls 2 [(0, zR Ω 101), (1, zI x1)] := hl
  unfold f_X10_joinedCorner at h
  skip
  refine lv_iload_n C.1 C.2.1 dX10_joinedCorner_0 rfl (lv_at hl 1 rfl) ?_
  refine z_ifne C gx1 (tgt := 8) dX10_joinedCorner_1 (by decide) (fun hc1 => ?_) (fun hc1 => ?_)
  · rw [if_neg hc1] at h
    refine lv_aload_n C.1 C.2.1 dX10_joinedCorner_8 rfl (lv_at hl 0 rfl) ?_
    refine z_get C X zk10 (hI.1 101 (by decide)) rfl 0 (by decide) kw_1032 (zR Ω 102) (zfvF (off := 1) X.2.2.2 (hI.1 101 (by decide)) hI.2 rfl rfl (by decide)) dX10_joinedCorner_9 ?_
    refine z_iconst C dX10_joinedCorner_12 ?_
    have g_13 : Rg (μ 102 0) := zrg1 X.2.2.2 (hI.1 102 (by decide)) rfl
    refine z_iald C X (hI.1 102 (by decide)) rfl (by decide) dX10_joinedCorner_13 ?_
    refine lv_iload_n C.1 C.2.1 dX10_joinedCorner_14 rfl (lv_at hl 1 rfl) ?_
    refine z_iadd C dX10_joinedCorner_15 ?_
    refine z_iconst C dX10_joinedCorner_16 ?_
    refine z_isub C dX10_joinedCorner_17 ?_
    subst h
    exact rt X (Rg.w _) dX10_joinedCorner_18
  · rw [if_pos hc1] at h
    refine z_iconst C dX10_joinedCorner_4 ?_
    refine lv_goto (tgt := 18) C.1 C.2.1 dX10_joinedCorner_5 (by decide) ?_
    subst h
    exact rt X ⟨by decide, by decide⟩ dX10_joinedCorner_18
theorem zc_X10_joinedCorner : zcal yX10_joinedCorner cX10_joinedCorner 2 (some Jvm.ClassFile.FieldType.int) RX10 1 := ⟨⟨kw_1556, kw_1555, kp_103, kw_12⟩, rfl, by decide, by decide, by decide +kernel⟩

def f_X10_join_K200 (μ_3 : zMem) : Option (Int × zMem) :=
  zlet (zup μ_3 102 0 (zw ((μ_3 102 0) + (zw ((μ_3 102 1) - 1))))) fun μ_4 =>
  bnd (f_X10_emptySlots 0 μ_4) fun μ_5 =>
  some ((μ_5 102 0), μ_5)
def f_X10_join_K188 (x_6 : Int) (g118 : Int → zMem → Option (Int × zMem)) (μ_9 : zMem) : Option (Int × zMem) :=
  bnd2 (f_X10_addFace 0 μ_9) fun x_10 μ_11 =>
  zlet (zw (x_6 + 1)) fun x_12 =>
  g118 x_12 μ_11
def f_X10_join_J181 (x_13 : Int) (g143 : Int → zMem → Option (Int × zMem)) (x_16 : Int) (μ_17 : zMem) : Option (Int × zMem) :=
  chk ((0 : Int) ≤ x_13 ∧ x_13 < 17) <|
  zlet (zup μ_17 116 x_13 x_16) fun μ_18 =>
  zlet (zw (x_13 + 1)) fun x_19 =>
  g143 x_19 μ_18
def f_X10_join_L143 (x_1 : Int) (x_6 : Int) (g188 : zMem → Option (Int × zMem)) : Nat → Int → zMem → Option (Int × zMem)
  | 0, _, _ => none
  | n + 1, x_13, μ_14 =>
    if x_13 < (μ_14 101 13) then
      bnd (f_X10_rimAt 1 x_6 x_13 μ_14) fun x_15 =>
      (f_X10_join_J181 x_13 (f_X10_join_L143 x_1 x_6 g188 n)) (if x_15 ≤ 0 then (zw (x_15 - x_1)) else (zw (x_15 + x_1))) μ_14
    else
      g188 μ_14
def f_X10_join_L118 (x_1 : Int) (g200 : zMem → Option (Int × zMem)) : Nat → Int → zMem → Option (Int × zMem)
  | 0, _, _ => none
  | n + 1, x_6, μ_7 =>
    if x_6 < (μ_7 104 1) then
      chk ((0 : Int) ≤ (zw (32 + x_6)) ∧ (zw (32 + x_6)) < 96) <|
      zlet (zup μ_7 101 13 (μ_7 107 (zw (32 + x_6)))) fun μ_8 =>
      (f_X10_join_L143 x_1 x_6 (f_X10_join_K188 x_6 (f_X10_join_L118 x_1 g200 n))) zfu 0 μ_8
    else
      g200 μ_7
def f_X10_join_K116 (x_1 : Int) (μ_2 : zMem) : Option (Int × zMem) :=
  (f_X10_join_L118 x_1 f_X10_join_K200) zfu 0 μ_2
def f_X10_join_L68 (g116 : zMem → Option (Int × zMem)) : Nat → Int → zMem → Option (Int × zMem)
  | 0, _, _ => none
  | n + 1, x_20, μ_21 =>
    if x_20 < (μ_21 103 1) then
      chk ((0 : Int) ≤ (zw (48 + x_20)) ∧ (zw (48 + x_20)) < 144) <|
      chk ((0 : Int) ≤ (zw (48 + x_20)) ∧ (zw (48 + x_20)) < 144) <|
      bnd2 (f_X10_addEdge 0 (f_X10_joinedCorner (μ_21 105 (zw (48 + x_20))) μ_21) (f_X10_joinedCorner (μ_21 106 (zw (48 + x_20))) μ_21) μ_21) fun x_22 μ_23 =>
      zlet (zw (x_20 + 1)) fun x_24 =>
      (f_X10_join_L68 g116 n) x_24 μ_23
    else
      g116 μ_21
def f_X10_join (μ : zMem) : Option (Int × zMem) :=
  if (zw ((zw ((μ 102 0) + (μ 102 1))) - 1)) ≤ 8 then
    if (zw ((μ 103 0) + (μ 103 1))) ≤ 12 then
      if (zw ((μ 104 0) + (μ 104 1))) ≤ 8 then
        zlet ((μ 103 0)) fun x_1 =>
        (f_X10_join_L68 (f_X10_join_K116 x_1)) zfu 0 μ
      else
        some ((-3), μ)
    else
      some ((-3), μ)
  else
    some ((-3), μ)
set_option maxHeartbeats 4000000 in
set_option maxRecDepth 100000 in
theorem M_X10_join {l : Launch} {Ω : zO} (hI : zIm Ω) (μ : zMem) {r : Int} {μ' : zMem} (h : f_X10_join μ = some (r, μ')) : XMet l yX10_join cX10_join 5 (some Jvm.ClassFile.FieldType.int) 1 Ω [zR Ω 101] μ (some (zI r)) (Rg r) μ' := by
  refine XMet.ofI (by decide) (Nat.le_of_ble_eq_true rfl) ?_
  intro p e s m args below meth c ls Q C rt X hl
  have C : zC p s m args c cX10_join RX10 5 Ω := C
  have hl : lv_has ls 5 [(0, zR Ω 101)] := hl
  unfold f_X10_join at h
  skip
  refine lv_aload_n C.1 C.2.1 dX10_join_0 rfl (lv_at hl 0 rfl) ?_
  refine z_get C X zk10 (hI.1 101 (by decide)) rfl 0 (by decide) kw_1032 (zR Ω 102) (zfvF (off := 1) X.2.2.2 (hI.1 101 (by decide)) hI.2 rfl rfl (by decide)) dX10_join_1 ?_
  refine z_iconst C dX10_join_4 ?_
  have g_5 : Rg (μ 102 0) := zrg1 X.2.2.2 (hI.1 102 (by decide)) rfl
  refine z_iald C X (hI.1 102 (by decide)) rfl (by decide) dX10_join_5 ?_
  refine lv_aload_n C.1 C.2.1 dX10_join_6 rfl (lv_at hl 0 rfl) ?_
  refine z_get C X zk10 (hI.1 101 (by decide)) rfl 0 (by decide) kw_1032 (zR Ω 102) (zfvF (off := 1) X.2.2.2 (hI.1 101 (by decide)) hI.2 rfl rfl (by decide)) dX10_join_7 ?_
  refine z_iconst C dX10_join_10 ?_
  have g_11 : Rg (μ 102 1) := zrg1 X.2.2.2 (hI.1 102 (by decide)) rfl
  refine z_iald C X (hI.1 102 (by decide)) rfl (by decide) dX10_join_11 ?_
  refine z_iadd C dX10_join_12 ?_
  refine z_iconst C dX10_join_13 ?_
  refine z_isub C dX10_join_14 ?_
  refine z_bipush C dX10_join_15 (by decide) ?_
  refine z_icmpgt C (Rg.w _) ⟨by decide, by decide⟩ (tgt := 56) dX10_join_17 (by decide) (fun hc17 => ?_) (fun hc17 => ?_)
  · rw [if_neg hc17] at h
    refine z_bipush C dX10_join_56 (by decide) ?_
    obtain ⟨rfl, rfl⟩ := Prod.mk.inj (Option.some.inj h)
    exact rt X ⟨by decide, by decide⟩ dX10_join_58
  · rw [if_pos hc17] at h
    refine lv_aload_n C.1 C.2.1 dX10_join_20 rfl (lv_at hl 0 rfl) ?_
    refine z_get C X zk10 (hI.1 101 (by decide)) rfl 1 (by decide) kw_1033 (zR Ω 103) (zfvF (off := 2) X.2.2.2 (hI.1 101 (by decide)) hI.2 rfl rfl (by decide)) dX10_join_21 ?_
    refine z_iconst C dX10_join_24 ?_
    have g_25 : Rg (μ 103 0) := zrg1 X.2.2.2 (hI.1 103 (by decide)) rfl
    refine z_iald C X (hI.1 103 (by decide)) rfl (by decide) dX10_join_25 ?_
    refine lv_aload_n C.1 C.2.1 dX10_join_26 rfl (lv_at hl 0 rfl) ?_
    refine z_get C X zk10 (hI.1 101 (by decide)) rfl 1 (by decide) kw_1033 (zR Ω 103) (zfvF (off := 2) X.2.2.2 (hI.1 101 (by decide)) hI.2 rfl rfl (by decide)) dX10_join_27 ?_
    refine z_iconst C dX10_join_30 ?_
    have g_31 : Rg (μ 103 1) := zrg1 X.2.2.2 (hI.1 103 (by decide)) rfl
    refine z_iald C X (hI.1 103 (by decide)) rfl (by decide) dX10_join_31 ?_
    refine z_iadd C dX10_join_32 ?_
    refine z_bipush C dX10_join_33 (by decide) ?_
    refine z_icmpgt C (Rg.w _) ⟨by decide, by decide⟩ (tgt := 56) dX10_join_35 (by decide) (fun hc35 => ?_) (fun hc35 => ?_)
    · rw [if_neg hc35] at h
      refine z_bipush C dX10_join_56 (by decide) ?_
      obtain ⟨rfl, rfl⟩ := Prod.mk.inj (Option.some.inj h)
      exact rt X ⟨by decide, by decide⟩ dX10_join_58
    · rw [if_pos hc35] at h
      refine lv_aload_n C.1 C.2.1 dX10_join_38 rfl (lv_at hl 0 rfl) ?_
      refine z_get C X zk10 (hI.1 101 (by decide)) rfl 2 (by decide) kw_1034 (zR Ω 104) (zfvF (off := 3) X.2.2.2 (hI.1 101 (by decide)) hI.2 rfl rfl (by decide)) dX10_join_39 ?_
      refine z_iconst C dX10_join_42 ?_
      have g_43 : Rg (μ 104 0) := zrg1 X.2.2.2 (hI.1 104 (by decide)) rfl
      refine z_iald C X (hI.1 104 (by decide)) rfl (by decide) dX10_join_43 ?_
      refine lv_aload_n C.1 C.2.1 dX10_join_44 rfl (lv_at hl 0 rfl) ?_
      refine z_get C X zk10 (hI.1 101 (by decide)) rfl 2 (by decide) kw_1034 (zR Ω 104) (zfvF (off := 3) X.2.2.2 (hI.1 101 (by decide)) hI.2 rfl rfl (by decide)) dX10_join_45 ?_
      refine z_iconst C dX10_join_48 ?_
      have g_49 : Rg (μ 104 1) := zrg1 X.2.2.2 (hI.1 104 (by decide)) rfl
      refine z_iald C X (hI.1 104 (by decide)) rfl (by decide) dX10_join_49 ?_
      refine z_iadd C dX10_join_50 ?_
      refine z_bipush C dX10_join_51 (by decide) ?_
      refine z_icmple C (Rg.w _) ⟨by decide, by decide⟩ (tgt := 59) dX10_join_53 (by decide) (fun hc53 => ?_) (fun hc53 => ?_)
      · rw [if_pos hc53] at h
        refine lv_aload_n C.1 C.2.1 dX10_join_59 rfl (lv_at hl 0 rfl) ?_
        refine z_get C X zk10 (hI.1 101 (by decide)) rfl 1 (by decide) kw_1033 (zR Ω 103) (zfvF (off := 2) X.2.2.2 (hI.1 101 (by decide)) hI.2 rfl rfl (by decide)) dX10_join_60 ?_
        refine z_iconst C dX10_join_63 ?_
        have g_64 : Rg (μ 103 0) := zrg1 X.2.2.2 (hI.1 103 (by decide)) rfl
        refine z_iald C X (hI.1 103 (by decide)) rfl (by decide) dX10_join_64 ?_
        refine zlet_elim h (fun x_1 ex_1 h => ?_)
        have gx_1 : Rg x_1 := by rw [ex_1]; exact g_64
        refine z_istore_n C ex_1 dX10_join_65 rfl hl (by decide) (lv' := [(1, zI x_1), (0, zR Ω 101)]) rfl (fun ls hl => ?_)
        clear ex_1
        refine z_iconst C dX10_join_66 ?_
        refine lv_istore_n C.1 C.2.1 (lv' := [(2, zI 0), (1, zI x_1), (0, zR Ω 101)]) dX10_join_67 rfl hl (by decide) rfl (fun ls hl => ?_)
        have K116 : ∀ (μ_2 : zMem) (H : Heap) (locs : List Loc) (ls : Array Slot), zX Ω μ_2 (zfree Ω) s.heap H locs → lv_has ls 5 [(0, zR Ω 101), (1, zI x_1)] → (f_X10_join_K116 x_1) μ_2 = some (r, μ') → W p l e (zrm 1) s m args below meth c H locs 0 0 Q (F0 m 116 ls []) := by
          intro μ_2 H locs ls  X hl h
          unfold f_X10_join_K116 at h
          refine z_iconst C dX10_join_116 ?_
          refine lv_istore_n C.1 C.2.1 (lv' := [(2, zI 0), (0, zR Ω 101), (1, zI x_1)]) dX10_join_117 rfl hl (by decide) rfl (fun ls hl => ?_)
          have K200 : ∀ (μ_3 : zMem) (H : Heap) (locs : List Loc) (ls : Array Slot), zX Ω μ_3 (zfree Ω) s.heap H locs → lv_has ls 5 [(0, zR Ω 101)] → f_X10_join_K200 μ_3 = some (r, μ') → W p l e (zrm 1) s m args below meth c H locs 0 0 Q (F0 m 200 ls []) := by
            intro μ_3 H locs ls  X hl h
            unfold f_X10_join_K200 at h
            refine lv_aload_n C.1 C.2.1 dX10_join_200 rfl (lv_at hl 0 rfl) ?_
            refine z_get C X zk10 (hI.1 101 (by decide)) rfl 0 (by decide) kw_1032 (zR Ω 102) (zfvF (off := 1) X.2.2.2 (hI.1 101 (by decide)) hI.2 rfl rfl (by decide)) dX10_join_201 ?_
            refine z_iconst C dX10_join_204 ?_
            refine lv_dup2_11 C.1 C.2.1 dX10_join_205 rfl rfl ?_
            have g_206 : Rg (μ_3 102 0) := zrg1 X.2.2.2 (hI.1 102 (by decide)) rfl
            refine z_iald C X (hI.1 102 (by decide)) rfl (by decide) dX10_join_206 ?_
            refine lv_aload_n C.1 C.2.1 dX10_join_207 rfl (lv_at hl 0 rfl) ?_
            refine z_get C X zk10 (hI.1 101 (by decide)) rfl 0 (by decide) kw_1032 (zR Ω 102) (zfvF (off := 1) X.2.2.2 (hI.1 101 (by decide)) hI.2 rfl rfl (by decide)) dX10_join_208 ?_
            refine z_iconst C dX10_join_211 ?_
            have g_212 : Rg (μ_3 102 1) := zrg1 X.2.2.2 (hI.1 102 (by decide)) rfl
            refine z_iald C X (hI.1 102 (by decide)) rfl (by decide) dX10_join_212 ?_
            refine z_iconst C dX10_join_213 ?_
            refine z_isub C dX10_join_214 ?_
            refine z_iadd C dX10_join_215 ?_
            refine zlet_elim h (fun μ_4 em h => ?_)
            refine z_iast C X (hI.1 102 (by decide)) rfl (by decide) (zok1 rfl (Rg.w _)) em dX10_join_216 (fun H locs X => ?_)
            clear em
            refine lv_aload_n C.1 C.2.1 dX10_join_217 rfl (lv_at hl 0 rfl) ?_
            refine z_iconst C dX10_join_218 ?_
            obtain ⟨μ_5, hq219, h⟩ := bnd_some h
            refine z_callV0 C X zk10 (hI.1 101 (by decide)) rfl (As := [zI 0]) (M_X10_emptySlots hI μ_4 0 ⟨by decide, by decide⟩ hq219) zc_X10_emptySlots kw_1224 (zroom (by decide) (by decide)) rfl hl.1 rfl (Nat.le_of_ble_eq_true rfl) dX10_join_219 ⟨Nat.zero_le _, Nat.zero_le _⟩ (fun H locs g_219 X => ?_)
            refine lv_aload_n C.1 C.2.1 dX10_join_222 rfl (lv_at hl 0 rfl) ?_
            refine z_get C X zk10 (hI.1 101 (by decide)) rfl 0 (by decide) kw_1032 (zR Ω 102) (zfvF (off := 1) X.2.2.2 (hI.1 101 (by decide)) hI.2 rfl rfl (by decide)) dX10_join_223 ?_
            refine z_iconst C dX10_join_226 ?_
            have g_227 : Rg (μ_5 102 0) := zrg1 X.2.2.2 (hI.1 102 (by decide)) rfl
            refine z_iald C X (hI.1 102 (by decide)) rfl (by decide) dX10_join_227 ?_
            obtain ⟨rfl, rfl⟩ := Prod.mk.inj (Option.some.inj h)
            exact rt X g_227 dX10_join_228
          have L118 : ∀ (n118 : Nat) (x_6 : Int) (μ_7 : zMem) (H : Heap) (locs : List Loc) (ls : Array Slot), Rg x_6 → zX Ω μ_7 (zfree Ω) s.heap H locs → lv_has ls 5 [(0, zR Ω 101), (1, zI x_1), (2, zI x_6)] → (f_X10_join_L118 x_1 f_X10_join_K200 n118 x_6 μ_7) = some (r, μ') → W p l e (zrm 1) s m args below meth c H locs 0 0 Q (F0 m 118 ls []) := by
            intro n118
            induction n118 with
            | zero =>
              intro x_6 μ_7 H locs ls _ _ _ h
              cases h
            | succ n118 ih118 =>
              intro x_6 μ_7 H locs ls gx_6 X hl h
              unfold f_X10_join_L118 at h
              refine lv_iload_n C.1 C.2.1 dX10_join_118 rfl (lv_at hl 2 rfl) ?_
              refine lv_aload_n C.1 C.2.1 dX10_join_119 rfl (lv_at hl 0 rfl) ?_
              refine z_get C X zk10 (hI.1 101 (by decide)) rfl 2 (by decide) kw_1034 (zR Ω 104) (zfvF (off := 3) X.2.2.2 (hI.1 101 (by decide)) hI.2 rfl rfl (by decide)) dX10_join_120 ?_
              refine z_iconst C dX10_join_123 ?_
              have g_124 : Rg (μ_7 104 1) := zrg1 X.2.2.2 (hI.1 104 (by decide)) rfl
              refine z_iald C X (hI.1 104 (by decide)) rfl (by decide) dX10_join_124 ?_
              refine z_icmpge C gx_6 g_124 (tgt := 200) dX10_join_125 (by decide) (fun hc125 => ?_) (fun hc125 => ?_)
              · rw [if_neg hc125] at h
                exact K200 μ_7 _ _ _ X (lv_sub hl [0] rfl) h
              · rw [if_pos hc125] at h
                refine lv_aload_n C.1 C.2.1 dX10_join_128 rfl (lv_at hl 0 rfl) ?_
                refine lv_aload_n C.1 C.2.1 dX10_join_129 rfl (lv_at hl 0 rfl) ?_
                refine z_get C X zk10 (hI.1 101 (by decide)) rfl 5 (by decide) kw_1037 (zR Ω 107) (zfvF (off := 6) X.2.2.2 (hI.1 101 (by decide)) hI.2 rfl rfl (by decide)) dX10_join_130 ?_
                refine z_bipush C dX10_join_133 (by decide) ?_
                refine lv_iload_n C.1 C.2.1 dX10_join_135 rfl (lv_at hl 2 rfl) ?_
                refine z_iadd C dX10_join_136 ?_
                obtain ⟨hc137, h⟩ := chk_some h
                have g_137 : Rg (μ_7 107 (zw (32 + x_6))) := zrg1 X.2.2.2 (hI.1 107 (by decide)) rfl
                refine z_iald C X (hI.1 107 (by decide)) rfl hc137 dX10_join_137 ?_
                refine zlet_elim h (fun μ_8 em h => ?_)
                refine z_putI C X zk10 (hI.1 101 (by decide)) rfl 13 (by decide) kw_1045 rfl rfl rfl rfl g_137 em dX10_join_138 (fun H locs X => ?_)
                clear em
                refine z_iconst C dX10_join_141 ?_
                refine lv_istore_n C.1 C.2.1 (lv' := [(3, zI 0), (0, zR Ω 101), (1, zI x_1), (2, zI x_6)]) dX10_join_142 rfl hl (by decide) rfl (fun ls hl => ?_)
                have K188 : ∀ (μ_9 : zMem) (H : Heap) (locs : List Loc) (ls : Array Slot), zX Ω μ_9 (zfree Ω) s.heap H locs → lv_has ls 5 [(0, zR Ω 101), (1, zI x_1), (2, zI x_6)] → (f_X10_join_K188 x_6 (f_X10_join_L118 x_1 f_X10_join_K200 n118)) μ_9 = some (r, μ') → W p l e (zrm 1) s m args below meth c H locs 0 0 Q (F0 m 188 ls []) := by
                  intro μ_9 H locs ls  X hl h
                  unfold f_X10_join_K188 at h
                  refine lv_aload_n C.1 C.2.1 dX10_join_188 rfl (lv_at hl 0 rfl) ?_
                  refine z_iconst C dX10_join_189 ?_
                  obtain ⟨x_10, μ_11, hq190, h⟩ := bnd2_some h
                  refine z_callV1 C X zk10 (hI.1 101 (by decide)) rfl (As := [zI 0]) (M_X10_addFace hI μ_9 0 ⟨by decide, by decide⟩ hq190) zc_X10_addFace kw_1273 (zroom (by decide) (by decide)) rfl hl.1 rfl (Nat.le_of_ble_eq_true rfl) dX10_join_190 ⟨Nat.zero_le _, Nat.zero_le _⟩ (fun H locs g_190 X => ?_)
                  refine lv_pop C.1 C.2.1 dX10_join_193 rfl ?_
                  refine zlet_elim h (fun x_12 ex_12 h => ?_)
                  have gx_12 : Rg x_12 := by rw [ex_12]; exact Rg.w _
                  refine z_iinc C ex_12 dX10_join_194 hl (k := 2) rfl (by decide) (lv' := [(2, zI x_12), (0, zR Ω 101), (1, zI x_1)]) rfl (fun ls hl => ?_)
                  clear ex_12
                  refine lv_goto (tgt := 118) C.1 C.2.1 dX10_join_197 (by decide) ?_
                  exact ih118 x_12 μ_11 _ _ _ gx_12 X (lv_sub hl [1, 2, 0] rfl) h
                have L143 : ∀ (n143 : Nat) (x_13 : Int) (μ_14 : zMem) (H : Heap) (locs : List Loc) (ls : Array Slot), Rg x_13 → zX Ω μ_14 (zfree Ω) s.heap H locs → lv_has ls 5 [(0, zR Ω 101), (1, zI x_1), (2, zI x_6), (3, zI x_13)] → (f_X10_join_L143 x_1 x_6 (f_X10_join_K188 x_6 (f_X10_join_L118 x_1 f_X10_join_K200 n118)) n143 x_13 μ_14) = some (r, μ') → W p l e (zrm 1) s m args below meth c H locs 0 0 Q (F0 m 143 ls []) := by
                  intro n143
                  induction n143 with
                  | zero =>
                    intro x_13 μ_14 H locs ls _ _ _ h
                    cases h
                  | succ n143 ih143 =>
                    intro x_13 μ_14 H locs ls gx_13 X hl h
                    unfold f_X10_join_L143 at h
                    refine lv_iload_n C.1 C.2.1 dX10_join_143 rfl (lv_at hl 3 rfl) ?_
                    refine lv_aload_n C.1 C.2.1 dX10_join_144 rfl (lv_at hl 0 rfl) ?_
                    have g_145 : Rg (μ_14 101 13) := zrgf0 (ci := 10) X.2.2.2 (hI.1 101 (by decide)) rfl 13 rfl
                    refine z_get C X zk10 (hI.1 101 (by decide)) rfl 13 (by decide) kw_1045 (zI (μ_14 101 13)) rfl dX10_join_145 ?_
                    refine z_icmpge C gx_13 g_145 (tgt := 188) dX10_join_148 (by decide) (fun hc148 => ?_) (fun hc148 => ?_)
                    · rw [if_neg hc148] at h
                      exact K188 μ_14 _ _ _ X (lv_sub hl [0, 1, 2] rfl) h
                    · rw [if_pos hc148] at h
                      refine lv_aload_n C.1 C.2.1 dX10_join_151 rfl (lv_at hl 0 rfl) ?_
                      refine z_iconst C dX10_join_152 ?_
                      refine lv_iload_n C.1 C.2.1 dX10_join_153 rfl (lv_at hl 2 rfl) ?_
                      refine lv_iload_n C.1 C.2.1 dX10_join_154 rfl (lv_at hl 3 rfl) ?_
                      obtain ⟨x_15, hq155, h⟩ := bnd_some h
                      refine z_callV1 C X zk10 (hI.1 101 (by decide)) rfl (As := [zI 1, zI x_6, zI x_13]) (M_X10_rimAt hI μ_14 1 x_6 x_13 ⟨by decide, by decide⟩ gx_6 gx_13 hq155) zc_X10_rimAt kw_1321 (zroom (by decide) (by decide)) rfl hl.1 rfl (Nat.le_of_ble_eq_true rfl) dX10_join_155 ⟨Nat.zero_le _, Nat.zero_le _⟩ (fun H locs g_155 X => ?_)
                      refine lv_istore C.1 C.2.1 (lv' := [(4, zI x_15), (0, zR Ω 101), (1, zI x_1), (2, zI x_6), (3, zI x_13)]) dX10_join_158 hl (by decide) rfl (fun ls hl => ?_)
                      refine lv_aload_n C.1 C.2.1 dX10_join_160 rfl (lv_at hl 1 rfl) ?_
                      refine z_get C X zk10 (hI.1 101 (by decide)) rfl 14 (by decide) kw_1046 (zR Ω 116) (zfvF (off := 15) X.2.2.2 (hI.1 101 (by decide)) hI.2 rfl rfl (by decide)) dX10_join_161 ?_
                      refine lv_iload_n C.1 C.2.1 dX10_join_164 rfl (lv_at hl 4 rfl) ?_
                      refine lv_iload C.1 C.2.1 dX10_join_165 (lv_at hl 0 rfl) ?_
                      have K181 : ∀ (x_16 : Int) (μ_17 : zMem) (H : Heap) (locs : List Loc) (ls : Array Slot), Rg x_16 → zX Ω μ_17 (zfree Ω) s.heap H locs → lv_has ls 5 [(0, zR Ω 101), (1, zI x_1), (2, zI x_6), (3, zI x_13)] → (f_X10_join_J181 x_13 (f_X10_join_L143 x_1 x_6 (f_X10_join_K188 x_6 (f_X10_join_L118 x_1 f_X10_join_K200 n118)) n143)) x_16 μ_17 = some (r, μ') → W p l e (zrm 1) s m args below meth c H locs 0 0 Q (F0 m 181 ls [zI x_16, zI x_13, zR Ω 116]) := by
                        intro x_16 μ_17 H locs ls gx_16 X hl h
                        unfold f_X10_join_J181 at h
                        obtain ⟨hc181, h⟩ := chk_some h
                        refine zlet_elim h (fun μ_18 em h => ?_)
                        refine z_iast C X (hI.1 116 (by decide)) rfl hc181 (zok1 rfl gx_16) em dX10_join_181 (fun H locs X => ?_)
                        clear em
                        refine zlet_elim h (fun x_19 ex_19 h => ?_)
                        have gx_19 : Rg x_19 := by rw [ex_19]; exact Rg.w _
                        refine z_iinc C ex_19 dX10_join_182 hl (k := 3) rfl (by decide) (lv' := [(3, zI x_19), (0, zR Ω 101), (1, zI x_1), (2, zI x_6)]) rfl (fun ls hl => ?_)
                        clear ex_19
                        refine lv_goto (tgt := 143) C.1 C.2.1 dX10_join_185 (by decide) ?_
                        exact ih143 x_19 μ_18 _ _ _ gx_19 X (lv_sub hl [1, 2, 3, 0] rfl) h
                      refine z_ifle C g_155 (tgt := 177) dX10_join_167 (by decide) (fun hc167 => ?_) (fun hc167 => ?_)
                      · rw [if_pos hc167] at h
                        refine lv_iload C.1 C.2.1 dX10_join_177 (lv_at hl 0 rfl) ?_
                        refine lv_iload_n C.1 C.2.1 dX10_join_179 rfl (lv_at hl 2 rfl) ?_
                        refine z_isub C dX10_join_180 ?_
                        exact K181 (zw (x_15 - x_1)) μ_14 _ _ _ (Rg.w _) X (lv_sub hl [1, 2, 3, 4] rfl) h
                      · rw [if_neg hc167] at h
                        refine lv_iload C.1 C.2.1 dX10_join_170 (lv_at hl 0 rfl) ?_
                        refine lv_iload_n C.1 C.2.1 dX10_join_172 rfl (lv_at hl 2 rfl) ?_
                        refine z_iadd C dX10_join_173 ?_
                        refine lv_goto (tgt := 181) C.1 C.2.1 dX10_join_174 (by decide) ?_
                        exact K181 (zw (x_15 + x_1)) μ_14 _ _ _ (Rg.w _) X (lv_sub hl [1, 2, 3, 4] rfl) h
                exact L143 zfu 0 μ_8 _ _ _ ⟨by decide, by decide⟩ X (lv_sub hl [1, 2, 3, 0] rfl) h
          exact L118 zfu 0 μ_2 _ _ _ ⟨by decide, by decide⟩ X (lv_sub hl [1, 2, 0] rfl) h
        have L68 : ∀ (n68 : Nat) (x_20 : Int) (μ_21 : zMem) (H : Heap) (locs : List Loc) (ls : Array Slot), Rg x_20 → zX Ω μ_21 (zfree Ω) s.heap H locs → lv_has ls 5 [(0, zR Ω 101), (1, zI x_1), (2, zI x_20)] → (f_X10_join_L68 (f_X10_join_K116 x_1) n68 x_20 μ_21) = some (r, μ') → W p l e (zrm 1) s m args below meth c H locs 0 0 Q (F0 m 68 ls []) := by
          intro n68
          induction n68 with
          | zero =>
            intro x_20 μ_21 H locs ls _ _ _ h
            cases h
          | succ n68 ih68 =>
            intro x_20 μ_21 H locs ls gx_20 X hl h
            unfold f_X10_join_L68 at h
            refine lv_iload_n C.1 C.2.1 dX10_join_68 rfl (lv_at hl 2 rfl) ?_
            refine lv_aload_n C.1 C.2.1 dX10_join_69 rfl (lv_at hl 0 rfl) ?_
            refine z_get C X zk10 (hI.1 101 (by decide)) rfl 1 (by decide) kw_1033 (zR Ω 103) (zfvF (off := 2) X.2.2.2 (hI.1 101 (by decide)) hI.2 rfl rfl (by decide)) dX10_join_70 ?_
            refine z_iconst C dX10_join_73 ?_
            have g_74 : Rg (μ_21 103 1) := zrg1 X.2.2.2 (hI.1 103 (by decide)) rfl
            refine z_iald C X (hI.1 103 (by decide)) rfl (by decide) dX10_join_74 ?_
            refine z_icmpge C gx_20 g_74 (tgt := 116) dX10_join_75 (by decide) (fun hc75 => ?_) (fun hc75 => ?_)
            · rw [if_neg hc75] at h
              exact K116 μ_21 _ _ _ X (lv_sub hl [0, 1] rfl) h
            · rw [if_pos hc75] at h
              refine lv_aload_n C.1 C.2.1 dX10_join_78 rfl (lv_at hl 0 rfl) ?_
              refine z_iconst C dX10_join_79 ?_
              refine lv_aload_n C.1 C.2.1 dX10_join_80 rfl (lv_at hl 0 rfl) ?_
              refine lv_aload_n C.1 C.2.1 dX10_join_81 rfl (lv_at hl 0 rfl) ?_
              refine z_get C X zk10 (hI.1 101 (by decide)) rfl 3 (by decide) kw_1035 (zR Ω 105) (zfvF (off := 4) X.2.2.2 (hI.1 101 (by decide)) hI.2 rfl rfl (by decide)) dX10_join_82 ?_
              refine z_bipush C dX10_join_85 (by decide) ?_
              refine lv_iload_n C.1 C.2.1 dX10_join_87 rfl (lv_at hl 2 rfl) ?_
              refine z_iadd C dX10_join_88 ?_
              obtain ⟨hc89, h⟩ := chk_some h
              have g_89 : Rg (μ_21 105 (zw (48 + x_20))) := zrg1 X.2.2.2 (hI.1 105 (by decide)) rfl
              refine z_iald C X (hI.1 105 (by decide)) rfl hc89 dX10_join_89 ?_
              refine z_callV1 C X zk10 (hI.1 101 (by decide)) rfl (As := [zI (μ_21 105 (zw (48 + x_20)))]) (M_X10_joinedCorner hI μ_21 (μ_21 105 (zw (48 + x_20))) g_89) zc_X10_joinedCorner kw_1553 (zroom (by decide) (by decide)) rfl hl.1 rfl (Nat.le_of_ble_eq_true rfl) dX10_join_90 ⟨Nat.zero_le _, Nat.zero_le _⟩ (fun H locs g_90 X => ?_)
              refine lv_aload_n C.1 C.2.1 dX10_join_93 rfl (lv_at hl 0 rfl) ?_
              refine lv_aload_n C.1 C.2.1 dX10_join_94 rfl (lv_at hl 0 rfl) ?_
              refine z_get C X zk10 (hI.1 101 (by decide)) rfl 4 (by decide) kw_1036 (zR Ω 106) (zfvF (off := 5) X.2.2.2 (hI.1 101 (by decide)) hI.2 rfl rfl (by decide)) dX10_join_95 ?_
              refine z_bipush C dX10_join_98 (by decide) ?_
              refine lv_iload_n C.1 C.2.1 dX10_join_100 rfl (lv_at hl 2 rfl) ?_
              refine z_iadd C dX10_join_101 ?_
              obtain ⟨hc102, h⟩ := chk_some h
              have g_102 : Rg (μ_21 106 (zw (48 + x_20))) := zrg1 X.2.2.2 (hI.1 106 (by decide)) rfl
              refine z_iald C X (hI.1 106 (by decide)) rfl hc102 dX10_join_102 ?_
              refine z_callV1 C X zk10 (hI.1 101 (by decide)) rfl (As := [zI (μ_21 106 (zw (48 + x_20)))]) (M_X10_joinedCorner hI μ_21 (μ_21 106 (zw (48 + x_20))) g_102) zc_X10_joinedCorner kw_1553 (zroom (by decide) (by decide)) rfl hl.1 rfl (Nat.le_of_ble_eq_true rfl) dX10_join_103 ⟨Nat.zero_le _, Nat.zero_le _⟩ (fun H locs g_103 X => ?_)
              obtain ⟨x_22, μ_23, hq106, h⟩ := bnd2_some h
              refine z_callV1 C X zk10 (hI.1 101 (by decide)) rfl (As := [zI 0, zI (f_X10_joinedCorner (μ_21 105 (zw (48 + x_20))) μ_21), zI (f_X10_joinedCorner (μ_21 106 (zw (48 + x_20))) μ_21)]) (M_X10_addEdge hI μ_21 0 (f_X10_joinedCorner (μ_21 105 (zw (48 + x_20))) μ_21) (f_X10_joinedCorner (μ_21 106 (zw (48 + x_20))) μ_21) ⟨by decide, by decide⟩ g_90 g_103 hq106) zc_X10_addEdge kw_1232 (zroom (by decide) (by decide)) rfl hl.1 rfl (Nat.le_of_ble_eq_true rfl) dX10_join_106 ⟨Nat.zero_le _, Nat.zero_le _⟩ (fun H locs g_106 X => ?_)
              refine lv_pop C.1 C.2.1 dX10_join_109 rfl ?_
              refine zlet_elim h (fun x_24 ex_24 h => ?_)
              have gx_24 : Rg x_24 := by rw [ex_24]; exact Rg.w _
              refine z_iinc C ex_24 dX10_join_110 hl (k := 2) rfl (by decide) (lv' := [(2, zI x_24), (0, zR Ω 101), (1, zI x_1)]) rfl (fun ls hl => ?_)
              clear ex_24
              refine lv_goto (tgt := 68) C.1 C.2.1 dX10_join_113 (by decide) ?_
              exact ih68 x_24 μ_23 _ _ _ gx_24 X (lv_sub hl [1, 2, 0] rfl) h
        exact L68 zfu 0 μ _ _ _ ⟨by decide, by decide⟩ X (lv_sub hl [2, 1, 0] rfl) h
      · rw [if_neg hc53] at h
        refine z_bipush C dX10_join_56 (by decide) ?_
        obtain ⟨rfl, rfl⟩ := Prod.mk.inj (Option.some.inj h)
        exact rt X ⟨by decide, by decide⟩ dX10_join_58
theorem zc_X10_join : zcal yX10_join cX10_join 5 (some Jvm.ClassFile.FieldType.int) RX10 0 := ⟨⟨kw_1552, kw_1550, kw_1551, kw_12⟩, rfl, by decide, by decide, by decide +kernel⟩

def f_X10_sheet_L48 (x1 : Int) (x3 : Int) : Nat → Int → zMem → Option (Int × zMem)
  | 0, _, _ => none
  | n + 1, x_3, μ_4 =>
    if x_3 < 20 then
      chk ((0 : Int) ≤ (zw ((zw (20 * x1)) + x_3)) ∧ (zw ((zw (20 * x1)) + x_3)) < 80) <|
      zlet (zup μ_4 160 (zw ((zw (20 * x1)) + x_3)) 0) fun μ_5 =>
      zlet (zw (x_3 + 1)) fun x_6 =>
      (f_X10_sheet_L48 x1 x3 n) x_6 μ_5
    else
      some (x3, μ_4)
def f_X10_sheet (x1 : Int) (x2 : Int) (x3 : Int) (μ : zMem) : Option (Int × zMem) :=
  if (f_X10_isSheet x1) = 0 then
    some ((-1), μ)
  else
    if (f_X10_in x2 0 2) = 0 then
      some ((-1), μ)
    else
      if x3 ≤ 20 then
        if x3 < 0 then
          some ((-14), μ)
        else
          chk ((0 : Int) ≤ x1 ∧ x1 < 4) <|
          zlet (zup μ 158 x1 x2) fun μ_1 =>
          chk ((0 : Int) ≤ x1 ∧ x1 < 4) <|
          zlet (zup μ_1 159 x1 x3) fun μ_2 =>
          (f_X10_sheet_L48 x1 x3) zfu 0 μ_2
      else
        some ((-1), μ)
set_option maxHeartbeats 4000000 in
set_option maxRecDepth 100000 in
theorem M_X10_sheet {l : Launch} {Ω : zO} (hI : zIm Ω) (μ : zMem) (x1 : Int) (x2 : Int) (x3 : Int) {r : Int} {μ' : zMem} (gx1 : Rg x1) (gx2 : Rg x2) (gx3 : Rg x3) (h : f_X10_sheet x1 x2 x3 μ = some (r, μ')) : XMet l yX10_sheet cX10_sheet 5 (some Jvm.ClassFile.FieldType.int) 2 Ω [zR Ω 101, zI x1, zI x2, zI x3] μ (some (zI r)) (Rg r) μ' := by
  refine XMet.ofI (by decide) (Nat.le_of_ble_eq_true rfl) ?_
  intro p e s m args below meth c ls Q C rt X hl
  have C : zC p s m args c cX10_sheet RX10 5 Ω := C
  have hl : lv_has ls 5 [(0, zR Ω 101), (1, zI x1), (2, zI x2), (3, zI x3)] := hl
  unfold f_X10_sheet at h
  skip
  refine lv_iload_n C.1 C.2.1 dX10_sheet_0 rfl (lv_at hl 1 rfl) ?_
  refine z_callS1 C X (As := [zI x1]) (M_X10_isSheet hI μ x1 gx1) zc_X10_isSheet kw_1478 (zroom (by decide) (by decide)) rfl hl.1 rfl (Nat.le_of_ble_eq_true rfl) dX10_sheet_1 ⟨Nat.zero_le _, Nat.zero_le _⟩ (fun H locs g_1 X => ?_)
  refine z_ifeq C (rgz g_1) (tgt := 22) dX10_sheet_4 (by decide) (fun hc4 => ?_) (fun hc4 => ?_)
  · rw [if_pos hc4] at h
    refine z_iconst C dX10_sheet_22 ?_
    obtain ⟨rfl, rfl⟩ := Prod.mk.inj (Option.some.inj h)
    exact rt X ⟨by decide, by decide⟩ dX10_sheet_23
  · rw [if_neg hc4] at h
    refine lv_iload_n C.1 C.2.1 dX10_sheet_7 rfl (lv_at hl 2 rfl) ?_
    refine z_iconst C dX10_sheet_8 ?_
    refine z_iconst C dX10_sheet_9 ?_
    refine z_callS1 C X (As := [zI x2, zI 0, zI 2]) (M_X10_in hI μ x2 0 2 gx2 ⟨by decide, by decide⟩ ⟨by decide, by decide⟩) zc_X10_in kw_1217 (zroom (by decide) (by decide)) rfl hl.1 rfl (Nat.le_of_ble_eq_true rfl) dX10_sheet_10 ⟨Nat.zero_le _, Nat.zero_le _⟩ (fun H locs g_10 X => ?_)
    refine z_ifeq C (rgz g_10) (tgt := 22) dX10_sheet_13 (by decide) (fun hc13 => ?_) (fun hc13 => ?_)
    · rw [if_pos hc13] at h
      refine z_iconst C dX10_sheet_22 ?_
      obtain ⟨rfl, rfl⟩ := Prod.mk.inj (Option.some.inj h)
      exact rt X ⟨by decide, by decide⟩ dX10_sheet_23
    · rw [if_neg hc13] at h
      refine lv_iload_n C.1 C.2.1 dX10_sheet_16 rfl (lv_at hl 3 rfl) ?_
      refine z_bipush C dX10_sheet_17 (by decide) ?_
      refine z_icmple C gx3 ⟨by decide, by decide⟩ (tgt := 24) dX10_sheet_19 (by decide) (fun hc19 => ?_) (fun hc19 => ?_)
      · rw [if_pos hc19] at h
        refine lv_iload_n C.1 C.2.1 dX10_sheet_24 rfl (lv_at hl 3 rfl) ?_
        refine z_ifge C gx3 (tgt := 31) dX10_sheet_25 (by decide) (fun hc25 => ?_) (fun hc25 => ?_)
        · rw [if_neg hc25] at h
          refine lv_aload_n C.1 C.2.1 dX10_sheet_31 rfl (lv_at hl 0 rfl) ?_
          refine z_get C X zk10 (hI.1 101 (by decide)) rfl 56 (by decide) kw_1088 (zR Ω 158) (zfvF (off := 57) X.2.2.2 (hI.1 101 (by decide)) hI.2 rfl rfl (by decide)) dX10_sheet_32 ?_
          refine lv_iload_n C.1 C.2.1 dX10_sheet_35 rfl (lv_at hl 1 rfl) ?_
          refine lv_iload_n C.1 C.2.1 dX10_sheet_36 rfl (lv_at hl 2 rfl) ?_
          obtain ⟨hc37, h⟩ := chk_some h
          refine zlet_elim h (fun μ_1 em h => ?_)
          refine z_iast C X (hI.1 158 (by decide)) rfl hc37 (zok1 rfl gx2) em dX10_sheet_37 (fun H locs X => ?_)
          clear em
          refine lv_aload_n C.1 C.2.1 dX10_sheet_38 rfl (lv_at hl 0 rfl) ?_
          refine z_get C X zk10 (hI.1 101 (by decide)) rfl 57 (by decide) kw_1089 (zR Ω 159) (zfvF (off := 58) X.2.2.2 (hI.1 101 (by decide)) hI.2 rfl rfl (by decide)) dX10_sheet_39 ?_
          refine lv_iload_n C.1 C.2.1 dX10_sheet_42 rfl (lv_at hl 1 rfl) ?_
          refine lv_iload_n C.1 C.2.1 dX10_sheet_43 rfl (lv_at hl 3 rfl) ?_
          obtain ⟨hc44, h⟩ := chk_some h
          refine zlet_elim h (fun μ_2 em h => ?_)
          refine z_iast C X (hI.1 159 (by decide)) rfl hc44 (zok1 rfl gx3) em dX10_sheet_44 (fun H locs X => ?_)
          clear em
          refine z_iconst C dX10_sheet_45 ?_
          refine lv_istore C.1 C.2.1 (lv' := [(4, zI 0), (0, zR Ω 101), (1, zI x1), (2, zI x2), (3, zI x3)]) dX10_sheet_46 hl (by decide) rfl (fun ls hl => ?_)
          have L48 : ∀ (n48 : Nat) (x_3 : Int) (μ_4 : zMem) (H : Heap) (locs : List Loc) (ls : Array Slot), Rg x_3 → zX Ω μ_4 (zfree Ω) s.heap H locs → lv_has ls 5 [(0, zR Ω 101), (1, zI x1), (3, zI x3), (4, zI x_3)] → (f_X10_sheet_L48 x1 x3 n48 x_3 μ_4) = some (r, μ') → W p l e (zrm 2) s m args below meth c H locs 0 0 Q (F0 m 48 ls []) := by
            intro n48
            induction n48 with
            | zero =>
              intro x_3 μ_4 H locs ls _ _ _ h
              cases h
            | succ n48 ih48 =>
              intro x_3 μ_4 H locs ls gx_3 X hl h
              unfold f_X10_sheet_L48 at h
              refine lv_iload C.1 C.2.1 dX10_sheet_48 (lv_at hl 3 rfl) ?_
              refine z_bipush C dX10_sheet_50 (by decide) ?_
              refine z_icmpge C gx_3 ⟨by decide, by decide⟩ (tgt := 74) dX10_sheet_52 (by decide) (fun hc52 => ?_) (fun hc52 => ?_)
              · rw [if_neg hc52] at h
                refine lv_iload_n C.1 C.2.1 dX10_sheet_74 rfl (lv_at hl 2 rfl) ?_
                obtain ⟨rfl, rfl⟩ := Prod.mk.inj (Option.some.inj h)
                exact rt X gx3 dX10_sheet_75
              · rw [if_pos hc52] at h
                refine lv_aload_n C.1 C.2.1 dX10_sheet_55 rfl (lv_at hl 0 rfl) ?_
                refine z_get C X zk10 (hI.1 101 (by decide)) rfl 58 (by decide) kw_1090 (zR Ω 160) (zfvF (off := 59) X.2.2.2 (hI.1 101 (by decide)) hI.2 rfl rfl (by decide)) dX10_sheet_56 ?_
                refine z_bipush C dX10_sheet_59 (by decide) ?_
                refine lv_iload_n C.1 C.2.1 dX10_sheet_61 rfl (lv_at hl 1 rfl) ?_
                refine z_imul C dX10_sheet_62 ?_
                refine lv_iload C.1 C.2.1 dX10_sheet_63 (lv_at hl 3 rfl) ?_
                refine z_iadd C dX10_sheet_65 ?_
                refine z_iconst C dX10_sheet_66 ?_
                obtain ⟨hc67, h⟩ := chk_some h
                refine zlet_elim h (fun μ_5 em h => ?_)
                refine z_iast C X (hI.1 160 (by decide)) rfl hc67 (zok1 rfl ⟨by decide, by decide⟩) em dX10_sheet_67 (fun H locs X => ?_)
                clear em
                refine zlet_elim h (fun x_6 ex_6 h => ?_)
                have gx_6 : Rg x_6 := by rw [ex_6]; exact Rg.w _
                refine z_iinc C ex_6 dX10_sheet_68 hl (k := 3) rfl (by decide) (lv' := [(4, zI x_6), (0, zR Ω 101), (1, zI x1), (3, zI x3)]) rfl (fun ls hl => ?_)
                clear ex_6
                refine lv_goto (tgt := 48) C.1 C.2.1 dX10_sheet_71 (by decide) ?_
                exact ih48 x_6 μ_5 _ _ _ gx_6 X (lv_sub hl [1, 2, 3, 0] rfl) h
          exact L48 zfu 0 μ_2 _ _ _ ⟨by decide, by decide⟩ X (lv_sub hl [1, 2, 4, 0] rfl) h
        · rw [if_pos hc25] at h
          refine z_bipush C dX10_sheet_28 (by decide) ?_
          obtain ⟨rfl, rfl⟩ := Prod.mk.inj (Option.some.inj h)
          exact rt X ⟨by decide, by decide⟩ dX10_sheet_30
      · rw [if_neg hc19] at h
        refine z_iconst C dX10_sheet_22 ?_
        obtain ⟨rfl, rfl⟩ := Prod.mk.inj (Option.some.inj h)
        exact rt X ⟨by decide, by decide⟩ dX10_sheet_23
theorem zc_X10_sheet : zcal yX10_sheet cX10_sheet 5 (some Jvm.ClassFile.FieldType.int) RX10 3 := ⟨⟨kw_1560, kw_1558, kw_1559, kw_12⟩, rfl, by decide, by decide, by decide +kernel⟩

def f_X10_drop (x1 : Int) (μ : zMem) : Option (Int × zMem) :=
  if (f_X10_isSheet x1) = 0 then
    some ((-1), μ)
  else
    chk ((0 : Int) ≤ x1 ∧ x1 < 4) <|
    if (μ 158 x1) < 0 then
      some ((-11), μ)
    else
      chk ((0 : Int) ≤ x1 ∧ x1 < 4) <|
      zlet (zup μ 158 x1 (-4)) fun μ_1 =>
      chk ((0 : Int) ≤ x1 ∧ x1 < 4) <|
      some ((μ_1 159 x1), μ_1)
set_option maxHeartbeats 4000000 in
set_option maxRecDepth 100000 in
theorem M_X10_drop {l : Launch} {Ω : zO} (hI : zIm Ω) (μ : zMem) (x1 : Int) {r : Int} {μ' : zMem} (gx1 : Rg x1) (h : f_X10_drop x1 μ = some (r, μ')) : XMet l yX10_drop cX10_drop 2 (some Jvm.ClassFile.FieldType.int) 2 Ω [zR Ω 101, zI x1] μ (some (zI r)) (Rg r) μ' := by
  refine XMet.ofI (by decide) (Nat.le_of_ble_eq_true rfl) ?_
  intro p e s m args below meth c ls Q C rt X hl
  have C : zC p s m args c cX10_drop RX10 2 Ω := C
  have hl : lv_has ls 2 [(0, zR Ω 101), (1, zI x1)] := hl
  unfold f_X10_drop at h
  skip
  refine lv_iload_n C.1 C.2.1 dX10_drop_0 rfl (lv_at hl 1 rfl) ?_
  refine z_callS1 C X (As := [zI x1]) (M_X10_isSheet hI μ x1 gx1) zc_X10_isSheet kw_1478 (zroom (by decide) (by decide)) rfl hl.1 rfl (Nat.le_of_ble_eq_true rfl) dX10_drop_1 ⟨Nat.zero_le _, Nat.zero_le _⟩ (fun H locs g_1 X => ?_)
  refine z_ifne C (rgz g_1) (tgt := 9) dX10_drop_4 (by decide) (fun hc4 => ?_) (fun hc4 => ?_)
  · rw [if_neg hc4] at h
    refine lv_aload_n C.1 C.2.1 dX10_drop_9 rfl (lv_at hl 0 rfl) ?_
    refine z_get C X zk10 (hI.1 101 (by decide)) rfl 56 (by decide) kw_1088 (zR Ω 158) (zfvF (off := 57) X.2.2.2 (hI.1 101 (by decide)) hI.2 rfl rfl (by decide)) dX10_drop_10 ?_
    refine lv_iload_n C.1 C.2.1 dX10_drop_13 rfl (lv_at hl 1 rfl) ?_
    obtain ⟨hc14, h⟩ := chk_some h
    have g_14 : Rg (μ 158 x1) := zrg1 X.2.2.2 (hI.1 158 (by decide)) rfl
    refine z_iald C X (hI.1 158 (by decide)) rfl hc14 dX10_drop_14 ?_
    refine z_ifge C g_14 (tgt := 21) dX10_drop_15 (by decide) (fun hc15 => ?_) (fun hc15 => ?_)
    · rw [if_neg hc15] at h
      refine lv_aload_n C.1 C.2.1 dX10_drop_21 rfl (lv_at hl 0 rfl) ?_
      refine z_get C X zk10 (hI.1 101 (by decide)) rfl 56 (by decide) kw_1088 (zR Ω 158) (zfvF (off := 57) X.2.2.2 (hI.1 101 (by decide)) hI.2 rfl rfl (by decide)) dX10_drop_22 ?_
      refine lv_iload_n C.1 C.2.1 dX10_drop_25 rfl (lv_at hl 1 rfl) ?_
      refine z_bipush C dX10_drop_26 (by decide) ?_
      obtain ⟨hc28, h⟩ := chk_some h
      refine zlet_elim h (fun μ_1 em h => ?_)
      refine z_iast C X (hI.1 158 (by decide)) rfl hc28 (zok1 rfl ⟨by decide, by decide⟩) em dX10_drop_28 (fun H locs X => ?_)
      clear em
      refine lv_aload_n C.1 C.2.1 dX10_drop_29 rfl (lv_at hl 0 rfl) ?_
      refine z_get C X zk10 (hI.1 101 (by decide)) rfl 57 (by decide) kw_1089 (zR Ω 159) (zfvF (off := 58) X.2.2.2 (hI.1 101 (by decide)) hI.2 rfl rfl (by decide)) dX10_drop_30 ?_
      refine lv_iload_n C.1 C.2.1 dX10_drop_33 rfl (lv_at hl 1 rfl) ?_
      obtain ⟨hc34, h⟩ := chk_some h
      have g_34 : Rg (μ_1 159 x1) := zrg1 X.2.2.2 (hI.1 159 (by decide)) rfl
      refine z_iald C X (hI.1 159 (by decide)) rfl hc34 dX10_drop_34 ?_
      obtain ⟨rfl, rfl⟩ := Prod.mk.inj (Option.some.inj h)
      exact rt X g_34 dX10_drop_35
    · rw [if_pos hc15] at h
      refine z_bipush C dX10_drop_18 (by decide) ?_
      obtain ⟨rfl, rfl⟩ := Prod.mk.inj (Option.some.inj h)
      exact rt X ⟨by decide, by decide⟩ dX10_drop_20
  · rw [if_pos hc4] at h
    refine z_iconst C dX10_drop_7 ?_
    obtain ⟨rfl, rfl⟩ := Prod.mk.inj (Option.some.inj h)
    exact rt X ⟨by decide, by decide⟩ dX10_drop_8
theorem zc_X10_drop : zcal yX10_drop cX10_drop 2 (some Jvm.ClassFile.FieldType.int) RX10 1 := ⟨⟨kw_1564, kw_1562, kw_1563, kw_12⟩, rfl, by decide, by decide, by decide +kernel⟩

def f_X10_item_J95 (x1 : Int) (x3 : Int) (x_1 : Int) (μ_2 : zMem) : Option (Int × zMem) :=
  chk ((0 : Int) ≤ (zw ((zw (20 * x1)) + x3)) ∧ (zw ((zw (20 * x1)) + x3)) < 80) <|
  zlet (zup μ_2 160 (zw ((zw (20 * x1)) + x3)) x_1) fun μ_3 =>
  some (1, μ_3)
def f_X10_item (x1 : Int) (x2 : Int) (x3 : Int) (x4 : Int) (μ : zMem) : Option (Int × zMem) :=
  if (f_X10_isSheet x1) = 0 then
    some ((-1), μ)
  else
    if (f_X10_in x2 0 2) = 0 then
      some ((-1), μ)
    else
      chk ((0 : Int) ≤ x1 ∧ x1 < 4) <|
      if (μ 158 x1) < 0 then
        some ((-11), μ)
      else
        chk ((0 : Int) ≤ x1 ∧ x1 < 4) <|
        if (μ 158 x1) = x2 then
          chk ((0 : Int) ≤ x1 ∧ x1 < 4) <|
          if (f_X10_in x3 0 (zw ((μ 159 x1) - 1))) = 0 then
            some ((-13), μ)
          else
            (f_X10_item_J95 x1 x3) (if x2 = 0 then (zb x4) else (if x2 = 1 then (zs x4) else x4)) μ
        else
          some ((-12), μ)
set_option maxHeartbeats 4000000 in
set_option maxRecDepth 100000 in
theorem M_X10_item {l : Launch} {Ω : zO} (hI : zIm Ω) (μ : zMem) (x1 : Int) (x2 : Int) (x3 : Int) (x4 : Int) {r : Int} {μ' : zMem} (gx1 : Rg x1) (gx2 : Rg x2) (gx3 : Rg x3) (gx4 : Rg x4) (h : f_X10_item x1 x2 x3 x4 μ = some (r, μ')) : XMet l yX10_item cX10_item 5 (some Jvm.ClassFile.FieldType.int) 2 Ω [zR Ω 101, zI x1, zI x2, zI x3, zI x4] μ (some (zI r)) (Rg r) μ' := by
  refine XMet.ofI (by decide) (Nat.le_of_ble_eq_true rfl) ?_
  intro p e s m args below meth c ls Q C rt X hl
  have C : zC p s m args c cX10_item RX10 5 Ω := C
  have hl : lv_has ls 5 [(0, zR Ω 101), (1, zI x1), (2, zI x2), (3, zI x3), (4, zI x4)] := hl
  unfold f_X10_item at h
  skip
  refine lv_iload_n C.1 C.2.1 dX10_item_0 rfl (lv_at hl 1 rfl) ?_
  refine z_callS1 C X (As := [zI x1]) (M_X10_isSheet hI μ x1 gx1) zc_X10_isSheet kw_1478 (zroom (by decide) (by decide)) rfl hl.1 rfl (Nat.le_of_ble_eq_true rfl) dX10_item_1 ⟨Nat.zero_le _, Nat.zero_le _⟩ (fun H locs g_1 X => ?_)
  refine z_ifeq C (rgz g_1) (tgt := 16) dX10_item_4 (by decide) (fun hc4 => ?_) (fun hc4 => ?_)
  · rw [if_pos hc4] at h
    refine z_iconst C dX10_item_16 ?_
    obtain ⟨rfl, rfl⟩ := Prod.mk.inj (Option.some.inj h)
    exact rt X ⟨by decide, by decide⟩ dX10_item_17
  · rw [if_neg hc4] at h
    refine lv_iload_n C.1 C.2.1 dX10_item_7 rfl (lv_at hl 2 rfl) ?_
    refine z_iconst C dX10_item_8 ?_
    refine z_iconst C dX10_item_9 ?_
    refine z_callS1 C X (As := [zI x2, zI 0, zI 2]) (M_X10_in hI μ x2 0 2 gx2 ⟨by decide, by decide⟩ ⟨by decide, by decide⟩) zc_X10_in kw_1217 (zroom (by decide) (by decide)) rfl hl.1 rfl (Nat.le_of_ble_eq_true rfl) dX10_item_10 ⟨Nat.zero_le _, Nat.zero_le _⟩ (fun H locs g_10 X => ?_)
    refine z_ifne C (rgz g_10) (tgt := 18) dX10_item_13 (by decide) (fun hc13 => ?_) (fun hc13 => ?_)
    · rw [if_neg hc13] at h
      refine lv_aload_n C.1 C.2.1 dX10_item_18 rfl (lv_at hl 0 rfl) ?_
      refine z_get C X zk10 (hI.1 101 (by decide)) rfl 56 (by decide) kw_1088 (zR Ω 158) (zfvF (off := 57) X.2.2.2 (hI.1 101 (by decide)) hI.2 rfl rfl (by decide)) dX10_item_19 ?_
      refine lv_iload_n C.1 C.2.1 dX10_item_22 rfl (lv_at hl 1 rfl) ?_
      obtain ⟨hc23, h⟩ := chk_some h
      have g_23 : Rg (μ 158 x1) := zrg1 X.2.2.2 (hI.1 158 (by decide)) rfl
      refine z_iald C X (hI.1 158 (by decide)) rfl hc23 dX10_item_23 ?_
      refine z_ifge C g_23 (tgt := 30) dX10_item_24 (by decide) (fun hc24 => ?_) (fun hc24 => ?_)
      · rw [if_neg hc24] at h
        refine lv_aload_n C.1 C.2.1 dX10_item_30 rfl (lv_at hl 0 rfl) ?_
        refine z_get C X zk10 (hI.1 101 (by decide)) rfl 56 (by decide) kw_1088 (zR Ω 158) (zfvF (off := 57) X.2.2.2 (hI.1 101 (by decide)) hI.2 rfl rfl (by decide)) dX10_item_31 ?_
        refine lv_iload_n C.1 C.2.1 dX10_item_34 rfl (lv_at hl 1 rfl) ?_
        obtain ⟨hc35, h⟩ := chk_some h
        have g_35 : Rg (μ 158 x1) := zrg1 X.2.2.2 (hI.1 158 (by decide)) rfl
        refine z_iald C X (hI.1 158 (by decide)) rfl hc35 dX10_item_35 ?_
        refine lv_iload_n C.1 C.2.1 dX10_item_36 rfl (lv_at hl 2 rfl) ?_
        refine z_icmpeq C g_35 gx2 (tgt := 43) dX10_item_37 (by decide) (fun hc37 => ?_) (fun hc37 => ?_)
        · rw [if_pos hc37] at h
          refine lv_iload_n C.1 C.2.1 dX10_item_43 rfl (lv_at hl 3 rfl) ?_
          refine z_iconst C dX10_item_44 ?_
          refine lv_aload_n C.1 C.2.1 dX10_item_45 rfl (lv_at hl 0 rfl) ?_
          refine z_get C X zk10 (hI.1 101 (by decide)) rfl 57 (by decide) kw_1089 (zR Ω 159) (zfvF (off := 58) X.2.2.2 (hI.1 101 (by decide)) hI.2 rfl rfl (by decide)) dX10_item_46 ?_
          refine lv_iload_n C.1 C.2.1 dX10_item_49 rfl (lv_at hl 1 rfl) ?_
          obtain ⟨hc50, h⟩ := chk_some h
          have g_50 : Rg (μ 159 x1) := zrg1 X.2.2.2 (hI.1 159 (by decide)) rfl
          refine z_iald C X (hI.1 159 (by decide)) rfl hc50 dX10_item_50 ?_
          refine z_iconst C dX10_item_51 ?_
          refine z_isub C dX10_item_52 ?_
          refine z_callS1 C X (As := [zI x3, zI 0, zI (zw ((μ 159 x1) - 1))]) (M_X10_in hI μ x3 0 (zw ((μ 159 x1) - 1)) gx3 ⟨by decide, by decide⟩ (Rg.w _)) zc_X10_in kw_1217 (zroom (by decide) (by decide)) rfl hl.1 rfl (Nat.le_of_ble_eq_true rfl) dX10_item_53 ⟨Nat.zero_le _, Nat.zero_le _⟩ (fun H locs g_53 X => ?_)
          refine z_ifne C (rgz g_53) (tgt := 62) dX10_item_56 (by decide) (fun hc56 => ?_) (fun hc56 => ?_)
          · rw [if_neg hc56] at h
            refine lv_aload_n C.1 C.2.1 dX10_item_62 rfl (lv_at hl 0 rfl) ?_
            refine z_get C X zk10 (hI.1 101 (by decide)) rfl 58 (by decide) kw_1090 (zR Ω 160) (zfvF (off := 59) X.2.2.2 (hI.1 101 (by decide)) hI.2 rfl rfl (by decide)) dX10_item_63 ?_
            refine z_bipush C dX10_item_66 (by decide) ?_
            refine lv_iload_n C.1 C.2.1 dX10_item_68 rfl (lv_at hl 1 rfl) ?_
            refine z_imul C dX10_item_69 ?_
            refine lv_iload_n C.1 C.2.1 dX10_item_70 rfl (lv_at hl 3 rfl) ?_
            refine z_iadd C dX10_item_71 ?_
            refine lv_iload_n C.1 C.2.1 dX10_item_72 rfl (lv_at hl 2 rfl) ?_
            have K95 : ∀ (x_1 : Int) (μ_2 : zMem) (H : Heap) (locs : List Loc) (ls : Array Slot), Rg x_1 → zX Ω μ_2 (zfree Ω) s.heap H locs → lv_has ls 5 [] → (f_X10_item_J95 x1 x3) x_1 μ_2 = some (r, μ') → W p l e (zrm 2) s m args below meth c H locs 0 0 Q (F0 m 95 ls [zI x_1, zI (zw ((zw (20 * x1)) + x3)), zR Ω 160]) := by
              intro x_1 μ_2 H locs ls gx_1 X hl h
              unfold f_X10_item_J95 at h
              obtain ⟨hc95, h⟩ := chk_some h
              refine zlet_elim h (fun μ_3 em h => ?_)
              refine z_iast C X (hI.1 160 (by decide)) rfl hc95 (zok1 rfl gx_1) em dX10_item_95 (fun H locs X => ?_)
              clear em
              refine z_iconst C dX10_item_96 ?_
              obtain ⟨rfl, rfl⟩ := Prod.mk.inj (Option.some.inj h)
              exact rt X ⟨by decide, by decide⟩ dX10_item_97
            refine z_ifne C gx2 (tgt := 82) dX10_item_73 (by decide) (fun hc73 => ?_) (fun hc73 => ?_)
            · rw [if_neg hc73] at h
              refine lv_iload_n C.1 C.2.1 dX10_item_82 rfl (lv_at hl 2 rfl) ?_
              refine z_iconst C dX10_item_83 ?_
              refine z_icmpne C gx2 ⟨by decide, by decide⟩ (tgt := 93) dX10_item_84 (by decide) (fun hc84 => ?_) (fun hc84 => ?_)
              · rw [if_neg hc84] at h
                refine lv_iload C.1 C.2.1 dX10_item_93 (lv_at hl 4 rfl) ?_
                exact K95 x4 μ _ _ _ gx4 X (lv_sub hl [] rfl) h
              · rw [if_pos hc84] at h
                refine lv_iload C.1 C.2.1 dX10_item_87 (lv_at hl 4 rfl) ?_
                refine z_i2s C dX10_item_89 ?_
                refine lv_goto (tgt := 95) C.1 C.2.1 dX10_item_90 (by decide) ?_
                exact K95 (zs x4) μ _ _ _ (Rg.t _) X (lv_sub hl [] rfl) h
            · rw [if_pos hc73] at h
              refine lv_iload C.1 C.2.1 dX10_item_76 (lv_at hl 4 rfl) ?_
              refine z_i2b C dX10_item_78 ?_
              refine lv_goto (tgt := 95) C.1 C.2.1 dX10_item_79 (by decide) ?_
              exact K95 (zb x4) μ _ _ _ (Rg.t _) X (lv_sub hl [] rfl) h
          · rw [if_pos hc56] at h
            refine z_bipush C dX10_item_59 (by decide) ?_
            obtain ⟨rfl, rfl⟩ := Prod.mk.inj (Option.some.inj h)
            exact rt X ⟨by decide, by decide⟩ dX10_item_61
        · rw [if_neg hc37] at h
          refine z_bipush C dX10_item_40 (by decide) ?_
          obtain ⟨rfl, rfl⟩ := Prod.mk.inj (Option.some.inj h)
          exact rt X ⟨by decide, by decide⟩ dX10_item_42
      · rw [if_pos hc24] at h
        refine z_bipush C dX10_item_27 (by decide) ?_
        obtain ⟨rfl, rfl⟩ := Prod.mk.inj (Option.some.inj h)
        exact rt X ⟨by decide, by decide⟩ dX10_item_29
    · rw [if_pos hc13] at h
      refine z_iconst C dX10_item_16 ?_
      obtain ⟨rfl, rfl⟩ := Prod.mk.inj (Option.some.inj h)
      exact rt X ⟨by decide, by decide⟩ dX10_item_17
theorem zc_X10_item : zcal yX10_item cX10_item 5 (some Jvm.ClassFile.FieldType.int) RX10 4 := ⟨⟨kw_1568, kw_1566, kw_1567, kw_12⟩, rfl, by decide, by decide, by decide +kernel⟩

