def f_X10_isFaceInPart (x1 : Int) (x2 : Int) (μ : zMem) : Option Int :=
  bnd (f_X10_rimAt x1 x2 0 μ) fun x_1 =>
  bnd (f_X10_fromOf x1 x_1 μ) fun x_2 =>
  chk ((0 : Int) ≤ x_2 ∧ x_2 < 32) <|
  some (μ 120 x_2)
set_option maxHeartbeats 4000000 in
set_option maxRecDepth 100000 in
theorem M_X10_isFaceInPart {l : Launch} {Ω : zO} (hI : zIm Ω) (μ : zMem) (x1 : Int) (x2 : Int) {r : Int} (gx1 : Rg x1) (gx2 : Rg x2) (h : f_X10_isFaceInPart x1 x2 μ = some r) : XMet l yX10_isFaceInPart cX10_isFaceInPart 3 (some Jvm.ClassFile.FieldType.boolean) 1 Ω [zR Ω 101, zI x1, zI x2] μ (some (zI r)) (0 ≤ r ∧ r ≤ 1) μ := by
  refine XMet.ofZ (by decide) (Nat.le_of_ble_eq_true rfl) ?_
  intro p e s m args below meth c ls Q C rt X hl
  have C : zC p s m args c cX10_isFaceInPart RX10 3 Ω := C
  have hl : lv_has ls 3 [(0, zR Ω 101), (1, zI x1), (2, zI x2)] := hl
  unfold f_X10_isFaceInPart at h
  skip
  refine lv_aload_n C.1 C.2.1 dX10_isFaceInPart_0 rfl (lv_at hl 0 rfl) ?_
  refine z_get C X zk10 (hI.1 101 (by decide)) rfl 18 (by decide) kw_1050 (zR Ω 120) (zfvF (off := 19) X.2.2.2 (hI.1 101 (by decide)) hI.2 rfl rfl (by decide)) dX10_isFaceInPart_1 ?_
  refine lv_aload_n C.1 C.2.1 dX10_isFaceInPart_4 rfl (lv_at hl 0 rfl) ?_
  refine lv_iload_n C.1 C.2.1 dX10_isFaceInPart_5 rfl (lv_at hl 1 rfl) ?_
  refine lv_aload_n C.1 C.2.1 dX10_isFaceInPart_6 rfl (lv_at hl 0 rfl) ?_
  refine lv_iload_n C.1 C.2.1 dX10_isFaceInPart_7 rfl (lv_at hl 1 rfl) ?_
  refine lv_iload_n C.1 C.2.1 dX10_isFaceInPart_8 rfl (lv_at hl 2 rfl) ?_
  refine z_iconst C dX10_isFaceInPart_9 ?_
  obtain ⟨x_1, hq10, h⟩ := bnd_some h
  refine z_callV1 C X zk10 (hI.1 101 (by decide)) rfl (As := [zI x1, zI x2, zI 0]) (M_X10_rimAt hI μ x1 x2 0 gx1 gx2 ⟨by decide, by decide⟩ hq10) zc_X10_rimAt kw_1321 (zroom (by decide) (by decide)) rfl hl.1 rfl (Nat.le_of_ble_eq_true rfl) dX10_isFaceInPart_10 ⟨Nat.zero_le _, Nat.zero_le _⟩ (fun H locs g_10 X => ?_)
  obtain ⟨x_2, hq13, h⟩ := bnd_some h
  refine z_callV1 C X zk10 (hI.1 101 (by decide)) rfl (As := [zI x1, zI x_1]) (M_X10_fromOf hI μ x1 x_1 gx1 g_10 hq13) zc_X10_fromOf kw_1265 (zroom (by decide) (by decide)) rfl hl.1 rfl (Nat.le_of_ble_eq_true rfl) dX10_isFaceInPart_13 ⟨Nat.zero_le _, Nat.zero_le _⟩ (fun H locs g_13 X => ?_)
  obtain ⟨hc16, h⟩ := chk_some h
  have g_16 : 0 ≤ (μ 120 x_2) ∧ (μ 120 x_2) ≤ 1 := zrg3 X.2.2.2 (hI.1 120 (by decide)) rfl
  refine z_zald C X (hI.1 120 (by decide)) rfl hc16 dX10_isFaceInPart_16 ?_
  obtain rfl := Option.some.inj h
  exact rt X g_16 dX10_isFaceInPart_17
theorem zc_X10_isFaceInPart : zcal yX10_isFaceInPart cX10_isFaceInPart 3 (some Jvm.ClassFile.FieldType.boolean) RX10 2 := ⟨⟨kw_1410, kw_1409, kp_85, kw_12⟩, rfl, by decide, by decide, by decide +kernel⟩

def f_X10_count_K131 (x2 : Int) (x_2 : Int) (μ_3 : zMem) : Option (Int × zMem) :=
  if x2 = 4 then
    some (x_2, μ_3)
  else
    some ((μ_3 101 20), μ_3)
def f_X10_count_J123 (x_4 : Int) (x_5 : Int) (g96 : Int → Int → zMem → Option (Int × zMem)) (x_7 : Int) (μ_8 : zMem) : Option (Int × zMem) :=
  zlet ((zw (x_4 + x_7))) fun x_9 =>
  zlet (zw (x_5 + 1)) fun x_10 =>
  g96 x_9 x_10 μ_8
def f_X10_count_L96 (x1 : Int) (g131 : Int → zMem → Option (Int × zMem)) : Nat → Int → Int → zMem → Option (Int × zMem)
  | 0, _, _, _ => none
  | n + 1, x_4, x_5, μ_6 =>
    chk ((0 : Int) ≤ x1 ∧ x1 < 3) <|
    if x_5 < (μ_6 102 x1) then
      chk ((0 : Int) ≤ x_5 ∧ x_5 < 32) <|
      (f_X10_count_J123 x_4 x_5 (f_X10_count_L96 x1 g131 n)) (if (μ_6 120 x_5) = 0 then 0 else 1) μ_6
    else
      g131 x_4 μ_6
def f_X10_count (x1 : Int) (x2 : Int) (μ : zMem) : Option (Int × zMem) :=
  if (f_X10_isAny x1 μ) = 0 then
    some ((-1001), μ)
  else
    if (f_X10_in x2 0 5) = 0 then
      some ((-1001), μ)
    else
      if x2 < 3 then
        if x2 = 0 then
          chk ((0 : Int) ≤ x1 ∧ x1 < 3) <|
          some ((μ 102 x1), μ)
        else
          if x2 = 1 then
            chk ((0 : Int) ≤ x1 ∧ x1 < 3) <|
            some ((μ 103 x1), μ)
          else
            chk ((0 : Int) ≤ x1 ∧ x1 < 3) <|
            some ((μ 104 x1), μ)
      else
        if x2 = 3 then
          chk ((0 : Int) ≤ x1 ∧ x1 < 3) <|
          chk ((0 : Int) ≤ x1 ∧ x1 < 3) <|
          chk ((0 : Int) ≤ x1 ∧ x1 < 3) <|
          some ((zw ((zw ((μ 102 x1) - (μ 103 x1))) + (μ 104 x1))), μ)
        else
          bnd (f_X10_layTree x1 μ) fun μ_1 =>
          (f_X10_count_L96 x1 (f_X10_count_K131 x2)) zfu 0 0 μ_1
set_option maxHeartbeats 4000000 in
set_option maxRecDepth 100000 in
theorem M_X10_count {l : Launch} {Ω : zO} (hI : zIm Ω) (μ : zMem) (x1 : Int) (x2 : Int) {r : Int} {μ' : zMem} (gx1 : Rg x1) (gx2 : Rg x2) (h : f_X10_count x1 x2 μ = some (r, μ')) : XMet l yX10_count cX10_count 5 (some Jvm.ClassFile.FieldType.int) 3 Ω [zR Ω 101, zI x1, zI x2] μ (some (zI r)) (Rg r) μ' := by
  refine XMet.ofI (by decide) (Nat.le_of_ble_eq_true rfl) ?_
  intro p e s m args below meth c ls Q C rt X hl
  have C : zC p s m args c cX10_count RX10 5 Ω := C
  have hl : lv_has ls 5 [(0, zR Ω 101), (1, zI x1), (2, zI x2)] := hl
  unfold f_X10_count at h
  skip
  refine lv_aload_n C.1 C.2.1 dX10_count_0 rfl (lv_at hl 0 rfl) ?_
  refine lv_iload_n C.1 C.2.1 dX10_count_1 rfl (lv_at hl 1 rfl) ?_
  refine z_callV1 C X zk10 (hI.1 101 (by decide)) rfl (As := [zI x1]) (M_X10_isAny hI μ x1 gx1) zc_X10_isAny kw_1305 (zroom (by decide) (by decide)) rfl hl.1 rfl (Nat.le_of_ble_eq_true rfl) dX10_count_2 ⟨Nat.zero_le _, Nat.zero_le _⟩ (fun H locs g_2 X => ?_)
  refine z_ifeq C (rgz g_2) (tgt := 17) dX10_count_5 (by decide) (fun hc5 => ?_) (fun hc5 => ?_)
  · rw [if_pos hc5] at h
    refine z_sipush C dX10_count_17 (by decide) ?_
    obtain ⟨rfl, rfl⟩ := Prod.mk.inj (Option.some.inj h)
    exact rt X ⟨by decide, by decide⟩ dX10_count_20
  · rw [if_neg hc5] at h
    refine lv_iload_n C.1 C.2.1 dX10_count_8 rfl (lv_at hl 2 rfl) ?_
    refine z_iconst C dX10_count_9 ?_
    refine z_iconst C dX10_count_10 ?_
    refine z_callS1 C X (As := [zI x2, zI 0, zI 5]) (M_X10_in hI μ x2 0 5 gx2 ⟨by decide, by decide⟩ ⟨by decide, by decide⟩) zc_X10_in kw_1217 (zroom (by decide) (by decide)) rfl hl.1 rfl (Nat.le_of_ble_eq_true rfl) dX10_count_11 ⟨Nat.zero_le _, Nat.zero_le _⟩ (fun H locs g_11 X => ?_)
    refine z_ifne C (rgz g_11) (tgt := 21) dX10_count_14 (by decide) (fun hc14 => ?_) (fun hc14 => ?_)
    · rw [if_neg hc14] at h
      refine lv_iload_n C.1 C.2.1 dX10_count_21 rfl (lv_at hl 2 rfl) ?_
      refine z_iconst C dX10_count_22 ?_
      refine z_icmpge C gx2 ⟨by decide, by decide⟩ (tgt := 60) dX10_count_23 (by decide) (fun hc23 => ?_) (fun hc23 => ?_)
      · rw [if_neg hc23] at h
        refine lv_iload_n C.1 C.2.1 dX10_count_60 rfl (lv_at hl 2 rfl) ?_
        refine z_iconst C dX10_count_61 ?_
        refine z_icmpne C gx2 ⟨by decide, by decide⟩ (tgt := 86) dX10_count_62 (by decide) (fun hc62 => ?_) (fun hc62 => ?_)
        · rw [if_neg hc62] at h
          refine lv_aload_n C.1 C.2.1 dX10_count_86 rfl (lv_at hl 0 rfl) ?_
          refine lv_iload_n C.1 C.2.1 dX10_count_87 rfl (lv_at hl 1 rfl) ?_
          obtain ⟨μ_1, hq88, h⟩ := bnd_some h
          refine z_callV0 C X zk10 (hI.1 101 (by decide)) rfl (As := [zI x1]) (M_X10_layTree hI μ x1 gx1 hq88) zc_X10_layTree kw_1309 (zroom (by decide) (by decide)) rfl hl.1 rfl (Nat.le_of_ble_eq_true rfl) dX10_count_88 ⟨Nat.zero_le _, Nat.zero_le _⟩ (fun H locs g_88 X => ?_)
          refine z_iconst C dX10_count_91 ?_
          refine lv_istore_n C.1 C.2.1 (lv' := [(3, zI 0), (0, zR Ω 101), (1, zI x1), (2, zI x2)]) dX10_count_92 rfl hl (by decide) rfl (fun ls hl => ?_)
          refine z_iconst C dX10_count_93 ?_
          refine lv_istore C.1 C.2.1 (lv' := [(4, zI 0), (3, zI 0), (0, zR Ω 101), (1, zI x1), (2, zI x2)]) dX10_count_94 hl (by decide) rfl (fun ls hl => ?_)
          have K131 : ∀ (x_2 : Int) (μ_3 : zMem) (H : Heap) (locs : List Loc) (ls : Array Slot), Rg x_2 → zX Ω μ_3 (zfree Ω) s.heap H locs → lv_has ls 5 [(0, zR Ω 101), (2, zI x2), (3, zI x_2)] → (f_X10_count_K131 x2) x_2 μ_3 = some (r, μ') → W p l e (zrm 3) s m args below meth c H locs 0 0 Q (F0 m 131 ls []) := by
            intro x_2 μ_3 H locs ls gx_2 X hl h
            unfold f_X10_count_K131 at h
            refine lv_iload_n C.1 C.2.1 dX10_count_131 rfl (lv_at hl 1 rfl) ?_
            refine z_iconst C dX10_count_132 ?_
            refine z_icmpne C gx2 ⟨by decide, by decide⟩ (tgt := 140) dX10_count_133 (by decide) (fun hc133 => ?_) (fun hc133 => ?_)
            · rw [if_neg hc133] at h
              refine lv_aload_n C.1 C.2.1 dX10_count_140 rfl (lv_at hl 0 rfl) ?_
              have g_141 : Rg (μ_3 101 20) := zrgf0 (ci := 10) X.2.2.2 (hI.1 101 (by decide)) rfl 20 rfl
              refine z_get C X zk10 (hI.1 101 (by decide)) rfl 20 (by decide) kw_1052 (zI (μ_3 101 20)) rfl dX10_count_141 ?_
              obtain ⟨rfl, rfl⟩ := Prod.mk.inj (Option.some.inj h)
              exact rt X g_141 dX10_count_144
            · rw [if_pos hc133] at h
              refine lv_iload_n C.1 C.2.1 dX10_count_136 rfl (lv_at hl 2 rfl) ?_
              refine lv_goto (tgt := 144) C.1 C.2.1 dX10_count_137 (by decide) ?_
              obtain ⟨rfl, rfl⟩ := Prod.mk.inj (Option.some.inj h)
              exact rt X gx_2 dX10_count_144
          have L96 : ∀ (n96 : Nat) (x_4 : Int) (x_5 : Int) (μ_6 : zMem) (H : Heap) (locs : List Loc) (ls : Array Slot), Rg x_4 → Rg x_5 → zX Ω μ_6 (zfree Ω) s.heap H locs → lv_has ls 5 [(0, zR Ω 101), (1, zI x1), (2, zI x2), (3, zI x_4), (4, zI x_5)] → (f_X10_count_L96 x1 (f_X10_count_K131 x2) n96 x_4 x_5 μ_6) = some (r, μ') → W p l e (zrm 3) s m args below meth c H locs 0 0 Q (F0 m 96 ls []) := by
            intro n96
            induction n96 with
            | zero =>
              intro x_4 x_5 μ_6 H locs ls _ _ _ _ h
              cases h
            | succ n96 ih96 =>
              intro x_4 x_5 μ_6 H locs ls gx_4 gx_5 X hl h
              unfold f_X10_count_L96 at h
              refine lv_iload C.1 C.2.1 dX10_count_96 (lv_at hl 4 rfl) ?_
              refine lv_aload_n C.1 C.2.1 dX10_count_98 rfl (lv_at hl 0 rfl) ?_
              refine z_get C X zk10 (hI.1 101 (by decide)) rfl 0 (by decide) kw_1032 (zR Ω 102) (zfvF (off := 1) X.2.2.2 (hI.1 101 (by decide)) hI.2 rfl rfl (by decide)) dX10_count_99 ?_
              refine lv_iload_n C.1 C.2.1 dX10_count_102 rfl (lv_at hl 1 rfl) ?_
              obtain ⟨hc103, h⟩ := chk_some h
              have g_103 : Rg (μ_6 102 x1) := zrg1 X.2.2.2 (hI.1 102 (by decide)) rfl
              refine z_iald C X (hI.1 102 (by decide)) rfl hc103 dX10_count_103 ?_
              refine z_icmpge C gx_5 g_103 (tgt := 131) dX10_count_104 (by decide) (fun hc104 => ?_) (fun hc104 => ?_)
              · rw [if_neg hc104] at h
                exact K131 x_4 μ_6 _ _ _ gx_4 X (lv_sub hl [0, 2, 3] rfl) h
              · rw [if_pos hc104] at h
                refine lv_iload_n C.1 C.2.1 dX10_count_107 rfl (lv_at hl 3 rfl) ?_
                refine lv_aload_n C.1 C.2.1 dX10_count_108 rfl (lv_at hl 0 rfl) ?_
                refine z_get C X zk10 (hI.1 101 (by decide)) rfl 18 (by decide) kw_1050 (zR Ω 120) (zfvF (off := 19) X.2.2.2 (hI.1 101 (by decide)) hI.2 rfl rfl (by decide)) dX10_count_109 ?_
                refine lv_iload C.1 C.2.1 dX10_count_112 (lv_at hl 4 rfl) ?_
                obtain ⟨hc114, h⟩ := chk_some h
                have g_114 : 0 ≤ (μ_6 120 x_5) ∧ (μ_6 120 x_5) ≤ 1 := zrg3 X.2.2.2 (hI.1 120 (by decide)) rfl
                refine z_zald C X (hI.1 120 (by decide)) rfl hc114 dX10_count_114 ?_
                have K123 : ∀ (x_7 : Int) (μ_8 : zMem) (H : Heap) (locs : List Loc) (ls : Array Slot), Rg x_7 → zX Ω μ_8 (zfree Ω) s.heap H locs → lv_has ls 5 [(0, zR Ω 101), (1, zI x1), (2, zI x2), (4, zI x_5)] → (f_X10_count_J123 x_4 x_5 (f_X10_count_L96 x1 (f_X10_count_K131 x2) n96)) x_7 μ_8 = some (r, μ') → W p l e (zrm 3) s m args below meth c H locs 0 0 Q (F0 m 123 ls [zI x_7, zI x_4]) := by
                  intro x_7 μ_8 H locs ls gx_7 X hl h
                  unfold f_X10_count_J123 at h
                  refine z_iadd C dX10_count_123 ?_
                  refine zlet_elim h (fun x_9 ex_9 h => ?_)
                  have gx_9 : Rg x_9 := by rw [ex_9]; exact (Rg.w _)
                  refine z_istore_n C ex_9 dX10_count_124 rfl hl (by decide) (lv' := [(3, zI x_9), (0, zR Ω 101), (1, zI x1), (2, zI x2), (4, zI x_5)]) rfl (fun ls hl => ?_)
                  clear ex_9
                  refine zlet_elim h (fun x_10 ex_10 h => ?_)
                  have gx_10 : Rg x_10 := by rw [ex_10]; exact Rg.w _
                  refine z_iinc C ex_10 dX10_count_125 hl (k := 4) rfl (by decide) (lv' := [(4, zI x_10), (3, zI x_9), (0, zR Ω 101), (1, zI x1), (2, zI x2)]) rfl (fun ls hl => ?_)
                  clear ex_10
                  refine lv_goto (tgt := 96) C.1 C.2.1 dX10_count_128 (by decide) ?_
                  exact ih96 x_9 x_10 μ_8 _ _ _ gx_9 gx_10 X (lv_sub hl [2, 3, 4, 1, 0] rfl) h
                refine z_ifeq C (rgz g_114) (tgt := 122) dX10_count_115 (by decide) (fun hc115 => ?_) (fun hc115 => ?_)
                · rw [if_pos hc115] at h
                  refine z_iconst C dX10_count_122 ?_
                  exact K123 0 μ_6 _ _ _ ⟨by decide, by decide⟩ X (lv_sub hl [0, 1, 2, 4] rfl) h
                · rw [if_neg hc115] at h
                  refine z_iconst C dX10_count_118 ?_
                  refine lv_goto (tgt := 123) C.1 C.2.1 dX10_count_119 (by decide) ?_
                  exact K123 1 μ_6 _ _ _ ⟨by decide, by decide⟩ X (lv_sub hl [0, 1, 2, 4] rfl) h
          exact L96 zfu 0 0 μ_1 _ _ _ ⟨by decide, by decide⟩ ⟨by decide, by decide⟩ X (lv_sub hl [2, 3, 4, 1, 0] rfl) h
        · rw [if_pos hc62] at h
          refine lv_aload_n C.1 C.2.1 dX10_count_65 rfl (lv_at hl 0 rfl) ?_
          refine z_get C X zk10 (hI.1 101 (by decide)) rfl 0 (by decide) kw_1032 (zR Ω 102) (zfvF (off := 1) X.2.2.2 (hI.1 101 (by decide)) hI.2 rfl rfl (by decide)) dX10_count_66 ?_
          refine lv_iload_n C.1 C.2.1 dX10_count_69 rfl (lv_at hl 1 rfl) ?_
          obtain ⟨hc70, h⟩ := chk_some h
          have g_70 : Rg (μ 102 x1) := zrg1 X.2.2.2 (hI.1 102 (by decide)) rfl
          refine z_iald C X (hI.1 102 (by decide)) rfl hc70 dX10_count_70 ?_
          refine lv_aload_n C.1 C.2.1 dX10_count_71 rfl (lv_at hl 0 rfl) ?_
          refine z_get C X zk10 (hI.1 101 (by decide)) rfl 1 (by decide) kw_1033 (zR Ω 103) (zfvF (off := 2) X.2.2.2 (hI.1 101 (by decide)) hI.2 rfl rfl (by decide)) dX10_count_72 ?_
          refine lv_iload_n C.1 C.2.1 dX10_count_75 rfl (lv_at hl 1 rfl) ?_
          obtain ⟨hc76, h⟩ := chk_some h
          have g_76 : Rg (μ 103 x1) := zrg1 X.2.2.2 (hI.1 103 (by decide)) rfl
          refine z_iald C X (hI.1 103 (by decide)) rfl hc76 dX10_count_76 ?_
          refine z_isub C dX10_count_77 ?_
          refine lv_aload_n C.1 C.2.1 dX10_count_78 rfl (lv_at hl 0 rfl) ?_
          refine z_get C X zk10 (hI.1 101 (by decide)) rfl 2 (by decide) kw_1034 (zR Ω 104) (zfvF (off := 3) X.2.2.2 (hI.1 101 (by decide)) hI.2 rfl rfl (by decide)) dX10_count_79 ?_
          refine lv_iload_n C.1 C.2.1 dX10_count_82 rfl (lv_at hl 1 rfl) ?_
          obtain ⟨hc83, h⟩ := chk_some h
          have g_83 : Rg (μ 104 x1) := zrg1 X.2.2.2 (hI.1 104 (by decide)) rfl
          refine z_iald C X (hI.1 104 (by decide)) rfl hc83 dX10_count_83 ?_
          refine z_iadd C dX10_count_84 ?_
          obtain ⟨rfl, rfl⟩ := Prod.mk.inj (Option.some.inj h)
          exact rt X (Rg.w _) dX10_count_85
      · rw [if_pos hc23] at h
        refine lv_iload_n C.1 C.2.1 dX10_count_26 rfl (lv_at hl 2 rfl) ?_
        refine z_ifne C gx2 (tgt := 39) dX10_count_27 (by decide) (fun hc27 => ?_) (fun hc27 => ?_)
        · rw [if_neg hc27] at h
          refine lv_iload_n C.1 C.2.1 dX10_count_39 rfl (lv_at hl 2 rfl) ?_
          refine z_iconst C dX10_count_40 ?_
          refine z_icmpne C gx2 ⟨by decide, by decide⟩ (tgt := 53) dX10_count_41 (by decide) (fun hc41 => ?_) (fun hc41 => ?_)
          · rw [if_neg hc41] at h
            refine lv_aload_n C.1 C.2.1 dX10_count_53 rfl (lv_at hl 0 rfl) ?_
            refine z_get C X zk10 (hI.1 101 (by decide)) rfl 2 (by decide) kw_1034 (zR Ω 104) (zfvF (off := 3) X.2.2.2 (hI.1 101 (by decide)) hI.2 rfl rfl (by decide)) dX10_count_54 ?_
            refine lv_iload_n C.1 C.2.1 dX10_count_57 rfl (lv_at hl 1 rfl) ?_
            obtain ⟨hc58, h⟩ := chk_some h
            have g_58 : Rg (μ 104 x1) := zrg1 X.2.2.2 (hI.1 104 (by decide)) rfl
            refine z_iald C X (hI.1 104 (by decide)) rfl hc58 dX10_count_58 ?_
            obtain ⟨rfl, rfl⟩ := Prod.mk.inj (Option.some.inj h)
            exact rt X g_58 dX10_count_59
          · rw [if_pos hc41] at h
            refine lv_aload_n C.1 C.2.1 dX10_count_44 rfl (lv_at hl 0 rfl) ?_
            refine z_get C X zk10 (hI.1 101 (by decide)) rfl 1 (by decide) kw_1033 (zR Ω 103) (zfvF (off := 2) X.2.2.2 (hI.1 101 (by decide)) hI.2 rfl rfl (by decide)) dX10_count_45 ?_
            refine lv_iload_n C.1 C.2.1 dX10_count_48 rfl (lv_at hl 1 rfl) ?_
            obtain ⟨hc49, h⟩ := chk_some h
            have g_49 : Rg (μ 103 x1) := zrg1 X.2.2.2 (hI.1 103 (by decide)) rfl
            refine z_iald C X (hI.1 103 (by decide)) rfl hc49 dX10_count_49 ?_
            refine lv_goto (tgt := 59) C.1 C.2.1 dX10_count_50 (by decide) ?_
            obtain ⟨rfl, rfl⟩ := Prod.mk.inj (Option.some.inj h)
            exact rt X g_49 dX10_count_59
        · rw [if_pos hc27] at h
          refine lv_aload_n C.1 C.2.1 dX10_count_30 rfl (lv_at hl 0 rfl) ?_
          refine z_get C X zk10 (hI.1 101 (by decide)) rfl 0 (by decide) kw_1032 (zR Ω 102) (zfvF (off := 1) X.2.2.2 (hI.1 101 (by decide)) hI.2 rfl rfl (by decide)) dX10_count_31 ?_
          refine lv_iload_n C.1 C.2.1 dX10_count_34 rfl (lv_at hl 1 rfl) ?_
          obtain ⟨hc35, h⟩ := chk_some h
          have g_35 : Rg (μ 102 x1) := zrg1 X.2.2.2 (hI.1 102 (by decide)) rfl
          refine z_iald C X (hI.1 102 (by decide)) rfl hc35 dX10_count_35 ?_
          refine lv_goto (tgt := 59) C.1 C.2.1 dX10_count_36 (by decide) ?_
          obtain ⟨rfl, rfl⟩ := Prod.mk.inj (Option.some.inj h)
          exact rt X g_35 dX10_count_59
    · rw [if_pos hc14] at h
      refine z_sipush C dX10_count_17 (by decide) ?_
      obtain ⟨rfl, rfl⟩ := Prod.mk.inj (Option.some.inj h)
      exact rt X ⟨by decide, by decide⟩ dX10_count_20
theorem zc_X10_count : zcal yX10_count cX10_count 5 (some Jvm.ClassFile.FieldType.int) RX10 2 := ⟨⟨kw_1304, kw_1302, kw_1303, kw_12⟩, rfl, by decide, by decide, by decide +kernel⟩

def f_X10_told (x1 : Int) (x2 : Int) (x3 : Int) (μ : zMem) : Option (Int × zMem) :=
  if (f_X10_isAny x1 μ) = 0 then
    some ((-1), μ)
  else
    chk ((0 : Int) ≤ x1 ∧ x1 < 3) <|
    if (f_X10_in x2 0 (zw ((μ 103 x1) - 1))) = 0 then
      some ((-1), μ)
    else
      if (f_X10_in x3 0 2) = 0 then
        some ((-1), μ)
      else
        bnd (f_X10_layTree x1 μ) fun μ_1 =>
        if x3 = 0 then
          chk ((0 : Int) ≤ (zw ((zw (48 * x1)) + x2)) ∧ (zw ((zw (48 * x1)) + x2)) < 144) <|
          some ((μ_1 105 (zw ((zw (48 * x1)) + x2))), μ_1)
        else
          if x3 = 1 then
            chk ((0 : Int) ≤ (zw ((zw (48 * x1)) + x2)) ∧ (zw ((zw (48 * x1)) + x2)) < 144) <|
            some ((μ_1 106 (zw ((zw (48 * x1)) + x2))), μ_1)
          else
            chk ((0 : Int) ≤ x2 ∧ x2 < 48) <|
            if (μ_1 121 x2) = 0 then
              some (0, μ_1)
            else
              some (1, μ_1)
set_option maxHeartbeats 4000000 in
set_option maxRecDepth 100000 in
theorem M_X10_told {l : Launch} {Ω : zO} (hI : zIm Ω) (μ : zMem) (x1 : Int) (x2 : Int) (x3 : Int) {r : Int} {μ' : zMem} (gx1 : Rg x1) (gx2 : Rg x2) (gx3 : Rg x3) (h : f_X10_told x1 x2 x3 μ = some (r, μ')) : XMet l yX10_told cX10_told 4 (some Jvm.ClassFile.FieldType.int) 3 Ω [zR Ω 101, zI x1, zI x2, zI x3] μ (some (zI r)) (Rg r) μ' := by
  refine XMet.ofI (by decide) (Nat.le_of_ble_eq_true rfl) ?_
  intro p e s m args below meth c ls Q C rt X hl
  have C : zC p s m args c cX10_told RX10 4 Ω := C
  have hl : lv_has ls 4 [(0, zR Ω 101), (1, zI x1), (2, zI x2), (3, zI x3)] := hl
  unfold f_X10_told at h
  skip
  refine lv_aload_n C.1 C.2.1 dX10_told_0 rfl (lv_at hl 0 rfl) ?_
  refine lv_iload_n C.1 C.2.1 dX10_told_1 rfl (lv_at hl 1 rfl) ?_
  refine z_callV1 C X zk10 (hI.1 101 (by decide)) rfl (As := [zI x1]) (M_X10_isAny hI μ x1 gx1) zc_X10_isAny kw_1305 (zroom (by decide) (by decide)) rfl hl.1 rfl (Nat.le_of_ble_eq_true rfl) dX10_told_2 ⟨Nat.zero_le _, Nat.zero_le _⟩ (fun H locs g_2 X => ?_)
  refine z_ifeq C (rgz g_2) (tgt := 33) dX10_told_5 (by decide) (fun hc5 => ?_) (fun hc5 => ?_)
  · rw [if_pos hc5] at h
    refine z_iconst C dX10_told_33 ?_
    obtain ⟨rfl, rfl⟩ := Prod.mk.inj (Option.some.inj h)
    exact rt X ⟨by decide, by decide⟩ dX10_told_34
  · rw [if_neg hc5] at h
    refine lv_iload_n C.1 C.2.1 dX10_told_8 rfl (lv_at hl 2 rfl) ?_
    refine z_iconst C dX10_told_9 ?_
    refine lv_aload_n C.1 C.2.1 dX10_told_10 rfl (lv_at hl 0 rfl) ?_
    refine z_get C X zk10 (hI.1 101 (by decide)) rfl 1 (by decide) kw_1033 (zR Ω 103) (zfvF (off := 2) X.2.2.2 (hI.1 101 (by decide)) hI.2 rfl rfl (by decide)) dX10_told_11 ?_
    refine lv_iload_n C.1 C.2.1 dX10_told_14 rfl (lv_at hl 1 rfl) ?_
    obtain ⟨hc15, h⟩ := chk_some h
    have g_15 : Rg (μ 103 x1) := zrg1 X.2.2.2 (hI.1 103 (by decide)) rfl
    refine z_iald C X (hI.1 103 (by decide)) rfl hc15 dX10_told_15 ?_
    refine z_iconst C dX10_told_16 ?_
    refine z_isub C dX10_told_17 ?_
    refine z_callS1 C X (As := [zI x2, zI 0, zI (zw ((μ 103 x1) - 1))]) (M_X10_in hI μ x2 0 (zw ((μ 103 x1) - 1)) gx2 ⟨by decide, by decide⟩ (Rg.w _)) zc_X10_in kw_1217 (zroom (by decide) (by decide)) rfl hl.1 rfl (Nat.le_of_ble_eq_true rfl) dX10_told_18 ⟨Nat.zero_le _, Nat.zero_le _⟩ (fun H locs g_18 X => ?_)
    refine z_ifeq C (rgz g_18) (tgt := 33) dX10_told_21 (by decide) (fun hc21 => ?_) (fun hc21 => ?_)
    · rw [if_pos hc21] at h
      refine z_iconst C dX10_told_33 ?_
      obtain ⟨rfl, rfl⟩ := Prod.mk.inj (Option.some.inj h)
      exact rt X ⟨by decide, by decide⟩ dX10_told_34
    · rw [if_neg hc21] at h
      refine lv_iload_n C.1 C.2.1 dX10_told_24 rfl (lv_at hl 3 rfl) ?_
      refine z_iconst C dX10_told_25 ?_
      refine z_iconst C dX10_told_26 ?_
      refine z_callS1 C X (As := [zI x3, zI 0, zI 2]) (M_X10_in hI μ x3 0 2 gx3 ⟨by decide, by decide⟩ ⟨by decide, by decide⟩) zc_X10_in kw_1217 (zroom (by decide) (by decide)) rfl hl.1 rfl (Nat.le_of_ble_eq_true rfl) dX10_told_27 ⟨Nat.zero_le _, Nat.zero_le _⟩ (fun H locs g_27 X => ?_)
      refine z_ifne C (rgz g_27) (tgt := 35) dX10_told_30 (by decide) (fun hc30 => ?_) (fun hc30 => ?_)
      · rw [if_neg hc30] at h
        refine lv_aload_n C.1 C.2.1 dX10_told_35 rfl (lv_at hl 0 rfl) ?_
        refine lv_iload_n C.1 C.2.1 dX10_told_36 rfl (lv_at hl 1 rfl) ?_
        obtain ⟨μ_1, hq37, h⟩ := bnd_some h
        refine z_callV0 C X zk10 (hI.1 101 (by decide)) rfl (As := [zI x1]) (M_X10_layTree hI μ x1 gx1 hq37) zc_X10_layTree kw_1309 (zroom (by decide) (by decide)) rfl hl.1 rfl (Nat.le_of_ble_eq_true rfl) dX10_told_37 ⟨Nat.zero_le _, Nat.zero_le _⟩ (fun H locs g_37 X => ?_)
        refine lv_iload_n C.1 C.2.1 dX10_told_40 rfl (lv_at hl 3 rfl) ?_
        refine z_ifne C gx3 (tgt := 58) dX10_told_41 (by decide) (fun hc41 => ?_) (fun hc41 => ?_)
        · rw [if_neg hc41] at h
          refine lv_iload_n C.1 C.2.1 dX10_told_58 rfl (lv_at hl 3 rfl) ?_
          refine z_iconst C dX10_told_59 ?_
          refine z_icmpne C gx3 ⟨by decide, by decide⟩ (tgt := 77) dX10_told_60 (by decide) (fun hc60 => ?_) (fun hc60 => ?_)
          · rw [if_neg hc60] at h
            refine lv_aload_n C.1 C.2.1 dX10_told_77 rfl (lv_at hl 0 rfl) ?_
            refine z_get C X zk10 (hI.1 101 (by decide)) rfl 19 (by decide) kw_1051 (zR Ω 121) (zfvF (off := 20) X.2.2.2 (hI.1 101 (by decide)) hI.2 rfl rfl (by decide)) dX10_told_78 ?_
            refine lv_iload_n C.1 C.2.1 dX10_told_81 rfl (lv_at hl 2 rfl) ?_
            obtain ⟨hc82, h⟩ := chk_some h
            have g_82 : 0 ≤ (μ_1 121 x2) ∧ (μ_1 121 x2) ≤ 1 := zrg3 X.2.2.2 (hI.1 121 (by decide)) rfl
            refine z_zald C X (hI.1 121 (by decide)) rfl hc82 dX10_told_82 ?_
            refine z_ifeq C (rgz g_82) (tgt := 90) dX10_told_83 (by decide) (fun hc83 => ?_) (fun hc83 => ?_)
            · rw [if_pos hc83] at h
              refine z_iconst C dX10_told_90 ?_
              obtain ⟨rfl, rfl⟩ := Prod.mk.inj (Option.some.inj h)
              exact rt X ⟨by decide, by decide⟩ dX10_told_91
            · rw [if_neg hc83] at h
              refine z_iconst C dX10_told_86 ?_
              refine lv_goto (tgt := 91) C.1 C.2.1 dX10_told_87 (by decide) ?_
              obtain ⟨rfl, rfl⟩ := Prod.mk.inj (Option.some.inj h)
              exact rt X ⟨by decide, by decide⟩ dX10_told_91
          · rw [if_pos hc60] at h
            refine lv_aload_n C.1 C.2.1 dX10_told_63 rfl (lv_at hl 0 rfl) ?_
            refine z_get C X zk10 (hI.1 101 (by decide)) rfl 4 (by decide) kw_1036 (zR Ω 106) (zfvF (off := 5) X.2.2.2 (hI.1 101 (by decide)) hI.2 rfl rfl (by decide)) dX10_told_64 ?_
            refine z_bipush C dX10_told_67 (by decide) ?_
            refine lv_iload_n C.1 C.2.1 dX10_told_69 rfl (lv_at hl 1 rfl) ?_
            refine z_imul C dX10_told_70 ?_
            refine lv_iload_n C.1 C.2.1 dX10_told_71 rfl (lv_at hl 2 rfl) ?_
            refine z_iadd C dX10_told_72 ?_
            obtain ⟨hc73, h⟩ := chk_some h
            have g_73 : Rg (μ_1 106 (zw ((zw (48 * x1)) + x2))) := zrg1 X.2.2.2 (hI.1 106 (by decide)) rfl
            refine z_iald C X (hI.1 106 (by decide)) rfl hc73 dX10_told_73 ?_
            refine lv_goto (tgt := 91) C.1 C.2.1 dX10_told_74 (by decide) ?_
            obtain ⟨rfl, rfl⟩ := Prod.mk.inj (Option.some.inj h)
            exact rt X g_73 dX10_told_91
        · rw [if_pos hc41] at h
          refine lv_aload_n C.1 C.2.1 dX10_told_44 rfl (lv_at hl 0 rfl) ?_
          refine z_get C X zk10 (hI.1 101 (by decide)) rfl 3 (by decide) kw_1035 (zR Ω 105) (zfvF (off := 4) X.2.2.2 (hI.1 101 (by decide)) hI.2 rfl rfl (by decide)) dX10_told_45 ?_
          refine z_bipush C dX10_told_48 (by decide) ?_
          refine lv_iload_n C.1 C.2.1 dX10_told_50 rfl (lv_at hl 1 rfl) ?_
          refine z_imul C dX10_told_51 ?_
          refine lv_iload_n C.1 C.2.1 dX10_told_52 rfl (lv_at hl 2 rfl) ?_
          refine z_iadd C dX10_told_53 ?_
          obtain ⟨hc54, h⟩ := chk_some h
          have g_54 : Rg (μ_1 105 (zw ((zw (48 * x1)) + x2))) := zrg1 X.2.2.2 (hI.1 105 (by decide)) rfl
          refine z_iald C X (hI.1 105 (by decide)) rfl hc54 dX10_told_54 ?_
          refine lv_goto (tgt := 91) C.1 C.2.1 dX10_told_55 (by decide) ?_
          obtain ⟨rfl, rfl⟩ := Prod.mk.inj (Option.some.inj h)
          exact rt X g_54 dX10_told_91
      · rw [if_pos hc30] at h
        refine z_iconst C dX10_told_33 ?_
        obtain ⟨rfl, rfl⟩ := Prod.mk.inj (Option.some.inj h)
        exact rt X ⟨by decide, by decide⟩ dX10_told_34
theorem zc_X10_told : zcal yX10_told cX10_told 4 (some Jvm.ClassFile.FieldType.int) RX10 3 := ⟨⟨kw_1316, kw_1314, kw_1315, kw_12⟩, rfl, by decide, by decide, by decide +kernel⟩

def f_X10_tellsStep (x0 : Int) : Int :=
  if x0 ≤ 0 then
    (zw (99 - x0))
  else
    (zw (x0 - 1))
set_option maxHeartbeats 4000000 in
set_option maxRecDepth 100000 in
theorem M_X10_tellsStep {l : Launch} {Ω : zO} (hI : zIm Ω) (μ : zMem) (x0 : Int) (gx0 : Rg x0) : XMet l yX10_tellsStep cX10_tellsStep 1 (some Jvm.ClassFile.FieldType.int) 0 Ω [zI x0] μ (some (zI (f_X10_tellsStep x0))) (Rg (f_X10_tellsStep x0)) μ := by
  obtain ⟨r, h⟩ : ∃ r, f_X10_tellsStep x0 = r := ⟨_, rfl⟩
  rw [h]
  refine XMet.ofI (by decide) (Nat.le_of_ble_eq_true rfl) ?_
  intro p e s m args below meth c ls Q C rt X hl
  have C : zC p s m args c cX10_tellsStep RX10 1 Ω := C
  have hl : lv_has ls 1 [(0, zI x0)] := hl
  unfold f_X10_tellsStep at h
  skip
  refine lv_iload_n C.1 C.2.1 dX10_tellsStep_0 rfl (lv_at hl 0 rfl) ?_
  refine z_ifle C gx0 (tgt := 10) dX10_tellsStep_1 (by decide) (fun hc1 => ?_) (fun hc1 => ?_)
  · rw [if_pos hc1] at h
    refine z_bipush C dX10_tellsStep_10 (by decide) ?_
    refine lv_iload_n C.1 C.2.1 dX10_tellsStep_12 rfl (lv_at hl 0 rfl) ?_
    refine z_isub C dX10_tellsStep_13 ?_
    subst h
    exact rt X (Rg.w _) dX10_tellsStep_14
  · rw [if_neg hc1] at h
    refine lv_iload_n C.1 C.2.1 dX10_tellsStep_4 rfl (lv_at hl 0 rfl) ?_
    refine z_iconst C dX10_tellsStep_5 ?_
    refine z_isub C dX10_tellsStep_6 ?_
    refine lv_goto (tgt := 14) C.1 C.2.1 dX10_tellsStep_7 (by decide) ?_
    subst h
    exact rt X (Rg.w _) dX10_tellsStep_14
theorem zc_X10_tellsStep : zcas yX10_tellsStep cX10_tellsStep 1 (some Jvm.ClassFile.FieldType.int) 1 := ⟨⟨kw_1327, kw_1326, kw_12⟩, by decide, by decide, by decide +kernel⟩

def f_X10_rim_J50 (x1 : Int) (x2 : Int) (x3 : Int) (μ : zMem) (x_1 : Int) : Option Int :=
  if x_1 = 0 then
    some (-1)
  else
    bnd (f_X10_rimAt x1 x2 x3 μ) fun x_2 =>
    some (f_X10_tellsStep x_2)
def f_X10_rim_J49 (g50 : Int → Option Int) : Option Int :=
  g50 0
def f_X10_rim (x1 : Int) (x2 : Int) (x3 : Int) (μ : zMem) : Option Int :=
  if (f_X10_isAny x1 μ) = 0 then
    (f_X10_rim_J49 (f_X10_rim_J50 x1 x2 x3 μ))
  else
    chk ((0 : Int) ≤ x1 ∧ x1 < 3) <|
    if (f_X10_in x2 0 (zw ((μ 104 x1) - 1))) = 0 then
      (f_X10_rim_J49 (f_X10_rim_J50 x1 x2 x3 μ))
    else
      chk ((0 : Int) ≤ (zw ((zw (32 * x1)) + x2)) ∧ (zw ((zw (32 * x1)) + x2)) < 96) <|
      if (f_X10_in x3 0 (zw ((μ 107 (zw ((zw (32 * x1)) + x2))) - 1))) = 0 then
        (f_X10_rim_J49 (f_X10_rim_J50 x1 x2 x3 μ))
      else
        (f_X10_rim_J50 x1 x2 x3 μ) 1
set_option maxHeartbeats 4000000 in
set_option maxRecDepth 100000 in
theorem M_X10_rim {l : Launch} {Ω : zO} (hI : zIm Ω) (μ : zMem) (x1 : Int) (x2 : Int) (x3 : Int) {r : Int} (gx1 : Rg x1) (gx2 : Rg x2) (gx3 : Rg x3) (h : f_X10_rim x1 x2 x3 μ = some r) : XMet l yX10_rim cX10_rim 5 (some Jvm.ClassFile.FieldType.int) 3 Ω [zR Ω 101, zI x1, zI x2, zI x3] μ (some (zI r)) (Rg r) μ := by
  refine XMet.ofI (by decide) (Nat.le_of_ble_eq_true rfl) ?_
  intro p e s m args below meth c ls Q C rt X hl
  have C : zC p s m args c cX10_rim RX10 5 Ω := C
  have hl : lv_has ls 5 [(0, zR Ω 101), (1, zI x1), (2, zI x2), (3, zI x3)] := hl
  unfold f_X10_rim at h
  skip
  refine lv_aload_n C.1 C.2.1 dX10_rim_0 rfl (lv_at hl 0 rfl) ?_
  refine lv_iload_n C.1 C.2.1 dX10_rim_1 rfl (lv_at hl 1 rfl) ?_
  refine z_callV1 C X zk10 (hI.1 101 (by decide)) rfl (As := [zI x1]) (M_X10_isAny hI μ x1 gx1) zc_X10_isAny kw_1305 (zroom (by decide) (by decide)) rfl hl.1 rfl (Nat.le_of_ble_eq_true rfl) dX10_rim_2 ⟨Nat.zero_le _, Nat.zero_le _⟩ (fun H locs g_2 X => ?_)
  have K50 : ∀ (x_1 : Int) (H : Heap) (locs : List Loc) (ls : Array Slot), Rg x_1 → zX Ω μ (zfree Ω) s.heap H locs → lv_has ls 5 [(0, zR Ω 101), (1, zI x1), (2, zI x2), (3, zI x3)] → (f_X10_rim_J50 x1 x2 x3 μ) x_1 = some r → W p l e (zrm 3) s m args below meth c H locs 0 0 Q (F0 m 50 ls [zI x_1]) := by
    intro x_1 H locs ls gx_1 X hl h
    unfold f_X10_rim_J50 at h
    refine lv_istore C.1 C.2.1 (lv' := [(4, zI x_1), (0, zR Ω 101), (1, zI x1), (2, zI x2), (3, zI x3)]) dX10_rim_50 hl (by decide) rfl (fun ls hl => ?_)
    refine lv_iload C.1 C.2.1 dX10_rim_52 (lv_at hl 0 rfl) ?_
    refine z_ifeq C gx_1 (tgt := 70) dX10_rim_54 (by decide) (fun hc54 => ?_) (fun hc54 => ?_)
    · rw [if_pos hc54] at h
      refine z_iconst C dX10_rim_70 ?_
      obtain rfl := Option.some.inj h
      exact rt X ⟨by decide, by decide⟩ dX10_rim_71
    · rw [if_neg hc54] at h
      refine lv_aload_n C.1 C.2.1 dX10_rim_57 rfl (lv_at hl 1 rfl) ?_
      refine lv_iload_n C.1 C.2.1 dX10_rim_58 rfl (lv_at hl 2 rfl) ?_
      refine lv_iload_n C.1 C.2.1 dX10_rim_59 rfl (lv_at hl 3 rfl) ?_
      refine lv_iload_n C.1 C.2.1 dX10_rim_60 rfl (lv_at hl 4 rfl) ?_
      obtain ⟨x_2, hq61, h⟩ := bnd_some h
      refine z_callV1 C X zk10 (hI.1 101 (by decide)) rfl (As := [zI x1, zI x2, zI x3]) (M_X10_rimAt hI μ x1 x2 x3 gx1 gx2 gx3 hq61) zc_X10_rimAt kw_1321 (zroom (by decide) (by decide)) rfl hl.1 rfl (Nat.le_of_ble_eq_true rfl) dX10_rim_61 ⟨Nat.zero_le _, Nat.zero_le _⟩ (fun H locs g_61 X => ?_)
      refine z_callS1 C X (As := [zI x_2]) (M_X10_tellsStep hI μ x_2 g_61) zc_X10_tellsStep kw_1325 (zroom (by decide) (by decide)) rfl hl.1 rfl (Nat.le_of_ble_eq_true rfl) dX10_rim_64 ⟨Nat.zero_le _, Nat.zero_le _⟩ (fun H locs g_64 X => ?_)
      refine lv_goto (tgt := 71) C.1 C.2.1 dX10_rim_67 (by decide) ?_
      obtain rfl := Option.some.inj h
      exact rt X g_64 dX10_rim_71
  have K49 : ∀ (H : Heap) (locs : List Loc) (ls : Array Slot), zX Ω μ (zfree Ω) s.heap H locs → lv_has ls 5 [(0, zR Ω 101), (1, zI x1), (2, zI x2), (3, zI x3)] → (f_X10_rim_J49 (f_X10_rim_J50 x1 x2 x3 μ)) = some r → W p l e (zrm 3) s m args below meth c H locs 0 0 Q (F0 m 49 ls []) := by
    intro  H locs ls  X hl h
    unfold f_X10_rim_J49 at h
    refine z_iconst C dX10_rim_49 ?_
    exact K50 0 _ _ _ ⟨by decide, by decide⟩ X (lv_sub hl [0, 1, 2, 3] rfl) h
  refine z_ifeq C (rgz g_2) (tgt := 49) dX10_rim_5 (by decide) (fun hc5 => ?_) (fun hc5 => ?_)
  · rw [if_pos hc5] at h
    exact K49 _ _ _ X (lv_sub hl [0, 1, 2, 3] rfl) h
  · rw [if_neg hc5] at h
    refine lv_iload_n C.1 C.2.1 dX10_rim_8 rfl (lv_at hl 2 rfl) ?_
    refine z_iconst C dX10_rim_9 ?_
    refine lv_aload_n C.1 C.2.1 dX10_rim_10 rfl (lv_at hl 0 rfl) ?_
    refine z_get C X zk10 (hI.1 101 (by decide)) rfl 2 (by decide) kw_1034 (zR Ω 104) (zfvF (off := 3) X.2.2.2 (hI.1 101 (by decide)) hI.2 rfl rfl (by decide)) dX10_rim_11 ?_
    refine lv_iload_n C.1 C.2.1 dX10_rim_14 rfl (lv_at hl 1 rfl) ?_
    obtain ⟨hc15, h⟩ := chk_some h
    have g_15 : Rg (μ 104 x1) := zrg1 X.2.2.2 (hI.1 104 (by decide)) rfl
    refine z_iald C X (hI.1 104 (by decide)) rfl hc15 dX10_rim_15 ?_
    refine z_iconst C dX10_rim_16 ?_
    refine z_isub C dX10_rim_17 ?_
    refine z_callS1 C X (As := [zI x2, zI 0, zI (zw ((μ 104 x1) - 1))]) (M_X10_in hI μ x2 0 (zw ((μ 104 x1) - 1)) gx2 ⟨by decide, by decide⟩ (Rg.w _)) zc_X10_in kw_1217 (zroom (by decide) (by decide)) rfl hl.1 rfl (Nat.le_of_ble_eq_true rfl) dX10_rim_18 ⟨Nat.zero_le _, Nat.zero_le _⟩ (fun H locs g_18 X => ?_)
    refine z_ifeq C (rgz g_18) (tgt := 49) dX10_rim_21 (by decide) (fun hc21 => ?_) (fun hc21 => ?_)
    · rw [if_pos hc21] at h
      exact K49 _ _ _ X (lv_sub hl [0, 1, 2, 3] rfl) h
    · rw [if_neg hc21] at h
      refine lv_iload_n C.1 C.2.1 dX10_rim_24 rfl (lv_at hl 3 rfl) ?_
      refine z_iconst C dX10_rim_25 ?_
      refine lv_aload_n C.1 C.2.1 dX10_rim_26 rfl (lv_at hl 0 rfl) ?_
      refine z_get C X zk10 (hI.1 101 (by decide)) rfl 5 (by decide) kw_1037 (zR Ω 107) (zfvF (off := 6) X.2.2.2 (hI.1 101 (by decide)) hI.2 rfl rfl (by decide)) dX10_rim_27 ?_
      refine z_bipush C dX10_rim_30 (by decide) ?_
      refine lv_iload_n C.1 C.2.1 dX10_rim_32 rfl (lv_at hl 1 rfl) ?_
      refine z_imul C dX10_rim_33 ?_
      refine lv_iload_n C.1 C.2.1 dX10_rim_34 rfl (lv_at hl 2 rfl) ?_
      refine z_iadd C dX10_rim_35 ?_
      obtain ⟨hc36, h⟩ := chk_some h
      have g_36 : Rg (μ 107 (zw ((zw (32 * x1)) + x2))) := zrg1 X.2.2.2 (hI.1 107 (by decide)) rfl
      refine z_iald C X (hI.1 107 (by decide)) rfl hc36 dX10_rim_36 ?_
      refine z_iconst C dX10_rim_37 ?_
      refine z_isub C dX10_rim_38 ?_
      refine z_callS1 C X (As := [zI x3, zI 0, zI (zw ((μ 107 (zw ((zw (32 * x1)) + x2))) - 1))]) (M_X10_in hI μ x3 0 (zw ((μ 107 (zw ((zw (32 * x1)) + x2))) - 1)) gx3 ⟨by decide, by decide⟩ (Rg.w _)) zc_X10_in kw_1217 (zroom (by decide) (by decide)) rfl hl.1 rfl (Nat.le_of_ble_eq_true rfl) dX10_rim_39 ⟨Nat.zero_le _, Nat.zero_le _⟩ (fun H locs g_39 X => ?_)
      refine z_ifeq C (rgz g_39) (tgt := 49) dX10_rim_42 (by decide) (fun hc42 => ?_) (fun hc42 => ?_)
      · rw [if_pos hc42] at h
        exact K49 _ _ _ X (lv_sub hl [0, 1, 2, 3] rfl) h
      · rw [if_neg hc42] at h
        refine z_iconst C dX10_rim_45 ?_
        refine lv_goto (tgt := 50) C.1 C.2.1 dX10_rim_46 (by decide) ?_
        exact K50 1 _ _ _ ⟨by decide, by decide⟩ X (lv_sub hl [0, 1, 2, 3] rfl) h
theorem zc_X10_rim : zcal yX10_rim cX10_rim 5 (some Jvm.ClassFile.FieldType.int) RX10 3 := ⟨⟨kw_1320, kw_1318, kw_1319, kw_12⟩, rfl, by decide, by decide, by decide +kernel⟩

def f_X10_rankOf_K244 (x_1 : Int) (x_2 : Int) (g6 : Int → Int → zMem → Option (Int × zMem)) (μ_9 : zMem) : Option (Int × zMem) :=
  zlet (zw (x_1 + 1)) fun x_10 =>
  zlet (zw (x_2 + 1)) fun x_11 =>
  g6 x_10 x_11 μ_9
def f_X10_rankOf_K238 (x_12 : Int) (g135 : Int → zMem → Option (Int × zMem)) (μ_16 : zMem) : Option (Int × zMem) :=
  zlet (zw (x_12 + 1)) fun x_17 =>
  g135 x_17 μ_16
def f_X10_rankOf_L174 (x2 : Int) (x3 : Int) (x_1 : Int) (x_12 : Int) (x_14 : Int) (x_15 : Int) (g238 : zMem → Option (Int × zMem)) : Nat → Int → zMem → Option (Int × zMem)
  | 0, _, _ => none
  | n + 1, x_18, μ_19 =>
    if x_18 < x2 then
      chk ((0 : Int) ≤ (zw ((zw (48 * x_12)) + x_18)) ∧ (zw ((zw (48 * x_12)) + x_18)) < 2304) <|
      chk ((0 : Int) ≤ (zw ((zw (48 * x_1)) + x_18)) ∧ (zw ((zw (48 * x_1)) + x_18)) < 2304) <|
      chk (x3 ≠ 0) <|
      chk (x3 ≠ 0) <|
      chk ((0 : Int) ≤ (zw ((zw (48 * x_12)) + x_18)) ∧ (zw ((zw (48 * x_12)) + x_18)) < 2304) <|
      zlet (zup μ_19 124 (zw ((zw (48 * x_12)) + x_18)) (Int.tmod (zw ((Int.tmod (zw ((zw ((μ_19 124 (zw ((zw (48 * x_12)) + x_18))) * x_15)) - (zw ((μ_19 124 (zw ((zw (48 * x_1)) + x_18))) * x_14)))) x3) + x3)) x3)) fun μ_20 =>
      zlet (zw (x_18 + 1)) fun x_21 =>
      (f_X10_rankOf_L174 x2 x3 x_1 x_12 x_14 x_15 g238 n) x_21 μ_20
    else
      g238 μ_19
def f_X10_rankOf_L135 (x1 : Int) (x2 : Int) (x3 : Int) (x_1 : Int) (x_2 : Int) (g244 : zMem → Option (Int × zMem)) : Nat → Int → zMem → Option (Int × zMem)
  | 0, _, _ => none
  | n + 1, x_12, μ_13 =>
    if x_12 < x1 then
      chk ((0 : Int) ≤ (zw ((zw (48 * x_12)) + x_2)) ∧ (zw ((zw (48 * x_12)) + x_2)) < 2304) <|
      zlet ((μ_13 124 (zw ((zw (48 * x_12)) + x_2)))) fun x_14 =>
      chk ((0 : Int) ≤ (zw ((zw (48 * x_1)) + x_2)) ∧ (zw ((zw (48 * x_1)) + x_2)) < 2304) <|
      zlet ((μ_13 124 (zw ((zw (48 * x_1)) + x_2)))) fun x_15 =>
      (f_X10_rankOf_L174 x2 x3 x_1 x_12 x_14 x_15 (f_X10_rankOf_K238 x_12 (f_X10_rankOf_L135 x1 x2 x3 x_1 x_2 g244 n))) zfu 0 μ_13
    else
      g244 μ_13
def f_X10_rankOf_K129 (x1 : Int) (x2 : Int) (x3 : Int) (x_1 : Int) (x_2 : Int) (g6 : Int → Int → zMem → Option (Int × zMem)) (μ_7 : zMem) : Option (Int × zMem) :=
  zlet ((zw (x_1 + 1))) fun x_8 =>
  (f_X10_rankOf_L135 x1 x2 x3 x_1 x_2 (f_X10_rankOf_K244 x_1 x_2 g6)) zfu x_8 μ_7
def f_X10_rankOf_L61 (x2 : Int) (x_1 : Int) (x_4 : Int) (g129 : zMem → Option (Int × zMem)) : Nat → Int → zMem → Option (Int × zMem)
  | 0, _, _ => none
  | n + 1, x_22, μ_23 =>
    if x_22 < x2 then
      chk ((0 : Int) ≤ (zw ((zw (48 * x_4)) + x_22)) ∧ (zw ((zw (48 * x_4)) + x_22)) < 2304) <|
      zlet ((μ_23 124 (zw ((zw (48 * x_4)) + x_22)))) fun x_24 =>
      chk ((0 : Int) ≤ (zw ((zw (48 * x_1)) + x_22)) ∧ (zw ((zw (48 * x_1)) + x_22)) < 2304) <|
      chk ((0 : Int) ≤ (zw ((zw (48 * x_4)) + x_22)) ∧ (zw ((zw (48 * x_4)) + x_22)) < 2304) <|
      zlet (zup μ_23 124 (zw ((zw (48 * x_4)) + x_22)) (μ_23 124 (zw ((zw (48 * x_1)) + x_22)))) fun μ_25 =>
      chk ((0 : Int) ≤ (zw ((zw (48 * x_1)) + x_22)) ∧ (zw ((zw (48 * x_1)) + x_22)) < 2304) <|
      zlet (zup μ_25 124 (zw ((zw (48 * x_1)) + x_22)) x_24) fun μ_26 =>
      zlet (zw (x_22 + 1)) fun x_27 =>
      (f_X10_rankOf_L61 x2 x_1 x_4 g129 n) x_27 μ_26
    else
      g129 μ_23
def f_X10_rankOf_K52 (x1 : Int) (x2 : Int) (x3 : Int) (x_1 : Int) (x_2 : Int) (g6 : Int → Int → zMem → Option (Int × zMem)) (x_4 : Int) (μ_5 : zMem) : Option (Int × zMem) :=
  if x_4 < x1 then
    (f_X10_rankOf_L61 x2 x_1 x_4 (f_X10_rankOf_K129 x1 x2 x3 x_1 x_2 g6)) zfu 0 μ_5
  else
    zlet (zw (x_2 + 1)) fun x_6 =>
    g6 x_1 x_6 μ_5
def f_X10_rankOf_L22 (x1 : Int) (x3 : Int) (x_2 : Int) (g52 : Int → zMem → Option (Int × zMem)) : Nat → Int → zMem → Option (Int × zMem)
  | 0, _, _ => none
  | n + 1, x_28, μ_29 =>
    if x_28 < x1 then
      chk ((0 : Int) ≤ (zw ((zw (48 * x_28)) + x_2)) ∧ (zw ((zw (48 * x_28)) + x_2)) < 2304) <|
      chk (x3 ≠ 0) <|
      if (Int.tmod (μ_29 124 (zw ((zw (48 * x_28)) + x_2))) x3) = 0 then
        zlet (zw (x_28 + 1)) fun x_30 =>
        (f_X10_rankOf_L22 x1 x3 x_2 g52 n) x_30 μ_29
      else
        g52 x_28 μ_29
    else
      g52 x_28 μ_29
def f_X10_rankOf_L6 (x1 : Int) (x2 : Int) (x3 : Int) : Nat → Int → Int → zMem → Option (Int × zMem)
  | 0, _, _, _ => none
  | n + 1, x_1, x_2, μ_3 =>
    if x_2 < x2 then
      if x_1 < x1 then
        (f_X10_rankOf_L22 x1 x3 x_2 (f_X10_rankOf_K52 x1 x2 x3 x_1 x_2 (f_X10_rankOf_L6 x1 x2 x3 n))) zfu x_1 μ_3
      else
        some (x_1, μ_3)
    else
      some (x_1, μ_3)
def f_X10_rankOf (x1 : Int) (x2 : Int) (x3 : Int) (μ : zMem) : Option (Int × zMem) :=
  (f_X10_rankOf_L6 x1 x2 x3) zfu 0 0 μ
set_option maxHeartbeats 4000000 in
set_option maxRecDepth 100000 in
theorem M_X10_rankOf {l : Launch} {Ω : zO} (hI : zIm Ω) (μ : zMem) (x1 : Int) (x2 : Int) (x3 : Int) {r : Int} {μ' : zMem} (gx1 : Rg x1) (gx2 : Rg x2) (gx3 : Rg x3) (h : f_X10_rankOf x1 x2 x3 μ = some (r, μ')) : XMet l yX10_rankOf cX10_rankOf 11 (some Jvm.ClassFile.FieldType.int) 0 Ω [zR Ω 101, zI x1, zI x2, zI x3] μ (some (zI r)) (Rg r) μ' := by
  refine XMet.ofI (by decide) (Nat.le_of_ble_eq_true rfl) ?_
  intro p e s m args below meth c ls Q C rt X hl
  have C : zC p s m args c cX10_rankOf RX10 11 Ω := C
  have hl : lv_has ls 11 [(0, zR Ω 101), (1, zI x1), (2, zI x2), (3, zI x3)] := hl
  unfold f_X10_rankOf at h
  skip
  refine z_iconst C dX10_rankOf_0 ?_
  refine lv_istore C.1 C.2.1 (lv' := [(4, zI 0), (0, zR Ω 101), (1, zI x1), (2, zI x2), (3, zI x3)]) dX10_rankOf_1 hl (by decide) rfl (fun ls hl => ?_)
  refine z_iconst C dX10_rankOf_3 ?_
  refine lv_istore C.1 C.2.1 (lv' := [(5, zI 0), (4, zI 0), (0, zR Ω 101), (1, zI x1), (2, zI x2), (3, zI x3)]) dX10_rankOf_4 hl (by decide) rfl (fun ls hl => ?_)
  have L6 : ∀ (n6 : Nat) (x_1 : Int) (x_2 : Int) (μ_3 : zMem) (H : Heap) (locs : List Loc) (ls : Array Slot), Rg x_1 → Rg x_2 → zX Ω μ_3 (zfree Ω) s.heap H locs → lv_has ls 11 [(0, zR Ω 101), (1, zI x1), (2, zI x2), (3, zI x3), (4, zI x_1), (5, zI x_2)] → (f_X10_rankOf_L6 x1 x2 x3 n6 x_1 x_2 μ_3) = some (r, μ') → W p l e (zrm 0) s m args below meth c H locs 0 0 Q (F0 m 6 ls []) := by
    intro n6
    induction n6 with
    | zero =>
      intro x_1 x_2 μ_3 H locs ls _ _ _ _ h
      cases h
    | succ n6 ih6 =>
      intro x_1 x_2 μ_3 H locs ls gx_1 gx_2 X hl h
      unfold f_X10_rankOf_L6 at h
      refine lv_iload C.1 C.2.1 dX10_rankOf_6 (lv_at hl 5 rfl) ?_
      refine lv_iload_n C.1 C.2.1 dX10_rankOf_8 rfl (lv_at hl 2 rfl) ?_
      refine z_icmpge C gx_2 gx2 (tgt := 253) dX10_rankOf_9 (by decide) (fun hc9 => ?_) (fun hc9 => ?_)
      · rw [if_neg hc9] at h
        refine lv_iload C.1 C.2.1 dX10_rankOf_253 (lv_at hl 4 rfl) ?_
        obtain ⟨rfl, rfl⟩ := Prod.mk.inj (Option.some.inj h)
        exact rt X gx_1 dX10_rankOf_255
      · rw [if_pos hc9] at h
        refine lv_iload C.1 C.2.1 dX10_rankOf_12 (lv_at hl 4 rfl) ?_
        refine lv_iload_n C.1 C.2.1 dX10_rankOf_14 rfl (lv_at hl 1 rfl) ?_
        refine z_icmpge C gx_1 gx1 (tgt := 253) dX10_rankOf_15 (by decide) (fun hc15 => ?_) (fun hc15 => ?_)
        · rw [if_neg hc15] at h
          refine lv_iload C.1 C.2.1 dX10_rankOf_253 (lv_at hl 4 rfl) ?_
          obtain ⟨rfl, rfl⟩ := Prod.mk.inj (Option.some.inj h)
          exact rt X gx_1 dX10_rankOf_255
        · rw [if_pos hc15] at h
          refine lv_iload C.1 C.2.1 dX10_rankOf_18 (lv_at hl 4 rfl) ?_
          refine lv_istore C.1 C.2.1 (lv' := [(6, zI x_1), (0, zR Ω 101), (1, zI x1), (2, zI x2), (3, zI x3), (4, zI x_1), (5, zI x_2)]) dX10_rankOf_20 hl (by decide) rfl (fun ls hl => ?_)
          have K52 : ∀ (x_4 : Int) (μ_5 : zMem) (H : Heap) (locs : List Loc) (ls : Array Slot), Rg x_4 → zX Ω μ_5 (zfree Ω) s.heap H locs → lv_has ls 11 [(0, zR Ω 101), (1, zI x1), (2, zI x2), (3, zI x3), (4, zI x_1), (5, zI x_2), (6, zI x_4)] → (f_X10_rankOf_K52 x1 x2 x3 x_1 x_2 (f_X10_rankOf_L6 x1 x2 x3 n6)) x_4 μ_5 = some (r, μ') → W p l e (zrm 0) s m args below meth c H locs 0 0 Q (F0 m 52 ls []) := by
            intro x_4 μ_5 H locs ls gx_4 X hl h
            unfold f_X10_rankOf_K52 at h
            refine lv_iload C.1 C.2.1 dX10_rankOf_52 (lv_at hl 6 rfl) ?_
            refine lv_iload_n C.1 C.2.1 dX10_rankOf_54 rfl (lv_at hl 1 rfl) ?_
            refine z_icmpge C gx_4 gx1 (tgt := 247) dX10_rankOf_55 (by decide) (fun hc55 => ?_) (fun hc55 => ?_)
            · rw [if_neg hc55] at h
              refine zlet_elim h (fun x_6 ex_6 h => ?_)
              have gx_6 : Rg x_6 := by rw [ex_6]; exact Rg.w _
              refine z_iinc C ex_6 dX10_rankOf_247 hl (k := 5) rfl (by decide) (lv' := [(5, zI x_6), (0, zR Ω 101), (1, zI x1), (2, zI x2), (3, zI x3), (4, zI x_1), (6, zI x_4)]) rfl (fun ls hl => ?_)
              clear ex_6
              refine lv_goto (tgt := 6) C.1 C.2.1 dX10_rankOf_250 (by decide) ?_
              exact ih6 x_1 x_6 μ_5 _ _ _ gx_1 gx_6 X (lv_sub hl [1, 2, 3, 4, 5, 0] rfl) h
            · rw [if_pos hc55] at h
              refine z_iconst C dX10_rankOf_58 ?_
              refine lv_istore C.1 C.2.1 (lv' := [(7, zI 0), (0, zR Ω 101), (1, zI x1), (2, zI x2), (3, zI x3), (4, zI x_1), (5, zI x_2), (6, zI x_4)]) dX10_rankOf_59 hl (by decide) rfl (fun ls hl => ?_)
              have K129 : ∀ (μ_7 : zMem) (H : Heap) (locs : List Loc) (ls : Array Slot), zX Ω μ_7 (zfree Ω) s.heap H locs → lv_has ls 11 [(0, zR Ω 101), (1, zI x1), (2, zI x2), (3, zI x3), (4, zI x_1), (5, zI x_2)] → (f_X10_rankOf_K129 x1 x2 x3 x_1 x_2 (f_X10_rankOf_L6 x1 x2 x3 n6)) μ_7 = some (r, μ') → W p l e (zrm 0) s m args below meth c H locs 0 0 Q (F0 m 129 ls []) := by
                intro μ_7 H locs ls  X hl h
                unfold f_X10_rankOf_K129 at h
                refine lv_iload C.1 C.2.1 dX10_rankOf_129 (lv_at hl 4 rfl) ?_
                refine z_iconst C dX10_rankOf_131 ?_
                refine z_iadd C dX10_rankOf_132 ?_
                refine zlet_elim h (fun x_8 ex_8 h => ?_)
                have gx_8 : Rg x_8 := by rw [ex_8]; exact (Rg.w _)
                refine z_istore C ex_8 dX10_rankOf_133 hl (by decide) (lv' := [(7, zI x_8), (0, zR Ω 101), (1, zI x1), (2, zI x2), (3, zI x3), (4, zI x_1), (5, zI x_2)]) rfl (fun ls hl => ?_)
                clear ex_8
                have K244 : ∀ (μ_9 : zMem) (H : Heap) (locs : List Loc) (ls : Array Slot), zX Ω μ_9 (zfree Ω) s.heap H locs → lv_has ls 11 [(0, zR Ω 101), (1, zI x1), (2, zI x2), (3, zI x3), (4, zI x_1), (5, zI x_2)] → (f_X10_rankOf_K244 x_1 x_2 (f_X10_rankOf_L6 x1 x2 x3 n6)) μ_9 = some (r, μ') → W p l e (zrm 0) s m args below meth c H locs 0 0 Q (F0 m 244 ls []) := by
                  intro μ_9 H locs ls  X hl h
                  unfold f_X10_rankOf_K244 at h
                  refine zlet_elim h (fun x_10 ex_10 h => ?_)
                  have gx_10 : Rg x_10 := by rw [ex_10]; exact Rg.w _
                  refine z_iinc C ex_10 dX10_rankOf_244 hl (k := 4) rfl (by decide) (lv' := [(4, zI x_10), (0, zR Ω 101), (1, zI x1), (2, zI x2), (3, zI x3), (5, zI x_2)]) rfl (fun ls hl => ?_)
                  clear ex_10
                  refine zlet_elim h (fun x_11 ex_11 h => ?_)
                  have gx_11 : Rg x_11 := by rw [ex_11]; exact Rg.w _
                  refine z_iinc C ex_11 dX10_rankOf_247 hl (k := 5) rfl (by decide) (lv' := [(5, zI x_11), (4, zI x_10), (0, zR Ω 101), (1, zI x1), (2, zI x2), (3, zI x3)]) rfl (fun ls hl => ?_)
                  clear ex_11
                  refine lv_goto (tgt := 6) C.1 C.2.1 dX10_rankOf_250 (by decide) ?_
                  exact ih6 x_10 x_11 μ_9 _ _ _ gx_10 gx_11 X (lv_sub hl [2, 3, 4, 5, 1, 0] rfl) h
                have L135 : ∀ (n135 : Nat) (x_12 : Int) (μ_13 : zMem) (H : Heap) (locs : List Loc) (ls : Array Slot), Rg x_12 → zX Ω μ_13 (zfree Ω) s.heap H locs → lv_has ls 11 [(0, zR Ω 101), (1, zI x1), (2, zI x2), (3, zI x3), (4, zI x_1), (5, zI x_2), (7, zI x_12)] → (f_X10_rankOf_L135 x1 x2 x3 x_1 x_2 (f_X10_rankOf_K244 x_1 x_2 (f_X10_rankOf_L6 x1 x2 x3 n6)) n135 x_12 μ_13) = some (r, μ') → W p l e (zrm 0) s m args below meth c H locs 0 0 Q (F0 m 135 ls []) := by
                  intro n135
                  induction n135 with
                  | zero =>
                    intro x_12 μ_13 H locs ls _ _ _ h
                    cases h
                  | succ n135 ih135 =>
                    intro x_12 μ_13 H locs ls gx_12 X hl h
                    unfold f_X10_rankOf_L135 at h
                    refine lv_iload C.1 C.2.1 dX10_rankOf_135 (lv_at hl 6 rfl) ?_
                    refine lv_iload_n C.1 C.2.1 dX10_rankOf_137 rfl (lv_at hl 1 rfl) ?_
                    refine z_icmpge C gx_12 gx1 (tgt := 244) dX10_rankOf_138 (by decide) (fun hc138 => ?_) (fun hc138 => ?_)
                    · rw [if_neg hc138] at h
                      exact K244 μ_13 _ _ _ X (lv_sub hl [0, 1, 2, 3, 4, 5] rfl) h
                    · rw [if_pos hc138] at h
                      refine lv_aload_n C.1 C.2.1 dX10_rankOf_141 rfl (lv_at hl 0 rfl) ?_
                      refine z_get C X zk10 (hI.1 101 (by decide)) rfl 22 (by decide) kw_1054 (zR Ω 124) (zfvF (off := 23) X.2.2.2 (hI.1 101 (by decide)) hI.2 rfl rfl (by decide)) dX10_rankOf_142 ?_
                      refine z_bipush C dX10_rankOf_145 (by decide) ?_
                      refine lv_iload C.1 C.2.1 dX10_rankOf_147 (lv_at hl 6 rfl) ?_
                      refine z_imul C dX10_rankOf_149 ?_
                      refine lv_iload C.1 C.2.1 dX10_rankOf_150 (lv_at hl 5 rfl) ?_
                      refine z_iadd C dX10_rankOf_152 ?_
                      obtain ⟨hc153, h⟩ := chk_some h
                      have g_153 : Rg (μ_13 124 (zw ((zw (48 * x_12)) + x_2))) := zrg1 X.2.2.2 (hI.1 124 (by decide)) rfl
                      refine z_iald C X (hI.1 124 (by decide)) rfl hc153 dX10_rankOf_153 ?_
                      refine zlet_elim h (fun x_14 ex_14 h => ?_)
                      have gx_14 : Rg x_14 := by rw [ex_14]; exact g_153
                      refine z_istore C ex_14 dX10_rankOf_154 hl (by decide) (lv' := [(8, zI x_14), (0, zR Ω 101), (1, zI x1), (2, zI x2), (3, zI x3), (4, zI x_1), (5, zI x_2), (7, zI x_12)]) rfl (fun ls hl => ?_)
                      clear ex_14
                      refine lv_aload_n C.1 C.2.1 dX10_rankOf_156 rfl (lv_at hl 1 rfl) ?_
                      refine z_get C X zk10 (hI.1 101 (by decide)) rfl 22 (by decide) kw_1054 (zR Ω 124) (zfvF (off := 23) X.2.2.2 (hI.1 101 (by decide)) hI.2 rfl rfl (by decide)) dX10_rankOf_157 ?_
                      refine z_bipush C dX10_rankOf_160 (by decide) ?_
                      refine lv_iload C.1 C.2.1 dX10_rankOf_162 (lv_at hl 5 rfl) ?_
                      refine z_imul C dX10_rankOf_164 ?_
                      refine lv_iload C.1 C.2.1 dX10_rankOf_165 (lv_at hl 6 rfl) ?_
                      refine z_iadd C dX10_rankOf_167 ?_
                      obtain ⟨hc168, h⟩ := chk_some h
                      have g_168 : Rg (μ_13 124 (zw ((zw (48 * x_1)) + x_2))) := zrg1 X.2.2.2 (hI.1 124 (by decide)) rfl
                      refine z_iald C X (hI.1 124 (by decide)) rfl hc168 dX10_rankOf_168 ?_
                      refine zlet_elim h (fun x_15 ex_15 h => ?_)
                      have gx_15 : Rg x_15 := by rw [ex_15]; exact g_168
                      refine z_istore C ex_15 dX10_rankOf_169 hl (by decide) (lv' := [(9, zI x_15), (8, zI x_14), (0, zR Ω 101), (1, zI x1), (2, zI x2), (3, zI x3), (4, zI x_1), (5, zI x_2), (7, zI x_12)]) rfl (fun ls hl => ?_)
                      clear ex_15
                      refine z_iconst C dX10_rankOf_171 ?_
                      refine lv_istore C.1 C.2.1 (lv' := [(10, zI 0), (9, zI x_15), (8, zI x_14), (0, zR Ω 101), (1, zI x1), (2, zI x2), (3, zI x3), (4, zI x_1), (5, zI x_2), (7, zI x_12)]) dX10_rankOf_172 hl (by decide) rfl (fun ls hl => ?_)
                      have K238 : ∀ (μ_16 : zMem) (H : Heap) (locs : List Loc) (ls : Array Slot), zX Ω μ_16 (zfree Ω) s.heap H locs → lv_has ls 11 [(0, zR Ω 101), (1, zI x1), (2, zI x2), (3, zI x3), (4, zI x_1), (5, zI x_2), (7, zI x_12)] → (f_X10_rankOf_K238 x_12 (f_X10_rankOf_L135 x1 x2 x3 x_1 x_2 (f_X10_rankOf_K244 x_1 x_2 (f_X10_rankOf_L6 x1 x2 x3 n6)) n135)) μ_16 = some (r, μ') → W p l e (zrm 0) s m args below meth c H locs 0 0 Q (F0 m 238 ls []) := by
                        intro μ_16 H locs ls  X hl h
                        unfold f_X10_rankOf_K238 at h
                        refine zlet_elim h (fun x_17 ex_17 h => ?_)
                        have gx_17 : Rg x_17 := by rw [ex_17]; exact Rg.w _
                        refine z_iinc C ex_17 dX10_rankOf_238 hl (k := 6) rfl (by decide) (lv' := [(7, zI x_17), (0, zR Ω 101), (1, zI x1), (2, zI x2), (3, zI x3), (4, zI x_1), (5, zI x_2)]) rfl (fun ls hl => ?_)
                        clear ex_17
                        refine lv_goto (tgt := 135) C.1 C.2.1 dX10_rankOf_241 (by decide) ?_
                        exact ih135 x_17 μ_16 _ _ _ gx_17 X (lv_sub hl [1, 2, 3, 4, 5, 6, 0] rfl) h
                      have L174 : ∀ (n174 : Nat) (x_18 : Int) (μ_19 : zMem) (H : Heap) (locs : List Loc) (ls : Array Slot), Rg x_18 → zX Ω μ_19 (zfree Ω) s.heap H locs → lv_has ls 11 [(0, zR Ω 101), (1, zI x1), (2, zI x2), (3, zI x3), (4, zI x_1), (5, zI x_2), (7, zI x_12), (8, zI x_14), (9, zI x_15), (10, zI x_18)] → (f_X10_rankOf_L174 x2 x3 x_1 x_12 x_14 x_15 (f_X10_rankOf_K238 x_12 (f_X10_rankOf_L135 x1 x2 x3 x_1 x_2 (f_X10_rankOf_K244 x_1 x_2 (f_X10_rankOf_L6 x1 x2 x3 n6)) n135)) n174 x_18 μ_19) = some (r, μ') → W p l e (zrm 0) s m args below meth c H locs 0 0 Q (F0 m 174 ls []) := by
                        intro n174
                        induction n174 with
                        | zero =>
                          intro x_18 μ_19 H locs ls _ _ _ h
                          cases h
                        | succ n174 ih174 =>
                          intro x_18 μ_19 H locs ls gx_18 X hl h
                          unfold f_X10_rankOf_L174 at h
                          refine lv_iload C.1 C.2.1 dX10_rankOf_174 (lv_at hl 9 rfl) ?_
                          refine lv_iload_n C.1 C.2.1 dX10_rankOf_176 rfl (lv_at hl 2 rfl) ?_
                          refine z_icmpge C gx_18 gx2 (tgt := 238) dX10_rankOf_177 (by decide) (fun hc177 => ?_) (fun hc177 => ?_)
                          · rw [if_neg hc177] at h
                            exact K238 μ_19 _ _ _ X (lv_sub hl [0, 1, 2, 3, 4, 5, 6] rfl) h
                          · rw [if_pos hc177] at h
                            refine lv_aload_n C.1 C.2.1 dX10_rankOf_180 rfl (lv_at hl 0 rfl) ?_
                            refine z_get C X zk10 (hI.1 101 (by decide)) rfl 22 (by decide) kw_1054 (zR Ω 124) (zfvF (off := 23) X.2.2.2 (hI.1 101 (by decide)) hI.2 rfl rfl (by decide)) dX10_rankOf_181 ?_
                            refine z_bipush C dX10_rankOf_184 (by decide) ?_
                            refine lv_iload C.1 C.2.1 dX10_rankOf_186 (lv_at hl 6 rfl) ?_
                            refine z_imul C dX10_rankOf_188 ?_
                            refine lv_iload C.1 C.2.1 dX10_rankOf_189 (lv_at hl 9 rfl) ?_
                            refine z_iadd C dX10_rankOf_191 ?_
                            refine lv_aload_n C.1 C.2.1 dX10_rankOf_192 rfl (lv_at hl 0 rfl) ?_
                            refine z_get C X zk10 (hI.1 101 (by decide)) rfl 22 (by decide) kw_1054 (zR Ω 124) (zfvF (off := 23) X.2.2.2 (hI.1 101 (by decide)) hI.2 rfl rfl (by decide)) dX10_rankOf_193 ?_
                            refine z_bipush C dX10_rankOf_196 (by decide) ?_
                            refine lv_iload C.1 C.2.1 dX10_rankOf_198 (lv_at hl 6 rfl) ?_
                            refine z_imul C dX10_rankOf_200 ?_
                            refine lv_iload C.1 C.2.1 dX10_rankOf_201 (lv_at hl 9 rfl) ?_
                            refine z_iadd C dX10_rankOf_203 ?_
                            obtain ⟨hc204, h⟩ := chk_some h
                            have g_204 : Rg (μ_19 124 (zw ((zw (48 * x_12)) + x_18))) := zrg1 X.2.2.2 (hI.1 124 (by decide)) rfl
                            refine z_iald C X (hI.1 124 (by decide)) rfl hc204 dX10_rankOf_204 ?_
                            refine lv_iload C.1 C.2.1 dX10_rankOf_205 (lv_at hl 8 rfl) ?_
                            refine z_imul C dX10_rankOf_207 ?_
                            refine lv_aload_n C.1 C.2.1 dX10_rankOf_208 rfl (lv_at hl 0 rfl) ?_
                            refine z_get C X zk10 (hI.1 101 (by decide)) rfl 22 (by decide) kw_1054 (zR Ω 124) (zfvF (off := 23) X.2.2.2 (hI.1 101 (by decide)) hI.2 rfl rfl (by decide)) dX10_rankOf_209 ?_
                            refine z_bipush C dX10_rankOf_212 (by decide) ?_
                            refine lv_iload C.1 C.2.1 dX10_rankOf_214 (lv_at hl 4 rfl) ?_
                            refine z_imul C dX10_rankOf_216 ?_
                            refine lv_iload C.1 C.2.1 dX10_rankOf_217 (lv_at hl 9 rfl) ?_
                            refine z_iadd C dX10_rankOf_219 ?_
                            obtain ⟨hc220, h⟩ := chk_some h
                            have g_220 : Rg (μ_19 124 (zw ((zw (48 * x_1)) + x_18))) := zrg1 X.2.2.2 (hI.1 124 (by decide)) rfl
                            refine z_iald C X (hI.1 124 (by decide)) rfl hc220 dX10_rankOf_220 ?_
                            refine lv_iload C.1 C.2.1 dX10_rankOf_221 (lv_at hl 7 rfl) ?_
                            refine z_imul C dX10_rankOf_223 ?_
                            refine z_isub C dX10_rankOf_224 ?_
                            refine lv_iload_n C.1 C.2.1 dX10_rankOf_225 rfl (lv_at hl 3 rfl) ?_
                            obtain ⟨hc226, h⟩ := chk_some h
                            refine z_irem C (Rg.w _) gx3 hc226 dX10_rankOf_226 ?_
                            refine lv_iload_n C.1 C.2.1 dX10_rankOf_227 rfl (lv_at hl 3 rfl) ?_
                            refine z_iadd C dX10_rankOf_228 ?_
                            refine lv_iload_n C.1 C.2.1 dX10_rankOf_229 rfl (lv_at hl 3 rfl) ?_
                            obtain ⟨hc230, h⟩ := chk_some h
                            refine z_irem C (Rg.w _) gx3 hc230 dX10_rankOf_230 ?_
                            obtain ⟨hc231, h⟩ := chk_some h
                            refine zlet_elim h (fun μ_20 em h => ?_)
                            refine z_iast C X (hI.1 124 (by decide)) rfl hc231 (zok1 rfl (Rg.rem (Rg.w _) gx3)) em dX10_rankOf_231 (fun H locs X => ?_)
                            clear em
                            refine zlet_elim h (fun x_21 ex_21 h => ?_)
                            have gx_21 : Rg x_21 := by rw [ex_21]; exact Rg.w _
                            refine z_iinc C ex_21 dX10_rankOf_232 hl (k := 9) rfl (by decide) (lv' := [(10, zI x_21), (0, zR Ω 101), (1, zI x1), (2, zI x2), (3, zI x3), (4, zI x_1), (5, zI x_2), (7, zI x_12), (8, zI x_14), (9, zI x_15)]) rfl (fun ls hl => ?_)
                            clear ex_21
                            refine lv_goto (tgt := 174) C.1 C.2.1 dX10_rankOf_235 (by decide) ?_
                            exact ih174 x_21 μ_20 _ _ _ gx_21 X (lv_sub hl [1, 2, 3, 4, 5, 6, 7, 8, 9, 0] rfl) h
                      exact L174 zfu 0 μ_13 _ _ _ ⟨by decide, by decide⟩ X (lv_sub hl [3, 4, 5, 6, 7, 8, 9, 2, 1, 0] rfl) h
                exact L135 zfu x_8 μ_7 _ _ _ gx_8 X (lv_sub hl [1, 2, 3, 4, 5, 6, 0] rfl) h
              have L61 : ∀ (n61 : Nat) (x_22 : Int) (μ_23 : zMem) (H : Heap) (locs : List Loc) (ls : Array Slot), Rg x_22 → zX Ω μ_23 (zfree Ω) s.heap H locs → lv_has ls 11 [(0, zR Ω 101), (1, zI x1), (2, zI x2), (3, zI x3), (4, zI x_1), (5, zI x_2), (6, zI x_4), (7, zI x_22)] → (f_X10_rankOf_L61 x2 x_1 x_4 (f_X10_rankOf_K129 x1 x2 x3 x_1 x_2 (f_X10_rankOf_L6 x1 x2 x3 n6)) n61 x_22 μ_23) = some (r, μ') → W p l e (zrm 0) s m args below meth c H locs 0 0 Q (F0 m 61 ls []) := by
                intro n61
                induction n61 with
                | zero =>
                  intro x_22 μ_23 H locs ls _ _ _ h
                  cases h
                | succ n61 ih61 =>
                  intro x_22 μ_23 H locs ls gx_22 X hl h
                  unfold f_X10_rankOf_L61 at h
                  refine lv_iload C.1 C.2.1 dX10_rankOf_61 (lv_at hl 7 rfl) ?_
                  refine lv_iload_n C.1 C.2.1 dX10_rankOf_63 rfl (lv_at hl 2 rfl) ?_
                  refine z_icmpge C gx_22 gx2 (tgt := 129) dX10_rankOf_64 (by decide) (fun hc64 => ?_) (fun hc64 => ?_)
                  · rw [if_neg hc64] at h
                    exact K129 μ_23 _ _ _ X (lv_sub hl [0, 1, 2, 3, 4, 5] rfl) h
                  · rw [if_pos hc64] at h
                    refine lv_aload_n C.1 C.2.1 dX10_rankOf_67 rfl (lv_at hl 0 rfl) ?_
                    refine z_get C X zk10 (hI.1 101 (by decide)) rfl 22 (by decide) kw_1054 (zR Ω 124) (zfvF (off := 23) X.2.2.2 (hI.1 101 (by decide)) hI.2 rfl rfl (by decide)) dX10_rankOf_68 ?_
                    refine z_bipush C dX10_rankOf_71 (by decide) ?_
                    refine lv_iload C.1 C.2.1 dX10_rankOf_73 (lv_at hl 6 rfl) ?_
                    refine z_imul C dX10_rankOf_75 ?_
                    refine lv_iload C.1 C.2.1 dX10_rankOf_76 (lv_at hl 7 rfl) ?_
                    refine z_iadd C dX10_rankOf_78 ?_
                    obtain ⟨hc79, h⟩ := chk_some h
                    have g_79 : Rg (μ_23 124 (zw ((zw (48 * x_4)) + x_22))) := zrg1 X.2.2.2 (hI.1 124 (by decide)) rfl
                    refine z_iald C X (hI.1 124 (by decide)) rfl hc79 dX10_rankOf_79 ?_
                    refine zlet_elim h (fun x_24 ex_24 h => ?_)
                    have gx_24 : Rg x_24 := by rw [ex_24]; exact g_79
                    refine z_istore C ex_24 dX10_rankOf_80 hl (by decide) (lv' := [(8, zI x_24), (0, zR Ω 101), (1, zI x1), (2, zI x2), (3, zI x3), (4, zI x_1), (5, zI x_2), (6, zI x_4), (7, zI x_22)]) rfl (fun ls hl => ?_)
                    clear ex_24
                    refine lv_aload_n C.1 C.2.1 dX10_rankOf_82 rfl (lv_at hl 1 rfl) ?_
                    refine z_get C X zk10 (hI.1 101 (by decide)) rfl 22 (by decide) kw_1054 (zR Ω 124) (zfvF (off := 23) X.2.2.2 (hI.1 101 (by decide)) hI.2 rfl rfl (by decide)) dX10_rankOf_83 ?_
                    refine z_bipush C dX10_rankOf_86 (by decide) ?_
                    refine lv_iload C.1 C.2.1 dX10_rankOf_88 (lv_at hl 7 rfl) ?_
                    refine z_imul C dX10_rankOf_90 ?_
                    refine lv_iload C.1 C.2.1 dX10_rankOf_91 (lv_at hl 8 rfl) ?_
                    refine z_iadd C dX10_rankOf_93 ?_
                    refine lv_aload_n C.1 C.2.1 dX10_rankOf_94 rfl (lv_at hl 1 rfl) ?_
                    refine z_get C X zk10 (hI.1 101 (by decide)) rfl 22 (by decide) kw_1054 (zR Ω 124) (zfvF (off := 23) X.2.2.2 (hI.1 101 (by decide)) hI.2 rfl rfl (by decide)) dX10_rankOf_95 ?_
                    refine z_bipush C dX10_rankOf_98 (by decide) ?_
                    refine lv_iload C.1 C.2.1 dX10_rankOf_100 (lv_at hl 5 rfl) ?_
                    refine z_imul C dX10_rankOf_102 ?_
                    refine lv_iload C.1 C.2.1 dX10_rankOf_103 (lv_at hl 8 rfl) ?_
                    refine z_iadd C dX10_rankOf_105 ?_
                    obtain ⟨hc106, h⟩ := chk_some h
                    have g_106 : Rg (μ_23 124 (zw ((zw (48 * x_1)) + x_22))) := zrg1 X.2.2.2 (hI.1 124 (by decide)) rfl
                    refine z_iald C X (hI.1 124 (by decide)) rfl hc106 dX10_rankOf_106 ?_
                    obtain ⟨hc107, h⟩ := chk_some h
                    refine zlet_elim h (fun μ_25 em h => ?_)
                    refine z_iast C X (hI.1 124 (by decide)) rfl hc107 (zok1 rfl g_106) em dX10_rankOf_107 (fun H locs X => ?_)
                    clear em
                    refine lv_aload_n C.1 C.2.1 dX10_rankOf_108 rfl (lv_at hl 1 rfl) ?_
                    refine z_get C X zk10 (hI.1 101 (by decide)) rfl 22 (by decide) kw_1054 (zR Ω 124) (zfvF (off := 23) X.2.2.2 (hI.1 101 (by decide)) hI.2 rfl rfl (by decide)) dX10_rankOf_109 ?_
                    refine z_bipush C dX10_rankOf_112 (by decide) ?_
                    refine lv_iload C.1 C.2.1 dX10_rankOf_114 (lv_at hl 5 rfl) ?_
                    refine z_imul C dX10_rankOf_116 ?_
                    refine lv_iload C.1 C.2.1 dX10_rankOf_117 (lv_at hl 8 rfl) ?_
                    refine z_iadd C dX10_rankOf_119 ?_
                    refine lv_iload C.1 C.2.1 dX10_rankOf_120 (lv_at hl 0 rfl) ?_
                    obtain ⟨hc122, h⟩ := chk_some h
                    refine zlet_elim h (fun μ_26 em h => ?_)
                    refine z_iast C X (hI.1 124 (by decide)) rfl hc122 (zok1 rfl gx_24) em dX10_rankOf_122 (fun H locs X => ?_)
                    clear em
                    refine zlet_elim h (fun x_27 ex_27 h => ?_)
                    have gx_27 : Rg x_27 := by rw [ex_27]; exact Rg.w _
                    refine z_iinc C ex_27 dX10_rankOf_123 hl (k := 8) rfl (by decide) (lv' := [(7, zI x_27), (8, zI x_24), (0, zR Ω 101), (1, zI x1), (2, zI x2), (3, zI x3), (4, zI x_1), (5, zI x_2), (6, zI x_4)]) rfl (fun ls hl => ?_)
                    clear ex_27
                    refine lv_goto (tgt := 61) C.1 C.2.1 dX10_rankOf_126 (by decide) ?_
                    exact ih61 x_27 μ_26 _ _ _ gx_27 X (lv_sub hl [2, 3, 4, 5, 6, 7, 8, 0] rfl) h
              exact L61 zfu 0 μ_5 _ _ _ ⟨by decide, by decide⟩ X (lv_sub hl [1, 2, 3, 4, 5, 6, 7, 0] rfl) h
          have L22 : ∀ (n22 : Nat) (x_28 : Int) (μ_29 : zMem) (H : Heap) (locs : List Loc) (ls : Array Slot), Rg x_28 → zX Ω μ_29 (zfree Ω) s.heap H locs → lv_has ls 11 [(0, zR Ω 101), (1, zI x1), (2, zI x2), (3, zI x3), (4, zI x_1), (5, zI x_2), (6, zI x_28)] → (f_X10_rankOf_L22 x1 x3 x_2 (f_X10_rankOf_K52 x1 x2 x3 x_1 x_2 (f_X10_rankOf_L6 x1 x2 x3 n6)) n22 x_28 μ_29) = some (r, μ') → W p l e (zrm 0) s m args below meth c H locs 0 0 Q (F0 m 22 ls []) := by
            intro n22
            induction n22 with
            | zero =>
              intro x_28 μ_29 H locs ls _ _ _ h
              cases h
            | succ n22 ih22 =>
              intro x_28 μ_29 H locs ls gx_28 X hl h
              unfold f_X10_rankOf_L22 at h
              refine lv_iload C.1 C.2.1 dX10_rankOf_22 (lv_at hl 6 rfl) ?_
              refine lv_iload_n C.1 C.2.1 dX10_rankOf_24 rfl (lv_at hl 1 rfl) ?_
              refine z_icmpge C gx_28 gx1 (tgt := 52) dX10_rankOf_25 (by decide) (fun hc25 => ?_) (fun hc25 => ?_)
              · rw [if_neg hc25] at h
                exact K52 x_28 μ_29 _ _ _ gx_28 X (lv_sub hl [0, 1, 2, 3, 4, 5, 6] rfl) h
              · rw [if_pos hc25] at h
                refine lv_aload_n C.1 C.2.1 dX10_rankOf_28 rfl (lv_at hl 0 rfl) ?_
                refine z_get C X zk10 (hI.1 101 (by decide)) rfl 22 (by decide) kw_1054 (zR Ω 124) (zfvF (off := 23) X.2.2.2 (hI.1 101 (by decide)) hI.2 rfl rfl (by decide)) dX10_rankOf_29 ?_
                refine z_bipush C dX10_rankOf_32 (by decide) ?_
                refine lv_iload C.1 C.2.1 dX10_rankOf_34 (lv_at hl 6 rfl) ?_
                refine z_imul C dX10_rankOf_36 ?_
                refine lv_iload C.1 C.2.1 dX10_rankOf_37 (lv_at hl 5 rfl) ?_
                refine z_iadd C dX10_rankOf_39 ?_
                obtain ⟨hc40, h⟩ := chk_some h
                have g_40 : Rg (μ_29 124 (zw ((zw (48 * x_28)) + x_2))) := zrg1 X.2.2.2 (hI.1 124 (by decide)) rfl
                refine z_iald C X (hI.1 124 (by decide)) rfl hc40 dX10_rankOf_40 ?_
                refine lv_iload_n C.1 C.2.1 dX10_rankOf_41 rfl (lv_at hl 3 rfl) ?_
                obtain ⟨hc42, h⟩ := chk_some h
                refine z_irem C g_40 gx3 hc42 dX10_rankOf_42 ?_
                refine z_ifne C (Rg.rem g_40 gx3) (tgt := 52) dX10_rankOf_43 (by decide) (fun hc43 => ?_) (fun hc43 => ?_)
                · rw [if_neg hc43] at h
                  exact K52 x_28 μ_29 _ _ _ gx_28 X (lv_sub hl [0, 1, 2, 3, 4, 5, 6] rfl) h
                · rw [if_pos hc43] at h
                  refine zlet_elim h (fun x_30 ex_30 h => ?_)
                  have gx_30 : Rg x_30 := by rw [ex_30]; exact Rg.w _
                  refine z_iinc C ex_30 dX10_rankOf_46 hl (k := 6) rfl (by decide) (lv' := [(6, zI x_30), (0, zR Ω 101), (1, zI x1), (2, zI x2), (3, zI x3), (4, zI x_1), (5, zI x_2)]) rfl (fun ls hl => ?_)
                  clear ex_30
                  refine lv_goto (tgt := 22) C.1 C.2.1 dX10_rankOf_49 (by decide) ?_
                  exact ih22 x_30 μ_29 _ _ _ gx_30 X (lv_sub hl [1, 2, 3, 4, 5, 6, 0] rfl) h
          exact L22 zfu x_1 μ_3 _ _ _ gx_1 X (lv_sub hl [1, 2, 3, 4, 5, 6, 0] rfl) h
  exact L6 zfu 0 0 μ _ _ _ ⟨by decide, by decide⟩ ⟨by decide, by decide⟩ X (lv_sub hl [2, 3, 4, 5, 1, 0] rfl) h
theorem zc_X10_rankOf : zcal yX10_rankOf cX10_rankOf 11 (some Jvm.ClassFile.FieldType.int) RX10 3 := ⟨⟨kw_1369, kw_1368, kp_78, kw_12⟩, rfl, by decide, by decide, by decide +kernel⟩

