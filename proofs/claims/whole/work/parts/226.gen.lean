def f_X10_put_J36 (x1 : Int) (μ_1 : zMem) : Option zMem :=
  chk ((0 : Int) ≤ (μ_1 101 51) ∧ (μ_1 101 51) < 24) <|
  zlet (zup μ_1 154 (μ_1 101 51) x1) fun μ_2 =>
  zlet (zup μ_2 101 51 (zw ((μ_2 101 51) + 1))) fun μ_3 =>
  some μ_3
def f_X10_put (x1 : Int) (μ : zMem) : Option zMem :=
  if (μ 101 51) ≤ 0 then
    (f_X10_put_J36 x1) μ
  else
    chk ((0 : Int) ≤ (zw ((μ 101 51) - 1)) ∧ (zw ((μ 101 51) - 1)) < 24) <|
    if (μ 154 (zw ((μ 101 51) - 1))) = (zw (-x1)) then
      zlet (zup μ 101 51 (zw ((μ 101 51) - 1))) fun μ_4 =>
      some μ_4
    else
      (f_X10_put_J36 x1) μ
set_option maxHeartbeats 4000000 in
set_option maxRecDepth 100000 in
theorem M_X10_put {l : Launch} {Ω : zO} (hI : zIm Ω) (μ : zMem) (x1 : Int) {μ' : zMem} (gx1 : Rg x1) (h : f_X10_put x1 μ = some μ') : XMet l yX10_put cX10_put 2 none 0 Ω [zR Ω 101, zI x1] μ none True μ' := by
  refine XMet.ofV (by decide) (Nat.le_of_ble_eq_true rfl) ?_
  intro p e s m args below meth c ls Q C rt X hl
  have C : zC p s m args c cX10_put RX10 2 Ω := C
  have hl : lv_has ls 2 [(0, zR Ω 101), (1, zI x1)] := hl
  unfold f_X10_put at h
  skip
  refine lv_aload_n C.1 C.2.1 dX10_put_0 rfl (lv_at hl 0 rfl) ?_
  have g_1 : Rg (μ 101 51) := zrgf0 (ci := 10) X.2.2.2 (hI.1 101 (by decide)) rfl 51 rfl
  refine z_get C X zk10 (hI.1 101 (by decide)) rfl 51 (by decide) kw_1083 (zI (μ 101 51)) rfl dX10_put_1 ?_
  have K36 : ∀ (μ_1 : zMem) (H : Heap) (locs : List Loc) (ls : Array Slot), zX Ω μ_1 (zfree Ω) s.heap H locs → lv_has ls 2 [(0, zR Ω 101), (1, zI x1)] → (f_X10_put_J36 x1) μ_1 = some μ' → W p l e (zrm 0) s m args below meth c H locs 0 0 Q (F0 m 36 ls []) := by
    intro μ_1 H locs ls  X hl h
    unfold f_X10_put_J36 at h
    refine lv_aload_n C.1 C.2.1 dX10_put_36 rfl (lv_at hl 0 rfl) ?_
    refine z_get C X zk10 (hI.1 101 (by decide)) rfl 52 (by decide) kw_1084 (zR Ω 154) (zfvF (off := 53) X.2.2.2 (hI.1 101 (by decide)) hI.2 rfl rfl (by decide)) dX10_put_37 ?_
    refine lv_aload_n C.1 C.2.1 dX10_put_40 rfl (lv_at hl 0 rfl) ?_
    have g_41 : Rg (μ_1 101 51) := zrgf0 (ci := 10) X.2.2.2 (hI.1 101 (by decide)) rfl 51 rfl
    refine z_get C X zk10 (hI.1 101 (by decide)) rfl 51 (by decide) kw_1083 (zI (μ_1 101 51)) rfl dX10_put_41 ?_
    refine lv_iload_n C.1 C.2.1 dX10_put_44 rfl (lv_at hl 1 rfl) ?_
    obtain ⟨hc45, h⟩ := chk_some h
    refine zlet_elim h (fun μ_2 em h => ?_)
    refine z_iast C X (hI.1 154 (by decide)) rfl hc45 (zok1 rfl gx1) em dX10_put_45 (fun H locs X => ?_)
    clear em
    refine lv_aload_n C.1 C.2.1 dX10_put_46 rfl (lv_at hl 0 rfl) ?_
    refine lv_dup C.1 C.2.1 dX10_put_47 rfl ?_
    have g_48 : Rg (μ_2 101 51) := zrgf0 (ci := 10) X.2.2.2 (hI.1 101 (by decide)) rfl 51 rfl
    refine z_get C X zk10 (hI.1 101 (by decide)) rfl 51 (by decide) kw_1083 (zI (μ_2 101 51)) rfl dX10_put_48 ?_
    refine z_iconst C dX10_put_51 ?_
    refine z_iadd C dX10_put_52 ?_
    refine zlet_elim h (fun μ_3 em h => ?_)
    refine z_putI C X zk10 (hI.1 101 (by decide)) rfl 51 (by decide) kw_1083 rfl rfl rfl rfl (Rg.w _) em dX10_put_53 (fun H locs X => ?_)
    clear em
    obtain rfl := Option.some.inj h
    exact rt X dX10_put_56
  refine z_ifle C g_1 (tgt := 36) dX10_put_4 (by decide) (fun hc4 => ?_) (fun hc4 => ?_)
  · rw [if_pos hc4] at h
    exact K36 μ _ _ _ X (lv_sub hl [0, 1] rfl) h
  · rw [if_neg hc4] at h
    refine lv_aload_n C.1 C.2.1 dX10_put_7 rfl (lv_at hl 0 rfl) ?_
    refine z_get C X zk10 (hI.1 101 (by decide)) rfl 52 (by decide) kw_1084 (zR Ω 154) (zfvF (off := 53) X.2.2.2 (hI.1 101 (by decide)) hI.2 rfl rfl (by decide)) dX10_put_8 ?_
    refine lv_aload_n C.1 C.2.1 dX10_put_11 rfl (lv_at hl 0 rfl) ?_
    have g_12 : Rg (μ 101 51) := zrgf0 (ci := 10) X.2.2.2 (hI.1 101 (by decide)) rfl 51 rfl
    refine z_get C X zk10 (hI.1 101 (by decide)) rfl 51 (by decide) kw_1083 (zI (μ 101 51)) rfl dX10_put_12 ?_
    refine z_iconst C dX10_put_15 ?_
    refine z_isub C dX10_put_16 ?_
    obtain ⟨hc17, h⟩ := chk_some h
    have g_17 : Rg (μ 154 (zw ((μ 101 51) - 1))) := zrg1 X.2.2.2 (hI.1 154 (by decide)) rfl
    refine z_iald C X (hI.1 154 (by decide)) rfl hc17 dX10_put_17 ?_
    refine lv_iload_n C.1 C.2.1 dX10_put_18 rfl (lv_at hl 1 rfl) ?_
    refine z_ineg C dX10_put_19 ?_
    refine z_icmpne C g_17 (Rg.w _) (tgt := 36) dX10_put_20 (by decide) (fun hc20 => ?_) (fun hc20 => ?_)
    · rw [if_neg hc20] at h
      exact K36 μ _ _ _ X (lv_sub hl [0, 1] rfl) h
    · rw [if_pos hc20] at h
      refine lv_aload_n C.1 C.2.1 dX10_put_23 rfl (lv_at hl 0 rfl) ?_
      refine lv_dup C.1 C.2.1 dX10_put_24 rfl ?_
      have g_25 : Rg (μ 101 51) := zrgf0 (ci := 10) X.2.2.2 (hI.1 101 (by decide)) rfl 51 rfl
      refine z_get C X zk10 (hI.1 101 (by decide)) rfl 51 (by decide) kw_1083 (zI (μ 101 51)) rfl dX10_put_25 ?_
      refine z_iconst C dX10_put_28 ?_
      refine z_isub C dX10_put_29 ?_
      refine zlet_elim h (fun μ_4 em h => ?_)
      refine z_putI C X zk10 (hI.1 101 (by decide)) rfl 51 (by decide) kw_1083 rfl rfl rfl rfl (Rg.w _) em dX10_put_30 (fun H locs X => ?_)
      clear em
      refine lv_goto (tgt := 56) C.1 C.2.1 dX10_put_33 (by decide) ?_
      obtain rfl := Option.some.inj h
      exact rt X dX10_put_56
theorem zc_X10_put : zcal yX10_put cX10_put 2 none RX10 1 := ⟨⟨kw_1473, kw_1472, kp_93, kw_12⟩, rfl, by decide, by decide, by decide +kernel⟩

def f_X10_keepWord_L111 (x1 : Int) : Nat → Int → zMem → Option (Int × zMem)
  | 0, _, _ => none
  | n + 1, x_11, μ_12 =>
    if x_11 < (μ_12 101 51) then
      chk ((0 : Int) ≤ x_11 ∧ x_11 < 24) <|
      chk ((0 : Int) ≤ (zw ((zw (16 * x1)) + x_11)) ∧ (zw ((zw (16 * x1)) + x_11)) < 64) <|
      zlet (zup μ_12 152 (zw ((zw (16 * x1)) + x_11)) (μ_12 154 x_11)) fun μ_13 =>
      zlet (zw (x_11 + 1)) fun x_14 =>
      (f_X10_keepWord_L111 x1 n) x_14 μ_13
    else
      some ((μ_12 101 51), μ_12)
def f_X10_keepWord_J108 (x1 : Int) (x_8 : Int) (μ_9 : zMem) : Option (Int × zMem) :=
  chk ((0 : Int) ≤ x1 ∧ x1 < 4) <|
  zlet (zup μ_9 151 x1 x_8) fun μ_10 =>
  (f_X10_keepWord_L111 x1) zfu 0 μ_10
def f_X10_keepWord_J75 (x1 : Int) (x2 : Int) (x_5 : Int) (μ_6 : zMem) : Option (Int × zMem) :=
  chk ((0 : Int) ≤ x1 ∧ x1 < 4) <|
  zlet (zup μ_6 150 x1 x_5) fun μ_7 =>
  if (μ_7 101 13) = 0 then
    (f_X10_keepWord_J108 x1) 0 μ_7
  else
    chk ((0 : Int) ≤ (zw ((μ_7 101 13) - 1)) ∧ (zw ((μ_7 101 13) - 1)) < 17) <|
    bnd (f_X10_toOf x2 (μ_7 116 (zw ((μ_7 101 13) - 1))) μ_7) fun x_15 =>
    (f_X10_keepWord_J108 x1) x_15 μ_7
def f_X10_keepWord_K31 (x1 : Int) (x2 : Int) (μ_2 : zMem) : Option (Int × zMem) :=
  chk ((0 : Int) ≤ x1 ∧ x1 < 4) <|
  zlet (zup μ_2 148 x1 x2) fun μ_3 =>
  chk ((0 : Int) ≤ x1 ∧ x1 < 4) <|
  zlet (zup μ_3 149 x1 (μ_3 101 51)) fun μ_4 =>
  if (μ_4 101 13) = 0 then
    (f_X10_keepWord_J75 x1 x2) 0 μ_4
  else
    bnd (f_X10_fromOf x2 (μ_4 116 0) μ_4) fun x_16 =>
    (f_X10_keepWord_J75 x1 x2) x_16 μ_4
def f_X10_keepWord_L7 (g31 : zMem → Option (Int × zMem)) : Nat → Int → zMem → Option (Int × zMem)
  | 0, _, _ => none
  | n + 1, x_17, μ_18 =>
    if x_17 < (μ_18 101 13) then
      chk ((0 : Int) ≤ x_17 ∧ x_17 < 17) <|
      bnd (f_X10_put (μ_18 116 x_17) μ_18) fun μ_19 =>
      zlet (zw (x_17 + 1)) fun x_20 =>
      (f_X10_keepWord_L7 g31 n) x_20 μ_19
    else
      g31 μ_18
def f_X10_keepWord (x1 : Int) (x2 : Int) (μ : zMem) : Option (Int × zMem) :=
  zlet (zup μ 101 51 0) fun μ_1 =>
  (f_X10_keepWord_L7 (f_X10_keepWord_K31 x1 x2)) zfu 0 μ_1
set_option maxHeartbeats 4000000 in
set_option maxRecDepth 100000 in
theorem M_X10_keepWord {l : Launch} {Ω : zO} (hI : zIm Ω) (μ : zMem) (x1 : Int) (x2 : Int) {r : Int} {μ' : zMem} (gx1 : Rg x1) (gx2 : Rg x2) (h : f_X10_keepWord x1 x2 μ = some (r, μ')) : XMet l yX10_keepWord cX10_keepWord 4 (some Jvm.ClassFile.FieldType.int) 2 Ω [zR Ω 101, zI x1, zI x2] μ (some (zI r)) (Rg r) μ' := by
  refine XMet.ofI (by decide) (Nat.le_of_ble_eq_true rfl) ?_
  intro p e s m args below meth c ls Q C rt X hl
  have C : zC p s m args c cX10_keepWord RX10 4 Ω := C
  have hl : lv_has ls 4 [(0, zR Ω 101), (1, zI x1), (2, zI x2)] := hl
  unfold f_X10_keepWord at h
  skip
  refine lv_aload_n C.1 C.2.1 dX10_keepWord_0 rfl (lv_at hl 0 rfl) ?_
  refine z_iconst C dX10_keepWord_1 ?_
  refine zlet_elim h (fun μ_1 em h => ?_)
  refine z_putI C X zk10 (hI.1 101 (by decide)) rfl 51 (by decide) kw_1083 rfl rfl rfl rfl ⟨by decide, by decide⟩ em dX10_keepWord_2 (fun H locs X => ?_)
  clear em
  refine z_iconst C dX10_keepWord_5 ?_
  refine lv_istore_n C.1 C.2.1 (lv' := [(3, zI 0), (0, zR Ω 101), (1, zI x1), (2, zI x2)]) dX10_keepWord_6 rfl hl (by decide) rfl (fun ls hl => ?_)
  have K31 : ∀ (μ_2 : zMem) (H : Heap) (locs : List Loc) (ls : Array Slot), zX Ω μ_2 (zfree Ω) s.heap H locs → lv_has ls 4 [(0, zR Ω 101), (1, zI x1), (2, zI x2)] → (f_X10_keepWord_K31 x1 x2) μ_2 = some (r, μ') → W p l e (zrm 2) s m args below meth c H locs 0 0 Q (F0 m 31 ls []) := by
    intro μ_2 H locs ls  X hl h
    unfold f_X10_keepWord_K31 at h
    refine lv_aload_n C.1 C.2.1 dX10_keepWord_31 rfl (lv_at hl 0 rfl) ?_
    refine z_get C X zk10 (hI.1 101 (by decide)) rfl 46 (by decide) kw_1078 (zR Ω 148) (zfvF (off := 47) X.2.2.2 (hI.1 101 (by decide)) hI.2 rfl rfl (by decide)) dX10_keepWord_32 ?_
    refine lv_iload_n C.1 C.2.1 dX10_keepWord_35 rfl (lv_at hl 1 rfl) ?_
    refine lv_iload_n C.1 C.2.1 dX10_keepWord_36 rfl (lv_at hl 2 rfl) ?_
    obtain ⟨hc37, h⟩ := chk_some h
    refine zlet_elim h (fun μ_3 em h => ?_)
    refine z_iast C X (hI.1 148 (by decide)) rfl hc37 (zok1 rfl gx2) em dX10_keepWord_37 (fun H locs X => ?_)
    clear em
    refine lv_aload_n C.1 C.2.1 dX10_keepWord_38 rfl (lv_at hl 0 rfl) ?_
    refine z_get C X zk10 (hI.1 101 (by decide)) rfl 47 (by decide) kw_1079 (zR Ω 149) (zfvF (off := 48) X.2.2.2 (hI.1 101 (by decide)) hI.2 rfl rfl (by decide)) dX10_keepWord_39 ?_
    refine lv_iload_n C.1 C.2.1 dX10_keepWord_42 rfl (lv_at hl 1 rfl) ?_
    refine lv_aload_n C.1 C.2.1 dX10_keepWord_43 rfl (lv_at hl 0 rfl) ?_
    have g_44 : Rg (μ_3 101 51) := zrgf0 (ci := 10) X.2.2.2 (hI.1 101 (by decide)) rfl 51 rfl
    refine z_get C X zk10 (hI.1 101 (by decide)) rfl 51 (by decide) kw_1083 (zI (μ_3 101 51)) rfl dX10_keepWord_44 ?_
    obtain ⟨hc47, h⟩ := chk_some h
    refine zlet_elim h (fun μ_4 em h => ?_)
    refine z_iast C X (hI.1 149 (by decide)) rfl hc47 (zok1 rfl g_44) em dX10_keepWord_47 (fun H locs X => ?_)
    clear em
    refine lv_aload_n C.1 C.2.1 dX10_keepWord_48 rfl (lv_at hl 0 rfl) ?_
    refine z_get C X zk10 (hI.1 101 (by decide)) rfl 48 (by decide) kw_1080 (zR Ω 150) (zfvF (off := 49) X.2.2.2 (hI.1 101 (by decide)) hI.2 rfl rfl (by decide)) dX10_keepWord_49 ?_
    refine lv_iload_n C.1 C.2.1 dX10_keepWord_52 rfl (lv_at hl 1 rfl) ?_
    refine lv_aload_n C.1 C.2.1 dX10_keepWord_53 rfl (lv_at hl 0 rfl) ?_
    have g_54 : Rg (μ_4 101 13) := zrgf0 (ci := 10) X.2.2.2 (hI.1 101 (by decide)) rfl 13 rfl
    refine z_get C X zk10 (hI.1 101 (by decide)) rfl 13 (by decide) kw_1045 (zI (μ_4 101 13)) rfl dX10_keepWord_54 ?_
    have K75 : ∀ (x_5 : Int) (μ_6 : zMem) (H : Heap) (locs : List Loc) (ls : Array Slot), Rg x_5 → zX Ω μ_6 (zfree Ω) s.heap H locs → lv_has ls 4 [(0, zR Ω 101), (1, zI x1), (2, zI x2)] → (f_X10_keepWord_J75 x1 x2) x_5 μ_6 = some (r, μ') → W p l e (zrm 2) s m args below meth c H locs 0 0 Q (F0 m 75 ls [zI x_5, zI x1, zR Ω 150]) := by
      intro x_5 μ_6 H locs ls gx_5 X hl h
      unfold f_X10_keepWord_J75 at h
      obtain ⟨hc75, h⟩ := chk_some h
      refine zlet_elim h (fun μ_7 em h => ?_)
      refine z_iast C X (hI.1 150 (by decide)) rfl hc75 (zok1 rfl gx_5) em dX10_keepWord_75 (fun H locs X => ?_)
      clear em
      refine lv_aload_n C.1 C.2.1 dX10_keepWord_76 rfl (lv_at hl 0 rfl) ?_
      refine z_get C X zk10 (hI.1 101 (by decide)) rfl 49 (by decide) kw_1081 (zR Ω 151) (zfvF (off := 50) X.2.2.2 (hI.1 101 (by decide)) hI.2 rfl rfl (by decide)) dX10_keepWord_77 ?_
      refine lv_iload_n C.1 C.2.1 dX10_keepWord_80 rfl (lv_at hl 1 rfl) ?_
      refine lv_aload_n C.1 C.2.1 dX10_keepWord_81 rfl (lv_at hl 0 rfl) ?_
      have g_82 : Rg (μ_7 101 13) := zrgf0 (ci := 10) X.2.2.2 (hI.1 101 (by decide)) rfl 13 rfl
      refine z_get C X zk10 (hI.1 101 (by decide)) rfl 13 (by decide) kw_1045 (zI (μ_7 101 13)) rfl dX10_keepWord_82 ?_
      have K108 : ∀ (x_8 : Int) (μ_9 : zMem) (H : Heap) (locs : List Loc) (ls : Array Slot), Rg x_8 → zX Ω μ_9 (zfree Ω) s.heap H locs → lv_has ls 4 [(0, zR Ω 101), (1, zI x1)] → (f_X10_keepWord_J108 x1) x_8 μ_9 = some (r, μ') → W p l e (zrm 2) s m args below meth c H locs 0 0 Q (F0 m 108 ls [zI x_8, zI x1, zR Ω 151]) := by
        intro x_8 μ_9 H locs ls gx_8 X hl h
        unfold f_X10_keepWord_J108 at h
        obtain ⟨hc108, h⟩ := chk_some h
        refine zlet_elim h (fun μ_10 em h => ?_)
        refine z_iast C X (hI.1 151 (by decide)) rfl hc108 (zok1 rfl gx_8) em dX10_keepWord_108 (fun H locs X => ?_)
        clear em
        refine z_iconst C dX10_keepWord_109 ?_
        refine lv_istore_n C.1 C.2.1 (lv' := [(3, zI 0), (0, zR Ω 101), (1, zI x1)]) dX10_keepWord_110 rfl hl (by decide) rfl (fun ls hl => ?_)
        have L111 : ∀ (n111 : Nat) (x_11 : Int) (μ_12 : zMem) (H : Heap) (locs : List Loc) (ls : Array Slot), Rg x_11 → zX Ω μ_12 (zfree Ω) s.heap H locs → lv_has ls 4 [(0, zR Ω 101), (1, zI x1), (3, zI x_11)] → (f_X10_keepWord_L111 x1 n111 x_11 μ_12) = some (r, μ') → W p l e (zrm 2) s m args below meth c H locs 0 0 Q (F0 m 111 ls []) := by
          intro n111
          induction n111 with
          | zero =>
            intro x_11 μ_12 H locs ls _ _ _ h
            cases h
          | succ n111 ih111 =>
            intro x_11 μ_12 H locs ls gx_11 X hl h
            unfold f_X10_keepWord_L111 at h
            refine lv_iload_n C.1 C.2.1 dX10_keepWord_111 rfl (lv_at hl 2 rfl) ?_
            refine lv_aload_n C.1 C.2.1 dX10_keepWord_112 rfl (lv_at hl 0 rfl) ?_
            have g_113 : Rg (μ_12 101 51) := zrgf0 (ci := 10) X.2.2.2 (hI.1 101 (by decide)) rfl 51 rfl
            refine z_get C X zk10 (hI.1 101 (by decide)) rfl 51 (by decide) kw_1083 (zI (μ_12 101 51)) rfl dX10_keepWord_113 ?_
            refine z_icmpge C gx_11 g_113 (tgt := 142) dX10_keepWord_116 (by decide) (fun hc116 => ?_) (fun hc116 => ?_)
            · rw [if_neg hc116] at h
              refine lv_aload_n C.1 C.2.1 dX10_keepWord_142 rfl (lv_at hl 0 rfl) ?_
              have g_143 : Rg (μ_12 101 51) := zrgf0 (ci := 10) X.2.2.2 (hI.1 101 (by decide)) rfl 51 rfl
              refine z_get C X zk10 (hI.1 101 (by decide)) rfl 51 (by decide) kw_1083 (zI (μ_12 101 51)) rfl dX10_keepWord_143 ?_
              obtain ⟨rfl, rfl⟩ := Prod.mk.inj (Option.some.inj h)
              exact rt X g_143 dX10_keepWord_146
            · rw [if_pos hc116] at h
              refine lv_aload_n C.1 C.2.1 dX10_keepWord_119 rfl (lv_at hl 0 rfl) ?_
              refine z_get C X zk10 (hI.1 101 (by decide)) rfl 50 (by decide) kw_1082 (zR Ω 152) (zfvF (off := 51) X.2.2.2 (hI.1 101 (by decide)) hI.2 rfl rfl (by decide)) dX10_keepWord_120 ?_
              refine z_bipush C dX10_keepWord_123 (by decide) ?_
              refine lv_iload_n C.1 C.2.1 dX10_keepWord_125 rfl (lv_at hl 1 rfl) ?_
              refine z_imul C dX10_keepWord_126 ?_
              refine lv_iload_n C.1 C.2.1 dX10_keepWord_127 rfl (lv_at hl 2 rfl) ?_
              refine z_iadd C dX10_keepWord_128 ?_
              refine lv_aload_n C.1 C.2.1 dX10_keepWord_129 rfl (lv_at hl 0 rfl) ?_
              refine z_get C X zk10 (hI.1 101 (by decide)) rfl 52 (by decide) kw_1084 (zR Ω 154) (zfvF (off := 53) X.2.2.2 (hI.1 101 (by decide)) hI.2 rfl rfl (by decide)) dX10_keepWord_130 ?_
              refine lv_iload_n C.1 C.2.1 dX10_keepWord_133 rfl (lv_at hl 2 rfl) ?_
              obtain ⟨hc134, h⟩ := chk_some h
              have g_134 : Rg (μ_12 154 x_11) := zrg1 X.2.2.2 (hI.1 154 (by decide)) rfl
              refine z_iald C X (hI.1 154 (by decide)) rfl hc134 dX10_keepWord_134 ?_
              obtain ⟨hc135, h⟩ := chk_some h
              refine zlet_elim h (fun μ_13 em h => ?_)
              refine z_iast C X (hI.1 152 (by decide)) rfl hc135 (zok1 rfl g_134) em dX10_keepWord_135 (fun H locs X => ?_)
              clear em
              refine zlet_elim h (fun x_14 ex_14 h => ?_)
              have gx_14 : Rg x_14 := by rw [ex_14]; exact Rg.w _
              refine z_iinc C ex_14 dX10_keepWord_136 hl (k := 2) rfl (by decide) (lv' := [(3, zI x_14), (0, zR Ω 101), (1, zI x1)]) rfl (fun ls hl => ?_)
              clear ex_14
              refine lv_goto (tgt := 111) C.1 C.2.1 dX10_keepWord_139 (by decide) ?_
              exact ih111 x_14 μ_13 _ _ _ gx_14 X (lv_sub hl [1, 2, 0] rfl) h
        exact L111 zfu 0 μ_10 _ _ _ ⟨by decide, by decide⟩ X (lv_sub hl [1, 2, 0] rfl) h
      refine z_ifne C g_82 (tgt := 92) dX10_keepWord_85 (by decide) (fun hc85 => ?_) (fun hc85 => ?_)
      · rw [if_neg hc85] at h
        refine lv_aload_n C.1 C.2.1 dX10_keepWord_92 rfl (lv_at hl 0 rfl) ?_
        refine lv_iload_n C.1 C.2.1 dX10_keepWord_93 rfl (lv_at hl 2 rfl) ?_
        refine lv_aload_n C.1 C.2.1 dX10_keepWord_94 rfl (lv_at hl 0 rfl) ?_
        refine z_get C X zk10 (hI.1 101 (by decide)) rfl 14 (by decide) kw_1046 (zR Ω 116) (zfvF (off := 15) X.2.2.2 (hI.1 101 (by decide)) hI.2 rfl rfl (by decide)) dX10_keepWord_95 ?_
        refine lv_aload_n C.1 C.2.1 dX10_keepWord_98 rfl (lv_at hl 0 rfl) ?_
        have g_99 : Rg (μ_7 101 13) := zrgf0 (ci := 10) X.2.2.2 (hI.1 101 (by decide)) rfl 13 rfl
        refine z_get C X zk10 (hI.1 101 (by decide)) rfl 13 (by decide) kw_1045 (zI (μ_7 101 13)) rfl dX10_keepWord_99 ?_
        refine z_iconst C dX10_keepWord_102 ?_
        refine z_isub C dX10_keepWord_103 ?_
        obtain ⟨hc104, h⟩ := chk_some h
        have g_104 : Rg (μ_7 116 (zw ((μ_7 101 13) - 1))) := zrg1 X.2.2.2 (hI.1 116 (by decide)) rfl
        refine z_iald C X (hI.1 116 (by decide)) rfl hc104 dX10_keepWord_104 ?_
        obtain ⟨x_15, hq105, h⟩ := bnd_some h
        refine z_callV1 C X zk10 (hI.1 101 (by decide)) rfl (As := [zI x2, zI (μ_7 116 (zw ((μ_7 101 13) - 1)))]) (M_X10_toOf hI μ_7 x2 (μ_7 116 (zw ((μ_7 101 13) - 1))) gx2 g_104 hq105) zc_X10_toOf kw_1261 (zroom (by decide) (by decide)) rfl hl.1 rfl (Nat.le_of_ble_eq_true rfl) dX10_keepWord_105 ⟨Nat.zero_le _, Nat.zero_le _⟩ (fun H locs g_105 X => ?_)
        exact K108 x_15 μ_7 _ _ _ g_105 X (lv_sub hl [0, 1] rfl) h
      · rw [if_pos hc85] at h
        refine z_iconst C dX10_keepWord_88 ?_
        refine lv_goto (tgt := 108) C.1 C.2.1 dX10_keepWord_89 (by decide) ?_
        exact K108 0 μ_7 _ _ _ ⟨by decide, by decide⟩ X (lv_sub hl [0, 1] rfl) h
    refine z_ifne C g_54 (tgt := 64) dX10_keepWord_57 (by decide) (fun hc57 => ?_) (fun hc57 => ?_)
    · rw [if_neg hc57] at h
      refine lv_aload_n C.1 C.2.1 dX10_keepWord_64 rfl (lv_at hl 0 rfl) ?_
      refine lv_iload_n C.1 C.2.1 dX10_keepWord_65 rfl (lv_at hl 2 rfl) ?_
      refine lv_aload_n C.1 C.2.1 dX10_keepWord_66 rfl (lv_at hl 0 rfl) ?_
      refine z_get C X zk10 (hI.1 101 (by decide)) rfl 14 (by decide) kw_1046 (zR Ω 116) (zfvF (off := 15) X.2.2.2 (hI.1 101 (by decide)) hI.2 rfl rfl (by decide)) dX10_keepWord_67 ?_
      refine z_iconst C dX10_keepWord_70 ?_
      have g_71 : Rg (μ_4 116 0) := zrg1 X.2.2.2 (hI.1 116 (by decide)) rfl
      refine z_iald C X (hI.1 116 (by decide)) rfl (by decide) dX10_keepWord_71 ?_
      obtain ⟨x_16, hq72, h⟩ := bnd_some h
      refine z_callV1 C X zk10 (hI.1 101 (by decide)) rfl (As := [zI x2, zI (μ_4 116 0)]) (M_X10_fromOf hI μ_4 x2 (μ_4 116 0) gx2 g_71 hq72) zc_X10_fromOf kw_1265 (zroom (by decide) (by decide)) rfl hl.1 rfl (Nat.le_of_ble_eq_true rfl) dX10_keepWord_72 ⟨Nat.zero_le _, Nat.zero_le _⟩ (fun H locs g_72 X => ?_)
      exact K75 x_16 μ_4 _ _ _ g_72 X (lv_sub hl [0, 1, 2] rfl) h
    · rw [if_pos hc57] at h
      refine z_iconst C dX10_keepWord_60 ?_
      refine lv_goto (tgt := 75) C.1 C.2.1 dX10_keepWord_61 (by decide) ?_
      exact K75 0 μ_4 _ _ _ ⟨by decide, by decide⟩ X (lv_sub hl [0, 1, 2] rfl) h
  have L7 : ∀ (n7 : Nat) (x_17 : Int) (μ_18 : zMem) (H : Heap) (locs : List Loc) (ls : Array Slot), Rg x_17 → zX Ω μ_18 (zfree Ω) s.heap H locs → lv_has ls 4 [(0, zR Ω 101), (1, zI x1), (2, zI x2), (3, zI x_17)] → (f_X10_keepWord_L7 (f_X10_keepWord_K31 x1 x2) n7 x_17 μ_18) = some (r, μ') → W p l e (zrm 2) s m args below meth c H locs 0 0 Q (F0 m 7 ls []) := by
    intro n7
    induction n7 with
    | zero =>
      intro x_17 μ_18 H locs ls _ _ _ h
      cases h
    | succ n7 ih7 =>
      intro x_17 μ_18 H locs ls gx_17 X hl h
      unfold f_X10_keepWord_L7 at h
      refine lv_iload_n C.1 C.2.1 dX10_keepWord_7 rfl (lv_at hl 3 rfl) ?_
      refine lv_aload_n C.1 C.2.1 dX10_keepWord_8 rfl (lv_at hl 0 rfl) ?_
      have g_9 : Rg (μ_18 101 13) := zrgf0 (ci := 10) X.2.2.2 (hI.1 101 (by decide)) rfl 13 rfl
      refine z_get C X zk10 (hI.1 101 (by decide)) rfl 13 (by decide) kw_1045 (zI (μ_18 101 13)) rfl dX10_keepWord_9 ?_
      refine z_icmpge C gx_17 g_9 (tgt := 31) dX10_keepWord_12 (by decide) (fun hc12 => ?_) (fun hc12 => ?_)
      · rw [if_neg hc12] at h
        exact K31 μ_18 _ _ _ X (lv_sub hl [0, 1, 2] rfl) h
      · rw [if_pos hc12] at h
        refine lv_aload_n C.1 C.2.1 dX10_keepWord_15 rfl (lv_at hl 0 rfl) ?_
        refine lv_aload_n C.1 C.2.1 dX10_keepWord_16 rfl (lv_at hl 0 rfl) ?_
        refine z_get C X zk10 (hI.1 101 (by decide)) rfl 14 (by decide) kw_1046 (zR Ω 116) (zfvF (off := 15) X.2.2.2 (hI.1 101 (by decide)) hI.2 rfl rfl (by decide)) dX10_keepWord_17 ?_
        refine lv_iload_n C.1 C.2.1 dX10_keepWord_20 rfl (lv_at hl 3 rfl) ?_
        obtain ⟨hc21, h⟩ := chk_some h
        have g_21 : Rg (μ_18 116 x_17) := zrg1 X.2.2.2 (hI.1 116 (by decide)) rfl
        refine z_iald C X (hI.1 116 (by decide)) rfl hc21 dX10_keepWord_21 ?_
        obtain ⟨μ_19, hq22, h⟩ := bnd_some h
        refine z_callV0 C X zk10 (hI.1 101 (by decide)) rfl (As := [zI (μ_18 116 x_17)]) (M_X10_put hI μ_18 (μ_18 116 x_17) g_21 hq22) zc_X10_put kw_1470 (zroom (by decide) (by decide)) rfl hl.1 rfl (Nat.le_of_ble_eq_true rfl) dX10_keepWord_22 ⟨Nat.zero_le _, Nat.zero_le _⟩ (fun H locs g_22 X => ?_)
        refine zlet_elim h (fun x_20 ex_20 h => ?_)
        have gx_20 : Rg x_20 := by rw [ex_20]; exact Rg.w _
        refine z_iinc C ex_20 dX10_keepWord_25 hl (k := 3) rfl (by decide) (lv' := [(3, zI x_20), (0, zR Ω 101), (1, zI x1), (2, zI x2)]) rfl (fun ls hl => ?_)
        clear ex_20
        refine lv_goto (tgt := 7) C.1 C.2.1 dX10_keepWord_28 (by decide) ?_
        exact ih7 x_20 μ_19 _ _ _ gx_20 X (lv_sub hl [1, 2, 3, 0] rfl) h
  exact L7 zfu 0 μ_1 _ _ _ ⟨by decide, by decide⟩ X (lv_sub hl [1, 2, 3, 0] rfl) h
theorem zc_X10_keepWord : zcal yX10_keepWord cX10_keepWord 4 (some Jvm.ClassFile.FieldType.int) RX10 2 := ⟨⟨kw_1469, kw_1468, kp_92, kw_12⟩, rfl, by decide, by decide, by decide +kernel⟩

def f_X10_word_J58 (x1 : Int) (x2 : Int) (x_4 : Int) (μ_5 : zMem) : Option (Int × zMem) :=
  zlet (zup μ_5 101 9 0) fun μ_6 =>
  if x_4 = 0 then
    some ((μ_6 101 11), μ_6)
  else
    bnd2 (f_X10_keepWord x1 x2 μ_6) fun x_7 μ_8 =>
    some (x_7, μ_8)
def f_X10_word_J57 (g58 : Int → zMem → Option (Int × zMem)) (μ_9 : zMem) : Option (Int × zMem) :=
  g58 0 μ_9
def f_X10_word_J53 (g58 : Int → zMem → Option (Int × zMem)) (μ_10 : zMem) : Option (Int × zMem) :=
  g58 1 μ_10
def f_X10_word (x1 : Int) (x2 : Int) (μ : zMem) : Option (Int × zMem) :=
  if (f_X10_isSlot x1) = 0 then
    some ((-1), μ)
  else
    if (f_X10_isSpace x2) = 0 then
      some ((-1), μ)
    else
      zlet (zup μ 101 10 0) fun μ_1 =>
      bnd2 (f_X10_readWord x2 16 μ_1) fun x_2 μ_3 =>
      if x_2 = 0 then
        (f_X10_word_J57 (f_X10_word_J58 x1 x2)) μ_3
      else
        if (μ_3 101 10) = (μ_3 101 9) then
          (f_X10_word_J53 (f_X10_word_J58 x1 x2)) μ_3
        else
          bnd2 (f_X10_fails (μ_3 101 10) μ_3) fun x_11 μ_12 =>
          if x_11 = 0 then
            (f_X10_word_J57 (f_X10_word_J58 x1 x2)) μ_12
          else
            (f_X10_word_J53 (f_X10_word_J58 x1 x2)) μ_12
set_option maxHeartbeats 4000000 in
set_option maxRecDepth 100000 in
theorem M_X10_word {l : Launch} {Ω : zO} (hI : zIm Ω) (μ : zMem) (x1 : Int) (x2 : Int) {r : Int} {μ' : zMem} (gx1 : Rg x1) (gx2 : Rg x2) (h : f_X10_word x1 x2 μ = some (r, μ')) : XMet l yX10_word cX10_word 4 (some Jvm.ClassFile.FieldType.int) 3 Ω [zR Ω 101, zI x1, zI x2] μ (some (zI r)) (Rg r) μ' := by
  refine XMet.ofI (by decide) (Nat.le_of_ble_eq_true rfl) ?_
  intro p e s m args below meth c ls Q C rt X hl
  have C : zC p s m args c cX10_word RX10 4 Ω := C
  have hl : lv_has ls 4 [(0, zR Ω 101), (1, zI x1), (2, zI x2)] := hl
  unfold f_X10_word at h
  skip
  refine lv_iload_n C.1 C.2.1 dX10_word_0 rfl (lv_at hl 1 rfl) ?_
  refine z_callS1 C X (As := [zI x1]) (M_X10_isSlot hI μ x1 gx1) zc_X10_isSlot kw_1455 (zroom (by decide) (by decide)) rfl hl.1 rfl (Nat.le_of_ble_eq_true rfl) dX10_word_1 ⟨Nat.zero_le _, Nat.zero_le _⟩ (fun H locs g_1 X => ?_)
  refine z_ifeq C (rgz g_1) (tgt := 14) dX10_word_4 (by decide) (fun hc4 => ?_) (fun hc4 => ?_)
  · rw [if_pos hc4] at h
    refine z_iconst C dX10_word_14 ?_
    obtain ⟨rfl, rfl⟩ := Prod.mk.inj (Option.some.inj h)
    exact rt X ⟨by decide, by decide⟩ dX10_word_15
  · rw [if_neg hc4] at h
    refine lv_iload_n C.1 C.2.1 dX10_word_7 rfl (lv_at hl 2 rfl) ?_
    refine z_callS1 C X (As := [zI x2]) (M_X10_isSpace hI μ x2 gx2) zc_X10_isSpace kw_1214 (zroom (by decide) (by decide)) rfl hl.1 rfl (Nat.le_of_ble_eq_true rfl) dX10_word_8 ⟨Nat.zero_le _, Nat.zero_le _⟩ (fun H locs g_8 X => ?_)
    refine z_ifne C (rgz g_8) (tgt := 16) dX10_word_11 (by decide) (fun hc11 => ?_) (fun hc11 => ?_)
    · rw [if_neg hc11] at h
      refine lv_aload_n C.1 C.2.1 dX10_word_16 rfl (lv_at hl 0 rfl) ?_
      refine z_iconst C dX10_word_17 ?_
      refine zlet_elim h (fun μ_1 em h => ?_)
      refine z_putI C X zk10 (hI.1 101 (by decide)) rfl 10 (by decide) kw_1042 rfl rfl rfl rfl ⟨by decide, by decide⟩ em dX10_word_18 (fun H locs X => ?_)
      clear em
      refine lv_aload_n C.1 C.2.1 dX10_word_21 rfl (lv_at hl 0 rfl) ?_
      refine lv_iload_n C.1 C.2.1 dX10_word_22 rfl (lv_at hl 2 rfl) ?_
      refine z_bipush C dX10_word_23 (by decide) ?_
      obtain ⟨x_2, μ_3, hq25, h⟩ := bnd2_some h
      refine z_callV1 C X zk10 (hI.1 101 (by decide)) rfl (As := [zI x2, zI 16]) (M_X10_readWord hI μ_1 x2 16 gx2 ⟨by decide, by decide⟩ hq25) zc_X10_readWord kw_1249 (zroom (by decide) (by decide)) rfl hl.1 rfl (Nat.le_of_ble_eq_true rfl) dX10_word_25 ⟨Nat.zero_le _, Nat.zero_le _⟩ (fun H locs g_25 X => ?_)
      have K58 : ∀ (x_4 : Int) (μ_5 : zMem) (H : Heap) (locs : List Loc) (ls : Array Slot), Rg x_4 → zX Ω μ_5 (zfree Ω) s.heap H locs → lv_has ls 4 [(0, zR Ω 101), (1, zI x1), (2, zI x2)] → (f_X10_word_J58 x1 x2) x_4 μ_5 = some (r, μ') → W p l e (zrm 3) s m args below meth c H locs 0 0 Q (F0 m 58 ls [zI x_4]) := by
        intro x_4 μ_5 H locs ls gx_4 X hl h
        unfold f_X10_word_J58 at h
        refine lv_istore_n C.1 C.2.1 (lv' := [(3, zI x_4), (0, zR Ω 101), (1, zI x1), (2, zI x2)]) dX10_word_58 rfl hl (by decide) rfl (fun ls hl => ?_)
        refine lv_aload_n C.1 C.2.1 dX10_word_59 rfl (lv_at hl 1 rfl) ?_
        refine z_iconst C dX10_word_60 ?_
        refine zlet_elim h (fun μ_6 em h => ?_)
        refine z_putI C X zk10 (hI.1 101 (by decide)) rfl 9 (by decide) kw_1041 rfl rfl rfl rfl ⟨by decide, by decide⟩ em dX10_word_61 (fun H locs X => ?_)
        clear em
        refine lv_iload_n C.1 C.2.1 dX10_word_64 rfl (lv_at hl 0 rfl) ?_
        refine z_ifeq C gx_4 (tgt := 77) dX10_word_65 (by decide) (fun hc65 => ?_) (fun hc65 => ?_)
        · rw [if_pos hc65] at h
          refine lv_aload_n C.1 C.2.1 dX10_word_77 rfl (lv_at hl 1 rfl) ?_
          have g_78 : Rg (μ_6 101 11) := zrgf0 (ci := 10) X.2.2.2 (hI.1 101 (by decide)) rfl 11 rfl
          refine z_get C X zk10 (hI.1 101 (by decide)) rfl 11 (by decide) kw_1043 (zI (μ_6 101 11)) rfl dX10_word_78 ?_
          obtain ⟨rfl, rfl⟩ := Prod.mk.inj (Option.some.inj h)
          exact rt X g_78 dX10_word_81
        · rw [if_neg hc65] at h
          refine lv_aload_n C.1 C.2.1 dX10_word_68 rfl (lv_at hl 1 rfl) ?_
          refine lv_iload_n C.1 C.2.1 dX10_word_69 rfl (lv_at hl 2 rfl) ?_
          refine lv_iload_n C.1 C.2.1 dX10_word_70 rfl (lv_at hl 3 rfl) ?_
          obtain ⟨x_7, μ_8, hq71, h⟩ := bnd2_some h
          refine z_callV1 C X zk10 (hI.1 101 (by decide)) rfl (As := [zI x1, zI x2]) (M_X10_keepWord hI μ_6 x1 x2 gx1 gx2 hq71) zc_X10_keepWord kw_1466 (zroom (by decide) (by decide)) rfl hl.1 rfl (Nat.le_of_ble_eq_true rfl) dX10_word_71 ⟨Nat.zero_le _, Nat.zero_le _⟩ (fun H locs g_71 X => ?_)
          refine lv_goto (tgt := 81) C.1 C.2.1 dX10_word_74 (by decide) ?_
          obtain ⟨rfl, rfl⟩ := Prod.mk.inj (Option.some.inj h)
          exact rt X g_71 dX10_word_81
      have K57 : ∀ (μ_9 : zMem) (H : Heap) (locs : List Loc) (ls : Array Slot), zX Ω μ_9 (zfree Ω) s.heap H locs → lv_has ls 4 [(0, zR Ω 101), (1, zI x1), (2, zI x2)] → (f_X10_word_J57 (f_X10_word_J58 x1 x2)) μ_9 = some (r, μ') → W p l e (zrm 3) s m args below meth c H locs 0 0 Q (F0 m 57 ls []) := by
        intro μ_9 H locs ls  X hl h
        unfold f_X10_word_J57 at h
        refine z_iconst C dX10_word_57 ?_
        exact K58 0 μ_9 _ _ _ ⟨by decide, by decide⟩ X (lv_sub hl [0, 1, 2] rfl) h
      refine z_ifeq C (rgz g_25) (tgt := 57) dX10_word_28 (by decide) (fun hc28 => ?_) (fun hc28 => ?_)
      · rw [if_pos hc28] at h
        exact K57 μ_3 _ _ _ X (lv_sub hl [0, 1, 2] rfl) h
      · rw [if_neg hc28] at h
        refine lv_aload_n C.1 C.2.1 dX10_word_31 rfl (lv_at hl 0 rfl) ?_
        have g_32 : Rg (μ_3 101 10) := zrgf0 (ci := 10) X.2.2.2 (hI.1 101 (by decide)) rfl 10 rfl
        refine z_get C X zk10 (hI.1 101 (by decide)) rfl 10 (by decide) kw_1042 (zI (μ_3 101 10)) rfl dX10_word_32 ?_
        refine lv_aload_n C.1 C.2.1 dX10_word_35 rfl (lv_at hl 0 rfl) ?_
        have g_36 : Rg (μ_3 101 9) := zrgf0 (ci := 10) X.2.2.2 (hI.1 101 (by decide)) rfl 9 rfl
        refine z_get C X zk10 (hI.1 101 (by decide)) rfl 9 (by decide) kw_1041 (zI (μ_3 101 9)) rfl dX10_word_36 ?_
        have K53 : ∀ (μ_10 : zMem) (H : Heap) (locs : List Loc) (ls : Array Slot), zX Ω μ_10 (zfree Ω) s.heap H locs → lv_has ls 4 [(0, zR Ω 101), (1, zI x1), (2, zI x2)] → (f_X10_word_J53 (f_X10_word_J58 x1 x2)) μ_10 = some (r, μ') → W p l e (zrm 3) s m args below meth c H locs 0 0 Q (F0 m 53 ls []) := by
          intro μ_10 H locs ls  X hl h
          unfold f_X10_word_J53 at h
          refine z_iconst C dX10_word_53 ?_
          refine lv_goto (tgt := 58) C.1 C.2.1 dX10_word_54 (by decide) ?_
          exact K58 1 μ_10 _ _ _ ⟨by decide, by decide⟩ X (lv_sub hl [0, 1, 2] rfl) h
        refine z_icmpeq C g_32 g_36 (tgt := 53) dX10_word_39 (by decide) (fun hc39 => ?_) (fun hc39 => ?_)
        · rw [if_pos hc39] at h
          exact K53 μ_3 _ _ _ X (lv_sub hl [0, 1, 2] rfl) h
        · rw [if_neg hc39] at h
          refine lv_aload_n C.1 C.2.1 dX10_word_42 rfl (lv_at hl 0 rfl) ?_
          refine lv_aload_n C.1 C.2.1 dX10_word_43 rfl (lv_at hl 0 rfl) ?_
          have g_44 : Rg (μ_3 101 10) := zrgf0 (ci := 10) X.2.2.2 (hI.1 101 (by decide)) rfl 10 rfl
          refine z_get C X zk10 (hI.1 101 (by decide)) rfl 10 (by decide) kw_1042 (zI (μ_3 101 10)) rfl dX10_word_44 ?_
          obtain ⟨x_11, μ_12, hq47, h⟩ := bnd2_some h
          refine z_callV1 C X zk10 (hI.1 101 (by decide)) rfl (As := [zI (μ_3 101 10)]) (M_X10_fails hI μ_3 (μ_3 101 10) g_44 hq47) zc_X10_fails kw_1269 (zroom (by decide) (by decide)) rfl hl.1 rfl (Nat.le_of_ble_eq_true rfl) dX10_word_47 ⟨Nat.zero_le _, Nat.zero_le _⟩ (fun H locs g_47 X => ?_)
          refine z_ifeq C (rgz g_47) (tgt := 57) dX10_word_50 (by decide) (fun hc50 => ?_) (fun hc50 => ?_)
          · rw [if_pos hc50] at h
            exact K57 μ_12 _ _ _ X (lv_sub hl [0, 1, 2] rfl) h
          · rw [if_neg hc50] at h
            exact K53 μ_12 _ _ _ X (lv_sub hl [0, 1, 2] rfl) h
    · rw [if_pos hc11] at h
      refine z_iconst C dX10_word_14 ?_
      obtain ⟨rfl, rfl⟩ := Prod.mk.inj (Option.some.inj h)
      exact rt X ⟨by decide, by decide⟩ dX10_word_15
theorem zc_X10_word : zcal yX10_word cX10_word 4 (some Jvm.ClassFile.FieldType.int) RX10 2 := ⟨⟨kw_1465, kw_1463, kw_1464, kw_12⟩, rfl, by decide, by decide, by decide +kernel⟩

def f_X10_isSheet (x0 : Int) : Int :=
  (f_X10_in x0 0 3)
set_option maxHeartbeats 4000000 in
set_option maxRecDepth 100000 in
theorem M_X10_isSheet {l : Launch} {Ω : zO} (hI : zIm Ω) (μ : zMem) (x0 : Int) (gx0 : Rg x0) : XMet l yX10_isSheet cX10_isSheet 1 (some Jvm.ClassFile.FieldType.boolean) 1 Ω [zI x0] μ (some (zI (f_X10_isSheet x0))) (0 ≤ (f_X10_isSheet x0) ∧ (f_X10_isSheet x0) ≤ 1) μ := by
  obtain ⟨r, h⟩ : ∃ r, f_X10_isSheet x0 = r := ⟨_, rfl⟩
  rw [h]
  refine XMet.ofZ (by decide) (Nat.le_of_ble_eq_true rfl) ?_
  intro p e s m args below meth c ls Q C rt X hl
  have C : zC p s m args c cX10_isSheet RX10 1 Ω := C
  have hl : lv_has ls 1 [(0, zI x0)] := hl
  unfold f_X10_isSheet at h
  skip
  refine lv_iload_n C.1 C.2.1 dX10_isSheet_0 rfl (lv_at hl 0 rfl) ?_
  refine z_iconst C dX10_isSheet_1 ?_
  refine z_iconst C dX10_isSheet_2 ?_
  refine z_callS1 C X (As := [zI x0, zI 0, zI 3]) (M_X10_in hI μ x0 0 3 gx0 ⟨by decide, by decide⟩ ⟨by decide, by decide⟩) zc_X10_in kw_1217 (zroom (by decide) (by decide)) rfl hl.1 rfl (Nat.le_of_ble_eq_true rfl) dX10_isSheet_3 ⟨Nat.zero_le _, Nat.zero_le _⟩ (fun H locs g_3 X => ?_)
  subst h
  exact rt X g_3 dX10_isSheet_6
theorem zc_X10_isSheet : zcas yX10_isSheet cX10_isSheet 1 (some Jvm.ClassFile.FieldType.boolean) 1 := ⟨⟨kw_1480, kw_1479, kw_12⟩, by decide, by decide, by decide +kernel⟩

def f_X10_walk_K223 (x1 : Int) (x2 : Int) (x6 : Int) (μ_1 : zMem) : Option (Int × zMem) :=
  zlet (zup μ_1 101 13 x6) fun μ_2 =>
  bnd2 (f_X10_keepWord x1 x2 μ_2) fun x_3 μ_4 =>
  some (x_3, μ_4)
def f_X10_walk_J208 (x_5 : Int) (x_7 : Int) (g99 : Int → zMem → Option (Int × zMem)) (μ_10 : zMem) : Option (Int × zMem) :=
  chk ((0 : Int) ≤ x_5 ∧ x_5 < 17) <|
  zlet (zup μ_10 116 x_5 x_7) fun μ_11 =>
  zlet (zw (x_5 + 1)) fun x_12 =>
  g99 x_12 μ_11
def f_X10_walk_J169 (x2 : Int) (x_5 : Int) (x_7 : Int) (g99 : Int → zMem → Option (Int × zMem)) (x_8 : Int) (μ_9 : zMem) : Option (Int × zMem) :=
  if x_8 = 0 then
    some ((-2), μ_9)
  else
    if x_5 ≤ 0 then
      (f_X10_walk_J208 x_5 x_7 g99) μ_9
    else
      chk ((0 : Int) ≤ (zw (x_5 - 1)) ∧ (zw (x_5 - 1)) < 17) <|
      bnd (f_X10_toOf x2 (μ_9 116 (zw (x_5 - 1))) μ_9) fun x_13 =>
      bnd (f_X10_fromOf x2 x_7 μ_9) fun x_14 =>
      if x_13 = x_14 then
        (f_X10_walk_J208 x_5 x_7 g99) μ_9
      else
        some ((-2), μ_9)
def f_X10_walk_J168 (g169 : Int → zMem → Option (Int × zMem)) (μ_15 : zMem) : Option (Int × zMem) :=
  g169 0 μ_15
def f_X10_walk_L99 (x2 : Int) (x3 : Int) (x5 : Int) (x6 : Int) (g223 : zMem → Option (Int × zMem)) : Nat → Int → zMem → Option (Int × zMem)
  | 0, _, _ => none
  | n + 1, x_5, μ_6 =>
    if x_5 < x6 then
      chk ((0 : Int) ≤ (zw ((zw ((zw (20 * x3)) + x5)) + x_5)) ∧ (zw ((zw ((zw (20 * x3)) + x5)) + x_5)) < 80) <|
      zlet ((μ_6 160 (zw ((zw ((zw (20 * x3)) + x5)) + x_5)))) fun x_7 =>
      if x_7 ≤ 0 then
        if x_7 < 0 then
          chk ((0 : Int) ≤ x2 ∧ x2 < 3) <|
          if x_7 < (zw (-(μ_6 103 x2))) then
            (f_X10_walk_J168 (f_X10_walk_J169 x2 x_5 x_7 (f_X10_walk_L99 x2 x3 x5 x6 g223 n))) μ_6
          else
            (f_X10_walk_J169 x2 x_5 x_7 (f_X10_walk_L99 x2 x3 x5 x6 g223 n)) 1 μ_6
        else
          (f_X10_walk_J168 (f_X10_walk_J169 x2 x_5 x_7 (f_X10_walk_L99 x2 x3 x5 x6 g223 n))) μ_6
      else
        chk ((0 : Int) ≤ x2 ∧ x2 < 3) <|
        if x_7 ≤ (μ_6 103 x2) then
          (f_X10_walk_J169 x2 x_5 x_7 (f_X10_walk_L99 x2 x3 x5 x6 g223 n)) 1 μ_6
        else
          (f_X10_walk_J169 x2 x_5 x_7 (f_X10_walk_L99 x2 x3 x5 x6 g223 n)) 0 μ_6
    else
      g223 μ_6
def f_X10_walk (x1 : Int) (x2 : Int) (x3 : Int) (x4 : Int) (x5 : Int) (x6 : Int) (μ : zMem) : Option (Int × zMem) :=
  if (f_X10_isSlot x1) = 0 then
    some ((-1), μ)
  else
    if (f_X10_isSpace x2) = 0 then
      some ((-1), μ)
    else
      if (f_X10_isSheet x3) = 0 then
        some ((-1), μ)
      else
        if (f_X10_in x4 0 2) = 0 then
          some ((-1), μ)
        else
          if (f_X10_in x6 0 16) = 0 then
            some ((-1), μ)
          else
            chk ((0 : Int) ≤ x3 ∧ x3 < 4) <|
            if (μ 158 x3) < 0 then
              some ((-11), μ)
            else
              chk ((0 : Int) ≤ x3 ∧ x3 < 4) <|
              if (μ 158 x3) = x4 then
                if x5 < 0 then
                  some ((-13), μ)
                else
                  chk ((0 : Int) ≤ x3 ∧ x3 < 4) <|
                  if (zl (x5 + x6)) ≤ (μ 159 x3) then
                    (f_X10_walk_L99 x2 x3 x5 x6 (f_X10_walk_K223 x1 x2 x6)) zfu 0 μ
                  else
                    some ((-13), μ)
              else
                some ((-12), μ)
set_option maxHeartbeats 4000000 in
set_option maxRecDepth 100000 in
theorem M_X10_walk {l : Launch} {Ω : zO} (hI : zIm Ω) (μ : zMem) (x1 : Int) (x2 : Int) (x3 : Int) (x4 : Int) (x5 : Int) (x6 : Int) {r : Int} {μ' : zMem} (gx1 : Rg x1) (gx2 : Rg x2) (gx3 : Rg x3) (gx4 : Rg x4) (gx5 : Rg x5) (gx6 : Rg x6) (h : f_X10_walk x1 x2 x3 x4 x5 x6 μ = some (r, μ')) : XMet l yX10_walk cX10_walk 10 (some Jvm.ClassFile.FieldType.int) 3 Ω [zR Ω 101, zI x1, zI x2, zI x3, zI x4, zI x5, zI x6] μ (some (zI r)) (Rg r) μ' := by
  refine XMet.ofI (by decide) (Nat.le_of_ble_eq_true rfl) ?_
  intro p e s m args below meth c ls Q C rt X hl
  have C : zC p s m args c cX10_walk RX10 10 Ω := C
  have hl : lv_has ls 10 [(0, zR Ω 101), (1, zI x1), (2, zI x2), (3, zI x3), (4, zI x4), (5, zI x5), (6, zI x6)] := hl
  unfold f_X10_walk at h
  skip
  refine lv_iload_n C.1 C.2.1 dX10_walk_0 rfl (lv_at hl 1 rfl) ?_
  refine z_callS1 C X (As := [zI x1]) (M_X10_isSlot hI μ x1 gx1) zc_X10_isSlot kw_1455 (zroom (by decide) (by decide)) rfl hl.1 rfl (Nat.le_of_ble_eq_true rfl) dX10_walk_1 ⟨Nat.zero_le _, Nat.zero_le _⟩ (fun H locs g_1 X => ?_)
  refine z_ifeq C (rgz g_1) (tgt := 42) dX10_walk_4 (by decide) (fun hc4 => ?_) (fun hc4 => ?_)
  · rw [if_pos hc4] at h
    refine z_iconst C dX10_walk_42 ?_
    obtain ⟨rfl, rfl⟩ := Prod.mk.inj (Option.some.inj h)
    exact rt X ⟨by decide, by decide⟩ dX10_walk_43
  · rw [if_neg hc4] at h
    refine lv_iload_n C.1 C.2.1 dX10_walk_7 rfl (lv_at hl 2 rfl) ?_
    refine z_callS1 C X (As := [zI x2]) (M_X10_isSpace hI μ x2 gx2) zc_X10_isSpace kw_1214 (zroom (by decide) (by decide)) rfl hl.1 rfl (Nat.le_of_ble_eq_true rfl) dX10_walk_8 ⟨Nat.zero_le _, Nat.zero_le _⟩ (fun H locs g_8 X => ?_)
    refine z_ifeq C (rgz g_8) (tgt := 42) dX10_walk_11 (by decide) (fun hc11 => ?_) (fun hc11 => ?_)
    · rw [if_pos hc11] at h
      refine z_iconst C dX10_walk_42 ?_
      obtain ⟨rfl, rfl⟩ := Prod.mk.inj (Option.some.inj h)
      exact rt X ⟨by decide, by decide⟩ dX10_walk_43
    · rw [if_neg hc11] at h
      refine lv_iload_n C.1 C.2.1 dX10_walk_14 rfl (lv_at hl 3 rfl) ?_
      refine z_callS1 C X (As := [zI x3]) (M_X10_isSheet hI μ x3 gx3) zc_X10_isSheet kw_1478 (zroom (by decide) (by decide)) rfl hl.1 rfl (Nat.le_of_ble_eq_true rfl) dX10_walk_15 ⟨Nat.zero_le _, Nat.zero_le _⟩ (fun H locs g_15 X => ?_)
      refine z_ifeq C (rgz g_15) (tgt := 42) dX10_walk_18 (by decide) (fun hc18 => ?_) (fun hc18 => ?_)
      · rw [if_pos hc18] at h
        refine z_iconst C dX10_walk_42 ?_
        obtain ⟨rfl, rfl⟩ := Prod.mk.inj (Option.some.inj h)
        exact rt X ⟨by decide, by decide⟩ dX10_walk_43
      · rw [if_neg hc18] at h
        refine lv_iload C.1 C.2.1 dX10_walk_21 (lv_at hl 4 rfl) ?_
        refine z_iconst C dX10_walk_23 ?_
        refine z_iconst C dX10_walk_24 ?_
        refine z_callS1 C X (As := [zI x4, zI 0, zI 2]) (M_X10_in hI μ x4 0 2 gx4 ⟨by decide, by decide⟩ ⟨by decide, by decide⟩) zc_X10_in kw_1217 (zroom (by decide) (by decide)) rfl hl.1 rfl (Nat.le_of_ble_eq_true rfl) dX10_walk_25 ⟨Nat.zero_le _, Nat.zero_le _⟩ (fun H locs g_25 X => ?_)
        refine z_ifeq C (rgz g_25) (tgt := 42) dX10_walk_28 (by decide) (fun hc28 => ?_) (fun hc28 => ?_)
        · rw [if_pos hc28] at h
          refine z_iconst C dX10_walk_42 ?_
          obtain ⟨rfl, rfl⟩ := Prod.mk.inj (Option.some.inj h)
          exact rt X ⟨by decide, by decide⟩ dX10_walk_43
        · rw [if_neg hc28] at h
          refine lv_iload C.1 C.2.1 dX10_walk_31 (lv_at hl 6 rfl) ?_
          refine z_iconst C dX10_walk_33 ?_
          refine z_bipush C dX10_walk_34 (by decide) ?_
          refine z_callS1 C X (As := [zI x6, zI 0, zI 16]) (M_X10_in hI μ x6 0 16 gx6 ⟨by decide, by decide⟩ ⟨by decide, by decide⟩) zc_X10_in kw_1217 (zroom (by decide) (by decide)) rfl hl.1 rfl (Nat.le_of_ble_eq_true rfl) dX10_walk_36 ⟨Nat.zero_le _, Nat.zero_le _⟩ (fun H locs g_36 X => ?_)
          refine z_ifne C (rgz g_36) (tgt := 44) dX10_walk_39 (by decide) (fun hc39 => ?_) (fun hc39 => ?_)
          · rw [if_neg hc39] at h
            refine lv_aload_n C.1 C.2.1 dX10_walk_44 rfl (lv_at hl 0 rfl) ?_
            refine z_get C X zk10 (hI.1 101 (by decide)) rfl 56 (by decide) kw_1088 (zR Ω 158) (zfvF (off := 57) X.2.2.2 (hI.1 101 (by decide)) hI.2 rfl rfl (by decide)) dX10_walk_45 ?_
            refine lv_iload_n C.1 C.2.1 dX10_walk_48 rfl (lv_at hl 3 rfl) ?_
            obtain ⟨hc49, h⟩ := chk_some h
            have g_49 : Rg (μ 158 x3) := zrg1 X.2.2.2 (hI.1 158 (by decide)) rfl
            refine z_iald C X (hI.1 158 (by decide)) rfl hc49 dX10_walk_49 ?_
            refine z_ifge C g_49 (tgt := 56) dX10_walk_50 (by decide) (fun hc50 => ?_) (fun hc50 => ?_)
            · rw [if_neg hc50] at h
              refine lv_aload_n C.1 C.2.1 dX10_walk_56 rfl (lv_at hl 0 rfl) ?_
              refine z_get C X zk10 (hI.1 101 (by decide)) rfl 56 (by decide) kw_1088 (zR Ω 158) (zfvF (off := 57) X.2.2.2 (hI.1 101 (by decide)) hI.2 rfl rfl (by decide)) dX10_walk_57 ?_
              refine lv_iload_n C.1 C.2.1 dX10_walk_60 rfl (lv_at hl 3 rfl) ?_
              obtain ⟨hc61, h⟩ := chk_some h
              have g_61 : Rg (μ 158 x3) := zrg1 X.2.2.2 (hI.1 158 (by decide)) rfl
              refine z_iald C X (hI.1 158 (by decide)) rfl hc61 dX10_walk_61 ?_
              refine lv_iload C.1 C.2.1 dX10_walk_62 (lv_at hl 4 rfl) ?_
              refine z_icmpeq C g_61 gx4 (tgt := 70) dX10_walk_64 (by decide) (fun hc64 => ?_) (fun hc64 => ?_)
              · rw [if_pos hc64] at h
                refine lv_iload C.1 C.2.1 dX10_walk_70 (lv_at hl 5 rfl) ?_
                refine z_iflt C gx5 (tgt := 93) dX10_walk_72 (by decide) (fun hc72 => ?_) (fun hc72 => ?_)
                · rw [if_pos hc72] at h
                  refine z_bipush C dX10_walk_93 (by decide) ?_
                  obtain ⟨rfl, rfl⟩ := Prod.mk.inj (Option.some.inj h)
                  exact rt X ⟨by decide, by decide⟩ dX10_walk_95
                · rw [if_neg hc72] at h
                  refine lv_iload C.1 C.2.1 dX10_walk_75 (lv_at hl 5 rfl) ?_
                  refine z_i2l C gx5 dX10_walk_77 ?_
                  refine lv_iload C.1 C.2.1 dX10_walk_78 (lv_at hl 6 rfl) ?_
                  refine z_i2l C gx6 dX10_walk_80 ?_
                  refine z_ladd C dX10_walk_81 ?_
                  refine lv_aload_n C.1 C.2.1 dX10_walk_82 rfl (lv_at hl 0 rfl) ?_
                  refine z_get C X zk10 (hI.1 101 (by decide)) rfl 57 (by decide) kw_1089 (zR Ω 159) (zfvF (off := 58) X.2.2.2 (hI.1 101 (by decide)) hI.2 rfl rfl (by decide)) dX10_walk_83 ?_
                  refine lv_iload_n C.1 C.2.1 dX10_walk_86 rfl (lv_at hl 3 rfl) ?_
                  obtain ⟨hc87, h⟩ := chk_some h
                  have g_87 : Rg (μ 159 x3) := zrg1 X.2.2.2 (hI.1 159 (by decide)) rfl
                  refine z_iald C X (hI.1 159 (by decide)) rfl hc87 dX10_walk_87 ?_
                  refine z_i2l C g_87 dX10_walk_88 ?_
                  refine z_lle C (Rl.w _) (Rg.l g_87) (tgt := 96) dX10_walk_89 dX10_walk_90 (by decide) (fun hc89 => ?_) (fun hc89 => ?_)
                  · rw [if_pos hc89] at h
                    refine z_iconst C dX10_walk_96 ?_
                    refine lv_istore C.1 C.2.1 (lv' := [(7, zI 0), (0, zR Ω 101), (1, zI x1), (2, zI x2), (3, zI x3), (4, zI x4), (5, zI x5), (6, zI x6)]) dX10_walk_97 hl (by decide) rfl (fun ls hl => ?_)
                    have K223 : ∀ (μ_1 : zMem) (H : Heap) (locs : List Loc) (ls : Array Slot), zX Ω μ_1 (zfree Ω) s.heap H locs → lv_has ls 10 [(0, zR Ω 101), (1, zI x1), (2, zI x2), (6, zI x6)] → (f_X10_walk_K223 x1 x2 x6) μ_1 = some (r, μ') → W p l e (zrm 3) s m args below meth c H locs 0 0 Q (F0 m 223 ls []) := by
                      intro μ_1 H locs ls  X hl h
                      unfold f_X10_walk_K223 at h
                      refine lv_aload_n C.1 C.2.1 dX10_walk_223 rfl (lv_at hl 0 rfl) ?_
                      refine lv_iload C.1 C.2.1 dX10_walk_224 (lv_at hl 3 rfl) ?_
                      refine zlet_elim h (fun μ_2 em h => ?_)
                      refine z_putI C X zk10 (hI.1 101 (by decide)) rfl 13 (by decide) kw_1045 rfl rfl rfl rfl gx6 em dX10_walk_226 (fun H locs X => ?_)
                      clear em
                      refine lv_aload_n C.1 C.2.1 dX10_walk_229 rfl (lv_at hl 0 rfl) ?_
                      refine lv_iload_n C.1 C.2.1 dX10_walk_230 rfl (lv_at hl 1 rfl) ?_
                      refine lv_iload_n C.1 C.2.1 dX10_walk_231 rfl (lv_at hl 2 rfl) ?_
                      obtain ⟨x_3, μ_4, hq232, h⟩ := bnd2_some h
                      refine z_callV1 C X zk10 (hI.1 101 (by decide)) rfl (As := [zI x1, zI x2]) (M_X10_keepWord hI μ_2 x1 x2 gx1 gx2 hq232) zc_X10_keepWord kw_1466 (zroom (by decide) (by decide)) rfl hl.1 rfl (Nat.le_of_ble_eq_true rfl) dX10_walk_232 ⟨Nat.zero_le _, Nat.zero_le _⟩ (fun H locs g_232 X => ?_)
                      obtain ⟨rfl, rfl⟩ := Prod.mk.inj (Option.some.inj h)
                      exact rt X g_232 dX10_walk_235
                    have L99 : ∀ (n99 : Nat) (x_5 : Int) (μ_6 : zMem) (H : Heap) (locs : List Loc) (ls : Array Slot), Rg x_5 → zX Ω μ_6 (zfree Ω) s.heap H locs → lv_has ls 10 [(0, zR Ω 101), (1, zI x1), (2, zI x2), (3, zI x3), (5, zI x5), (6, zI x6), (7, zI x_5)] → (f_X10_walk_L99 x2 x3 x5 x6 (f_X10_walk_K223 x1 x2 x6) n99 x_5 μ_6) = some (r, μ') → W p l e (zrm 3) s m args below meth c H locs 0 0 Q (F0 m 99 ls []) := by
                      intro n99
                      induction n99 with
                      | zero =>
                        intro x_5 μ_6 H locs ls _ _ _ h
                        cases h
                      | succ n99 ih99 =>
                        intro x_5 μ_6 H locs ls gx_5 X hl h
                        unfold f_X10_walk_L99 at h
                        refine lv_iload C.1 C.2.1 dX10_walk_99 (lv_at hl 6 rfl) ?_
                        refine lv_iload C.1 C.2.1 dX10_walk_101 (lv_at hl 5 rfl) ?_
                        refine z_icmpge C gx_5 gx6 (tgt := 223) dX10_walk_103 (by decide) (fun hc103 => ?_) (fun hc103 => ?_)
                        · rw [if_neg hc103] at h
                          exact K223 μ_6 _ _ _ X (lv_sub hl [0, 1, 2, 5] rfl) h
                        · rw [if_pos hc103] at h
                          refine lv_aload_n C.1 C.2.1 dX10_walk_106 rfl (lv_at hl 0 rfl) ?_
                          refine z_get C X zk10 (hI.1 101 (by decide)) rfl 58 (by decide) kw_1090 (zR Ω 160) (zfvF (off := 59) X.2.2.2 (hI.1 101 (by decide)) hI.2 rfl rfl (by decide)) dX10_walk_107 ?_
                          refine z_bipush C dX10_walk_110 (by decide) ?_
                          refine lv_iload_n C.1 C.2.1 dX10_walk_112 rfl (lv_at hl 3 rfl) ?_
                          refine z_imul C dX10_walk_113 ?_
                          refine lv_iload C.1 C.2.1 dX10_walk_114 (lv_at hl 4 rfl) ?_
                          refine z_iadd C dX10_walk_116 ?_
                          refine lv_iload C.1 C.2.1 dX10_walk_117 (lv_at hl 6 rfl) ?_
                          refine z_iadd C dX10_walk_119 ?_
                          obtain ⟨hc120, h⟩ := chk_some h
                          have g_120 : Rg (μ_6 160 (zw ((zw ((zw (20 * x3)) + x5)) + x_5))) := zrg1 X.2.2.2 (hI.1 160 (by decide)) rfl
                          refine z_iald C X (hI.1 160 (by decide)) rfl hc120 dX10_walk_120 ?_
                          refine zlet_elim h (fun x_7 ex_7 h => ?_)
                          have gx_7 : Rg x_7 := by rw [ex_7]; exact g_120
                          refine z_istore C ex_7 dX10_walk_121 hl (by decide) (lv' := [(8, zI x_7), (0, zR Ω 101), (1, zI x1), (2, zI x2), (3, zI x3), (5, zI x5), (6, zI x6), (7, zI x_5)]) rfl (fun ls hl => ?_)
                          clear ex_7
                          refine lv_iload C.1 C.2.1 dX10_walk_123 (lv_at hl 0 rfl) ?_
                          have K169 : ∀ (x_8 : Int) (μ_9 : zMem) (H : Heap) (locs : List Loc) (ls : Array Slot), Rg x_8 → zX Ω μ_9 (zfree Ω) s.heap H locs → lv_has ls 10 [(0, zR Ω 101), (1, zI x1), (2, zI x2), (3, zI x3), (5, zI x5), (6, zI x6), (7, zI x_5), (8, zI x_7)] → (f_X10_walk_J169 x2 x_5 x_7 (f_X10_walk_L99 x2 x3 x5 x6 (f_X10_walk_K223 x1 x2 x6) n99)) x_8 μ_9 = some (r, μ') → W p l e (zrm 3) s m args below meth c H locs 0 0 Q (F0 m 169 ls [zI x_8]) := by
                            intro x_8 μ_9 H locs ls gx_8 X hl h
                            unfold f_X10_walk_J169 at h
                            refine lv_istore C.1 C.2.1 (lv' := [(9, zI x_8), (0, zR Ω 101), (1, zI x1), (2, zI x2), (3, zI x3), (5, zI x5), (6, zI x6), (7, zI x_5), (8, zI x_7)]) dX10_walk_169 hl (by decide) rfl (fun ls hl => ?_)
                            refine lv_iload C.1 C.2.1 dX10_walk_171 (lv_at hl 0 rfl) ?_
                            refine z_ifeq C gx_8 (tgt := 205) dX10_walk_173 (by decide) (fun hc173 => ?_) (fun hc173 => ?_)
                            · rw [if_pos hc173] at h
                              refine z_bipush C dX10_walk_205 (by decide) ?_
                              obtain ⟨rfl, rfl⟩ := Prod.mk.inj (Option.some.inj h)
                              exact rt X ⟨by decide, by decide⟩ dX10_walk_207
                            · rw [if_neg hc173] at h
                              refine lv_iload C.1 C.2.1 dX10_walk_176 (lv_at hl 7 rfl) ?_
                              have K208 : ∀ (μ_10 : zMem) (H : Heap) (locs : List Loc) (ls : Array Slot), zX Ω μ_10 (zfree Ω) s.heap H locs → lv_has ls 10 [(0, zR Ω 101), (1, zI x1), (2, zI x2), (3, zI x3), (5, zI x5), (6, zI x6), (7, zI x_5), (8, zI x_7)] → (f_X10_walk_J208 x_5 x_7 (f_X10_walk_L99 x2 x3 x5 x6 (f_X10_walk_K223 x1 x2 x6) n99)) μ_10 = some (r, μ') → W p l e (zrm 3) s m args below meth c H locs 0 0 Q (F0 m 208 ls []) := by
                                intro μ_10 H locs ls  X hl h
                                unfold f_X10_walk_J208 at h
                                refine lv_aload_n C.1 C.2.1 dX10_walk_208 rfl (lv_at hl 0 rfl) ?_
                                refine z_get C X zk10 (hI.1 101 (by decide)) rfl 14 (by decide) kw_1046 (zR Ω 116) (zfvF (off := 15) X.2.2.2 (hI.1 101 (by decide)) hI.2 rfl rfl (by decide)) dX10_walk_209 ?_
                                refine lv_iload C.1 C.2.1 dX10_walk_212 (lv_at hl 6 rfl) ?_
                                refine lv_iload C.1 C.2.1 dX10_walk_214 (lv_at hl 7 rfl) ?_
                                obtain ⟨hc216, h⟩ := chk_some h
                                refine zlet_elim h (fun μ_11 em h => ?_)
                                refine z_iast C X (hI.1 116 (by decide)) rfl hc216 (zok1 rfl gx_7) em dX10_walk_216 (fun H locs X => ?_)
                                clear em
                                refine zlet_elim h (fun x_12 ex_12 h => ?_)
                                have gx_12 : Rg x_12 := by rw [ex_12]; exact Rg.w _
                                refine z_iinc C ex_12 dX10_walk_217 hl (k := 6) rfl (by decide) (lv' := [(7, zI x_12), (0, zR Ω 101), (1, zI x1), (2, zI x2), (3, zI x3), (5, zI x5), (6, zI x6), (8, zI x_7)]) rfl (fun ls hl => ?_)
                                clear ex_12
                                refine lv_goto (tgt := 99) C.1 C.2.1 dX10_walk_220 (by decide) ?_
                                exact ih99 x_12 μ_11 _ _ _ gx_12 X (lv_sub hl [1, 2, 3, 4, 5, 6, 0] rfl) h
                              refine z_ifle C gx_5 (tgt := 208) dX10_walk_178 (by decide) (fun hc178 => ?_) (fun hc178 => ?_)
                              · rw [if_pos hc178] at h
                                exact K208 μ_9 _ _ _ X (lv_sub hl [1, 2, 3, 4, 5, 6, 7, 8] rfl) h
                              · rw [if_neg hc178] at h
                                refine lv_aload_n C.1 C.2.1 dX10_walk_181 rfl (lv_at hl 1 rfl) ?_
                                refine lv_iload_n C.1 C.2.1 dX10_walk_182 rfl (lv_at hl 3 rfl) ?_
                                refine lv_aload_n C.1 C.2.1 dX10_walk_183 rfl (lv_at hl 1 rfl) ?_
                                refine z_get C X zk10 (hI.1 101 (by decide)) rfl 14 (by decide) kw_1046 (zR Ω 116) (zfvF (off := 15) X.2.2.2 (hI.1 101 (by decide)) hI.2 rfl rfl (by decide)) dX10_walk_184 ?_
                                refine lv_iload C.1 C.2.1 dX10_walk_187 (lv_at hl 7 rfl) ?_
                                refine z_iconst C dX10_walk_189 ?_
                                refine z_isub C dX10_walk_190 ?_
                                obtain ⟨hc191, h⟩ := chk_some h
                                have g_191 : Rg (μ_9 116 (zw (x_5 - 1))) := zrg1 X.2.2.2 (hI.1 116 (by decide)) rfl
                                refine z_iald C X (hI.1 116 (by decide)) rfl hc191 dX10_walk_191 ?_
                                obtain ⟨x_13, hq192, h⟩ := bnd_some h
                                refine z_callV1 C X zk10 (hI.1 101 (by decide)) rfl (As := [zI x2, zI (μ_9 116 (zw (x_5 - 1)))]) (M_X10_toOf hI μ_9 x2 (μ_9 116 (zw (x_5 - 1))) gx2 g_191 hq192) zc_X10_toOf kw_1261 (zroom (by decide) (by decide)) rfl hl.1 rfl (Nat.le_of_ble_eq_true rfl) dX10_walk_192 ⟨Nat.zero_le _, Nat.zero_le _⟩ (fun H locs g_192 X => ?_)
                                refine lv_aload_n C.1 C.2.1 dX10_walk_195 rfl (lv_at hl 1 rfl) ?_
                                refine lv_iload_n C.1 C.2.1 dX10_walk_196 rfl (lv_at hl 3 rfl) ?_
                                refine lv_iload C.1 C.2.1 dX10_walk_197 (lv_at hl 8 rfl) ?_
                                obtain ⟨x_14, hq199, h⟩ := bnd_some h
                                refine z_callV1 C X zk10 (hI.1 101 (by decide)) rfl (As := [zI x2, zI x_7]) (M_X10_fromOf hI μ_9 x2 x_7 gx2 gx_7 hq199) zc_X10_fromOf kw_1265 (zroom (by decide) (by decide)) rfl hl.1 rfl (Nat.le_of_ble_eq_true rfl) dX10_walk_199 ⟨Nat.zero_le _, Nat.zero_le _⟩ (fun H locs g_199 X => ?_)
                                refine z_icmpeq C g_192 g_199 (tgt := 208) dX10_walk_202 (by decide) (fun hc202 => ?_) (fun hc202 => ?_)
                                · rw [if_pos hc202] at h
                                  exact K208 μ_9 _ _ _ X (lv_sub hl [1, 2, 3, 4, 5, 6, 7, 8] rfl) h
                                · rw [if_neg hc202] at h
                                  refine z_bipush C dX10_walk_205 (by decide) ?_
                                  obtain ⟨rfl, rfl⟩ := Prod.mk.inj (Option.some.inj h)
                                  exact rt X ⟨by decide, by decide⟩ dX10_walk_207
                          refine z_ifle C gx_7 (tgt := 147) dX10_walk_125 (by decide) (fun hc125 => ?_) (fun hc125 => ?_)
                          · rw [if_pos hc125] at h
                            refine lv_iload C.1 C.2.1 dX10_walk_147 (lv_at hl 0 rfl) ?_
                            have K168 : ∀ (μ_15 : zMem) (H : Heap) (locs : List Loc) (ls : Array Slot), zX Ω μ_15 (zfree Ω) s.heap H locs → lv_has ls 10 [(0, zR Ω 101), (1, zI x1), (2, zI x2), (3, zI x3), (5, zI x5), (6, zI x6), (7, zI x_5), (8, zI x_7)] → (f_X10_walk_J168 (f_X10_walk_J169 x2 x_5 x_7 (f_X10_walk_L99 x2 x3 x5 x6 (f_X10_walk_K223 x1 x2 x6) n99))) μ_15 = some (r, μ') → W p l e (zrm 3) s m args below meth c H locs 0 0 Q (F0 m 168 ls []) := by
                              intro μ_15 H locs ls  X hl h
                              unfold f_X10_walk_J168 at h
                              refine z_iconst C dX10_walk_168 ?_
                              exact K169 0 μ_15 _ _ _ ⟨by decide, by decide⟩ X (lv_sub hl [0, 1, 2, 3, 4, 5, 6, 7] rfl) h
                            refine z_ifge C gx_7 (tgt := 168) dX10_walk_149 (by decide) (fun hc149 => ?_) (fun hc149 => ?_)
                            · rw [if_neg hc149] at h
                              exact K168 μ_6 _ _ _ X (lv_sub hl [1, 2, 3, 4, 5, 6, 7, 0] rfl) h
                            · rw [if_pos hc149] at h
                              refine lv_iload C.1 C.2.1 dX10_walk_152 (lv_at hl 0 rfl) ?_
                              refine lv_aload_n C.1 C.2.1 dX10_walk_154 rfl (lv_at hl 1 rfl) ?_
                              refine z_get C X zk10 (hI.1 101 (by decide)) rfl 1 (by decide) kw_1033 (zR Ω 103) (zfvF (off := 2) X.2.2.2 (hI.1 101 (by decide)) hI.2 rfl rfl (by decide)) dX10_walk_155 ?_
                              refine lv_iload_n C.1 C.2.1 dX10_walk_158 rfl (lv_at hl 3 rfl) ?_
                              obtain ⟨hc159, h⟩ := chk_some h
                              have g_159 : Rg (μ_6 103 x2) := zrg1 X.2.2.2 (hI.1 103 (by decide)) rfl
                              refine z_iald C X (hI.1 103 (by decide)) rfl hc159 dX10_walk_159 ?_
                              refine z_ineg C dX10_walk_160 ?_
                              refine z_icmplt C gx_7 (Rg.w _) (tgt := 168) dX10_walk_161 (by decide) (fun hc161 => ?_) (fun hc161 => ?_)
                              · rw [if_pos hc161] at h
                                exact K168 μ_6 _ _ _ X (lv_sub hl [1, 2, 3, 4, 5, 6, 7, 0] rfl) h
                              · rw [if_neg hc161] at h
                                refine z_iconst C dX10_walk_164 ?_
                                refine lv_goto (tgt := 169) C.1 C.2.1 dX10_walk_165 (by decide) ?_
                                exact K169 1 μ_6 _ _ _ ⟨by decide, by decide⟩ X (lv_sub hl [1, 2, 3, 4, 5, 6, 7, 0] rfl) h
                          · rw [if_neg hc125] at h
                            refine lv_iload C.1 C.2.1 dX10_walk_128 (lv_at hl 0 rfl) ?_
                            refine lv_aload_n C.1 C.2.1 dX10_walk_130 rfl (lv_at hl 1 rfl) ?_
                            refine z_get C X zk10 (hI.1 101 (by decide)) rfl 1 (by decide) kw_1033 (zR Ω 103) (zfvF (off := 2) X.2.2.2 (hI.1 101 (by decide)) hI.2 rfl rfl (by decide)) dX10_walk_131 ?_
                            refine lv_iload_n C.1 C.2.1 dX10_walk_134 rfl (lv_at hl 3 rfl) ?_
                            obtain ⟨hc135, h⟩ := chk_some h
                            have g_135 : Rg (μ_6 103 x2) := zrg1 X.2.2.2 (hI.1 103 (by decide)) rfl
                            refine z_iald C X (hI.1 103 (by decide)) rfl hc135 dX10_walk_135 ?_
                            refine z_icmpgt C gx_7 g_135 (tgt := 143) dX10_walk_136 (by decide) (fun hc136 => ?_) (fun hc136 => ?_)
                            · rw [if_neg hc136] at h
                              refine z_iconst C dX10_walk_143 ?_
                              refine lv_goto (tgt := 169) C.1 C.2.1 dX10_walk_144 (by decide) ?_
                              exact K169 0 μ_6 _ _ _ ⟨by decide, by decide⟩ X (lv_sub hl [1, 2, 3, 4, 5, 6, 7, 0] rfl) h
                            · rw [if_pos hc136] at h
                              refine z_iconst C dX10_walk_139 ?_
                              refine lv_goto (tgt := 169) C.1 C.2.1 dX10_walk_140 (by decide) ?_
                              exact K169 1 μ_6 _ _ _ ⟨by decide, by decide⟩ X (lv_sub hl [1, 2, 3, 4, 5, 6, 7, 0] rfl) h
                    exact L99 zfu 0 μ _ _ _ ⟨by decide, by decide⟩ X (lv_sub hl [1, 2, 3, 4, 6, 7, 0] rfl) h
                  · rw [if_neg hc89] at h
                    refine z_bipush C dX10_walk_93 (by decide) ?_
                    obtain ⟨rfl, rfl⟩ := Prod.mk.inj (Option.some.inj h)
                    exact rt X ⟨by decide, by decide⟩ dX10_walk_95
              · rw [if_neg hc64] at h
                refine z_bipush C dX10_walk_67 (by decide) ?_
                obtain ⟨rfl, rfl⟩ := Prod.mk.inj (Option.some.inj h)
                exact rt X ⟨by decide, by decide⟩ dX10_walk_69
            · rw [if_pos hc50] at h
              refine z_bipush C dX10_walk_53 (by decide) ?_
              obtain ⟨rfl, rfl⟩ := Prod.mk.inj (Option.some.inj h)
              exact rt X ⟨by decide, by decide⟩ dX10_walk_55
          · rw [if_pos hc39] at h
            refine z_iconst C dX10_walk_42 ?_
            obtain ⟨rfl, rfl⟩ := Prod.mk.inj (Option.some.inj h)
            exact rt X ⟨by decide, by decide⟩ dX10_walk_43
theorem zc_X10_walk : zcal yX10_walk cX10_walk 10 (some Jvm.ClassFile.FieldType.int) RX10 6 := ⟨⟨kw_1477, kw_1475, kw_1476, kw_12⟩, rfl, by decide, by decide, by decide +kernel⟩

