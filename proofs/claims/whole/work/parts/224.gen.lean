def f_X10_movesSome_J70 (x_2 : Int) (g4 : Int → Int → Option Int) (x_4 : Int) : Option Int :=
  zlet (zw (x_2 + 1)) fun x_5 =>
  g4 x_4 x_5
def f_X10_movesSome_J65 (g70 : Int → Option Int) : Option Int :=
  g70 1
def f_X10_movesSome_K55 (x_1 : Int) (x_2 : Int) (g4 : Int → Int → Option Int) (x_3 : Int) : Option Int :=
  if x_1 = 0 then
    if x_3 = x_2 then
      (f_X10_movesSome_J70 x_2 g4) 0
    else
      (f_X10_movesSome_J65 (f_X10_movesSome_J70 x_2 g4))
  else
    (f_X10_movesSome_J65 (f_X10_movesSome_J70 x_2 g4))
def f_X10_movesSome_L18 (x1 : Int) (μ : zMem) (g55 : Int → Option Int) : Nat → Int → Int → Option Int
  | 0, _, _ => none
  | n + 1, x_6, x_7 =>
    chk ((0 : Int) ≤ x1 ∧ x1 < 4) <|
    if x_7 < (μ 149 x1) then
      chk ((0 : Int) ≤ (zw ((zw (16 * x1)) + x_7)) ∧ (zw ((zw (16 * x1)) + x_7)) < 64) <|
      bnd (f_X10_stepMoves (μ 152 (zw ((zw (16 * x1)) + x_7))) x_6 μ) fun x_8 =>
      zlet (zw (x_7 + 1)) fun x_9 =>
      (f_X10_movesSome_L18 x1 μ g55 n) x_8 x_9
    else
      g55 x_6
def f_X10_movesSome_L4 (x1 : Int) (μ : zMem) : Nat → Int → Int → Option Int
  | 0, _, _ => none
  | n + 1, x_1, x_2 =>
    if x_2 < (μ 101 28) then
      (f_X10_movesSome_L18 x1 μ (f_X10_movesSome_K55 x_1 x_2 (f_X10_movesSome_L4 x1 μ n))) zfu x_2 0
    else
      chk (0 ≤ x_1 ∧ x_1 ≤ 1) <|
      some x_1
def f_X10_movesSome (x1 : Int) (μ : zMem) : Option Int :=
  (f_X10_movesSome_L4 x1 μ) zfu 0 0
set_option maxHeartbeats 4000000 in
set_option maxRecDepth 100000 in
theorem M_X10_movesSome {l : Launch} {Ω : zO} (hI : zIm Ω) (μ : zMem) (x1 : Int) {r : Int} (gx1 : Rg x1) (h : f_X10_movesSome x1 μ = some r) : XMet l yX10_movesSome cX10_movesSome 6 (some Jvm.ClassFile.FieldType.boolean) 1 Ω [zR Ω 101, zI x1] μ (some (zI r)) (0 ≤ r ∧ r ≤ 1) μ := by
  refine XMet.ofZ (by decide) (Nat.le_of_ble_eq_true rfl) ?_
  intro p e s m args below meth c ls Q C rt X hl
  have C : zC p s m args c cX10_movesSome RX10 6 Ω := C
  have hl : lv_has ls 6 [(0, zR Ω 101), (1, zI x1)] := hl
  unfold f_X10_movesSome at h
  skip
  refine z_iconst C dX10_movesSome_0 ?_
  refine lv_istore_n C.1 C.2.1 (lv' := [(2, zI 0), (0, zR Ω 101), (1, zI x1)]) dX10_movesSome_1 rfl hl (by decide) rfl (fun ls hl => ?_)
  refine z_iconst C dX10_movesSome_2 ?_
  refine lv_istore_n C.1 C.2.1 (lv' := [(3, zI 0), (2, zI 0), (0, zR Ω 101), (1, zI x1)]) dX10_movesSome_3 rfl hl (by decide) rfl (fun ls hl => ?_)
  have L4 : ∀ (n4 : Nat) (x_1 : Int) (x_2 : Int) (H : Heap) (locs : List Loc) (ls : Array Slot), Rg x_1 → Rg x_2 → zX Ω μ (zfree Ω) s.heap H locs → lv_has ls 6 [(0, zR Ω 101), (1, zI x1), (2, zI x_1), (3, zI x_2)] → (f_X10_movesSome_L4 x1 μ n4 x_1 x_2) = some r → W p l e (zrm 1) s m args below meth c H locs 0 0 Q (F0 m 4 ls []) := by
    intro n4
    induction n4 with
    | zero =>
      intro x_1 x_2 H locs ls _ _ _ _ h
      cases h
    | succ n4 ih4 =>
      intro x_1 x_2 H locs ls gx_1 gx_2 X hl h
      unfold f_X10_movesSome_L4 at h
      refine lv_iload_n C.1 C.2.1 dX10_movesSome_4 rfl (lv_at hl 3 rfl) ?_
      refine lv_aload_n C.1 C.2.1 dX10_movesSome_5 rfl (lv_at hl 0 rfl) ?_
      have g_6 : Rg (μ 101 28) := zrgf0 (ci := 10) X.2.2.2 (hI.1 101 (by decide)) rfl 28 rfl
      refine z_get C X zk10 (hI.1 101 (by decide)) rfl 28 (by decide) kw_1060 (zI (μ 101 28)) rfl dX10_movesSome_6 ?_
      refine z_icmpge C gx_2 g_6 (tgt := 77) dX10_movesSome_9 (by decide) (fun hc9 => ?_) (fun hc9 => ?_)
      · rw [if_neg hc9] at h
        refine lv_iload_n C.1 C.2.1 dX10_movesSome_77 rfl (lv_at hl 2 rfl) ?_
        obtain ⟨hz78, h⟩ := chk_some h
        obtain rfl := Option.some.inj h
        exact rt X hz78 dX10_movesSome_78
      · rw [if_pos hc9] at h
        refine lv_iload_n C.1 C.2.1 dX10_movesSome_12 rfl (lv_at hl 3 rfl) ?_
        refine lv_istore C.1 C.2.1 (lv' := [(4, zI x_2), (0, zR Ω 101), (1, zI x1), (2, zI x_1), (3, zI x_2)]) dX10_movesSome_13 hl (by decide) rfl (fun ls hl => ?_)
        refine z_iconst C dX10_movesSome_15 ?_
        refine lv_istore C.1 C.2.1 (lv' := [(5, zI 0), (4, zI x_2), (0, zR Ω 101), (1, zI x1), (2, zI x_1), (3, zI x_2)]) dX10_movesSome_16 hl (by decide) rfl (fun ls hl => ?_)
        have K55 : ∀ (x_3 : Int) (H : Heap) (locs : List Loc) (ls : Array Slot), Rg x_3 → zX Ω μ (zfree Ω) s.heap H locs → lv_has ls 6 [(0, zR Ω 101), (1, zI x1), (2, zI x_1), (3, zI x_2), (4, zI x_3)] → (f_X10_movesSome_K55 x_1 x_2 (f_X10_movesSome_L4 x1 μ n4)) x_3 = some r → W p l e (zrm 1) s m args below meth c H locs 0 0 Q (F0 m 55 ls []) := by
          intro x_3 H locs ls gx_3 X hl h
          unfold f_X10_movesSome_K55 at h
          refine lv_iload_n C.1 C.2.1 dX10_movesSome_55 rfl (lv_at hl 2 rfl) ?_
          have K70 : ∀ (x_4 : Int) (H : Heap) (locs : List Loc) (ls : Array Slot), Rg x_4 → zX Ω μ (zfree Ω) s.heap H locs → lv_has ls 6 [(0, zR Ω 101), (1, zI x1), (3, zI x_2)] → (f_X10_movesSome_J70 x_2 (f_X10_movesSome_L4 x1 μ n4)) x_4 = some r → W p l e (zrm 1) s m args below meth c H locs 0 0 Q (F0 m 70 ls [zI x_4]) := by
            intro x_4 H locs ls gx_4 X hl h
            unfold f_X10_movesSome_J70 at h
            refine lv_istore_n C.1 C.2.1 (lv' := [(2, zI x_4), (0, zR Ω 101), (1, zI x1), (3, zI x_2)]) dX10_movesSome_70 rfl hl (by decide) rfl (fun ls hl => ?_)
            refine zlet_elim h (fun x_5 ex_5 h => ?_)
            have gx_5 : Rg x_5 := by rw [ex_5]; exact Rg.w _
            refine z_iinc C ex_5 dX10_movesSome_71 hl (k := 3) rfl (by decide) (lv' := [(3, zI x_5), (2, zI x_4), (0, zR Ω 101), (1, zI x1)]) rfl (fun ls hl => ?_)
            clear ex_5
            refine lv_goto (tgt := 4) C.1 C.2.1 dX10_movesSome_74 (by decide) ?_
            exact ih4 x_4 x_5 _ _ _ gx_4 gx_5 X (lv_sub hl [2, 3, 1, 0] rfl) h
          have K65 : ∀ (H : Heap) (locs : List Loc) (ls : Array Slot), zX Ω μ (zfree Ω) s.heap H locs → lv_has ls 6 [(0, zR Ω 101), (1, zI x1), (3, zI x_2)] → (f_X10_movesSome_J65 (f_X10_movesSome_J70 x_2 (f_X10_movesSome_L4 x1 μ n4))) = some r → W p l e (zrm 1) s m args below meth c H locs 0 0 Q (F0 m 65 ls []) := by
            intro  H locs ls  X hl h
            unfold f_X10_movesSome_J65 at h
            refine z_iconst C dX10_movesSome_65 ?_
            refine lv_goto (tgt := 70) C.1 C.2.1 dX10_movesSome_66 (by decide) ?_
            exact K70 1 _ _ _ ⟨by decide, by decide⟩ X (lv_sub hl [0, 1, 2] rfl) h
          refine z_ifne C gx_1 (tgt := 65) dX10_movesSome_56 (by decide) (fun hc56 => ?_) (fun hc56 => ?_)
          · rw [if_neg hc56] at h
            exact K65 _ _ _ X (lv_sub hl [0, 1, 3] rfl) h
          · rw [if_pos hc56] at h
            refine lv_iload C.1 C.2.1 dX10_movesSome_59 (lv_at hl 4 rfl) ?_
            refine lv_iload_n C.1 C.2.1 dX10_movesSome_61 rfl (lv_at hl 3 rfl) ?_
            refine z_icmpeq C gx_3 gx_2 (tgt := 69) dX10_movesSome_62 (by decide) (fun hc62 => ?_) (fun hc62 => ?_)
            · rw [if_pos hc62] at h
              refine z_iconst C dX10_movesSome_69 ?_
              exact K70 0 _ _ _ ⟨by decide, by decide⟩ X (lv_sub hl [0, 1, 3] rfl) h
            · rw [if_neg hc62] at h
              exact K65 _ _ _ X (lv_sub hl [0, 1, 3] rfl) h
        have L18 : ∀ (n18 : Nat) (x_6 : Int) (x_7 : Int) (H : Heap) (locs : List Loc) (ls : Array Slot), Rg x_6 → Rg x_7 → zX Ω μ (zfree Ω) s.heap H locs → lv_has ls 6 [(0, zR Ω 101), (1, zI x1), (2, zI x_1), (3, zI x_2), (4, zI x_6), (5, zI x_7)] → (f_X10_movesSome_L18 x1 μ (f_X10_movesSome_K55 x_1 x_2 (f_X10_movesSome_L4 x1 μ n4)) n18 x_6 x_7) = some r → W p l e (zrm 1) s m args below meth c H locs 0 0 Q (F0 m 18 ls []) := by
          intro n18
          induction n18 with
          | zero =>
            intro x_6 x_7 H locs ls _ _ _ _ h
            cases h
          | succ n18 ih18 =>
            intro x_6 x_7 H locs ls gx_6 gx_7 X hl h
            unfold f_X10_movesSome_L18 at h
            refine lv_iload C.1 C.2.1 dX10_movesSome_18 (lv_at hl 5 rfl) ?_
            refine lv_aload_n C.1 C.2.1 dX10_movesSome_20 rfl (lv_at hl 0 rfl) ?_
            refine z_get C X zk10 (hI.1 101 (by decide)) rfl 47 (by decide) kw_1079 (zR Ω 149) (zfvF (off := 48) X.2.2.2 (hI.1 101 (by decide)) hI.2 rfl rfl (by decide)) dX10_movesSome_21 ?_
            refine lv_iload_n C.1 C.2.1 dX10_movesSome_24 rfl (lv_at hl 1 rfl) ?_
            obtain ⟨hc25, h⟩ := chk_some h
            have g_25 : Rg (μ 149 x1) := zrg1 X.2.2.2 (hI.1 149 (by decide)) rfl
            refine z_iald C X (hI.1 149 (by decide)) rfl hc25 dX10_movesSome_25 ?_
            refine z_icmpge C gx_7 g_25 (tgt := 55) dX10_movesSome_26 (by decide) (fun hc26 => ?_) (fun hc26 => ?_)
            · rw [if_neg hc26] at h
              exact K55 x_6 _ _ _ gx_6 X (lv_sub hl [0, 1, 2, 3, 4] rfl) h
            · rw [if_pos hc26] at h
              refine lv_aload_n C.1 C.2.1 dX10_movesSome_29 rfl (lv_at hl 0 rfl) ?_
              refine lv_aload_n C.1 C.2.1 dX10_movesSome_30 rfl (lv_at hl 0 rfl) ?_
              refine z_get C X zk10 (hI.1 101 (by decide)) rfl 50 (by decide) kw_1082 (zR Ω 152) (zfvF (off := 51) X.2.2.2 (hI.1 101 (by decide)) hI.2 rfl rfl (by decide)) dX10_movesSome_31 ?_
              refine z_bipush C dX10_movesSome_34 (by decide) ?_
              refine lv_iload_n C.1 C.2.1 dX10_movesSome_36 rfl (lv_at hl 1 rfl) ?_
              refine z_imul C dX10_movesSome_37 ?_
              refine lv_iload C.1 C.2.1 dX10_movesSome_38 (lv_at hl 5 rfl) ?_
              refine z_iadd C dX10_movesSome_40 ?_
              obtain ⟨hc41, h⟩ := chk_some h
              have g_41 : Rg (μ 152 (zw ((zw (16 * x1)) + x_7))) := zrg1 X.2.2.2 (hI.1 152 (by decide)) rfl
              refine z_iald C X (hI.1 152 (by decide)) rfl hc41 dX10_movesSome_41 ?_
              refine lv_iload C.1 C.2.1 dX10_movesSome_42 (lv_at hl 4 rfl) ?_
              obtain ⟨x_8, hq44, h⟩ := bnd_some h
              refine z_callV1 C X zk10 (hI.1 101 (by decide)) rfl (As := [zI (μ 152 (zw ((zw (16 * x1)) + x_7))), zI x_6]) (M_X10_stepMoves hI μ (μ 152 (zw ((zw (16 * x1)) + x_7))) x_6 g_41 gx_6 hq44) zc_X10_stepMoves kw_1411 (zroom (by decide) (by decide)) rfl hl.1 rfl (Nat.le_of_ble_eq_true rfl) dX10_movesSome_44 ⟨Nat.zero_le _, Nat.zero_le _⟩ (fun H locs g_44 X => ?_)
              refine lv_istore C.1 C.2.1 (lv' := [(4, zI x_8), (0, zR Ω 101), (1, zI x1), (2, zI x_1), (3, zI x_2), (5, zI x_7)]) dX10_movesSome_47 hl (by decide) rfl (fun ls hl => ?_)
              refine zlet_elim h (fun x_9 ex_9 h => ?_)
              have gx_9 : Rg x_9 := by rw [ex_9]; exact Rg.w _
              refine z_iinc C ex_9 dX10_movesSome_49 hl (k := 5) rfl (by decide) (lv' := [(5, zI x_9), (4, zI x_8), (0, zR Ω 101), (1, zI x1), (2, zI x_1), (3, zI x_2)]) rfl (fun ls hl => ?_)
              clear ex_9
              refine lv_goto (tgt := 18) C.1 C.2.1 dX10_movesSome_52 (by decide) ?_
              exact ih18 x_8 x_9 _ _ _ g_44 gx_9 X (lv_sub hl [2, 3, 4, 5, 1, 0] rfl) h
        exact L18 zfu x_2 0 _ _ _ gx_2 ⟨by decide, by decide⟩ X (lv_sub hl [2, 3, 4, 5, 1, 0] rfl) h
  exact L4 zfu 0 0 _ _ _ ⟨by decide, by decide⟩ ⟨by decide, by decide⟩ X (lv_sub hl [2, 3, 1, 0] rfl) h
theorem zc_X10_movesSome : zcal yX10_movesSome cX10_movesSome 6 (some Jvm.ClassFile.FieldType.boolean) RX10 1 := ⟨⟨kw_1418, kw_1417, kp_87, kw_12⟩, rfl, by decide, by decide, by decide +kernel⟩

def f_X10_goTables_J96 (μ_2 : zMem) : Option (Int × zMem) :=
  zlet (zup μ_2 101 35 (zw ((μ_2 101 35) + 1))) fun μ_3 =>
  if (μ_3 101 35) = (μ_3 101 34) then
    some (1, μ_3)
  else
    some (0, μ_3)
def f_X10_goTables_L10 (x1 : Int) (x2 : Int) (gself : Int → Int → zMem → Option (Int × zMem)) : Nat → Int → zMem → Option (Int × zMem)
  | 0, _, _ => none
  | n + 1, x_8, μ_9 =>
    if x_8 < (μ_9 101 30) then
      bnd (f_X10_putTurn x2 x_8 μ_9) fun μ_10 =>
      bnd2 (gself x1 (zw (x2 + 1)) μ_10) fun x_11 μ_12 =>
      if x_11 = 0 then
        zlet (zw (x_8 + 1)) fun x_13 =>
        (f_X10_goTables_L10 x1 x2 gself n) x_13 μ_12
      else
        some (1, μ_12)
    else
      some (0, μ_9)
def f_X10_goTables : Nat → Int → Int → zMem → Option (Int × zMem)
  | 0, _, _, _ => none
  | n + 1, x1, x2, μ =>
    if x2 < (μ 101 29) then
      (f_X10_goTables_L10 x1 x2 (f_X10_goTables n)) zfu 0 μ
    else
      bnd (f_X10_holds x1 μ) fun x_1 =>
      if x_1 = 0 then
        some (0, μ)
      else
        if (μ 101 33) = 2 then
          bnd (f_X10_movesSome (μ 101 36) μ) fun x_7 =>
          some (x_7, μ)
        else
          if (μ 101 33) = 1 then
            bnd (f_X10_isOne μ) fun x_4 =>
            if x_4 = 0 then
              some (0, μ)
            else
              bnd2 (f_X10_isFirst μ) fun x_5 μ_6 =>
              if x_5 = 0 then
                some (0, μ_6)
              else
                f_X10_goTables_J96 μ_6
          else
            f_X10_goTables_J96 μ
theorem zc_X10_goTables : zcal yX10_goTables cX10_goTables 4 (some Jvm.ClassFile.FieldType.boolean) RX10 2 := ⟨⟨kw_1398, kw_1397, kp_82, kw_12⟩, rfl, by decide, by decide, by decide +kernel⟩
set_option maxHeartbeats 4000000 in
set_option maxRecDepth 100000 in
theorem M_X10_goTables {l : Launch} {Ω : zO} (hI : zIm Ω) : ∀ (nS : Nat) (μ : zMem) (x1 : Int) (x2 : Int) {r : Int} {μ' : zMem} (gx1 : Rg x1) (gx2 : Rg x2), f_X10_goTables nS x1 x2 μ = some (r, μ') → XMet l yX10_goTables cX10_goTables 4 (some Jvm.ClassFile.FieldType.boolean) (nS + 3) Ω [zR Ω 101, zI x1, zI x2] μ (some (zI r)) (0 ≤ r ∧ r ≤ 1) μ' := by
  intro nS
  induction nS with
  | zero =>
    intro μ x1 x2 r μ' gx1 gx2 h
    cases h
  | succ nS ihs =>
    intro μ x1 x2 r μ' gx1 gx2 h
    refine XMet.ofZ (by decide) (Nat.le_of_ble_eq_true rfl) ?_
    intro p e s m args below meth c ls Q C rt X hl
    have C : zC p s m args c cX10_goTables RX10 4 Ω := C
    have hl : lv_has ls 4 [(0, zR Ω 101), (1, zI x1), (2, zI x2)] := hl
    unfold f_X10_goTables at h
    skip
    refine lv_iload_n C.1 C.2.1 dX10_goTables_0 rfl (lv_at hl 2 rfl) ?_
    refine lv_aload_n C.1 C.2.1 dX10_goTables_1 rfl (lv_at hl 0 rfl) ?_
    have g_2 : Rg (μ 101 29) := zrgf0 (ci := 10) X.2.2.2 (hI.1 101 (by decide)) rfl 29 rfl
    refine z_get C X zk10 (hI.1 101 (by decide)) rfl 29 (by decide) kw_1061 (zI (μ 101 29)) rfl dX10_goTables_2 ?_
    refine z_icmpge C gx2 g_2 (tgt := 45) dX10_goTables_5 (by decide) (fun hc5 => ?_) (fun hc5 => ?_)
    · rw [if_neg hc5] at h
      refine lv_aload_n C.1 C.2.1 dX10_goTables_45 rfl (lv_at hl 0 rfl) ?_
      refine lv_iload_n C.1 C.2.1 dX10_goTables_46 rfl (lv_at hl 1 rfl) ?_
      obtain ⟨x_1, hq47, h⟩ := bnd_some h
      refine z_callV1 C X zk10 (hI.1 101 (by decide)) rfl (As := [zI x1]) (M_X10_holds hI μ x1 gx1 hq47) zc_X10_holds kw_1403 (zroom (by omega) (by decide)) rfl hl.1 rfl (Nat.le_of_ble_eq_true rfl) dX10_goTables_47 ⟨Nat.zero_le _, Nat.zero_le _⟩ (fun H locs g_47 X => ?_)
      refine z_ifne C (rgz g_47) (tgt := 55) dX10_goTables_50 (by decide) (fun hc50 => ?_) (fun hc50 => ?_)
      · rw [if_neg hc50] at h
        refine lv_aload_n C.1 C.2.1 dX10_goTables_55 rfl (lv_at hl 0 rfl) ?_
        have g_56 : Rg (μ 101 33) := zrgf0 (ci := 10) X.2.2.2 (hI.1 101 (by decide)) rfl 33 rfl
        refine z_get C X zk10 (hI.1 101 (by decide)) rfl 33 (by decide) kw_1065 (zI (μ 101 33)) rfl dX10_goTables_56 ?_
        refine z_iconst C dX10_goTables_59 ?_
        refine z_icmpne C g_56 ⟨by decide, by decide⟩ (tgt := 72) dX10_goTables_60 (by decide) (fun hc60 => ?_) (fun hc60 => ?_)
        · rw [if_neg hc60] at h
          refine lv_aload_n C.1 C.2.1 dX10_goTables_72 rfl (lv_at hl 0 rfl) ?_
          have g_73 : Rg (μ 101 33) := zrgf0 (ci := 10) X.2.2.2 (hI.1 101 (by decide)) rfl 33 rfl
          refine z_get C X zk10 (hI.1 101 (by decide)) rfl 33 (by decide) kw_1065 (zI (μ 101 33)) rfl dX10_goTables_73 ?_
          refine z_iconst C dX10_goTables_76 ?_
          have K96 : ∀ (μ_2 : zMem) (H : Heap) (locs : List Loc) (ls : Array Slot), zX Ω μ_2 (zfree Ω) s.heap H locs → lv_has ls 4 [(0, zR Ω 101)] → f_X10_goTables_J96 μ_2 = some (r, μ') → W p l e (zrm (nS + 1 + 3)) s m args below meth c H locs 0 0 Q (F0 m 96 ls []) := by
            intro μ_2 H locs ls  X hl h
            unfold f_X10_goTables_J96 at h
            refine lv_aload_n C.1 C.2.1 dX10_goTables_96 rfl (lv_at hl 0 rfl) ?_
            refine lv_dup C.1 C.2.1 dX10_goTables_97 rfl ?_
            have g_98 : Rg (μ_2 101 35) := zrgf0 (ci := 10) X.2.2.2 (hI.1 101 (by decide)) rfl 35 rfl
            refine z_get C X zk10 (hI.1 101 (by decide)) rfl 35 (by decide) kw_1067 (zI (μ_2 101 35)) rfl dX10_goTables_98 ?_
            refine z_iconst C dX10_goTables_101 ?_
            refine z_iadd C dX10_goTables_102 ?_
            refine zlet_elim h (fun μ_3 em h => ?_)
            refine z_putI C X zk10 (hI.1 101 (by decide)) rfl 35 (by decide) kw_1067 rfl rfl rfl rfl (Rg.w _) em dX10_goTables_103 (fun H locs X => ?_)
            clear em
            refine lv_aload_n C.1 C.2.1 dX10_goTables_106 rfl (lv_at hl 0 rfl) ?_
            have g_107 : Rg (μ_3 101 35) := zrgf0 (ci := 10) X.2.2.2 (hI.1 101 (by decide)) rfl 35 rfl
            refine z_get C X zk10 (hI.1 101 (by decide)) rfl 35 (by decide) kw_1067 (zI (μ_3 101 35)) rfl dX10_goTables_107 ?_
            refine lv_aload_n C.1 C.2.1 dX10_goTables_110 rfl (lv_at hl 0 rfl) ?_
            have g_111 : Rg (μ_3 101 34) := zrgf0 (ci := 10) X.2.2.2 (hI.1 101 (by decide)) rfl 34 rfl
            refine z_get C X zk10 (hI.1 101 (by decide)) rfl 34 (by decide) kw_1066 (zI (μ_3 101 34)) rfl dX10_goTables_111 ?_
            refine z_icmpne C g_107 g_111 (tgt := 121) dX10_goTables_114 (by decide) (fun hc114 => ?_) (fun hc114 => ?_)
            · rw [if_neg hc114] at h
              refine z_iconst C dX10_goTables_121 ?_
              obtain ⟨rfl, rfl⟩ := Prod.mk.inj (Option.some.inj h)
              exact rt X ⟨by decide, by decide⟩ dX10_goTables_122
            · rw [if_pos hc114] at h
              refine z_iconst C dX10_goTables_117 ?_
              refine lv_goto (tgt := 122) C.1 C.2.1 dX10_goTables_118 (by decide) ?_
              obtain ⟨rfl, rfl⟩ := Prod.mk.inj (Option.some.inj h)
              exact rt X ⟨by decide, by decide⟩ dX10_goTables_122
          refine z_icmpne C g_73 ⟨by decide, by decide⟩ (tgt := 96) dX10_goTables_77 (by decide) (fun hc77 => ?_) (fun hc77 => ?_)
          · rw [if_neg hc77] at h
            exact K96 μ _ _ _ X (lv_sub hl [0] rfl) h
          · rw [if_pos hc77] at h
            refine lv_aload_n C.1 C.2.1 dX10_goTables_80 rfl (lv_at hl 0 rfl) ?_
            obtain ⟨x_4, hq81, h⟩ := bnd_some h
            refine z_callV1 C X zk10 (hI.1 101 (by decide)) rfl (As := []) (M_X10_isOne hI μ hq81) zc_X10_isOne kw_1419 (zroom (by omega) (by decide)) rfl hl.1 rfl (Nat.le_of_ble_eq_true rfl) dX10_goTables_81 ⟨Nat.zero_le _, Nat.zero_le _⟩ (fun H locs g_81 X => ?_)
            refine z_ifeq C (rgz g_81) (tgt := 94) dX10_goTables_84 (by decide) (fun hc84 => ?_) (fun hc84 => ?_)
            · rw [if_pos hc84] at h
              refine z_iconst C dX10_goTables_94 ?_
              obtain ⟨rfl, rfl⟩ := Prod.mk.inj (Option.some.inj h)
              exact rt X ⟨by decide, by decide⟩ dX10_goTables_95
            · rw [if_neg hc84] at h
              refine lv_aload_n C.1 C.2.1 dX10_goTables_87 rfl (lv_at hl 0 rfl) ?_
              obtain ⟨x_5, μ_6, hq88, h⟩ := bnd2_some h
              refine z_callV1 C X zk10 (hI.1 101 (by decide)) rfl (As := []) (M_X10_isFirst hI μ hq88) zc_X10_isFirst kw_1423 (zroom (by omega) (by decide)) rfl hl.1 rfl (Nat.le_of_ble_eq_true rfl) dX10_goTables_88 ⟨Nat.zero_le _, Nat.zero_le _⟩ (fun H locs g_88 X => ?_)
              refine z_ifne C (rgz g_88) (tgt := 96) dX10_goTables_91 (by decide) (fun hc91 => ?_) (fun hc91 => ?_)
              · rw [if_neg hc91] at h
                exact K96 μ_6 _ _ _ X (lv_sub hl [0] rfl) h
              · rw [if_pos hc91] at h
                refine z_iconst C dX10_goTables_94 ?_
                obtain ⟨rfl, rfl⟩ := Prod.mk.inj (Option.some.inj h)
                exact rt X ⟨by decide, by decide⟩ dX10_goTables_95
        · rw [if_pos hc60] at h
          refine lv_aload_n C.1 C.2.1 dX10_goTables_63 rfl (lv_at hl 0 rfl) ?_
          refine lv_aload_n C.1 C.2.1 dX10_goTables_64 rfl (lv_at hl 0 rfl) ?_
          have g_65 : Rg (μ 101 36) := zrgf0 (ci := 10) X.2.2.2 (hI.1 101 (by decide)) rfl 36 rfl
          refine z_get C X zk10 (hI.1 101 (by decide)) rfl 36 (by decide) kw_1068 (zI (μ 101 36)) rfl dX10_goTables_65 ?_
          obtain ⟨x_7, hq68, h⟩ := bnd_some h
          refine z_callV1 C X zk10 (hI.1 101 (by decide)) rfl (As := [zI (μ 101 36)]) (M_X10_movesSome hI μ (μ 101 36) g_65 hq68) zc_X10_movesSome kw_1415 (zroom (by omega) (by decide)) rfl hl.1 rfl (Nat.le_of_ble_eq_true rfl) dX10_goTables_68 ⟨Nat.zero_le _, Nat.zero_le _⟩ (fun H locs g_68 X => ?_)
          obtain ⟨rfl, rfl⟩ := Prod.mk.inj (Option.some.inj h)
          exact rt X g_68 dX10_goTables_71
      · rw [if_pos hc50] at h
        refine z_iconst C dX10_goTables_53 ?_
        obtain ⟨rfl, rfl⟩ := Prod.mk.inj (Option.some.inj h)
        exact rt X ⟨by decide, by decide⟩ dX10_goTables_54
    · rw [if_pos hc5] at h
      refine z_iconst C dX10_goTables_8 ?_
      refine lv_istore_n C.1 C.2.1 (lv' := [(3, zI 0), (0, zR Ω 101), (1, zI x1), (2, zI x2)]) dX10_goTables_9 rfl hl (by decide) rfl (fun ls hl => ?_)
      have L10 : ∀ (n10 : Nat) (x_8 : Int) (μ_9 : zMem) (H : Heap) (locs : List Loc) (ls : Array Slot), Rg x_8 → zX Ω μ_9 (zfree Ω) s.heap H locs → lv_has ls 4 [(0, zR Ω 101), (1, zI x1), (2, zI x2), (3, zI x_8)] → (f_X10_goTables_L10 x1 x2 (f_X10_goTables nS) n10 x_8 μ_9) = some (r, μ') → W p l e (zrm (nS + 1 + 3)) s m args below meth c H locs 0 0 Q (F0 m 10 ls []) := by
        intro n10
        induction n10 with
        | zero =>
          intro x_8 μ_9 H locs ls _ _ _ h
          cases h
        | succ n10 ih10 =>
          intro x_8 μ_9 H locs ls gx_8 X hl h
          unfold f_X10_goTables_L10 at h
          refine lv_iload_n C.1 C.2.1 dX10_goTables_10 rfl (lv_at hl 3 rfl) ?_
          refine lv_aload_n C.1 C.2.1 dX10_goTables_11 rfl (lv_at hl 0 rfl) ?_
          have g_12 : Rg (μ_9 101 30) := zrgf0 (ci := 10) X.2.2.2 (hI.1 101 (by decide)) rfl 30 rfl
          refine z_get C X zk10 (hI.1 101 (by decide)) rfl 30 (by decide) kw_1062 (zI (μ_9 101 30)) rfl dX10_goTables_12 ?_
          refine z_icmpge C gx_8 g_12 (tgt := 43) dX10_goTables_15 (by decide) (fun hc15 => ?_) (fun hc15 => ?_)
          · rw [if_neg hc15] at h
            refine z_iconst C dX10_goTables_43 ?_
            obtain ⟨rfl, rfl⟩ := Prod.mk.inj (Option.some.inj h)
            exact rt X ⟨by decide, by decide⟩ dX10_goTables_44
          · rw [if_pos hc15] at h
            refine lv_aload_n C.1 C.2.1 dX10_goTables_18 rfl (lv_at hl 0 rfl) ?_
            refine lv_iload_n C.1 C.2.1 dX10_goTables_19 rfl (lv_at hl 2 rfl) ?_
            refine lv_iload_n C.1 C.2.1 dX10_goTables_20 rfl (lv_at hl 3 rfl) ?_
            obtain ⟨μ_10, hq21, h⟩ := bnd_some h
            refine z_callV0 C X zk10 (hI.1 101 (by decide)) rfl (As := [zI x2, zI x_8]) (M_X10_putTurn hI μ_9 x2 x_8 gx2 gx_8 hq21) zc_X10_putTurn kw_1399 (zroom (by omega) (by decide)) rfl hl.1 rfl (Nat.le_of_ble_eq_true rfl) dX10_goTables_21 ⟨Nat.zero_le _, Nat.zero_le _⟩ (fun H locs g_21 X => ?_)
            refine lv_aload_n C.1 C.2.1 dX10_goTables_24 rfl (lv_at hl 0 rfl) ?_
            refine lv_iload_n C.1 C.2.1 dX10_goTables_25 rfl (lv_at hl 1 rfl) ?_
            refine lv_iload_n C.1 C.2.1 dX10_goTables_26 rfl (lv_at hl 2 rfl) ?_
            refine z_iconst C dX10_goTables_27 ?_
            refine z_iadd C dX10_goTables_28 ?_
            obtain ⟨x_11, μ_12, hq29, h⟩ := bnd2_some h
            refine z_callV1 C X zk10 (hI.1 101 (by decide)) rfl (As := [zI x1, zI (zw (x2 + 1))]) (ihs μ_10 x1 (zw (x2 + 1)) gx1 (Rg.w _) hq29) zc_X10_goTables kw_1395 (zroom (by omega) (by decide)) rfl hl.1 rfl (Nat.le_of_ble_eq_true rfl) dX10_goTables_29 ⟨Nat.zero_le _, Nat.zero_le _⟩ (fun H locs g_29 X => ?_)
            refine z_ifeq C (rgz g_29) (tgt := 37) dX10_goTables_32 (by decide) (fun hc32 => ?_) (fun hc32 => ?_)
            · rw [if_pos hc32] at h
              refine zlet_elim h (fun x_13 ex_13 h => ?_)
              have gx_13 : Rg x_13 := by rw [ex_13]; exact Rg.w _
              refine z_iinc C ex_13 dX10_goTables_37 hl (k := 3) rfl (by decide) (lv' := [(3, zI x_13), (0, zR Ω 101), (1, zI x1), (2, zI x2)]) rfl (fun ls hl => ?_)
              clear ex_13
              refine lv_goto (tgt := 10) C.1 C.2.1 dX10_goTables_40 (by decide) ?_
              exact ih10 x_13 μ_12 _ _ _ gx_13 X (lv_sub hl [1, 2, 3, 0] rfl) h
            · rw [if_neg hc32] at h
              refine z_iconst C dX10_goTables_35 ?_
              obtain ⟨rfl, rfl⟩ := Prod.mk.inj (Option.some.inj h)
              exact rt X ⟨by decide, by decide⟩ dX10_goTables_36
      exact L10 zfu 0 μ _ _ _ ⟨by decide, by decide⟩ X (lv_sub hl [1, 2, 3, 0] rfl) h

def f_X10_seek (x1 : Int) (x2 : Int) (x3 : Int) (μ : zMem) : Option (Int × zMem) :=
  zlet (zup μ 101 33 x2) fun μ_1 =>
  zlet (zup μ_1 101 34 x3) fun μ_2 =>
  zlet (zup μ_2 101 35 0) fun μ_3 =>
  bnd2 (f_X10_goTables 40 x1 0 μ_3) fun x_4 μ_5 =>
  some (x_4, μ_5)
set_option maxHeartbeats 4000000 in
set_option maxRecDepth 100000 in
theorem M_X10_seek {l : Launch} {Ω : zO} (hI : zIm Ω) (μ : zMem) (x1 : Int) (x2 : Int) (x3 : Int) {r : Int} {μ' : zMem} (gx1 : Rg x1) (gx2 : Rg x2) (gx3 : Rg x3) (h : f_X10_seek x1 x2 x3 μ = some (r, μ')) : XMet l yX10_seek cX10_seek 4 (some Jvm.ClassFile.FieldType.boolean) 44 Ω [zR Ω 101, zI x1, zI x2, zI x3] μ (some (zI r)) (0 ≤ r ∧ r ≤ 1) μ' := by
  refine XMet.ofZ (by decide) (Nat.le_of_ble_eq_true rfl) ?_
  intro p e s m args below meth c ls Q C rt X hl
  have C : zC p s m args c cX10_seek RX10 4 Ω := C
  have hl : lv_has ls 4 [(0, zR Ω 101), (1, zI x1), (2, zI x2), (3, zI x3)] := hl
  unfold f_X10_seek at h
  skip
  refine lv_aload_n C.1 C.2.1 dX10_seek_0 rfl (lv_at hl 0 rfl) ?_
  refine lv_iload_n C.1 C.2.1 dX10_seek_1 rfl (lv_at hl 2 rfl) ?_
  refine zlet_elim h (fun μ_1 em h => ?_)
  refine z_putI C X zk10 (hI.1 101 (by decide)) rfl 33 (by decide) kw_1065 rfl rfl rfl rfl gx2 em dX10_seek_2 (fun H locs X => ?_)
  clear em
  refine lv_aload_n C.1 C.2.1 dX10_seek_5 rfl (lv_at hl 0 rfl) ?_
  refine lv_iload_n C.1 C.2.1 dX10_seek_6 rfl (lv_at hl 3 rfl) ?_
  refine zlet_elim h (fun μ_2 em h => ?_)
  refine z_putI C X zk10 (hI.1 101 (by decide)) rfl 34 (by decide) kw_1066 rfl rfl rfl rfl gx3 em dX10_seek_7 (fun H locs X => ?_)
  clear em
  refine lv_aload_n C.1 C.2.1 dX10_seek_10 rfl (lv_at hl 0 rfl) ?_
  refine z_iconst C dX10_seek_11 ?_
  refine zlet_elim h (fun μ_3 em h => ?_)
  refine z_putI C X zk10 (hI.1 101 (by decide)) rfl 35 (by decide) kw_1067 rfl rfl rfl rfl ⟨by decide, by decide⟩ em dX10_seek_12 (fun H locs X => ?_)
  clear em
  refine lv_aload_n C.1 C.2.1 dX10_seek_15 rfl (lv_at hl 0 rfl) ?_
  refine lv_iload_n C.1 C.2.1 dX10_seek_16 rfl (lv_at hl 1 rfl) ?_
  refine z_iconst C dX10_seek_17 ?_
  obtain ⟨x_4, μ_5, hq18, h⟩ := bnd2_some h
  refine z_callV1 C X zk10 (hI.1 101 (by decide)) rfl (As := [zI x1, zI 0]) (M_X10_goTables hI 40 μ_3 x1 0 gx1 ⟨by decide, by decide⟩ hq18) zc_X10_goTables kw_1395 (zroom (by decide) (by decide)) rfl hl.1 rfl (Nat.le_of_ble_eq_true rfl) dX10_seek_18 ⟨Nat.zero_le _, Nat.zero_le _⟩ (fun H locs g_18 X => ?_)
  obtain ⟨rfl, rfl⟩ := Prod.mk.inj (Option.some.inj h)
  exact rt X g_18 dX10_seek_21
theorem zc_X10_seek : zcal yX10_seek cX10_seek 4 (some Jvm.ClassFile.FieldType.boolean) RX10 3 := ⟨⟨kw_1394, kw_1393, kp_81, kw_12⟩, rfl, by decide, by decide, by decide +kernel⟩

def f_X10_areStoreys (x0 : Int) : Int :=
  (f_X10_in x0 2 4)
set_option maxHeartbeats 4000000 in
set_option maxRecDepth 100000 in
theorem M_X10_areStoreys {l : Launch} {Ω : zO} (hI : zIm Ω) (μ : zMem) (x0 : Int) (gx0 : Rg x0) : XMet l yX10_areStoreys cX10_areStoreys 1 (some Jvm.ClassFile.FieldType.boolean) 1 Ω [zI x0] μ (some (zI (f_X10_areStoreys x0))) (0 ≤ (f_X10_areStoreys x0) ∧ (f_X10_areStoreys x0) ≤ 1) μ := by
  obtain ⟨r, h⟩ : ∃ r, f_X10_areStoreys x0 = r := ⟨_, rfl⟩
  rw [h]
  refine XMet.ofZ (by decide) (Nat.le_of_ble_eq_true rfl) ?_
  intro p e s m args below meth c ls Q C rt X hl
  have C : zC p s m args c cX10_areStoreys RX10 1 Ω := C
  have hl : lv_has ls 1 [(0, zI x0)] := hl
  unfold f_X10_areStoreys at h
  skip
  refine lv_iload_n C.1 C.2.1 dX10_areStoreys_0 rfl (lv_at hl 0 rfl) ?_
  refine z_iconst C dX10_areStoreys_1 ?_
  refine z_iconst C dX10_areStoreys_2 ?_
  refine z_callS1 C X (As := [zI x0, zI 2, zI 4]) (M_X10_in hI μ x0 2 4 gx0 ⟨by decide, by decide⟩ ⟨by decide, by decide⟩) zc_X10_in kw_1217 (zroom (by decide) (by decide)) rfl hl.1 rfl (Nat.le_of_ble_eq_true rfl) dX10_areStoreys_3 ⟨Nat.zero_le _, Nat.zero_le _⟩ (fun H locs g_3 X => ?_)
  subst h
  exact rt X g_3 dX10_areStoreys_6
theorem zc_X10_areStoreys : zcas yX10_areStoreys cX10_areStoreys 1 (some Jvm.ClassFile.FieldType.boolean) 1 := ⟨⟨kw_1382, kw_1381, kw_12⟩, by decide, by decide, by decide +kernel⟩

def f_X10_tables (x1 : Int) (x2 : Int) (μ : zMem) : Option (Int × zMem) :=
  if (f_X10_isSpace x1) = 0 then
    some ((-1), μ)
  else
    if (f_X10_areStoreys x2) = 0 then
      some ((-1), μ)
    else
      bnd2 (f_X10_isMany x1 x2 μ) fun x_1 μ_2 =>
      if x_1 = 0 then
        bnd2 (f_X10_seek x1 0 (-1) μ_2) fun x_3 μ_4 =>
        some ((μ_4 101 35), μ_4)
      else
        some ((-2), μ_2)
set_option maxHeartbeats 4000000 in
set_option maxRecDepth 100000 in
theorem M_X10_tables {l : Launch} {Ω : zO} (hI : zIm Ω) (μ : zMem) (x1 : Int) (x2 : Int) {r : Int} {μ' : zMem} (gx1 : Rg x1) (gx2 : Rg x2) (h : f_X10_tables x1 x2 μ = some (r, μ')) : XMet l yX10_tables cX10_tables 3 (some Jvm.ClassFile.FieldType.int) 45 Ω [zR Ω 101, zI x1, zI x2] μ (some (zI r)) (Rg r) μ' := by
  refine XMet.ofI (by decide) (Nat.le_of_ble_eq_true rfl) ?_
  intro p e s m args below meth c ls Q C rt X hl
  have C : zC p s m args c cX10_tables RX10 3 Ω := C
  have hl : lv_has ls 3 [(0, zR Ω 101), (1, zI x1), (2, zI x2)] := hl
  unfold f_X10_tables at h
  skip
  refine lv_iload_n C.1 C.2.1 dX10_tables_0 rfl (lv_at hl 1 rfl) ?_
  refine z_callS1 C X (As := [zI x1]) (M_X10_isSpace hI μ x1 gx1) zc_X10_isSpace kw_1214 (zroom (by decide) (by decide)) rfl hl.1 rfl (Nat.le_of_ble_eq_true rfl) dX10_tables_1 ⟨Nat.zero_le _, Nat.zero_le _⟩ (fun H locs g_1 X => ?_)
  refine z_ifeq C (rgz g_1) (tgt := 14) dX10_tables_4 (by decide) (fun hc4 => ?_) (fun hc4 => ?_)
  · rw [if_pos hc4] at h
    refine z_iconst C dX10_tables_14 ?_
    obtain ⟨rfl, rfl⟩ := Prod.mk.inj (Option.some.inj h)
    exact rt X ⟨by decide, by decide⟩ dX10_tables_15
  · rw [if_neg hc4] at h
    refine lv_iload_n C.1 C.2.1 dX10_tables_7 rfl (lv_at hl 2 rfl) ?_
    refine z_callS1 C X (As := [zI x2]) (M_X10_areStoreys hI μ x2 gx2) zc_X10_areStoreys kw_1380 (zroom (by decide) (by decide)) rfl hl.1 rfl (Nat.le_of_ble_eq_true rfl) dX10_tables_8 ⟨Nat.zero_le _, Nat.zero_le _⟩ (fun H locs g_8 X => ?_)
    refine z_ifne C (rgz g_8) (tgt := 16) dX10_tables_11 (by decide) (fun hc11 => ?_) (fun hc11 => ?_)
    · rw [if_neg hc11] at h
      refine lv_aload_n C.1 C.2.1 dX10_tables_16 rfl (lv_at hl 0 rfl) ?_
      refine lv_iload_n C.1 C.2.1 dX10_tables_17 rfl (lv_at hl 1 rfl) ?_
      refine lv_iload_n C.1 C.2.1 dX10_tables_18 rfl (lv_at hl 2 rfl) ?_
      obtain ⟨x_1, μ_2, hq19, h⟩ := bnd2_some h
      refine z_callV1 C X zk10 (hI.1 101 (by decide)) rfl (As := [zI x1, zI x2]) (M_X10_isMany hI μ x1 x2 gx1 gx2 hq19) zc_X10_isMany kw_1383 (zroom (by decide) (by decide)) rfl hl.1 rfl (Nat.le_of_ble_eq_true rfl) dX10_tables_19 ⟨Nat.zero_le _, Nat.zero_le _⟩ (fun H locs g_19 X => ?_)
      refine z_ifeq C (rgz g_19) (tgt := 28) dX10_tables_22 (by decide) (fun hc22 => ?_) (fun hc22 => ?_)
      · rw [if_pos hc22] at h
        refine lv_aload_n C.1 C.2.1 dX10_tables_28 rfl (lv_at hl 0 rfl) ?_
        refine lv_iload_n C.1 C.2.1 dX10_tables_29 rfl (lv_at hl 1 rfl) ?_
        refine z_iconst C dX10_tables_30 ?_
        refine z_iconst C dX10_tables_31 ?_
        obtain ⟨x_3, μ_4, hq32, h⟩ := bnd2_some h
        refine z_callV1 C X zk10 (hI.1 101 (by decide)) rfl (As := [zI x1, zI 0, zI (-1)]) (M_X10_seek hI μ_2 x1 0 (-1) gx1 ⟨by decide, by decide⟩ ⟨by decide, by decide⟩ hq32) zc_X10_seek kw_1391 (zroom (by decide) (by decide)) rfl hl.1 rfl (Nat.le_of_ble_eq_true rfl) dX10_tables_32 ⟨Nat.zero_le _, Nat.zero_le _⟩ (fun H locs g_32 X => ?_)
        refine lv_pop C.1 C.2.1 dX10_tables_35 rfl ?_
        refine lv_aload_n C.1 C.2.1 dX10_tables_36 rfl (lv_at hl 0 rfl) ?_
        have g_37 : Rg (μ_4 101 35) := zrgf0 (ci := 10) X.2.2.2 (hI.1 101 (by decide)) rfl 35 rfl
        refine z_get C X zk10 (hI.1 101 (by decide)) rfl 35 (by decide) kw_1067 (zI (μ_4 101 35)) rfl dX10_tables_37 ?_
        obtain ⟨rfl, rfl⟩ := Prod.mk.inj (Option.some.inj h)
        exact rt X g_37 dX10_tables_40
      · rw [if_neg hc22] at h
        refine z_bipush C dX10_tables_25 (by decide) ?_
        obtain ⟨rfl, rfl⟩ := Prod.mk.inj (Option.some.inj h)
        exact rt X ⟨by decide, by decide⟩ dX10_tables_27
    · rw [if_pos hc11] at h
      refine z_iconst C dX10_tables_14 ?_
      obtain ⟨rfl, rfl⟩ := Prod.mk.inj (Option.some.inj h)
      exact rt X ⟨by decide, by decide⟩ dX10_tables_15
theorem zc_X10_tables : zcal yX10_tables cX10_tables 3 (some Jvm.ClassFile.FieldType.int) RX10 2 := ⟨⟨kw_1379, kw_1377, kw_1378, kw_12⟩, rfl, by decide, by decide, by decide +kernel⟩

def f_X10_layers (x1 : Int) (x2 : Int) (μ : zMem) : Option (Int × zMem) :=
  if (f_X10_isSpace x1) = 0 then
    some ((-1), μ)
  else
    if (f_X10_areStoreys x2) = 0 then
      some ((-1), μ)
    else
      bnd2 (f_X10_isMany x1 x2 μ) fun x_1 μ_2 =>
      if x_1 = 0 then
        bnd2 (f_X10_seek x1 1 (-1) μ_2) fun x_3 μ_4 =>
        some ((μ_4 101 35), μ_4)
      else
        some ((-2), μ_2)
set_option maxHeartbeats 4000000 in
set_option maxRecDepth 100000 in
theorem M_X10_layers {l : Launch} {Ω : zO} (hI : zIm Ω) (μ : zMem) (x1 : Int) (x2 : Int) {r : Int} {μ' : zMem} (gx1 : Rg x1) (gx2 : Rg x2) (h : f_X10_layers x1 x2 μ = some (r, μ')) : XMet l yX10_layers cX10_layers 3 (some Jvm.ClassFile.FieldType.int) 45 Ω [zR Ω 101, zI x1, zI x2] μ (some (zI r)) (Rg r) μ' := by
  refine XMet.ofI (by decide) (Nat.le_of_ble_eq_true rfl) ?_
  intro p e s m args below meth c ls Q C rt X hl
  have C : zC p s m args c cX10_layers RX10 3 Ω := C
  have hl : lv_has ls 3 [(0, zR Ω 101), (1, zI x1), (2, zI x2)] := hl
  unfold f_X10_layers at h
  skip
  refine lv_iload_n C.1 C.2.1 dX10_layers_0 rfl (lv_at hl 1 rfl) ?_
  refine z_callS1 C X (As := [zI x1]) (M_X10_isSpace hI μ x1 gx1) zc_X10_isSpace kw_1214 (zroom (by decide) (by decide)) rfl hl.1 rfl (Nat.le_of_ble_eq_true rfl) dX10_layers_1 ⟨Nat.zero_le _, Nat.zero_le _⟩ (fun H locs g_1 X => ?_)
  refine z_ifeq C (rgz g_1) (tgt := 14) dX10_layers_4 (by decide) (fun hc4 => ?_) (fun hc4 => ?_)
  · rw [if_pos hc4] at h
    refine z_iconst C dX10_layers_14 ?_
    obtain ⟨rfl, rfl⟩ := Prod.mk.inj (Option.some.inj h)
    exact rt X ⟨by decide, by decide⟩ dX10_layers_15
  · rw [if_neg hc4] at h
    refine lv_iload_n C.1 C.2.1 dX10_layers_7 rfl (lv_at hl 2 rfl) ?_
    refine z_callS1 C X (As := [zI x2]) (M_X10_areStoreys hI μ x2 gx2) zc_X10_areStoreys kw_1380 (zroom (by decide) (by decide)) rfl hl.1 rfl (Nat.le_of_ble_eq_true rfl) dX10_layers_8 ⟨Nat.zero_le _, Nat.zero_le _⟩ (fun H locs g_8 X => ?_)
    refine z_ifne C (rgz g_8) (tgt := 16) dX10_layers_11 (by decide) (fun hc11 => ?_) (fun hc11 => ?_)
    · rw [if_neg hc11] at h
      refine lv_aload_n C.1 C.2.1 dX10_layers_16 rfl (lv_at hl 0 rfl) ?_
      refine lv_iload_n C.1 C.2.1 dX10_layers_17 rfl (lv_at hl 1 rfl) ?_
      refine lv_iload_n C.1 C.2.1 dX10_layers_18 rfl (lv_at hl 2 rfl) ?_
      obtain ⟨x_1, μ_2, hq19, h⟩ := bnd2_some h
      refine z_callV1 C X zk10 (hI.1 101 (by decide)) rfl (As := [zI x1, zI x2]) (M_X10_isMany hI μ x1 x2 gx1 gx2 hq19) zc_X10_isMany kw_1383 (zroom (by decide) (by decide)) rfl hl.1 rfl (Nat.le_of_ble_eq_true rfl) dX10_layers_19 ⟨Nat.zero_le _, Nat.zero_le _⟩ (fun H locs g_19 X => ?_)
      refine z_ifeq C (rgz g_19) (tgt := 28) dX10_layers_22 (by decide) (fun hc22 => ?_) (fun hc22 => ?_)
      · rw [if_pos hc22] at h
        refine lv_aload_n C.1 C.2.1 dX10_layers_28 rfl (lv_at hl 0 rfl) ?_
        refine lv_iload_n C.1 C.2.1 dX10_layers_29 rfl (lv_at hl 1 rfl) ?_
        refine z_iconst C dX10_layers_30 ?_
        refine z_iconst C dX10_layers_31 ?_
        obtain ⟨x_3, μ_4, hq32, h⟩ := bnd2_some h
        refine z_callV1 C X zk10 (hI.1 101 (by decide)) rfl (As := [zI x1, zI 1, zI (-1)]) (M_X10_seek hI μ_2 x1 1 (-1) gx1 ⟨by decide, by decide⟩ ⟨by decide, by decide⟩ hq32) zc_X10_seek kw_1391 (zroom (by decide) (by decide)) rfl hl.1 rfl (Nat.le_of_ble_eq_true rfl) dX10_layers_32 ⟨Nat.zero_le _, Nat.zero_le _⟩ (fun H locs g_32 X => ?_)
        refine lv_pop C.1 C.2.1 dX10_layers_35 rfl ?_
        refine lv_aload_n C.1 C.2.1 dX10_layers_36 rfl (lv_at hl 0 rfl) ?_
        have g_37 : Rg (μ_4 101 35) := zrgf0 (ci := 10) X.2.2.2 (hI.1 101 (by decide)) rfl 35 rfl
        refine z_get C X zk10 (hI.1 101 (by decide)) rfl 35 (by decide) kw_1067 (zI (μ_4 101 35)) rfl dX10_layers_37 ?_
        obtain ⟨rfl, rfl⟩ := Prod.mk.inj (Option.some.inj h)
        exact rt X g_37 dX10_layers_40
      · rw [if_neg hc22] at h
        refine z_bipush C dX10_layers_25 (by decide) ?_
        obtain ⟨rfl, rfl⟩ := Prod.mk.inj (Option.some.inj h)
        exact rt X ⟨by decide, by decide⟩ dX10_layers_27
    · rw [if_pos hc11] at h
      refine z_iconst C dX10_layers_14 ?_
      obtain ⟨rfl, rfl⟩ := Prod.mk.inj (Option.some.inj h)
      exact rt X ⟨by decide, by decide⟩ dX10_layers_15
theorem zc_X10_layers : zcal yX10_layers cX10_layers 3 (some Jvm.ClassFile.FieldType.int) RX10 2 := ⟨⟨kw_1430, kw_1428, kw_1429, kw_12⟩, rfl, by decide, by decide, by decide +kernel⟩

def f_X10_lifted_J14 (x1 : Int) (x2 : Int) (μ : zMem) (x_1 : Int) : Option Int :=
  chk ((0 : Int) ≤ x_1 ∧ x_1 < 48) <|
  zlet ((zw ((μ 101 28) * (μ 147 x_1)))) fun x_2 =>
  if x1 ≤ 0 then
    bnd (f_X10_stepMoves x1 x2 μ) fun x_3 =>
    some (zw ((zw (-(zw (x_2 + x_3)))) - 1))
  else
    some (zw ((zw (x_2 + x2)) + 1))
def f_X10_lifted (x1 : Int) (x2 : Int) (μ : zMem) : Option Int :=
  (f_X10_lifted_J14 x1 x2 μ) (if x1 ≤ 0 then (zw ((zw (-x1)) - 1)) else (zw (x1 - 1)))
set_option maxHeartbeats 4000000 in
set_option maxRecDepth 100000 in
theorem M_X10_lifted {l : Launch} {Ω : zO} (hI : zIm Ω) (μ : zMem) (x1 : Int) (x2 : Int) {r : Int} (gx1 : Rg x1) (gx2 : Rg x2) (h : f_X10_lifted x1 x2 μ = some r) : XMet l yX10_lifted cX10_lifted 5 (some Jvm.ClassFile.FieldType.int) 1 Ω [zR Ω 101, zI x1, zI x2] μ (some (zI r)) (Rg r) μ := by
  refine XMet.ofI (by decide) (Nat.le_of_ble_eq_true rfl) ?_
  intro p e s m args below meth c ls Q C rt X hl
  have C : zC p s m args c cX10_lifted RX10 5 Ω := C
  have hl : lv_has ls 5 [(0, zR Ω 101), (1, zI x1), (2, zI x2)] := hl
  unfold f_X10_lifted at h
  skip
  refine lv_iload_n C.1 C.2.1 dX10_lifted_0 rfl (lv_at hl 1 rfl) ?_
  have K14 : ∀ (x_1 : Int) (H : Heap) (locs : List Loc) (ls : Array Slot), Rg x_1 → zX Ω μ (zfree Ω) s.heap H locs → lv_has ls 5 [(0, zR Ω 101), (1, zI x1), (2, zI x2)] → (f_X10_lifted_J14 x1 x2 μ) x_1 = some r → W p l e (zrm 1) s m args below meth c H locs 0 0 Q (F0 m 14 ls [zI x_1]) := by
    intro x_1 H locs ls gx_1 X hl h
    unfold f_X10_lifted_J14 at h
    refine lv_istore_n C.1 C.2.1 (lv' := [(3, zI x_1), (0, zR Ω 101), (1, zI x1), (2, zI x2)]) dX10_lifted_14 rfl hl (by decide) rfl (fun ls hl => ?_)
    refine lv_aload_n C.1 C.2.1 dX10_lifted_15 rfl (lv_at hl 1 rfl) ?_
    have g_16 : Rg (μ 101 28) := zrgf0 (ci := 10) X.2.2.2 (hI.1 101 (by decide)) rfl 28 rfl
    refine z_get C X zk10 (hI.1 101 (by decide)) rfl 28 (by decide) kw_1060 (zI (μ 101 28)) rfl dX10_lifted_16 ?_
    refine lv_aload_n C.1 C.2.1 dX10_lifted_19 rfl (lv_at hl 1 rfl) ?_
    refine z_get C X zk10 (hI.1 101 (by decide)) rfl 45 (by decide) kw_1077 (zR Ω 147) (zfvF (off := 46) X.2.2.2 (hI.1 101 (by decide)) hI.2 rfl rfl (by decide)) dX10_lifted_20 ?_
    refine lv_iload_n C.1 C.2.1 dX10_lifted_23 rfl (lv_at hl 0 rfl) ?_
    obtain ⟨hc24, h⟩ := chk_some h
    have g_24 : Rg (μ 147 x_1) := zrg1 X.2.2.2 (hI.1 147 (by decide)) rfl
    refine z_iald C X (hI.1 147 (by decide)) rfl hc24 dX10_lifted_24 ?_
    refine z_imul C dX10_lifted_25 ?_
    refine zlet_elim h (fun x_2 ex_2 h => ?_)
    have gx_2 : Rg x_2 := by rw [ex_2]; exact (Rg.w _)
    refine z_istore C ex_2 dX10_lifted_26 hl (by decide) (lv' := [(4, zI x_2), (3, zI x_1), (0, zR Ω 101), (1, zI x1), (2, zI x2)]) rfl (fun ls hl => ?_)
    clear ex_2
    refine lv_iload_n C.1 C.2.1 dX10_lifted_28 rfl (lv_at hl 3 rfl) ?_
    refine z_ifle C gx1 (tgt := 41) dX10_lifted_29 (by decide) (fun hc29 => ?_) (fun hc29 => ?_)
    · rw [if_pos hc29] at h
      refine lv_iload C.1 C.2.1 dX10_lifted_41 (lv_at hl 0 rfl) ?_
      refine lv_aload_n C.1 C.2.1 dX10_lifted_43 rfl (lv_at hl 2 rfl) ?_
      refine lv_iload_n C.1 C.2.1 dX10_lifted_44 rfl (lv_at hl 3 rfl) ?_
      refine lv_iload_n C.1 C.2.1 dX10_lifted_45 rfl (lv_at hl 4 rfl) ?_
      obtain ⟨x_3, hq46, h⟩ := bnd_some h
      refine z_callV1 C X zk10 (hI.1 101 (by decide)) rfl (As := [zI x1, zI x2]) (M_X10_stepMoves hI μ x1 x2 gx1 gx2 hq46) zc_X10_stepMoves kw_1411 (zroom (by decide) (by decide)) rfl hl.1 rfl (Nat.le_of_ble_eq_true rfl) dX10_lifted_46 ⟨Nat.zero_le _, Nat.zero_le _⟩ (fun H locs g_46 X => ?_)
      refine z_iadd C dX10_lifted_49 ?_
      refine z_ineg C dX10_lifted_50 ?_
      refine z_iconst C dX10_lifted_51 ?_
      refine z_isub C dX10_lifted_52 ?_
      obtain rfl := Option.some.inj h
      exact rt X (Rg.w _) dX10_lifted_53
    · rw [if_neg hc29] at h
      refine lv_iload C.1 C.2.1 dX10_lifted_32 (lv_at hl 0 rfl) ?_
      refine lv_iload_n C.1 C.2.1 dX10_lifted_34 rfl (lv_at hl 4 rfl) ?_
      refine z_iadd C dX10_lifted_35 ?_
      refine z_iconst C dX10_lifted_36 ?_
      refine z_iadd C dX10_lifted_37 ?_
      refine lv_goto (tgt := 53) C.1 C.2.1 dX10_lifted_38 (by decide) ?_
      obtain rfl := Option.some.inj h
      exact rt X (Rg.w _) dX10_lifted_53
  refine z_ifle C gx1 (tgt := 10) dX10_lifted_1 (by decide) (fun hc1 => ?_) (fun hc1 => ?_)
  · rw [if_pos hc1] at h
    refine lv_iload_n C.1 C.2.1 dX10_lifted_10 rfl (lv_at hl 1 rfl) ?_
    refine z_ineg C dX10_lifted_11 ?_
    refine z_iconst C dX10_lifted_12 ?_
    refine z_isub C dX10_lifted_13 ?_
    exact K14 (zw ((zw (-x1)) - 1)) _ _ _ (Rg.w _) X (lv_sub hl [0, 1, 2] rfl) h
  · rw [if_neg hc1] at h
    refine lv_iload_n C.1 C.2.1 dX10_lifted_4 rfl (lv_at hl 1 rfl) ?_
    refine z_iconst C dX10_lifted_5 ?_
    refine z_isub C dX10_lifted_6 ?_
    refine lv_goto (tgt := 14) C.1 C.2.1 dX10_lifted_7 (by decide) ?_
    exact K14 (zw (x1 - 1)) _ _ _ (Rg.w _) X (lv_sub hl [0, 1, 2] rfl) h
theorem zc_X10_lifted : zcal yX10_lifted cX10_lifted 5 (some Jvm.ClassFile.FieldType.int) RX10 2 := ⟨⟨kw_1442, kw_1441, kp_91, kw_12⟩, rfl, by decide, by decide, by decide +kernel⟩

def f_X10_layLayer_K312 (x_4 : Int) (g198 : Int → zMem → Option zMem) (μ_6 : zMem) : Option zMem :=
  zlet (zw (x_4 + 1)) fun x_7 =>
  g198 x_7 μ_6
def f_X10_layLayer_K300 (x_8 : Int) (g210 : Int → zMem → Option zMem) (μ_12 : zMem) : Option zMem :=
  bnd2 (f_X10_addFace 2 μ_12) fun x_13 μ_14 =>
  zlet (zw (x_8 + 1)) fun x_15 =>
  g210 x_15 μ_14
def f_X10_layLayer_L248 (x1 : Int) (x_4 : Int) (g300 : zMem → Option zMem) : Nat → Int → Int → zMem → Option zMem
  | 0, _, _, _ => none
  | n + 1, x_16, x_17, μ_18 =>
    if x_17 < (μ_18 101 13) then
      bnd (f_X10_rimAt x1 x_4 x_17 μ_18) fun x_19 =>
      bnd (f_X10_lifted x_19 x_16 μ_18) fun x_20 =>
      chk ((0 : Int) ≤ x_17 ∧ x_17 < 17) <|
      zlet (zup μ_18 116 x_17 x_20) fun μ_21 =>
      bnd (f_X10_rimAt x1 x_4 x_17 μ_21) fun x_22 =>
      bnd (f_X10_stepMoves x_22 x_16 μ_21) fun x_23 =>
      zlet (zw (x_17 + 1)) fun x_24 =>
      (f_X10_layLayer_L248 x1 x_4 g300 n) x_23 x_24 μ_21
    else
      g300 μ_18
def f_X10_layLayer_L210 (x1 : Int) (x_4 : Int) (g312 : zMem → Option zMem) : Nat → Int → zMem → Option zMem
  | 0, _, _ => none
  | n + 1, x_8, μ_9 =>
    if x_8 < (μ_9 101 28) then
      bnd (f_X10_isFaceInPart x1 x_4 μ_9) fun x_10 =>
      if x_10 = 0 then
        g312 μ_9
      else
        chk ((0 : Int) ≤ (zw ((zw (32 * x1)) + x_4)) ∧ (zw ((zw (32 * x1)) + x_4)) < 96) <|
        zlet (zup μ_9 101 13 (μ_9 107 (zw ((zw (32 * x1)) + x_4)))) fun μ_11 =>
        (f_X10_layLayer_L248 x1 x_4 (f_X10_layLayer_K300 x_8 (f_X10_layLayer_L210 x1 x_4 g312 n))) zfu x_8 0 μ_11
    else
      g312 μ_9
def f_X10_layLayer_L198 (x1 : Int) : Nat → Int → zMem → Option zMem
  | 0, _, _ => none
  | n + 1, x_4, μ_5 =>
    chk ((0 : Int) ≤ x1 ∧ x1 < 3) <|
    if x_4 < (μ_5 104 x1) then
      (f_X10_layLayer_L210 x1 x_4 (f_X10_layLayer_K312 x_4 (f_X10_layLayer_L198 x1 n))) zfu 0 μ_5
    else
      some μ_5
def f_X10_layLayer_K196 (x1 : Int) (μ_3 : zMem) : Option zMem :=
  (f_X10_layLayer_L198 x1) zfu 0 μ_3
def f_X10_layLayer_K190 (x_25 : Int) (g69 : Int → zMem → Option zMem) (μ_30 : zMem) : Option zMem :=
  zlet (zw (x_25 + 1)) fun x_31 =>
  g69 x_31 μ_30
def f_X10_layLayer_L124 (x_25 : Int) (x_27 : Int) (x_28 : Int) (g190 : zMem → Option zMem) : Nat → Int → zMem → Option zMem
  | 0, _, _ => none
  | n + 1, x_32, μ_33 =>
    if x_32 < (μ_33 101 28) then
      chk ((0 : Int) ≤ x_27 ∧ x_27 < 32) <|
      if (μ_33 120 x_27) = 0 then
        g190 μ_33
      else
        chk ((0 : Int) ≤ x_27 ∧ x_27 < 32) <|
        chk ((0 : Int) ≤ x_28 ∧ x_28 < 32) <|
        bnd (f_X10_stepMoves (zw (x_25 + 1)) x_32 μ_33) fun x_34 =>
        bnd2 (f_X10_addEdge 2 (zw ((zw ((μ_33 101 28) * (μ_33 146 x_27))) + x_32)) (zw ((zw ((μ_33 101 28) * (μ_33 146 x_28))) + x_34)) μ_33) fun x_35 μ_36 =>
        zlet (zw (x_32 + 1)) fun x_37 =>
        (f_X10_layLayer_L124 x_25 x_27 x_28 g190 n) x_37 μ_36
    else
      g190 μ_33
def f_X10_layLayer_L69 (x1 : Int) (g196 : zMem → Option zMem) : Nat → Int → zMem → Option zMem
  | 0, _, _ => none
  | n + 1, x_25, μ_26 =>
    chk ((0 : Int) ≤ x1 ∧ x1 < 3) <|
    if x_25 < (μ_26 103 x1) then
      chk ((0 : Int) ≤ (zw ((zw (48 * x1)) + x_25)) ∧ (zw ((zw (48 * x1)) + x_25)) < 144) <|
      zlet ((μ_26 105 (zw ((zw (48 * x1)) + x_25)))) fun x_27 =>
      chk ((0 : Int) ≤ (zw ((zw (48 * x1)) + x_25)) ∧ (zw ((zw (48 * x1)) + x_25)) < 144) <|
      zlet ((μ_26 106 (zw ((zw (48 * x1)) + x_25)))) fun x_28 =>
      chk ((μ_26 101 28) ≠ 0) <|
      chk ((0 : Int) ≤ x_25 ∧ x_25 < 48) <|
      zlet (zup μ_26 147 x_25 (zw (Int.tdiv (μ_26 103 2) (μ_26 101 28)))) fun μ_29 =>
      (f_X10_layLayer_L124 x_25 x_27 x_28 (f_X10_layLayer_K190 x_25 (f_X10_layLayer_L69 x1 g196 n))) zfu 0 μ_29
    else
      g196 μ_26
def f_X10_layLayer_K67 (x1 : Int) (μ_2 : zMem) : Option zMem :=
  (f_X10_layLayer_L69 x1 (f_X10_layLayer_K196 x1)) zfu 0 μ_2
def f_X10_layLayer_J59 (x_38 : Int) (μ_40 : zMem) (g8 : Int → zMem → Option zMem) (x_41 : Int) (μ_42 : zMem) : Option zMem :=
  zlet (zup μ_42 102 2 (zw ((μ_40 102 2) + x_41))) fun μ_43 =>
  zlet (zw (x_38 + 1)) fun x_44 =>
  g8 x_44 μ_43
def f_X10_layLayer_L8 (x1 : Int) (g67 : zMem → Option zMem) : Nat → Int → zMem → Option zMem
  | 0, _, _ => none
  | n + 1, x_38, μ_39 =>
    chk ((0 : Int) ≤ x1 ∧ x1 < 3) <|
    if x_38 < (μ_39 102 x1) then
      chk ((μ_39 101 28) ≠ 0) <|
      chk ((0 : Int) ≤ x_38 ∧ x_38 < 32) <|
      zlet (zup μ_39 146 x_38 (zw (Int.tdiv (μ_39 102 2) (μ_39 101 28)))) fun μ_40 =>
      chk ((0 : Int) ≤ x_38 ∧ x_38 < 32) <|
      (f_X10_layLayer_J59 x_38 μ_40 (f_X10_layLayer_L8 x1 g67 n)) (if (μ_40 120 x_38) = 0 then 0 else (μ_40 101 28)) μ_40
    else
      g67 μ_39
def f_X10_layLayer (x1 : Int) (μ : zMem) : Option zMem :=
  bnd (f_X10_clear 2 0 μ) fun μ_1 =>
  (f_X10_layLayer_L8 x1 (f_X10_layLayer_K67 x1)) zfu 0 μ_1
set_option maxHeartbeats 4000000 in
set_option maxRecDepth 100000 in
theorem M_X10_layLayer {l : Launch} {Ω : zO} (hI : zIm Ω) (μ : zMem) (x1 : Int) {μ' : zMem} (gx1 : Rg x1) (h : f_X10_layLayer x1 μ = some μ') : XMet l yX10_layLayer cX10_layLayer 6 none 2 Ω [zR Ω 101, zI x1] μ none True μ' := by
  refine XMet.ofV (by decide) (Nat.le_of_ble_eq_true rfl) ?_
  intro p e s m args below meth c ls Q C rt X hl
  have C : zC p s m args c cX10_layLayer RX10 6 Ω := C
  have hl : lv_has ls 6 [(0, zR Ω 101), (1, zI x1)] := hl
  unfold f_X10_layLayer at h
  skip
  refine lv_aload_n C.1 C.2.1 dX10_layLayer_0 rfl (lv_at hl 0 rfl) ?_
  refine z_iconst C dX10_layLayer_1 ?_
  refine z_iconst C dX10_layLayer_2 ?_
  obtain ⟨μ_1, hq3, h⟩ := bnd_some h
  refine z_callV0 C X zk10 (hI.1 101 (by decide)) rfl (As := [zI 2, zI 0]) (M_X10_clear hI μ 2 0 ⟨by decide, by decide⟩ ⟨by decide, by decide⟩ hq3) zc_X10_clear kw_1220 (zroom (by decide) (by decide)) rfl hl.1 rfl (Nat.le_of_ble_eq_true rfl) dX10_layLayer_3 ⟨Nat.zero_le _, Nat.zero_le _⟩ (fun H locs g_3 X => ?_)
  refine z_iconst C dX10_layLayer_6 ?_
  refine lv_istore_n C.1 C.2.1 (lv' := [(2, zI 0), (0, zR Ω 101), (1, zI x1)]) dX10_layLayer_7 rfl hl (by decide) rfl (fun ls hl => ?_)
  have K67 : ∀ (μ_2 : zMem) (H : Heap) (locs : List Loc) (ls : Array Slot), zX Ω μ_2 (zfree Ω) s.heap H locs → lv_has ls 6 [(0, zR Ω 101), (1, zI x1)] → (f_X10_layLayer_K67 x1) μ_2 = some μ' → W p l e (zrm 2) s m args below meth c H locs 0 0 Q (F0 m 67 ls []) := by
    intro μ_2 H locs ls  X hl h
    unfold f_X10_layLayer_K67 at h
    refine z_iconst C dX10_layLayer_67 ?_
    refine lv_istore_n C.1 C.2.1 (lv' := [(2, zI 0), (0, zR Ω 101), (1, zI x1)]) dX10_layLayer_68 rfl hl (by decide) rfl (fun ls hl => ?_)
    have K196 : ∀ (μ_3 : zMem) (H : Heap) (locs : List Loc) (ls : Array Slot), zX Ω μ_3 (zfree Ω) s.heap H locs → lv_has ls 6 [(0, zR Ω 101), (1, zI x1)] → (f_X10_layLayer_K196 x1) μ_3 = some μ' → W p l e (zrm 2) s m args below meth c H locs 0 0 Q (F0 m 196 ls []) := by
      intro μ_3 H locs ls  X hl h
      unfold f_X10_layLayer_K196 at h
      refine z_iconst C dX10_layLayer_196 ?_
      refine lv_istore_n C.1 C.2.1 (lv' := [(2, zI 0), (0, zR Ω 101), (1, zI x1)]) dX10_layLayer_197 rfl hl (by decide) rfl (fun ls hl => ?_)
      have L198 : ∀ (n198 : Nat) (x_4 : Int) (μ_5 : zMem) (H : Heap) (locs : List Loc) (ls : Array Slot), Rg x_4 → zX Ω μ_5 (zfree Ω) s.heap H locs → lv_has ls 6 [(0, zR Ω 101), (1, zI x1), (2, zI x_4)] → (f_X10_layLayer_L198 x1 n198 x_4 μ_5) = some μ' → W p l e (zrm 2) s m args below meth c H locs 0 0 Q (F0 m 198 ls []) := by
        intro n198
        induction n198 with
        | zero =>
          intro x_4 μ_5 H locs ls _ _ _ h
          cases h
        | succ n198 ih198 =>
          intro x_4 μ_5 H locs ls gx_4 X hl h
          unfold f_X10_layLayer_L198 at h
          refine lv_iload_n C.1 C.2.1 dX10_layLayer_198 rfl (lv_at hl 2 rfl) ?_
          refine lv_aload_n C.1 C.2.1 dX10_layLayer_199 rfl (lv_at hl 0 rfl) ?_
          refine z_get C X zk10 (hI.1 101 (by decide)) rfl 2 (by decide) kw_1034 (zR Ω 104) (zfvF (off := 3) X.2.2.2 (hI.1 101 (by decide)) hI.2 rfl rfl (by decide)) dX10_layLayer_200 ?_
          refine lv_iload_n C.1 C.2.1 dX10_layLayer_203 rfl (lv_at hl 1 rfl) ?_
          obtain ⟨hc204, h⟩ := chk_some h
          have g_204 : Rg (μ_5 104 x1) := zrg1 X.2.2.2 (hI.1 104 (by decide)) rfl
          refine z_iald C X (hI.1 104 (by decide)) rfl hc204 dX10_layLayer_204 ?_
          refine z_icmpge C gx_4 g_204 (tgt := 318) dX10_layLayer_205 (by decide) (fun hc205 => ?_) (fun hc205 => ?_)
          · rw [if_neg hc205] at h
            obtain rfl := Option.some.inj h
            exact rt X dX10_layLayer_318
          · rw [if_pos hc205] at h
            refine z_iconst C dX10_layLayer_208 ?_
            refine lv_istore_n C.1 C.2.1 (lv' := [(3, zI 0), (0, zR Ω 101), (1, zI x1), (2, zI x_4)]) dX10_layLayer_209 rfl hl (by decide) rfl (fun ls hl => ?_)
            have K312 : ∀ (μ_6 : zMem) (H : Heap) (locs : List Loc) (ls : Array Slot), zX Ω μ_6 (zfree Ω) s.heap H locs → lv_has ls 6 [(0, zR Ω 101), (1, zI x1), (2, zI x_4)] → (f_X10_layLayer_K312 x_4 (f_X10_layLayer_L198 x1 n198)) μ_6 = some μ' → W p l e (zrm 2) s m args below meth c H locs 0 0 Q (F0 m 312 ls []) := by
              intro μ_6 H locs ls  X hl h
              unfold f_X10_layLayer_K312 at h
              refine zlet_elim h (fun x_7 ex_7 h => ?_)
              have gx_7 : Rg x_7 := by rw [ex_7]; exact Rg.w _
              refine z_iinc C ex_7 dX10_layLayer_312 hl (k := 2) rfl (by decide) (lv' := [(2, zI x_7), (0, zR Ω 101), (1, zI x1)]) rfl (fun ls hl => ?_)
              clear ex_7
              refine lv_goto (tgt := 198) C.1 C.2.1 dX10_layLayer_315 (by decide) ?_
              exact ih198 x_7 μ_6 _ _ _ gx_7 X (lv_sub hl [1, 2, 0] rfl) h
            have L210 : ∀ (n210 : Nat) (x_8 : Int) (μ_9 : zMem) (H : Heap) (locs : List Loc) (ls : Array Slot), Rg x_8 → zX Ω μ_9 (zfree Ω) s.heap H locs → lv_has ls 6 [(0, zR Ω 101), (1, zI x1), (2, zI x_4), (3, zI x_8)] → (f_X10_layLayer_L210 x1 x_4 (f_X10_layLayer_K312 x_4 (f_X10_layLayer_L198 x1 n198)) n210 x_8 μ_9) = some μ' → W p l e (zrm 2) s m args below meth c H locs 0 0 Q (F0 m 210 ls []) := by
              intro n210
              induction n210 with
              | zero =>
                intro x_8 μ_9 H locs ls _ _ _ h
                cases h
              | succ n210 ih210 =>
                intro x_8 μ_9 H locs ls gx_8 X hl h
                unfold f_X10_layLayer_L210 at h
                refine lv_iload_n C.1 C.2.1 dX10_layLayer_210 rfl (lv_at hl 3 rfl) ?_
                refine lv_aload_n C.1 C.2.1 dX10_layLayer_211 rfl (lv_at hl 0 rfl) ?_
                have g_212 : Rg (μ_9 101 28) := zrgf0 (ci := 10) X.2.2.2 (hI.1 101 (by decide)) rfl 28 rfl
                refine z_get C X zk10 (hI.1 101 (by decide)) rfl 28 (by decide) kw_1060 (zI (μ_9 101 28)) rfl dX10_layLayer_212 ?_
                refine z_icmpge C gx_8 g_212 (tgt := 312) dX10_layLayer_215 (by decide) (fun hc215 => ?_) (fun hc215 => ?_)
                · rw [if_neg hc215] at h
                  exact K312 μ_9 _ _ _ X (lv_sub hl [0, 1, 2] rfl) h
                · rw [if_pos hc215] at h
                  refine lv_aload_n C.1 C.2.1 dX10_layLayer_218 rfl (lv_at hl 0 rfl) ?_
                  refine lv_iload_n C.1 C.2.1 dX10_layLayer_219 rfl (lv_at hl 1 rfl) ?_
                  refine lv_iload_n C.1 C.2.1 dX10_layLayer_220 rfl (lv_at hl 2 rfl) ?_
                  obtain ⟨x_10, hq221, h⟩ := bnd_some h
                  refine z_callV1 C X zk10 (hI.1 101 (by decide)) rfl (As := [zI x1, zI x_4]) (M_X10_isFaceInPart hI μ_9 x1 x_4 gx1 gx_4 hq221) zc_X10_isFaceInPart kw_1407 (zroom (by decide) (by decide)) rfl hl.1 rfl (Nat.le_of_ble_eq_true rfl) dX10_layLayer_221 ⟨Nat.zero_le _, Nat.zero_le _⟩ (fun H locs g_221 X => ?_)
                  refine z_ifeq C (rgz g_221) (tgt := 312) dX10_layLayer_224 (by decide) (fun hc224 => ?_) (fun hc224 => ?_)
                  · rw [if_pos hc224] at h
                    exact K312 μ_9 _ _ _ X (lv_sub hl [0, 1, 2] rfl) h
                  · rw [if_neg hc224] at h
                    refine lv_iload_n C.1 C.2.1 dX10_layLayer_227 rfl (lv_at hl 3 rfl) ?_
                    refine lv_istore C.1 C.2.1 (lv' := [(4, zI x_8), (0, zR Ω 101), (1, zI x1), (2, zI x_4), (3, zI x_8)]) dX10_layLayer_228 hl (by decide) rfl (fun ls hl => ?_)
                    refine lv_aload_n C.1 C.2.1 dX10_layLayer_230 rfl (lv_at hl 1 rfl) ?_
                    refine lv_aload_n C.1 C.2.1 dX10_layLayer_231 rfl (lv_at hl 1 rfl) ?_
                    refine z_get C X zk10 (hI.1 101 (by decide)) rfl 5 (by decide) kw_1037 (zR Ω 107) (zfvF (off := 6) X.2.2.2 (hI.1 101 (by decide)) hI.2 rfl rfl (by decide)) dX10_layLayer_232 ?_
                    refine z_bipush C dX10_layLayer_235 (by decide) ?_
                    refine lv_iload_n C.1 C.2.1 dX10_layLayer_237 rfl (lv_at hl 2 rfl) ?_
                    refine z_imul C dX10_layLayer_238 ?_
                    refine lv_iload_n C.1 C.2.1 dX10_layLayer_239 rfl (lv_at hl 3 rfl) ?_
                    refine z_iadd C dX10_layLayer_240 ?_
                    obtain ⟨hc241, h⟩ := chk_some h
                    have g_241 : Rg (μ_9 107 (zw ((zw (32 * x1)) + x_4))) := zrg1 X.2.2.2 (hI.1 107 (by decide)) rfl
                    refine z_iald C X (hI.1 107 (by decide)) rfl hc241 dX10_layLayer_241 ?_
                    refine zlet_elim h (fun μ_11 em h => ?_)
                    refine z_putI C X zk10 (hI.1 101 (by decide)) rfl 13 (by decide) kw_1045 rfl rfl rfl rfl g_241 em dX10_layLayer_242 (fun H locs X => ?_)
                    clear em
                    refine z_iconst C dX10_layLayer_245 ?_
                    refine lv_istore C.1 C.2.1 (lv' := [(5, zI 0), (4, zI x_8), (0, zR Ω 101), (1, zI x1), (2, zI x_4), (3, zI x_8)]) dX10_layLayer_246 hl (by decide) rfl (fun ls hl => ?_)
                    have K300 : ∀ (μ_12 : zMem) (H : Heap) (locs : List Loc) (ls : Array Slot), zX Ω μ_12 (zfree Ω) s.heap H locs → lv_has ls 6 [(0, zR Ω 101), (1, zI x1), (2, zI x_4), (3, zI x_8)] → (f_X10_layLayer_K300 x_8 (f_X10_layLayer_L210 x1 x_4 (f_X10_layLayer_K312 x_4 (f_X10_layLayer_L198 x1 n198)) n210)) μ_12 = some μ' → W p l e (zrm 2) s m args below meth c H locs 0 0 Q (F0 m 300 ls []) := by
                      intro μ_12 H locs ls  X hl h
                      unfold f_X10_layLayer_K300 at h
                      refine lv_aload_n C.1 C.2.1 dX10_layLayer_300 rfl (lv_at hl 0 rfl) ?_
                      refine z_iconst C dX10_layLayer_301 ?_
                      obtain ⟨x_13, μ_14, hq302, h⟩ := bnd2_some h
                      refine z_callV1 C X zk10 (hI.1 101 (by decide)) rfl (As := [zI 2]) (M_X10_addFace hI μ_12 2 ⟨by decide, by decide⟩ hq302) zc_X10_addFace kw_1273 (zroom (by decide) (by decide)) rfl hl.1 rfl (Nat.le_of_ble_eq_true rfl) dX10_layLayer_302 ⟨Nat.zero_le _, Nat.zero_le _⟩ (fun H locs g_302 X => ?_)
                      refine lv_pop C.1 C.2.1 dX10_layLayer_305 rfl ?_
                      refine zlet_elim h (fun x_15 ex_15 h => ?_)
                      have gx_15 : Rg x_15 := by rw [ex_15]; exact Rg.w _
                      refine z_iinc C ex_15 dX10_layLayer_306 hl (k := 3) rfl (by decide) (lv' := [(3, zI x_15), (0, zR Ω 101), (1, zI x1), (2, zI x_4)]) rfl (fun ls hl => ?_)
                      clear ex_15
                      refine lv_goto (tgt := 210) C.1 C.2.1 dX10_layLayer_309 (by decide) ?_
                      exact ih210 x_15 μ_14 _ _ _ gx_15 X (lv_sub hl [1, 2, 3, 0] rfl) h
                    have L248 : ∀ (n248 : Nat) (x_16 : Int) (x_17 : Int) (μ_18 : zMem) (H : Heap) (locs : List Loc) (ls : Array Slot), Rg x_16 → Rg x_17 → zX Ω μ_18 (zfree Ω) s.heap H locs → lv_has ls 6 [(0, zR Ω 101), (1, zI x1), (2, zI x_4), (3, zI x_8), (4, zI x_16), (5, zI x_17)] → (f_X10_layLayer_L248 x1 x_4 (f_X10_layLayer_K300 x_8 (f_X10_layLayer_L210 x1 x_4 (f_X10_layLayer_K312 x_4 (f_X10_layLayer_L198 x1 n198)) n210)) n248 x_16 x_17 μ_18) = some μ' → W p l e (zrm 2) s m args below meth c H locs 0 0 Q (F0 m 248 ls []) := by
                      intro n248
                      induction n248 with
                      | zero =>
                        intro x_16 x_17 μ_18 H locs ls _ _ _ _ h
                        cases h
                      | succ n248 ih248 =>
                        intro x_16 x_17 μ_18 H locs ls gx_16 gx_17 X hl h
                        unfold f_X10_layLayer_L248 at h
                        refine lv_iload C.1 C.2.1 dX10_layLayer_248 (lv_at hl 5 rfl) ?_
                        refine lv_aload_n C.1 C.2.1 dX10_layLayer_250 rfl (lv_at hl 0 rfl) ?_
                        have g_251 : Rg (μ_18 101 13) := zrgf0 (ci := 10) X.2.2.2 (hI.1 101 (by decide)) rfl 13 rfl
                        refine z_get C X zk10 (hI.1 101 (by decide)) rfl 13 (by decide) kw_1045 (zI (μ_18 101 13)) rfl dX10_layLayer_251 ?_
                        refine z_icmpge C gx_17 g_251 (tgt := 300) dX10_layLayer_254 (by decide) (fun hc254 => ?_) (fun hc254 => ?_)
                        · rw [if_neg hc254] at h
                          exact K300 μ_18 _ _ _ X (lv_sub hl [0, 1, 2, 3] rfl) h
                        · rw [if_pos hc254] at h
                          refine lv_aload_n C.1 C.2.1 dX10_layLayer_257 rfl (lv_at hl 0 rfl) ?_
                          refine z_get C X zk10 (hI.1 101 (by decide)) rfl 14 (by decide) kw_1046 (zR Ω 116) (zfvF (off := 15) X.2.2.2 (hI.1 101 (by decide)) hI.2 rfl rfl (by decide)) dX10_layLayer_258 ?_
                          refine lv_iload C.1 C.2.1 dX10_layLayer_261 (lv_at hl 5 rfl) ?_
                          refine lv_aload_n C.1 C.2.1 dX10_layLayer_263 rfl (lv_at hl 0 rfl) ?_
                          refine lv_aload_n C.1 C.2.1 dX10_layLayer_264 rfl (lv_at hl 0 rfl) ?_
                          refine lv_iload_n C.1 C.2.1 dX10_layLayer_265 rfl (lv_at hl 1 rfl) ?_
                          refine lv_iload_n C.1 C.2.1 dX10_layLayer_266 rfl (lv_at hl 2 rfl) ?_
                          refine lv_iload C.1 C.2.1 dX10_layLayer_267 (lv_at hl 5 rfl) ?_
                          obtain ⟨x_19, hq269, h⟩ := bnd_some h
                          refine z_callV1 C X zk10 (hI.1 101 (by decide)) rfl (As := [zI x1, zI x_4, zI x_17]) (M_X10_rimAt hI μ_18 x1 x_4 x_17 gx1 gx_4 gx_17 hq269) zc_X10_rimAt kw_1321 (zroom (by decide) (by decide)) rfl hl.1 rfl (Nat.le_of_ble_eq_true rfl) dX10_layLayer_269 ⟨Nat.zero_le _, Nat.zero_le _⟩ (fun H locs g_269 X => ?_)
                          refine lv_iload C.1 C.2.1 dX10_layLayer_272 (lv_at hl 4 rfl) ?_
                          obtain ⟨x_20, hq274, h⟩ := bnd_some h
                          refine z_callV1 C X zk10 (hI.1 101 (by decide)) rfl (As := [zI x_19, zI x_16]) (M_X10_lifted hI μ_18 x_19 x_16 g_269 gx_16 hq274) zc_X10_lifted kw_1439 (zroom (by decide) (by decide)) rfl hl.1 rfl (Nat.le_of_ble_eq_true rfl) dX10_layLayer_274 ⟨Nat.zero_le _, Nat.zero_le _⟩ (fun H locs g_274 X => ?_)
                          obtain ⟨hc277, h⟩ := chk_some h
                          refine zlet_elim h (fun μ_21 em h => ?_)
                          refine z_iast C X (hI.1 116 (by decide)) rfl hc277 (zok1 rfl g_274) em dX10_layLayer_277 (fun H locs X => ?_)
                          clear em
                          refine lv_aload_n C.1 C.2.1 dX10_layLayer_278 rfl (lv_at hl 0 rfl) ?_
                          refine lv_aload_n C.1 C.2.1 dX10_layLayer_279 rfl (lv_at hl 0 rfl) ?_
                          refine lv_iload_n C.1 C.2.1 dX10_layLayer_280 rfl (lv_at hl 1 rfl) ?_
                          refine lv_iload_n C.1 C.2.1 dX10_layLayer_281 rfl (lv_at hl 2 rfl) ?_
                          refine lv_iload C.1 C.2.1 dX10_layLayer_282 (lv_at hl 5 rfl) ?_
                          obtain ⟨x_22, hq284, h⟩ := bnd_some h
                          refine z_callV1 C X zk10 (hI.1 101 (by decide)) rfl (As := [zI x1, zI x_4, zI x_17]) (M_X10_rimAt hI μ_21 x1 x_4 x_17 gx1 gx_4 gx_17 hq284) zc_X10_rimAt kw_1321 (zroom (by decide) (by decide)) rfl hl.1 rfl (Nat.le_of_ble_eq_true rfl) dX10_layLayer_284 ⟨Nat.zero_le _, Nat.zero_le _⟩ (fun H locs g_284 X => ?_)
                          refine lv_iload C.1 C.2.1 dX10_layLayer_287 (lv_at hl 4 rfl) ?_
                          obtain ⟨x_23, hq289, h⟩ := bnd_some h
                          refine z_callV1 C X zk10 (hI.1 101 (by decide)) rfl (As := [zI x_22, zI x_16]) (M_X10_stepMoves hI μ_21 x_22 x_16 g_284 gx_16 hq289) zc_X10_stepMoves kw_1411 (zroom (by decide) (by decide)) rfl hl.1 rfl (Nat.le_of_ble_eq_true rfl) dX10_layLayer_289 ⟨Nat.zero_le _, Nat.zero_le _⟩ (fun H locs g_289 X => ?_)
                          refine lv_istore C.1 C.2.1 (lv' := [(4, zI x_23), (0, zR Ω 101), (1, zI x1), (2, zI x_4), (3, zI x_8), (5, zI x_17)]) dX10_layLayer_292 hl (by decide) rfl (fun ls hl => ?_)
                          refine zlet_elim h (fun x_24 ex_24 h => ?_)
                          have gx_24 : Rg x_24 := by rw [ex_24]; exact Rg.w _
                          refine z_iinc C ex_24 dX10_layLayer_294 hl (k := 5) rfl (by decide) (lv' := [(5, zI x_24), (4, zI x_23), (0, zR Ω 101), (1, zI x1), (2, zI x_4), (3, zI x_8)]) rfl (fun ls hl => ?_)
                          clear ex_24
                          refine lv_goto (tgt := 248) C.1 C.2.1 dX10_layLayer_297 (by decide) ?_
                          exact ih248 x_23 x_24 μ_21 _ _ _ g_289 gx_24 X (lv_sub hl [2, 3, 4, 5, 1, 0] rfl) h
                    exact L248 zfu x_8 0 μ_11 _ _ _ gx_8 ⟨by decide, by decide⟩ X (lv_sub hl [2, 3, 4, 5, 1, 0] rfl) h
            exact L210 zfu 0 μ_5 _ _ _ ⟨by decide, by decide⟩ X (lv_sub hl [1, 2, 3, 0] rfl) h
      exact L198 zfu 0 μ_3 _ _ _ ⟨by decide, by decide⟩ X (lv_sub hl [1, 2, 0] rfl) h
    have L69 : ∀ (n69 : Nat) (x_25 : Int) (μ_26 : zMem) (H : Heap) (locs : List Loc) (ls : Array Slot), Rg x_25 → zX Ω μ_26 (zfree Ω) s.heap H locs → lv_has ls 6 [(0, zR Ω 101), (1, zI x1), (2, zI x_25)] → (f_X10_layLayer_L69 x1 (f_X10_layLayer_K196 x1) n69 x_25 μ_26) = some μ' → W p l e (zrm 2) s m args below meth c H locs 0 0 Q (F0 m 69 ls []) := by
      intro n69
      induction n69 with
      | zero =>
        intro x_25 μ_26 H locs ls _ _ _ h
        cases h
      | succ n69 ih69 =>
        intro x_25 μ_26 H locs ls gx_25 X hl h
        unfold f_X10_layLayer_L69 at h
        refine lv_iload_n C.1 C.2.1 dX10_layLayer_69 rfl (lv_at hl 2 rfl) ?_
        refine lv_aload_n C.1 C.2.1 dX10_layLayer_70 rfl (lv_at hl 0 rfl) ?_
        refine z_get C X zk10 (hI.1 101 (by decide)) rfl 1 (by decide) kw_1033 (zR Ω 103) (zfvF (off := 2) X.2.2.2 (hI.1 101 (by decide)) hI.2 rfl rfl (by decide)) dX10_layLayer_71 ?_
        refine lv_iload_n C.1 C.2.1 dX10_layLayer_74 rfl (lv_at hl 1 rfl) ?_
        obtain ⟨hc75, h⟩ := chk_some h
        have g_75 : Rg (μ_26 103 x1) := zrg1 X.2.2.2 (hI.1 103 (by decide)) rfl
        refine z_iald C X (hI.1 103 (by decide)) rfl hc75 dX10_layLayer_75 ?_
        refine z_icmpge C gx_25 g_75 (tgt := 196) dX10_layLayer_76 (by decide) (fun hc76 => ?_) (fun hc76 => ?_)
        · rw [if_neg hc76] at h
          exact K196 μ_26 _ _ _ X (lv_sub hl [0, 1] rfl) h
        · rw [if_pos hc76] at h
          refine lv_aload_n C.1 C.2.1 dX10_layLayer_79 rfl (lv_at hl 0 rfl) ?_
          refine z_get C X zk10 (hI.1 101 (by decide)) rfl 3 (by decide) kw_1035 (zR Ω 105) (zfvF (off := 4) X.2.2.2 (hI.1 101 (by decide)) hI.2 rfl rfl (by decide)) dX10_layLayer_80 ?_
          refine z_bipush C dX10_layLayer_83 (by decide) ?_
          refine lv_iload_n C.1 C.2.1 dX10_layLayer_85 rfl (lv_at hl 1 rfl) ?_
          refine z_imul C dX10_layLayer_86 ?_
          refine lv_iload_n C.1 C.2.1 dX10_layLayer_87 rfl (lv_at hl 2 rfl) ?_
          refine z_iadd C dX10_layLayer_88 ?_
          obtain ⟨hc89, h⟩ := chk_some h
          have g_89 : Rg (μ_26 105 (zw ((zw (48 * x1)) + x_25))) := zrg1 X.2.2.2 (hI.1 105 (by decide)) rfl
          refine z_iald C X (hI.1 105 (by decide)) rfl hc89 dX10_layLayer_89 ?_
          refine zlet_elim h (fun x_27 ex_27 h => ?_)
          have gx_27 : Rg x_27 := by rw [ex_27]; exact g_89
          refine z_istore_n C ex_27 dX10_layLayer_90 rfl hl (by decide) (lv' := [(3, zI x_27), (0, zR Ω 101), (1, zI x1), (2, zI x_25)]) rfl (fun ls hl => ?_)
          clear ex_27
          refine lv_aload_n C.1 C.2.1 dX10_layLayer_91 rfl (lv_at hl 1 rfl) ?_
          refine z_get C X zk10 (hI.1 101 (by decide)) rfl 4 (by decide) kw_1036 (zR Ω 106) (zfvF (off := 5) X.2.2.2 (hI.1 101 (by decide)) hI.2 rfl rfl (by decide)) dX10_layLayer_92 ?_
          refine z_bipush C dX10_layLayer_95 (by decide) ?_
          refine lv_iload_n C.1 C.2.1 dX10_layLayer_97 rfl (lv_at hl 2 rfl) ?_
          refine z_imul C dX10_layLayer_98 ?_
          refine lv_iload_n C.1 C.2.1 dX10_layLayer_99 rfl (lv_at hl 3 rfl) ?_
          refine z_iadd C dX10_layLayer_100 ?_
          obtain ⟨hc101, h⟩ := chk_some h
          have g_101 : Rg (μ_26 106 (zw ((zw (48 * x1)) + x_25))) := zrg1 X.2.2.2 (hI.1 106 (by decide)) rfl
          refine z_iald C X (hI.1 106 (by decide)) rfl hc101 dX10_layLayer_101 ?_
          refine zlet_elim h (fun x_28 ex_28 h => ?_)
          have gx_28 : Rg x_28 := by rw [ex_28]; exact g_101
          refine z_istore C ex_28 dX10_layLayer_102 hl (by decide) (lv' := [(4, zI x_28), (3, zI x_27), (0, zR Ω 101), (1, zI x1), (2, zI x_25)]) rfl (fun ls hl => ?_)
          clear ex_28
          refine lv_aload_n C.1 C.2.1 dX10_layLayer_104 rfl (lv_at hl 2 rfl) ?_
          refine z_get C X zk10 (hI.1 101 (by decide)) rfl 45 (by decide) kw_1077 (zR Ω 147) (zfvF (off := 46) X.2.2.2 (hI.1 101 (by decide)) hI.2 rfl rfl (by decide)) dX10_layLayer_105 ?_
          refine lv_iload_n C.1 C.2.1 dX10_layLayer_108 rfl (lv_at hl 4 rfl) ?_
          refine lv_aload_n C.1 C.2.1 dX10_layLayer_109 rfl (lv_at hl 2 rfl) ?_
          refine z_get C X zk10 (hI.1 101 (by decide)) rfl 1 (by decide) kw_1033 (zR Ω 103) (zfvF (off := 2) X.2.2.2 (hI.1 101 (by decide)) hI.2 rfl rfl (by decide)) dX10_layLayer_110 ?_
          refine z_iconst C dX10_layLayer_113 ?_
          have g_114 : Rg (μ_26 103 2) := zrg1 X.2.2.2 (hI.1 103 (by decide)) rfl
          refine z_iald C X (hI.1 103 (by decide)) rfl (by decide) dX10_layLayer_114 ?_
          refine lv_aload_n C.1 C.2.1 dX10_layLayer_115 rfl (lv_at hl 2 rfl) ?_
          have g_116 : Rg (μ_26 101 28) := zrgf0 (ci := 10) X.2.2.2 (hI.1 101 (by decide)) rfl 28 rfl
          refine z_get C X zk10 (hI.1 101 (by decide)) rfl 28 (by decide) kw_1060 (zI (μ_26 101 28)) rfl dX10_layLayer_116 ?_
          obtain ⟨hc119, h⟩ := chk_some h
          refine z_idiv C g_114 g_116 hc119 dX10_layLayer_119 ?_
          obtain ⟨hc120, h⟩ := chk_some h
          refine zlet_elim h (fun μ_29 em h => ?_)
          refine z_iast C X (hI.1 147 (by decide)) rfl hc120 (zok1 rfl (Rg.w _)) em dX10_layLayer_120 (fun H locs X => ?_)
          clear em
          refine z_iconst C dX10_layLayer_121 ?_
          refine lv_istore C.1 C.2.1 (lv' := [(5, zI 0), (4, zI x_28), (3, zI x_27), (0, zR Ω 101), (1, zI x1), (2, zI x_25)]) dX10_layLayer_122 hl (by decide) rfl (fun ls hl => ?_)
          have K190 : ∀ (μ_30 : zMem) (H : Heap) (locs : List Loc) (ls : Array Slot), zX Ω μ_30 (zfree Ω) s.heap H locs → lv_has ls 6 [(0, zR Ω 101), (1, zI x1), (2, zI x_25)] → (f_X10_layLayer_K190 x_25 (f_X10_layLayer_L69 x1 (f_X10_layLayer_K196 x1) n69)) μ_30 = some μ' → W p l e (zrm 2) s m args below meth c H locs 0 0 Q (F0 m 190 ls []) := by
            intro μ_30 H locs ls  X hl h
            unfold f_X10_layLayer_K190 at h
            refine zlet_elim h (fun x_31 ex_31 h => ?_)
            have gx_31 : Rg x_31 := by rw [ex_31]; exact Rg.w _
            refine z_iinc C ex_31 dX10_layLayer_190 hl (k := 2) rfl (by decide) (lv' := [(2, zI x_31), (0, zR Ω 101), (1, zI x1)]) rfl (fun ls hl => ?_)
            clear ex_31
            refine lv_goto (tgt := 69) C.1 C.2.1 dX10_layLayer_193 (by decide) ?_
            exact ih69 x_31 μ_30 _ _ _ gx_31 X (lv_sub hl [1, 2, 0] rfl) h
          have L124 : ∀ (n124 : Nat) (x_32 : Int) (μ_33 : zMem) (H : Heap) (locs : List Loc) (ls : Array Slot), Rg x_32 → zX Ω μ_33 (zfree Ω) s.heap H locs → lv_has ls 6 [(0, zR Ω 101), (1, zI x1), (2, zI x_25), (3, zI x_27), (4, zI x_28), (5, zI x_32)] → (f_X10_layLayer_L124 x_25 x_27 x_28 (f_X10_layLayer_K190 x_25 (f_X10_layLayer_L69 x1 (f_X10_layLayer_K196 x1) n69)) n124 x_32 μ_33) = some μ' → W p l e (zrm 2) s m args below meth c H locs 0 0 Q (F0 m 124 ls []) := by
            intro n124
            induction n124 with
            | zero =>
              intro x_32 μ_33 H locs ls _ _ _ h
              cases h
            | succ n124 ih124 =>
              intro x_32 μ_33 H locs ls gx_32 X hl h
              unfold f_X10_layLayer_L124 at h
              refine lv_iload C.1 C.2.1 dX10_layLayer_124 (lv_at hl 5 rfl) ?_
              refine lv_aload_n C.1 C.2.1 dX10_layLayer_126 rfl (lv_at hl 0 rfl) ?_
              have g_127 : Rg (μ_33 101 28) := zrgf0 (ci := 10) X.2.2.2 (hI.1 101 (by decide)) rfl 28 rfl
              refine z_get C X zk10 (hI.1 101 (by decide)) rfl 28 (by decide) kw_1060 (zI (μ_33 101 28)) rfl dX10_layLayer_127 ?_
              refine z_icmpge C gx_32 g_127 (tgt := 190) dX10_layLayer_130 (by decide) (fun hc130 => ?_) (fun hc130 => ?_)
              · rw [if_neg hc130] at h
                exact K190 μ_33 _ _ _ X (lv_sub hl [0, 1, 2] rfl) h
              · rw [if_pos hc130] at h
                refine lv_aload_n C.1 C.2.1 dX10_layLayer_133 rfl (lv_at hl 0 rfl) ?_
                refine z_get C X zk10 (hI.1 101 (by decide)) rfl 18 (by decide) kw_1050 (zR Ω 120) (zfvF (off := 19) X.2.2.2 (hI.1 101 (by decide)) hI.2 rfl rfl (by decide)) dX10_layLayer_134 ?_
                refine lv_iload_n C.1 C.2.1 dX10_layLayer_137 rfl (lv_at hl 3 rfl) ?_
                obtain ⟨hc138, h⟩ := chk_some h
                have g_138 : 0 ≤ (μ_33 120 x_27) ∧ (μ_33 120 x_27) ≤ 1 := zrg3 X.2.2.2 (hI.1 120 (by decide)) rfl
                refine z_zald C X (hI.1 120 (by decide)) rfl hc138 dX10_layLayer_138 ?_
                refine z_ifeq C (rgz g_138) (tgt := 190) dX10_layLayer_139 (by decide) (fun hc139 => ?_) (fun hc139 => ?_)
                · rw [if_pos hc139] at h
                  exact K190 μ_33 _ _ _ X (lv_sub hl [0, 1, 2] rfl) h
                · rw [if_neg hc139] at h
                  refine lv_aload_n C.1 C.2.1 dX10_layLayer_142 rfl (lv_at hl 0 rfl) ?_
                  refine z_iconst C dX10_layLayer_143 ?_
                  refine lv_aload_n C.1 C.2.1 dX10_layLayer_144 rfl (lv_at hl 0 rfl) ?_
                  have g_145 : Rg (μ_33 101 28) := zrgf0 (ci := 10) X.2.2.2 (hI.1 101 (by decide)) rfl 28 rfl
                  refine z_get C X zk10 (hI.1 101 (by decide)) rfl 28 (by decide) kw_1060 (zI (μ_33 101 28)) rfl dX10_layLayer_145 ?_
                  refine lv_aload_n C.1 C.2.1 dX10_layLayer_148 rfl (lv_at hl 0 rfl) ?_
                  refine z_get C X zk10 (hI.1 101 (by decide)) rfl 44 (by decide) kw_1076 (zR Ω 146) (zfvF (off := 45) X.2.2.2 (hI.1 101 (by decide)) hI.2 rfl rfl (by decide)) dX10_layLayer_149 ?_
                  refine lv_iload_n C.1 C.2.1 dX10_layLayer_152 rfl (lv_at hl 3 rfl) ?_
                  obtain ⟨hc153, h⟩ := chk_some h
                  have g_153 : Rg (μ_33 146 x_27) := zrg1 X.2.2.2 (hI.1 146 (by decide)) rfl
                  refine z_iald C X (hI.1 146 (by decide)) rfl hc153 dX10_layLayer_153 ?_
                  refine z_imul C dX10_layLayer_154 ?_
                  refine lv_iload C.1 C.2.1 dX10_layLayer_155 (lv_at hl 5 rfl) ?_
                  refine z_iadd C dX10_layLayer_157 ?_
                  refine lv_aload_n C.1 C.2.1 dX10_layLayer_158 rfl (lv_at hl 0 rfl) ?_
                  have g_159 : Rg (μ_33 101 28) := zrgf0 (ci := 10) X.2.2.2 (hI.1 101 (by decide)) rfl 28 rfl
                  refine z_get C X zk10 (hI.1 101 (by decide)) rfl 28 (by decide) kw_1060 (zI (μ_33 101 28)) rfl dX10_layLayer_159 ?_
                  refine lv_aload_n C.1 C.2.1 dX10_layLayer_162 rfl (lv_at hl 0 rfl) ?_
                  refine z_get C X zk10 (hI.1 101 (by decide)) rfl 44 (by decide) kw_1076 (zR Ω 146) (zfvF (off := 45) X.2.2.2 (hI.1 101 (by decide)) hI.2 rfl rfl (by decide)) dX10_layLayer_163 ?_
                  refine lv_iload C.1 C.2.1 dX10_layLayer_166 (lv_at hl 4 rfl) ?_
                  obtain ⟨hc168, h⟩ := chk_some h
                  have g_168 : Rg (μ_33 146 x_28) := zrg1 X.2.2.2 (hI.1 146 (by decide)) rfl
                  refine z_iald C X (hI.1 146 (by decide)) rfl hc168 dX10_layLayer_168 ?_
                  refine z_imul C dX10_layLayer_169 ?_
                  refine lv_aload_n C.1 C.2.1 dX10_layLayer_170 rfl (lv_at hl 0 rfl) ?_
                  refine lv_iload_n C.1 C.2.1 dX10_layLayer_171 rfl (lv_at hl 2 rfl) ?_
                  refine z_iconst C dX10_layLayer_172 ?_
                  refine z_iadd C dX10_layLayer_173 ?_
                  refine lv_iload C.1 C.2.1 dX10_layLayer_174 (lv_at hl 5 rfl) ?_
                  obtain ⟨x_34, hq176, h⟩ := bnd_some h
                  refine z_callV1 C X zk10 (hI.1 101 (by decide)) rfl (As := [zI (zw (x_25 + 1)), zI x_32]) (M_X10_stepMoves hI μ_33 (zw (x_25 + 1)) x_32 (Rg.w _) gx_32 hq176) zc_X10_stepMoves kw_1411 (zroom (by decide) (by decide)) rfl hl.1 rfl (Nat.le_of_ble_eq_true rfl) dX10_layLayer_176 ⟨Nat.zero_le _, Nat.zero_le _⟩ (fun H locs g_176 X => ?_)
                  refine z_iadd C dX10_layLayer_179 ?_
                  obtain ⟨x_35, μ_36, hq180, h⟩ := bnd2_some h
                  refine z_callV1 C X zk10 (hI.1 101 (by decide)) rfl (As := [zI 2, zI (zw ((zw ((μ_33 101 28) * (μ_33 146 x_27))) + x_32)), zI (zw ((zw ((μ_33 101 28) * (μ_33 146 x_28))) + x_34))]) (M_X10_addEdge hI μ_33 2 (zw ((zw ((μ_33 101 28) * (μ_33 146 x_27))) + x_32)) (zw ((zw ((μ_33 101 28) * (μ_33 146 x_28))) + x_34)) ⟨by decide, by decide⟩ (Rg.w _) (Rg.w _) hq180) zc_X10_addEdge kw_1232 (zroom (by decide) (by decide)) rfl hl.1 rfl (Nat.le_of_ble_eq_true rfl) dX10_layLayer_180 ⟨Nat.zero_le _, Nat.zero_le _⟩ (fun H locs g_180 X => ?_)
                  refine lv_pop C.1 C.2.1 dX10_layLayer_183 rfl ?_
                  refine zlet_elim h (fun x_37 ex_37 h => ?_)
                  have gx_37 : Rg x_37 := by rw [ex_37]; exact Rg.w _
                  refine z_iinc C ex_37 dX10_layLayer_184 hl (k := 5) rfl (by decide) (lv' := [(5, zI x_37), (0, zR Ω 101), (1, zI x1), (2, zI x_25), (3, zI x_27), (4, zI x_28)]) rfl (fun ls hl => ?_)
                  clear ex_37
                  refine lv_goto (tgt := 124) C.1 C.2.1 dX10_layLayer_187 (by decide) ?_
                  exact ih124 x_37 μ_36 _ _ _ gx_37 X (lv_sub hl [1, 2, 3, 4, 5, 0] rfl) h
          exact L124 zfu 0 μ_29 _ _ _ ⟨by decide, by decide⟩ X (lv_sub hl [3, 4, 5, 2, 1, 0] rfl) h
    exact L69 zfu 0 μ_2 _ _ _ ⟨by decide, by decide⟩ X (lv_sub hl [1, 2, 0] rfl) h
  have L8 : ∀ (n8 : Nat) (x_38 : Int) (μ_39 : zMem) (H : Heap) (locs : List Loc) (ls : Array Slot), Rg x_38 → zX Ω μ_39 (zfree Ω) s.heap H locs → lv_has ls 6 [(0, zR Ω 101), (1, zI x1), (2, zI x_38)] → (f_X10_layLayer_L8 x1 (f_X10_layLayer_K67 x1) n8 x_38 μ_39) = some μ' → W p l e (zrm 2) s m args below meth c H locs 0 0 Q (F0 m 8 ls []) := by
    intro n8
    induction n8 with
    | zero =>
      intro x_38 μ_39 H locs ls _ _ _ h
      cases h
    | succ n8 ih8 =>
      intro x_38 μ_39 H locs ls gx_38 X hl h
      unfold f_X10_layLayer_L8 at h
      refine lv_iload_n C.1 C.2.1 dX10_layLayer_8 rfl (lv_at hl 2 rfl) ?_
      refine lv_aload_n C.1 C.2.1 dX10_layLayer_9 rfl (lv_at hl 0 rfl) ?_
      refine z_get C X zk10 (hI.1 101 (by decide)) rfl 0 (by decide) kw_1032 (zR Ω 102) (zfvF (off := 1) X.2.2.2 (hI.1 101 (by decide)) hI.2 rfl rfl (by decide)) dX10_layLayer_10 ?_
      refine lv_iload_n C.1 C.2.1 dX10_layLayer_13 rfl (lv_at hl 1 rfl) ?_
      obtain ⟨hc14, h⟩ := chk_some h
      have g_14 : Rg (μ_39 102 x1) := zrg1 X.2.2.2 (hI.1 102 (by decide)) rfl
      refine z_iald C X (hI.1 102 (by decide)) rfl hc14 dX10_layLayer_14 ?_
      refine z_icmpge C gx_38 g_14 (tgt := 67) dX10_layLayer_15 (by decide) (fun hc15 => ?_) (fun hc15 => ?_)
      · rw [if_neg hc15] at h
        exact K67 μ_39 _ _ _ X (lv_sub hl [0, 1] rfl) h
      · rw [if_pos hc15] at h
        refine lv_aload_n C.1 C.2.1 dX10_layLayer_18 rfl (lv_at hl 0 rfl) ?_
        refine z_get C X zk10 (hI.1 101 (by decide)) rfl 44 (by decide) kw_1076 (zR Ω 146) (zfvF (off := 45) X.2.2.2 (hI.1 101 (by decide)) hI.2 rfl rfl (by decide)) dX10_layLayer_19 ?_
        refine lv_iload_n C.1 C.2.1 dX10_layLayer_22 rfl (lv_at hl 2 rfl) ?_
        refine lv_aload_n C.1 C.2.1 dX10_layLayer_23 rfl (lv_at hl 0 rfl) ?_
        refine z_get C X zk10 (hI.1 101 (by decide)) rfl 0 (by decide) kw_1032 (zR Ω 102) (zfvF (off := 1) X.2.2.2 (hI.1 101 (by decide)) hI.2 rfl rfl (by decide)) dX10_layLayer_24 ?_
        refine z_iconst C dX10_layLayer_27 ?_
        have g_28 : Rg (μ_39 102 2) := zrg1 X.2.2.2 (hI.1 102 (by decide)) rfl
        refine z_iald C X (hI.1 102 (by decide)) rfl (by decide) dX10_layLayer_28 ?_
        refine lv_aload_n C.1 C.2.1 dX10_layLayer_29 rfl (lv_at hl 0 rfl) ?_
        have g_30 : Rg (μ_39 101 28) := zrgf0 (ci := 10) X.2.2.2 (hI.1 101 (by decide)) rfl 28 rfl
        refine z_get C X zk10 (hI.1 101 (by decide)) rfl 28 (by decide) kw_1060 (zI (μ_39 101 28)) rfl dX10_layLayer_30 ?_
        obtain ⟨hc33, h⟩ := chk_some h
        refine z_idiv C g_28 g_30 hc33 dX10_layLayer_33 ?_
        obtain ⟨hc34, h⟩ := chk_some h
        refine zlet_elim h (fun μ_40 em h => ?_)
        refine z_iast C X (hI.1 146 (by decide)) rfl hc34 (zok1 rfl (Rg.w _)) em dX10_layLayer_34 (fun H locs X => ?_)
        clear em
        refine lv_aload_n C.1 C.2.1 dX10_layLayer_35 rfl (lv_at hl 0 rfl) ?_
        refine z_get C X zk10 (hI.1 101 (by decide)) rfl 0 (by decide) kw_1032 (zR Ω 102) (zfvF (off := 1) X.2.2.2 (hI.1 101 (by decide)) hI.2 rfl rfl (by decide)) dX10_layLayer_36 ?_
        refine z_iconst C dX10_layLayer_39 ?_
        refine lv_dup2_11 C.1 C.2.1 dX10_layLayer_40 rfl rfl ?_
        have g_41 : Rg (μ_40 102 2) := zrg1 X.2.2.2 (hI.1 102 (by decide)) rfl
        refine z_iald C X (hI.1 102 (by decide)) rfl (by decide) dX10_layLayer_41 ?_
        refine lv_aload_n C.1 C.2.1 dX10_layLayer_42 rfl (lv_at hl 0 rfl) ?_
        refine z_get C X zk10 (hI.1 101 (by decide)) rfl 18 (by decide) kw_1050 (zR Ω 120) (zfvF (off := 19) X.2.2.2 (hI.1 101 (by decide)) hI.2 rfl rfl (by decide)) dX10_layLayer_43 ?_
        refine lv_iload_n C.1 C.2.1 dX10_layLayer_46 rfl (lv_at hl 2 rfl) ?_
        obtain ⟨hc47, h⟩ := chk_some h
        have g_47 : 0 ≤ (μ_40 120 x_38) ∧ (μ_40 120 x_38) ≤ 1 := zrg3 X.2.2.2 (hI.1 120 (by decide)) rfl
        refine z_zald C X (hI.1 120 (by decide)) rfl hc47 dX10_layLayer_47 ?_
        have K59 : ∀ (x_41 : Int) (μ_42 : zMem) (H : Heap) (locs : List Loc) (ls : Array Slot), Rg x_41 → zX Ω μ_42 (zfree Ω) s.heap H locs → lv_has ls 6 [(0, zR Ω 101), (1, zI x1), (2, zI x_38)] → (f_X10_layLayer_J59 x_38 μ_40 (f_X10_layLayer_L8 x1 (f_X10_layLayer_K67 x1) n8)) x_41 μ_42 = some μ' → W p l e (zrm 2) s m args below meth c H locs 0 0 Q (F0 m 59 ls [zI x_41, zI (μ_40 102 2), zI 2, zR Ω 102]) := by
          intro x_41 μ_42 H locs ls gx_41 X hl h
          unfold f_X10_layLayer_J59 at h
          refine z_iadd C dX10_layLayer_59 ?_
          refine zlet_elim h (fun μ_43 em h => ?_)
          refine z_iast C X (hI.1 102 (by decide)) rfl (by decide) (zok1 rfl (Rg.w _)) em dX10_layLayer_60 (fun H locs X => ?_)
          clear em
          refine zlet_elim h (fun x_44 ex_44 h => ?_)
          have gx_44 : Rg x_44 := by rw [ex_44]; exact Rg.w _
          refine z_iinc C ex_44 dX10_layLayer_61 hl (k := 2) rfl (by decide) (lv' := [(2, zI x_44), (0, zR Ω 101), (1, zI x1)]) rfl (fun ls hl => ?_)
          clear ex_44
          refine lv_goto (tgt := 8) C.1 C.2.1 dX10_layLayer_64 (by decide) ?_
          exact ih8 x_44 μ_43 _ _ _ gx_44 X (lv_sub hl [1, 2, 0] rfl) h
        refine z_ifeq C (rgz g_47) (tgt := 58) dX10_layLayer_48 (by decide) (fun hc48 => ?_) (fun hc48 => ?_)
        · rw [if_pos hc48] at h
          refine z_iconst C dX10_layLayer_58 ?_
          exact K59 0 μ_40 _ _ _ ⟨by decide, by decide⟩ X (lv_sub hl [0, 1, 2] rfl) h
        · rw [if_neg hc48] at h
          refine lv_aload_n C.1 C.2.1 dX10_layLayer_51 rfl (lv_at hl 0 rfl) ?_
          have g_52 : Rg (μ_40 101 28) := zrgf0 (ci := 10) X.2.2.2 (hI.1 101 (by decide)) rfl 28 rfl
          refine z_get C X zk10 (hI.1 101 (by decide)) rfl 28 (by decide) kw_1060 (zI (μ_40 101 28)) rfl dX10_layLayer_52 ?_
          refine lv_goto (tgt := 59) C.1 C.2.1 dX10_layLayer_55 (by decide) ?_
          exact K59 (μ_40 101 28) μ_40 _ _ _ g_52 X (lv_sub hl [0, 1, 2] rfl) h
  exact L8 zfu 0 μ_1 _ _ _ ⟨by decide, by decide⟩ X (lv_sub hl [1, 2, 0] rfl) h
theorem zc_X10_layLayer : zcal yX10_layLayer cX10_layLayer 6 none RX10 1 := ⟨⟨kw_1438, kw_1437, kp_90, kw_12⟩, rfl, by decide, by decide, by decide +kernel⟩

