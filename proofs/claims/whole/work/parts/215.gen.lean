def f_X9_walk_K149 (x1 : Int) (x2 : Int) (μ_4 : zMem) : Option (Int × zMem) :=
  bnd2 (f_X9_keepReduced x1 x2 μ_4) fun x_5 μ_6 =>
  some (x_5, μ_6)
def f_X9_walk_L84 (x2 : Int) (x5 : Int) (x6 : Int) (x_2 : Int) (g149 : zMem → Option (Int × zMem)) : Nat → Int → zMem → Option (Int × zMem)
  | 0, _, _ => none
  | n + 1, x_7, μ_8 =>
    if x_7 < x6 then
      chk ((0 : Int) ≤ (zw (x5 + x_7)) ∧ (zw (x5 + x_7)) < zlen (x_2 + 1)) <|
      chk ((0 : Int) ≤ x2 ∧ x2 < 2) <|
      chk ((μ_8 2 x2) ≠ 0) <|
      zlet (μ_8 2 x2) fun x_9 =>
      zlet ((f_X9_stepOfItem (μ_8 (x_2 + 1) (zw (x5 + x_7))) (μ_8 x_9 7))) fun x_10 =>
      if x_10 = (-1) then
        some ((-2), μ_8)
      else
        chk ((0 : Int) ≤ x2 ∧ x2 < 2) <|
        chk ((μ_8 2 x2) ≠ 0) <|
        zlet (μ_8 2 x2) fun x_11 =>
        bnd2 (f_X8_goOn 21 x_11 x_10 μ_8) fun x_12 μ_13 =>
        if x_12 = 0 then
          some ((-2), μ_13)
        else
          zlet (zw (x_7 + 1)) fun x_14 =>
          (f_X9_walk_L84 x2 x5 x6 x_2 g149 n) x_14 μ_13
    else
      g149 μ_8
def f_X9_walk (x1 : Int) (x2 : Int) (x3 : Int) (x4 : Int) (x5 : Int) (x6 : Int) (μ : zMem) : Option (Int × zMem) :=
  if (f_X9_isSlot x1) = 0 then
    some ((-1), μ)
  else
    if (f_X9_isOwn x2) = 0 then
      some ((-1), μ)
    else
      if x6 < 0 then
        some ((-1), μ)
      else
        if x6 ≤ 16 then
          bnd (f_X9_refuseRow x3 x4 μ) fun x_1 =>
          if x_1 = 0 then
            chk ((0 : Int) ≤ x3 ∧ x3 < 4) <|
            chk ((μ 17 x3) ≠ 0) <|
            zlet (μ 17 x3) fun x_2 =>
            if x5 < 0 then
              some ((-13), μ)
            else
              if x5 ≤ (zw ((μ x_2 2) - x6)) then
                bnd (f_X8_clear 21 μ) fun μ_3 =>
                (f_X9_walk_L84 x2 x5 x6 x_2 (f_X9_walk_K149 x1 x2)) zfu 0 μ_3
              else
                some ((-13), μ)
          else
            some (x_1, μ)
        else
          some ((-1), μ)
set_option maxHeartbeats 4000000 in
set_option maxRecDepth 100000 in
theorem M_X9_walk {l : Launch} {Ω : zO} (hI : zIc Ω) (μ : zMem) (x1 : Int) (x2 : Int) (x3 : Int) (x4 : Int) (x5 : Int) (x6 : Int) {r : Int} {μ' : zMem} (gx1 : Rg x1) (gx2 : Rg x2) (gx3 : Rg x3) (gx4 : Rg x4) (gx5 : Rg x5) (gx6 : Rg x6) (h : f_X9_walk x1 x2 x3 x4 x5 x6 μ = some (r, μ')) : XMet l yX9_walk cX9_walk 11 (some Jvm.ClassFile.FieldType.int) 2 Ω [zR Ω 1, zI x1, zI x2, zI x3, zI x4, zI x5, zI x6] μ (some (zI r)) (Rg r) μ' := by
  refine XMet.ofI (by decide) (Nat.le_of_ble_eq_true rfl) ?_
  intro p e s m args below meth c ls Q C rt X hl
  have C : zC p s m args c cX9_walk RX9 11 Ω := C
  have hl : lv_has ls 11 [(0, zR Ω 1), (1, zI x1), (2, zI x2), (3, zI x3), (4, zI x4), (5, zI x5), (6, zI x6)] := hl
  unfold f_X9_walk at h
  skip
  refine lv_iload_n C.1 C.2.1 dX9_walk_0 rfl (lv_at hl 1 rfl) ?_
  refine z_callS1 C X (As := [zI x1]) (M_X9_isSlot hI μ x1 gx1) zc_X9_isSlot kw_826 (zroom (by decide) (by decide)) rfl hl.1 rfl (Nat.le_of_ble_eq_true rfl) dX9_walk_1 ⟨Nat.zero_le _, Nat.zero_le _⟩ (fun H locs g_1 X => ?_)
  refine z_ifeq C (rgz g_1) (tgt := 26) dX9_walk_4 (by decide) (fun hc4 => ?_) (fun hc4 => ?_)
  · rw [if_pos hc4] at h
    refine z_iconst C dX9_walk_26 ?_
    obtain ⟨rfl, rfl⟩ := Prod.mk.inj (Option.some.inj h)
    exact rt X ⟨by decide, by decide⟩ dX9_walk_27
  · rw [if_neg hc4] at h
    refine lv_iload_n C.1 C.2.1 dX9_walk_7 rfl (lv_at hl 2 rfl) ?_
    refine z_callS1 C X (As := [zI x2]) (M_X9_isOwn hI μ x2 gx2) zc_X9_isOwn kw_427 (zroom (by decide) (by decide)) rfl hl.1 rfl (Nat.le_of_ble_eq_true rfl) dX9_walk_8 ⟨Nat.zero_le _, Nat.zero_le _⟩ (fun H locs g_8 X => ?_)
    refine z_ifeq C (rgz g_8) (tgt := 26) dX9_walk_11 (by decide) (fun hc11 => ?_) (fun hc11 => ?_)
    · rw [if_pos hc11] at h
      refine z_iconst C dX9_walk_26 ?_
      obtain ⟨rfl, rfl⟩ := Prod.mk.inj (Option.some.inj h)
      exact rt X ⟨by decide, by decide⟩ dX9_walk_27
    · rw [if_neg hc11] at h
      refine lv_iload C.1 C.2.1 dX9_walk_14 (lv_at hl 6 rfl) ?_
      refine z_iflt C gx6 (tgt := 26) dX9_walk_16 (by decide) (fun hc16 => ?_) (fun hc16 => ?_)
      · rw [if_pos hc16] at h
        refine z_iconst C dX9_walk_26 ?_
        obtain ⟨rfl, rfl⟩ := Prod.mk.inj (Option.some.inj h)
        exact rt X ⟨by decide, by decide⟩ dX9_walk_27
      · rw [if_neg hc16] at h
        refine lv_iload C.1 C.2.1 dX9_walk_19 (lv_at hl 6 rfl) ?_
        refine z_bipush C dX9_walk_21 (by decide) ?_
        refine z_icmple C gx6 ⟨by decide, by decide⟩ (tgt := 28) dX9_walk_23 (by decide) (fun hc23 => ?_) (fun hc23 => ?_)
        · rw [if_pos hc23] at h
          refine lv_aload_n C.1 C.2.1 dX9_walk_28 rfl (lv_at hl 0 rfl) ?_
          refine lv_iload_n C.1 C.2.1 dX9_walk_29 rfl (lv_at hl 3 rfl) ?_
          refine lv_iload C.1 C.2.1 dX9_walk_30 (lv_at hl 4 rfl) ?_
          obtain ⟨x_1, hq32, h⟩ := bnd_some h
          refine z_callV1 C X zk9 (hI.1 1 (by decide)) rfl (As := [zI x3, zI x4]) (M_X9_refuseRow hI μ x3 x4 gx3 gx4 hq32) zc_X9_refuseRow kw_860 (zroom (by decide) (by decide)) rfl hl.1 rfl (Nat.le_of_ble_eq_true rfl) dX9_walk_32 ⟨Nat.zero_le _, Nat.zero_le _⟩ (fun H locs g_32 X => ?_)
          refine lv_istore C.1 C.2.1 (lv' := [(7, zI x_1), (0, zR Ω 1), (1, zI x1), (2, zI x2), (3, zI x3), (4, zI x4), (5, zI x5), (6, zI x6)]) dX9_walk_35 hl (by decide) rfl (fun ls hl => ?_)
          refine lv_iload C.1 C.2.1 dX9_walk_37 (lv_at hl 0 rfl) ?_
          refine z_ifeq C g_32 (tgt := 45) dX9_walk_39 (by decide) (fun hc39 => ?_) (fun hc39 => ?_)
          · rw [if_pos hc39] at h
            refine lv_aload_n C.1 C.2.1 dX9_walk_45 rfl (lv_at hl 1 rfl) ?_
            refine z_get C X zk9 (hI.1 1 (by decide)) rfl 3 (by decide) kw_392 (zR Ω 17) (zfvF (off := 16) X.2.2.2 (hI.1 1 (by decide)) (hI.2 1 (by decide)) rfl rfl (by decide)) dX9_walk_46 ?_
            refine lv_iload_n C.1 C.2.1 dX9_walk_49 rfl (lv_at hl 4 rfl) ?_
            obtain ⟨hc50, h⟩ := chk_some h
            obtain ⟨hn50, h⟩ := chk_some h
            have o_50 := (zrg7 X.2.2.2 (hI.1 17 (by decide)) rfl (i := x3)).resolve_left hn50
            refine z_aald7 C X (hI.1 17 (by decide)) rfl hc50 dX9_walk_50 ?_
            rw [zQ_pos Ω hn50]
            refine zlet_elim h (fun x_2 ex_2 h => ?_)
            rw [← ex_2] at o_50 ⊢
            clear hn50 ex_2
            refine lv_astore C.1 C.2.1 (lv' := [(8, zR Ω x_2), (7, zI x_1), (0, zR Ω 1), (1, zI x1), (2, zI x2), (3, zI x3), (4, zI x4), (5, zI x5), (6, zI x6)]) dX9_walk_51 hl (by decide) rfl (fun ls hl => ?_)
            refine lv_iload C.1 C.2.1 dX9_walk_53 (lv_at hl 7 rfl) ?_
            refine z_iflt C gx5 (tgt := 71) dX9_walk_55 (by decide) (fun hc55 => ?_) (fun hc55 => ?_)
            · rw [if_pos hc55] at h
              refine z_bipush C dX9_walk_71 (by decide) ?_
              obtain ⟨rfl, rfl⟩ := Prod.mk.inj (Option.some.inj h)
              exact rt X ⟨by decide, by decide⟩ dX9_walk_73
            · rw [if_neg hc55] at h
              refine lv_iload C.1 C.2.1 dX9_walk_58 (lv_at hl 7 rfl) ?_
              refine lv_aload C.1 C.2.1 dX9_walk_60 (lv_at hl 0 rfl) ?_
              have g_62 : Rg (μ x_2 2) := zrgf0 (ci := 3) X.2.2.2 (zob.self o_50) (zo3 o_50) 2 rfl
              refine z_get C X zk3 (zob.self o_50) (zo3 o_50) 2 (by decide) kw_335 (zI (μ x_2 2)) rfl dX9_walk_62 ?_
              refine lv_iload C.1 C.2.1 dX9_walk_65 (lv_at hl 8 rfl) ?_
              refine z_isub C dX9_walk_67 ?_
              refine z_icmple C gx5 (Rg.w _) (tgt := 74) dX9_walk_68 (by decide) (fun hc68 => ?_) (fun hc68 => ?_)
              · rw [if_pos hc68] at h
                refine lv_aload_n C.1 C.2.1 dX9_walk_74 rfl (lv_at hl 2 rfl) ?_
                refine z_get C X zk9 (hI.1 1 (by decide)) rfl 6 (by decide) kw_395 (zR Ω 21) (zfvF (off := 20) X.2.2.2 (hI.1 1 (by decide)) (hI.2 1 (by decide)) rfl rfl (by decide)) dX9_walk_75 ?_
                obtain ⟨μ_3, hq78, h⟩ := bnd_some h
                refine z_callV0 C X zk8 (hI.1 21 (by decide)) rfl (As := []) (M_X8_clear μ 21 (zoc8 hI 21 rfl (by decide)) hq78) zc_X8_clear kw_870 (zroom (by decide) (by decide)) rfl hl.1 rfl (Nat.le_of_ble_eq_true rfl) dX9_walk_78 ⟨Nat.zero_le _, Nat.zero_le _⟩ (fun H locs g_78 X => ?_)
                refine z_iconst C dX9_walk_81 ?_
                refine lv_istore C.1 C.2.1 (lv' := [(9, zI 0), (8, zR Ω x_2), (7, zI x_1), (0, zR Ω 1), (1, zI x1), (2, zI x2), (3, zI x3), (4, zI x4), (5, zI x5), (6, zI x6)]) dX9_walk_82 hl (by decide) rfl (fun ls hl => ?_)
                have K149 : ∀ (μ_4 : zMem) (H : Heap) (locs : List Loc) (ls : Array Slot), zX Ω μ_4 (zfree Ω) s.heap H locs → lv_has ls 11 [(0, zR Ω 1), (1, zI x1), (2, zI x2)] → (f_X9_walk_K149 x1 x2) μ_4 = some (r, μ') → W p l e (zrm 2) s m args below meth c H locs 0 0 Q (F0 m 149 ls []) := by
                  intro μ_4 H locs ls  X hl h
                  unfold f_X9_walk_K149 at h
                  refine lv_aload_n C.1 C.2.1 dX9_walk_149 rfl (lv_at hl 0 rfl) ?_
                  refine lv_iload_n C.1 C.2.1 dX9_walk_150 rfl (lv_at hl 1 rfl) ?_
                  refine lv_iload_n C.1 C.2.1 dX9_walk_151 rfl (lv_at hl 2 rfl) ?_
                  obtain ⟨x_5, μ_6, hq152, h⟩ := bnd2_some h
                  refine z_callV1 C X zk9 (hI.1 1 (by decide)) rfl (As := [zI x1, zI x2]) (M_X9_keepReduced hI μ_4 x1 x2 gx1 gx2 hq152) zc_X9_keepReduced kw_848 (zroom (by decide) (by decide)) rfl hl.1 rfl (Nat.le_of_ble_eq_true rfl) dX9_walk_152 ⟨Nat.zero_le _, Nat.zero_le _⟩ (fun H locs g_152 X => ?_)
                  obtain ⟨rfl, rfl⟩ := Prod.mk.inj (Option.some.inj h)
                  exact rt X g_152 dX9_walk_155
                have L84 : ∀ (n84 : Nat) (x_7 : Int) (μ_8 : zMem) (H : Heap) (locs : List Loc) (ls : Array Slot), Rg x_7 → zX Ω μ_8 (zfree Ω) s.heap H locs → lv_has ls 11 [(0, zR Ω 1), (1, zI x1), (2, zI x2), (5, zI x5), (6, zI x6), (8, zR Ω x_2), (9, zI x_7)] → (f_X9_walk_L84 x2 x5 x6 x_2 (f_X9_walk_K149 x1 x2) n84 x_7 μ_8) = some (r, μ') → W p l e (zrm 2) s m args below meth c H locs 0 0 Q (F0 m 84 ls []) := by
                  intro n84
                  induction n84 with
                  | zero =>
                    intro x_7 μ_8 H locs ls _ _ _ h
                    cases h
                  | succ n84 ih84 =>
                    intro x_7 μ_8 H locs ls gx_7 X hl h
                    unfold f_X9_walk_L84 at h
                    refine lv_iload C.1 C.2.1 dX9_walk_84 (lv_at hl 6 rfl) ?_
                    refine lv_iload C.1 C.2.1 dX9_walk_86 (lv_at hl 4 rfl) ?_
                    refine z_icmpge C gx_7 gx6 (tgt := 149) dX9_walk_88 (by decide) (fun hc88 => ?_) (fun hc88 => ?_)
                    · rw [if_neg hc88] at h
                      exact K149 μ_8 _ _ _ X (lv_sub hl [0, 1, 2] rfl) h
                    · rw [if_pos hc88] at h
                      refine lv_aload C.1 C.2.1 dX9_walk_91 (lv_at hl 5 rfl) ?_
                      refine z_get C X zk3 (zob.self o_50) (zo3 o_50) 0 (by decide) kw_331 (zR Ω (x_2 + 1)) (zfvF (off := 1) X.2.2.2 (zob.self o_50) o_50.2.2 (zo3 o_50) rfl (by rw [zo3_1 o_50]; decide)) dX9_walk_93 ?_
                      refine lv_iload C.1 C.2.1 dX9_walk_96 (lv_at hl 3 rfl) ?_
                      refine lv_iload C.1 C.2.1 dX9_walk_98 (lv_at hl 6 rfl) ?_
                      refine z_iadd C dX9_walk_100 ?_
                      obtain ⟨hc101, h⟩ := chk_some h
                      have g_101 : Rg (μ_8 (x_2 + 1) (zw (x5 + x_7))) := zrg1 X.2.2.2 (o_50.2.1 1 (by decide) (by decide)) (zo3_1 o_50)
                      refine z_iald C X (o_50.2.1 1 (by decide) (by decide)) (zo3_1 o_50) hc101 dX9_walk_101 ?_
                      refine lv_aload_n C.1 C.2.1 dX9_walk_102 rfl (lv_at hl 0 rfl) ?_
                      refine z_get C X zk9 (hI.1 1 (by decide)) rfl 0 (by decide) kw_389 (zR Ω 2) (zfvF (off := 1) X.2.2.2 (hI.1 1 (by decide)) (hI.2 1 (by decide)) rfl rfl (by decide)) dX9_walk_103 ?_
                      refine lv_iload_n C.1 C.2.1 dX9_walk_106 rfl (lv_at hl 2 rfl) ?_
                      obtain ⟨hc107, h⟩ := chk_some h
                      obtain ⟨hn107, h⟩ := chk_some h
                      have o_107 := (zrg5 X.2.2.2 (hI.1 2 (by decide)) rfl (i := x2)).resolve_left hn107
                      refine z_aald5 C X (hI.1 2 (by decide)) rfl hc107 dX9_walk_107 ?_
                      rw [zQ_pos Ω hn107]
                      refine zlet_elim h (fun x_9 ex_9 h => ?_)
                      rw [← ex_9] at o_107 ⊢
                      clear hn107 ex_9
                      have g_108 : Rg (μ_8 x_9 7) := zrgf0 (ci := 5) X.2.2.2 (zob.self o_107) (zo5 o_107) 7 rfl
                      refine z_get C X zk5 (zob.self o_107) (zo5 o_107) 7 (by decide) kw_84 (zI (μ_8 x_9 7)) rfl dX9_walk_108 ?_
                      refine z_callS1 C X (As := [zI (μ_8 (x_2 + 1) (zw (x5 + x_7))), zI (μ_8 x_9 7)]) (M_X9_stepOfItem hI μ_8 (μ_8 (x_2 + 1) (zw (x5 + x_7))) (μ_8 x_9 7) g_101 g_108) zc_X9_stepOfItem kw_871 (zroom (by decide) (by decide)) rfl hl.1 rfl (Nat.le_of_ble_eq_true rfl) dX9_walk_111 ⟨Nat.zero_le _, Nat.zero_le _⟩ (fun H locs g_111 X => ?_)
                      refine zlet_elim h (fun x_10 ex_10 h => ?_)
                      have gx_10 : Rg x_10 := by rw [ex_10]; exact g_111
                      refine z_istore C ex_10 dX9_walk_114 hl (by decide) (lv' := [(10, zI x_10), (0, zR Ω 1), (1, zI x1), (2, zI x2), (5, zI x5), (6, zI x6), (8, zR Ω x_2), (9, zI x_7)]) rfl (fun ls hl => ?_)
                      clear ex_10
                      refine lv_iload C.1 C.2.1 dX9_walk_116 (lv_at hl 0 rfl) ?_
                      refine z_iconst C dX9_walk_118 ?_
                      refine z_icmpeq C gx_10 ⟨by decide, by decide⟩ (tgt := 140) dX9_walk_119 (by decide) (fun hc119 => ?_) (fun hc119 => ?_)
                      · rw [if_pos hc119] at h
                        refine z_bipush C dX9_walk_140 (by decide) ?_
                        obtain ⟨rfl, rfl⟩ := Prod.mk.inj (Option.some.inj h)
                        exact rt X ⟨by decide, by decide⟩ dX9_walk_142
                      · rw [if_neg hc119] at h
                        refine lv_aload_n C.1 C.2.1 dX9_walk_122 rfl (lv_at hl 1 rfl) ?_
                        refine z_get C X zk9 (hI.1 1 (by decide)) rfl 6 (by decide) kw_395 (zR Ω 21) (zfvF (off := 20) X.2.2.2 (hI.1 1 (by decide)) (hI.2 1 (by decide)) rfl rfl (by decide)) dX9_walk_123 ?_
                        refine lv_aload_n C.1 C.2.1 dX9_walk_126 rfl (lv_at hl 1 rfl) ?_
                        refine z_get C X zk9 (hI.1 1 (by decide)) rfl 0 (by decide) kw_389 (zR Ω 2) (zfvF (off := 1) X.2.2.2 (hI.1 1 (by decide)) (hI.2 1 (by decide)) rfl rfl (by decide)) dX9_walk_127 ?_
                        refine lv_iload_n C.1 C.2.1 dX9_walk_130 rfl (lv_at hl 3 rfl) ?_
                        obtain ⟨hc131, h⟩ := chk_some h
                        obtain ⟨hn131, h⟩ := chk_some h
                        have o_131 := (zrg5 X.2.2.2 (hI.1 2 (by decide)) rfl (i := x2)).resolve_left hn131
                        refine z_aald5 C X (hI.1 2 (by decide)) rfl hc131 dX9_walk_131 ?_
                        rw [zQ_pos Ω hn131]
                        refine zlet_elim h (fun x_11 ex_11 h => ?_)
                        rw [← ex_11] at o_131 ⊢
                        clear hn131 ex_11
                        refine lv_iload C.1 C.2.1 dX9_walk_132 (lv_at hl 0 rfl) ?_
                        obtain ⟨x_12, μ_13, hq134, h⟩ := bnd2_some h
                        refine z_callV1 C X zk8 (hI.1 21 (by decide)) rfl (As := [zR Ω x_11, zI x_10]) (M_X8_goOn μ_8 21 x_11 x_10 (zoc8 hI 21 rfl (by decide)) o_131 gx_10 hq134) zc_X8_goOn kw_874 (zroom (by decide) (by decide)) rfl hl.1 rfl (Nat.le_of_ble_eq_true rfl) dX9_walk_134 ⟨Nat.zero_le _, Nat.zero_le _⟩ (fun H locs g_134 X => ?_)
                        refine z_ifne C (rgz g_134) (tgt := 143) dX9_walk_137 (by decide) (fun hc137 => ?_) (fun hc137 => ?_)
                        · rw [if_neg hc137] at h
                          refine zlet_elim h (fun x_14 ex_14 h => ?_)
                          have gx_14 : Rg x_14 := by rw [ex_14]; exact Rg.w _
                          refine z_iinc C ex_14 dX9_walk_143 hl (k := 7) rfl (by decide) (lv' := [(9, zI x_14), (10, zI x_10), (0, zR Ω 1), (1, zI x1), (2, zI x2), (5, zI x5), (6, zI x6), (8, zR Ω x_2)]) rfl (fun ls hl => ?_)
                          clear ex_14
                          refine lv_goto (tgt := 84) C.1 C.2.1 dX9_walk_146 (by decide) ?_
                          exact ih84 x_14 μ_13 _ _ _ gx_14 X (lv_sub hl [2, 3, 4, 5, 6, 7, 0] rfl) h
                        · rw [if_pos hc137] at h
                          refine z_bipush C dX9_walk_140 (by decide) ?_
                          obtain ⟨rfl, rfl⟩ := Prod.mk.inj (Option.some.inj h)
                          exact rt X ⟨by decide, by decide⟩ dX9_walk_142
                exact L84 zfu 0 μ_3 _ _ _ ⟨by decide, by decide⟩ X (lv_sub hl [3, 4, 5, 8, 9, 1, 0] rfl) h
              · rw [if_neg hc68] at h
                refine z_bipush C dX9_walk_71 (by decide) ?_
                obtain ⟨rfl, rfl⟩ := Prod.mk.inj (Option.some.inj h)
                exact rt X ⟨by decide, by decide⟩ dX9_walk_73
          · rw [if_neg hc39] at h
            refine lv_iload C.1 C.2.1 dX9_walk_42 (lv_at hl 0 rfl) ?_
            obtain ⟨rfl, rfl⟩ := Prod.mk.inj (Option.some.inj h)
            exact rt X g_32 dX9_walk_44
        · rw [if_neg hc23] at h
          refine z_iconst C dX9_walk_26 ?_
          obtain ⟨rfl, rfl⟩ := Prod.mk.inj (Option.some.inj h)
          exact rt X ⟨by decide, by decide⟩ dX9_walk_27
theorem zc_X9_walk : zcal yX9_walk cX9_walk 11 (some Jvm.ClassFile.FieldType.int) RX9 6 := ⟨⟨kw_859, kw_857, kw_858, kw_1⟩, rfl, by decide, by decide, by decide +kernel⟩

def f_X9_about (x1 : Int) (x2 : Int) (μ : zMem) : Option Int :=
  if (f_X9_isSlot x1) = 0 then
    some (-1)
  else
    if x2 < 0 then
      some (-1)
    else
      if x2 ≤ 3 then
        chk ((0 : Int) ≤ x1 ∧ x1 < 4) <|
        chk ((μ 16 x1) ≠ 0) <|
        zlet (μ 16 x1) fun x_1 =>
        if (μ x_1 1) = (-1) then
          some (-4)
        else
          if x2 = 0 then
            some (μ x_1 2)
          else
            if x2 = 1 then
              some (μ x_1 1)
            else
              if x2 = 2 then
                some (μ x_1 3)
              else
                some (μ x_1 4)
      else
        some (-1)
set_option maxHeartbeats 4000000 in
set_option maxRecDepth 100000 in
theorem M_X9_about {l : Launch} {Ω : zO} (hI : zIc Ω) (μ : zMem) (x1 : Int) (x2 : Int) {r : Int} (gx1 : Rg x1) (gx2 : Rg x2) (h : f_X9_about x1 x2 μ = some r) : XMet l yX9_about cX9_about 4 (some Jvm.ClassFile.FieldType.int) 1 Ω [zR Ω 1, zI x1, zI x2] μ (some (zI r)) (Rg r) μ := by
  refine XMet.ofI (by decide) (Nat.le_of_ble_eq_true rfl) ?_
  intro p e s m args below meth c ls Q C rt X hl
  have C : zC p s m args c cX9_about RX9 4 Ω := C
  have hl : lv_has ls 4 [(0, zR Ω 1), (1, zI x1), (2, zI x2)] := hl
  unfold f_X9_about at h
  skip
  refine lv_iload_n C.1 C.2.1 dX9_about_0 rfl (lv_at hl 1 rfl) ?_
  refine z_callS1 C X (As := [zI x1]) (M_X9_isSlot hI μ x1 gx1) zc_X9_isSlot kw_826 (zroom (by decide) (by decide)) rfl hl.1 rfl (Nat.le_of_ble_eq_true rfl) dX9_about_1 ⟨Nat.zero_le _, Nat.zero_le _⟩ (fun H locs g_1 X => ?_)
  refine z_ifeq C (rgz g_1) (tgt := 16) dX9_about_4 (by decide) (fun hc4 => ?_) (fun hc4 => ?_)
  · rw [if_pos hc4] at h
    refine z_iconst C dX9_about_16 ?_
    obtain rfl := Option.some.inj h
    exact rt X ⟨by decide, by decide⟩ dX9_about_17
  · rw [if_neg hc4] at h
    refine lv_iload_n C.1 C.2.1 dX9_about_7 rfl (lv_at hl 2 rfl) ?_
    refine z_iflt C gx2 (tgt := 16) dX9_about_8 (by decide) (fun hc8 => ?_) (fun hc8 => ?_)
    · rw [if_pos hc8] at h
      refine z_iconst C dX9_about_16 ?_
      obtain rfl := Option.some.inj h
      exact rt X ⟨by decide, by decide⟩ dX9_about_17
    · rw [if_neg hc8] at h
      refine lv_iload_n C.1 C.2.1 dX9_about_11 rfl (lv_at hl 2 rfl) ?_
      refine z_iconst C dX9_about_12 ?_
      refine z_icmple C gx2 ⟨by decide, by decide⟩ (tgt := 18) dX9_about_13 (by decide) (fun hc13 => ?_) (fun hc13 => ?_)
      · rw [if_pos hc13] at h
        refine lv_aload_n C.1 C.2.1 dX9_about_18 rfl (lv_at hl 0 rfl) ?_
        refine z_get C X zk9 (hI.1 1 (by decide)) rfl 2 (by decide) kw_391 (zR Ω 16) (zfvF (off := 15) X.2.2.2 (hI.1 1 (by decide)) (hI.2 1 (by decide)) rfl rfl (by decide)) dX9_about_19 ?_
        refine lv_iload_n C.1 C.2.1 dX9_about_22 rfl (lv_at hl 1 rfl) ?_
        obtain ⟨hc23, h⟩ := chk_some h
        obtain ⟨hn23, h⟩ := chk_some h
        have o_23 := (zrg6 X.2.2.2 (hI.1 16 (by decide)) rfl (i := x1)).resolve_left hn23
        refine z_aald6 C X (hI.1 16 (by decide)) rfl hc23 dX9_about_23 ?_
        rw [zQ_pos Ω hn23]
        refine zlet_elim h (fun x_1 ex_1 h => ?_)
        rw [← ex_1] at o_23 ⊢
        clear hn23 ex_1
        refine lv_astore_n C.1 C.2.1 (lv' := [(3, zR Ω x_1), (0, zR Ω 1), (1, zI x1), (2, zI x2)]) dX9_about_24 rfl hl (by decide) rfl (fun ls hl => ?_)
        refine lv_aload_n C.1 C.2.1 dX9_about_25 rfl (lv_at hl 0 rfl) ?_
        have g_26 : Rg (μ x_1 1) := zrgf0 (ci := 8) X.2.2.2 (zob.self o_23) (zo8 o_23) 1 rfl
        refine z_get C X zk8 (zob.self o_23) (zo8 o_23) 1 (by decide) kw_194 (zI (μ x_1 1)) rfl dX9_about_26 ?_
        refine z_iconst C dX9_about_29 ?_
        refine z_icmpne C g_26 ⟨by decide, by decide⟩ (tgt := 36) dX9_about_30 (by decide) (fun hc30 => ?_) (fun hc30 => ?_)
        · rw [if_neg hc30] at h
          refine lv_iload_n C.1 C.2.1 dX9_about_36 rfl (lv_at hl 3 rfl) ?_
          by_cases hs37_0 : x2 = 0
          · rw [if_pos hs37_0] at h
            refine z_tabI C gx2 hs37_0 (tgt := 64) dX9_about_37 (by decide) (by decide) rfl (by decide) ?_
            refine lv_aload_n C.1 C.2.1 dX9_about_64 rfl (lv_at hl 0 rfl) ?_
            have g_65 : Rg (μ x_1 2) := zrgf0 (ci := 8) X.2.2.2 (zob.self o_23) (zo8 o_23) 2 rfl
            refine z_get C X zk8 (zob.self o_23) (zo8 o_23) 2 (by decide) kw_198 (zI (μ x_1 2)) rfl dX9_about_65 ?_
            obtain rfl := Option.some.inj h
            exact rt X g_65 dX9_about_68
          · rw [if_neg hs37_0] at h
            by_cases hs37_1 : x2 = 1
            · rw [if_pos hs37_1] at h
              refine z_tabI C gx2 hs37_1 (tgt := 69) dX9_about_37 (by decide) (by decide) rfl (by decide) ?_
              refine lv_aload_n C.1 C.2.1 dX9_about_69 rfl (lv_at hl 0 rfl) ?_
              have g_70 : Rg (μ x_1 1) := zrgf0 (ci := 8) X.2.2.2 (zob.self o_23) (zo8 o_23) 1 rfl
              refine z_get C X zk8 (zob.self o_23) (zo8 o_23) 1 (by decide) kw_194 (zI (μ x_1 1)) rfl dX9_about_70 ?_
              obtain rfl := Option.some.inj h
              exact rt X g_70 dX9_about_73
            · rw [if_neg hs37_1] at h
              by_cases hs37_2 : x2 = 2
              · rw [if_pos hs37_2] at h
                refine z_tabI C gx2 hs37_2 (tgt := 74) dX9_about_37 (by decide) (by decide) rfl (by decide) ?_
                refine lv_aload_n C.1 C.2.1 dX9_about_74 rfl (lv_at hl 0 rfl) ?_
                have g_75 : Rg (μ x_1 3) := zrgf0 (ci := 8) X.2.2.2 (zob.self o_23) (zo8 o_23) 3 rfl
                refine z_get C X zk8 (zob.self o_23) (zo8 o_23) 3 (by decide) kw_203 (zI (μ x_1 3)) rfl dX9_about_75 ?_
                obtain rfl := Option.some.inj h
                exact rt X g_75 dX9_about_78
              · rw [if_neg hs37_2] at h
                refine z_tabO C gx2 (tgt := 79) dX9_about_37 (by omega) (by decide) ?_
                refine lv_aload_n C.1 C.2.1 dX9_about_79 rfl (lv_at hl 0 rfl) ?_
                have g_80 : Rg (μ x_1 4) := zrgf0 (ci := 8) X.2.2.2 (zob.self o_23) (zo8 o_23) 4 rfl
                refine z_get C X zk8 (zob.self o_23) (zo8 o_23) 4 (by decide) kw_205 (zI (μ x_1 4)) rfl dX9_about_80 ?_
                obtain rfl := Option.some.inj h
                exact rt X g_80 dX9_about_83
        · rw [if_pos hc30] at h
          refine z_bipush C dX9_about_33 (by decide) ?_
          obtain rfl := Option.some.inj h
          exact rt X ⟨by decide, by decide⟩ dX9_about_35
      · rw [if_neg hc13] at h
        refine z_iconst C dX9_about_16 ?_
        obtain rfl := Option.some.inj h
        exact rt X ⟨by decide, by decide⟩ dX9_about_17
theorem zc_X9_about : zcal yX9_about cX9_about 4 (some Jvm.ClassFile.FieldType.int) RX9 2 := ⟨⟨kw_878, kw_876, kw_877, kw_1⟩, rfl, by decide, by decide, by decide +kernel⟩

def f_X9_step (x1 : Int) (x2 : Int) (μ : zMem) : Option Int :=
  if (f_X9_isSlot x1) = 0 then
    some (-1)
  else
    if x2 < 0 then
      some (-1)
    else
      chk ((0 : Int) ≤ x1 ∧ x1 < 4) <|
      chk ((μ 16 x1) ≠ 0) <|
      zlet (μ 16 x1) fun x_1 =>
      if (μ x_1 1) = (-1) then
        some (-4)
      else
        if x2 < (μ x_1 2) then
          chk ((0 : Int) ≤ x2 ∧ x2 < zlen (x_1 + 1)) <|
          some (f_X9_toldStep (μ (x_1 + 1) x2))
        else
          some (-1)
set_option maxHeartbeats 4000000 in
set_option maxRecDepth 100000 in
theorem M_X9_step {l : Launch} {Ω : zO} (hI : zIc Ω) (μ : zMem) (x1 : Int) (x2 : Int) {r : Int} (gx1 : Rg x1) (gx2 : Rg x2) (h : f_X9_step x1 x2 μ = some r) : XMet l yX9_step cX9_step 4 (some Jvm.ClassFile.FieldType.int) 1 Ω [zR Ω 1, zI x1, zI x2] μ (some (zI r)) (Rg r) μ := by
  refine XMet.ofI (by decide) (Nat.le_of_ble_eq_true rfl) ?_
  intro p e s m args below meth c ls Q C rt X hl
  have C : zC p s m args c cX9_step RX9 4 Ω := C
  have hl : lv_has ls 4 [(0, zR Ω 1), (1, zI x1), (2, zI x2)] := hl
  unfold f_X9_step at h
  skip
  refine lv_iload_n C.1 C.2.1 dX9_step_0 rfl (lv_at hl 1 rfl) ?_
  refine z_callS1 C X (As := [zI x1]) (M_X9_isSlot hI μ x1 gx1) zc_X9_isSlot kw_826 (zroom (by decide) (by decide)) rfl hl.1 rfl (Nat.le_of_ble_eq_true rfl) dX9_step_1 ⟨Nat.zero_le _, Nat.zero_le _⟩ (fun H locs g_1 X => ?_)
  refine z_ifeq C (rgz g_1) (tgt := 11) dX9_step_4 (by decide) (fun hc4 => ?_) (fun hc4 => ?_)
  · rw [if_pos hc4] at h
    refine z_iconst C dX9_step_11 ?_
    obtain rfl := Option.some.inj h
    exact rt X ⟨by decide, by decide⟩ dX9_step_12
  · rw [if_neg hc4] at h
    refine lv_iload_n C.1 C.2.1 dX9_step_7 rfl (lv_at hl 2 rfl) ?_
    refine z_ifge C gx2 (tgt := 13) dX9_step_8 (by decide) (fun hc8 => ?_) (fun hc8 => ?_)
    · rw [if_neg hc8] at h
      refine lv_aload_n C.1 C.2.1 dX9_step_13 rfl (lv_at hl 0 rfl) ?_
      refine z_get C X zk9 (hI.1 1 (by decide)) rfl 2 (by decide) kw_391 (zR Ω 16) (zfvF (off := 15) X.2.2.2 (hI.1 1 (by decide)) (hI.2 1 (by decide)) rfl rfl (by decide)) dX9_step_14 ?_
      refine lv_iload_n C.1 C.2.1 dX9_step_17 rfl (lv_at hl 1 rfl) ?_
      obtain ⟨hc18, h⟩ := chk_some h
      obtain ⟨hn18, h⟩ := chk_some h
      have o_18 := (zrg6 X.2.2.2 (hI.1 16 (by decide)) rfl (i := x1)).resolve_left hn18
      refine z_aald6 C X (hI.1 16 (by decide)) rfl hc18 dX9_step_18 ?_
      rw [zQ_pos Ω hn18]
      refine zlet_elim h (fun x_1 ex_1 h => ?_)
      rw [← ex_1] at o_18 ⊢
      clear hn18 ex_1
      refine lv_astore_n C.1 C.2.1 (lv' := [(3, zR Ω x_1), (0, zR Ω 1), (1, zI x1), (2, zI x2)]) dX9_step_19 rfl hl (by decide) rfl (fun ls hl => ?_)
      refine lv_aload_n C.1 C.2.1 dX9_step_20 rfl (lv_at hl 0 rfl) ?_
      have g_21 : Rg (μ x_1 1) := zrgf0 (ci := 8) X.2.2.2 (zob.self o_18) (zo8 o_18) 1 rfl
      refine z_get C X zk8 (zob.self o_18) (zo8 o_18) 1 (by decide) kw_194 (zI (μ x_1 1)) rfl dX9_step_21 ?_
      refine z_iconst C dX9_step_24 ?_
      refine z_icmpne C g_21 ⟨by decide, by decide⟩ (tgt := 31) dX9_step_25 (by decide) (fun hc25 => ?_) (fun hc25 => ?_)
      · rw [if_neg hc25] at h
        refine lv_iload_n C.1 C.2.1 dX9_step_31 rfl (lv_at hl 3 rfl) ?_
        refine lv_aload_n C.1 C.2.1 dX9_step_32 rfl (lv_at hl 0 rfl) ?_
        have g_33 : Rg (μ x_1 2) := zrgf0 (ci := 8) X.2.2.2 (zob.self o_18) (zo8 o_18) 2 rfl
        refine z_get C X zk8 (zob.self o_18) (zo8 o_18) 2 (by decide) kw_198 (zI (μ x_1 2)) rfl dX9_step_33 ?_
        refine z_icmplt C gx2 g_33 (tgt := 41) dX9_step_36 (by decide) (fun hc36 => ?_) (fun hc36 => ?_)
        · rw [if_pos hc36] at h
          refine lv_aload_n C.1 C.2.1 dX9_step_41 rfl (lv_at hl 0 rfl) ?_
          refine z_get C X zk8 (zob.self o_18) (zo8 o_18) 0 (by decide) kw_190 (zR Ω (x_1 + 1)) (zfvF (off := 1) X.2.2.2 (zob.self o_18) o_18.2.2 (zo8 o_18) rfl (by rw [zo8_1 o_18]; decide)) dX9_step_42 ?_
          refine lv_iload_n C.1 C.2.1 dX9_step_45 rfl (lv_at hl 3 rfl) ?_
          obtain ⟨hc46, h⟩ := chk_some h
          have g_46 : Rg (μ (x_1 + 1) x2) := zrg1 X.2.2.2 (o_18.2.1 1 (by decide) (by decide)) (zo8_1 o_18)
          refine z_iald C X (o_18.2.1 1 (by decide) (by decide)) (zo8_1 o_18) hc46 dX9_step_46 ?_
          refine z_callS1 C X (As := [zI (μ (x_1 + 1) x2)]) (M_X9_toldStep hI μ (μ (x_1 + 1) x2) g_46) zc_X9_toldStep kw_578 (zroom (by decide) (by decide)) rfl hl.1 rfl (Nat.le_of_ble_eq_true rfl) dX9_step_47 ⟨Nat.zero_le _, Nat.zero_le _⟩ (fun H locs g_47 X => ?_)
          obtain rfl := Option.some.inj h
          exact rt X g_47 dX9_step_50
        · rw [if_neg hc36] at h
          refine z_iconst C dX9_step_39 ?_
          obtain rfl := Option.some.inj h
          exact rt X ⟨by decide, by decide⟩ dX9_step_40
      · rw [if_pos hc25] at h
        refine z_bipush C dX9_step_28 (by decide) ?_
        obtain rfl := Option.some.inj h
        exact rt X ⟨by decide, by decide⟩ dX9_step_30
    · rw [if_pos hc8] at h
      refine z_iconst C dX9_step_11 ?_
      obtain rfl := Option.some.inj h
      exact rt X ⟨by decide, by decide⟩ dX9_step_12
theorem zc_X9_step : zcal yX9_step cX9_step 4 (some Jvm.ClassFile.FieldType.int) RX9 2 := ⟨⟨kw_882, kw_880, kw_881, kw_1⟩, rfl, by decide, by decide, by decide +kernel⟩

def f_X9_drawn (x1 : Int) (x2 : Int) (μ : zMem) : Option (Int × zMem) :=
  if (f_X9_isSlot x1) = 0 then
    some ((-1), μ)
  else
    if (f_X9_isSlot x2) = 0 then
      some ((-1), μ)
    else
      chk ((0 : Int) ≤ x1 ∧ x1 < 4) <|
      chk ((μ 16 x1) ≠ 0) <|
      zlet (μ 16 x1) fun x_1 =>
      chk ((0 : Int) ≤ x2 ∧ x2 < 4) <|
      chk ((μ 16 x2) ≠ 0) <|
      zlet (μ 16 x2) fun x_2 =>
      if (f_X9_isOwn (μ x_1 1)) = 0 then
        some ((-2), μ)
      else
        if (μ x_1 1) = (μ x_2 1) then
          if (μ x_1 3) = (μ x_2 3) then
            if (μ x_1 4) = (μ x_2 4) then
              chk ((0 : Int) ≤ (μ x_1 1) ∧ (μ x_1 1) < 2) <|
              chk ((μ 2 (μ x_1 1)) ≠ 0) <|
              zlet (μ 2 (μ x_1 1)) fun x_3 =>
              bnd2 (f_X0_findApart x_3 x_1 x_2 μ) fun x_4 μ_5 =>
              some (x_4, μ_5)
            else
              some ((-2), μ)
          else
            some ((-2), μ)
        else
          some ((-2), μ)
set_option maxHeartbeats 4000000 in
set_option maxRecDepth 100000 in
theorem M_X9_drawn {l : Launch} {Ω : zO} (hI : zIc Ω) (μ : zMem) (x1 : Int) (x2 : Int) {r : Int} {μ' : zMem} (gx1 : Rg x1) (gx2 : Rg x2) (h : f_X9_drawn x1 x2 μ = some (r, μ')) : XMet l yX9_drawn cX9_drawn 5 (some Jvm.ClassFile.FieldType.int) 5 Ω [zR Ω 1, zI x1, zI x2] μ (some (zI r)) (Rg r) μ' := by
  refine XMet.ofI (by decide) (Nat.le_of_ble_eq_true rfl) ?_
  intro p e s m args below meth c ls Q C rt X hl
  have C : zC p s m args c cX9_drawn RX9 5 Ω := C
  have hl : lv_has ls 5 [(0, zR Ω 1), (1, zI x1), (2, zI x2)] := hl
  unfold f_X9_drawn at h
  skip
  refine lv_iload_n C.1 C.2.1 dX9_drawn_0 rfl (lv_at hl 1 rfl) ?_
  refine z_callS1 C X (As := [zI x1]) (M_X9_isSlot hI μ x1 gx1) zc_X9_isSlot kw_826 (zroom (by decide) (by decide)) rfl hl.1 rfl (Nat.le_of_ble_eq_true rfl) dX9_drawn_1 ⟨Nat.zero_le _, Nat.zero_le _⟩ (fun H locs g_1 X => ?_)
  refine z_ifeq C (rgz g_1) (tgt := 14) dX9_drawn_4 (by decide) (fun hc4 => ?_) (fun hc4 => ?_)
  · rw [if_pos hc4] at h
    refine z_iconst C dX9_drawn_14 ?_
    obtain ⟨rfl, rfl⟩ := Prod.mk.inj (Option.some.inj h)
    exact rt X ⟨by decide, by decide⟩ dX9_drawn_15
  · rw [if_neg hc4] at h
    refine lv_iload_n C.1 C.2.1 dX9_drawn_7 rfl (lv_at hl 2 rfl) ?_
    refine z_callS1 C X (As := [zI x2]) (M_X9_isSlot hI μ x2 gx2) zc_X9_isSlot kw_826 (zroom (by decide) (by decide)) rfl hl.1 rfl (Nat.le_of_ble_eq_true rfl) dX9_drawn_8 ⟨Nat.zero_le _, Nat.zero_le _⟩ (fun H locs g_8 X => ?_)
    refine z_ifne C (rgz g_8) (tgt := 16) dX9_drawn_11 (by decide) (fun hc11 => ?_) (fun hc11 => ?_)
    · rw [if_neg hc11] at h
      refine lv_aload_n C.1 C.2.1 dX9_drawn_16 rfl (lv_at hl 0 rfl) ?_
      refine z_get C X zk9 (hI.1 1 (by decide)) rfl 2 (by decide) kw_391 (zR Ω 16) (zfvF (off := 15) X.2.2.2 (hI.1 1 (by decide)) (hI.2 1 (by decide)) rfl rfl (by decide)) dX9_drawn_17 ?_
      refine lv_iload_n C.1 C.2.1 dX9_drawn_20 rfl (lv_at hl 1 rfl) ?_
      obtain ⟨hc21, h⟩ := chk_some h
      obtain ⟨hn21, h⟩ := chk_some h
      have o_21 := (zrg6 X.2.2.2 (hI.1 16 (by decide)) rfl (i := x1)).resolve_left hn21
      refine z_aald6 C X (hI.1 16 (by decide)) rfl hc21 dX9_drawn_21 ?_
      rw [zQ_pos Ω hn21]
      refine zlet_elim h (fun x_1 ex_1 h => ?_)
      rw [← ex_1] at o_21 ⊢
      clear hn21 ex_1
      refine lv_astore_n C.1 C.2.1 (lv' := [(3, zR Ω x_1), (0, zR Ω 1), (1, zI x1), (2, zI x2)]) dX9_drawn_22 rfl hl (by decide) rfl (fun ls hl => ?_)
      refine lv_aload_n C.1 C.2.1 dX9_drawn_23 rfl (lv_at hl 1 rfl) ?_
      refine z_get C X zk9 (hI.1 1 (by decide)) rfl 2 (by decide) kw_391 (zR Ω 16) (zfvF (off := 15) X.2.2.2 (hI.1 1 (by decide)) (hI.2 1 (by decide)) rfl rfl (by decide)) dX9_drawn_24 ?_
      refine lv_iload_n C.1 C.2.1 dX9_drawn_27 rfl (lv_at hl 3 rfl) ?_
      obtain ⟨hc28, h⟩ := chk_some h
      obtain ⟨hn28, h⟩ := chk_some h
      have o_28 := (zrg6 X.2.2.2 (hI.1 16 (by decide)) rfl (i := x2)).resolve_left hn28
      refine z_aald6 C X (hI.1 16 (by decide)) rfl hc28 dX9_drawn_28 ?_
      rw [zQ_pos Ω hn28]
      refine zlet_elim h (fun x_2 ex_2 h => ?_)
      rw [← ex_2] at o_28 ⊢
      clear hn28 ex_2
      refine lv_astore C.1 C.2.1 (lv' := [(4, zR Ω x_2), (3, zR Ω x_1), (0, zR Ω 1), (1, zI x1), (2, zI x2)]) dX9_drawn_29 hl (by decide) rfl (fun ls hl => ?_)
      refine lv_aload_n C.1 C.2.1 dX9_drawn_31 rfl (lv_at hl 1 rfl) ?_
      have g_32 : Rg (μ x_1 1) := zrgf0 (ci := 8) X.2.2.2 (zob.self o_21) (zo8 o_21) 1 rfl
      refine z_get C X zk8 (zob.self o_21) (zo8 o_21) 1 (by decide) kw_194 (zI (μ x_1 1)) rfl dX9_drawn_32 ?_
      refine z_callS1 C X (As := [zI (μ x_1 1)]) (M_X9_isOwn hI μ (μ x_1 1) g_32) zc_X9_isOwn kw_427 (zroom (by decide) (by decide)) rfl hl.1 rfl (Nat.le_of_ble_eq_true rfl) dX9_drawn_35 ⟨Nat.zero_le _, Nat.zero_le _⟩ (fun H locs g_35 X => ?_)
      refine z_ifeq C (rgz g_35) (tgt := 77) dX9_drawn_38 (by decide) (fun hc38 => ?_) (fun hc38 => ?_)
      · rw [if_pos hc38] at h
        refine z_bipush C dX9_drawn_77 (by decide) ?_
        obtain ⟨rfl, rfl⟩ := Prod.mk.inj (Option.some.inj h)
        exact rt X ⟨by decide, by decide⟩ dX9_drawn_79
      · rw [if_neg hc38] at h
        refine lv_aload_n C.1 C.2.1 dX9_drawn_41 rfl (lv_at hl 1 rfl) ?_
        have g_42 : Rg (μ x_1 1) := zrgf0 (ci := 8) X.2.2.2 (zob.self o_21) (zo8 o_21) 1 rfl
        refine z_get C X zk8 (zob.self o_21) (zo8 o_21) 1 (by decide) kw_194 (zI (μ x_1 1)) rfl dX9_drawn_42 ?_
        refine lv_aload C.1 C.2.1 dX9_drawn_45 (lv_at hl 0 rfl) ?_
        have g_47 : Rg (μ x_2 1) := zrgf0 (ci := 8) X.2.2.2 (zob.self o_28) (zo8 o_28) 1 rfl
        refine z_get C X zk8 (zob.self o_28) (zo8 o_28) 1 (by decide) kw_194 (zI (μ x_2 1)) rfl dX9_drawn_47 ?_
        refine z_icmpne C g_42 g_47 (tgt := 77) dX9_drawn_50 (by decide) (fun hc50 => ?_) (fun hc50 => ?_)
        · rw [if_neg hc50] at h
          refine z_bipush C dX9_drawn_77 (by decide) ?_
          obtain ⟨rfl, rfl⟩ := Prod.mk.inj (Option.some.inj h)
          exact rt X ⟨by decide, by decide⟩ dX9_drawn_79
        · rw [if_pos hc50] at h
          refine lv_aload_n C.1 C.2.1 dX9_drawn_53 rfl (lv_at hl 1 rfl) ?_
          have g_54 : Rg (μ x_1 3) := zrgf0 (ci := 8) X.2.2.2 (zob.self o_21) (zo8 o_21) 3 rfl
          refine z_get C X zk8 (zob.self o_21) (zo8 o_21) 3 (by decide) kw_203 (zI (μ x_1 3)) rfl dX9_drawn_54 ?_
          refine lv_aload C.1 C.2.1 dX9_drawn_57 (lv_at hl 0 rfl) ?_
          have g_59 : Rg (μ x_2 3) := zrgf0 (ci := 8) X.2.2.2 (zob.self o_28) (zo8 o_28) 3 rfl
          refine z_get C X zk8 (zob.self o_28) (zo8 o_28) 3 (by decide) kw_203 (zI (μ x_2 3)) rfl dX9_drawn_59 ?_
          refine z_icmpne C g_54 g_59 (tgt := 77) dX9_drawn_62 (by decide) (fun hc62 => ?_) (fun hc62 => ?_)
          · rw [if_neg hc62] at h
            refine z_bipush C dX9_drawn_77 (by decide) ?_
            obtain ⟨rfl, rfl⟩ := Prod.mk.inj (Option.some.inj h)
            exact rt X ⟨by decide, by decide⟩ dX9_drawn_79
          · rw [if_pos hc62] at h
            refine lv_aload_n C.1 C.2.1 dX9_drawn_65 rfl (lv_at hl 1 rfl) ?_
            have g_66 : Rg (μ x_1 4) := zrgf0 (ci := 8) X.2.2.2 (zob.self o_21) (zo8 o_21) 4 rfl
            refine z_get C X zk8 (zob.self o_21) (zo8 o_21) 4 (by decide) kw_205 (zI (μ x_1 4)) rfl dX9_drawn_66 ?_
            refine lv_aload C.1 C.2.1 dX9_drawn_69 (lv_at hl 0 rfl) ?_
            have g_71 : Rg (μ x_2 4) := zrgf0 (ci := 8) X.2.2.2 (zob.self o_28) (zo8 o_28) 4 rfl
            refine z_get C X zk8 (zob.self o_28) (zo8 o_28) 4 (by decide) kw_205 (zI (μ x_2 4)) rfl dX9_drawn_71 ?_
            refine z_icmpeq C g_66 g_71 (tgt := 80) dX9_drawn_74 (by decide) (fun hc74 => ?_) (fun hc74 => ?_)
            · rw [if_pos hc74] at h
              refine lv_aload_n C.1 C.2.1 dX9_drawn_80 rfl (lv_at hl 2 rfl) ?_
              refine z_get C X zk9 (hI.1 1 (by decide)) rfl 9 (by decide) kw_398 (zR Ω 33) (zfvF (off := 32) X.2.2.2 (hI.1 1 (by decide)) (hI.2 1 (by decide)) rfl rfl (by decide)) dX9_drawn_81 ?_
              refine lv_aload_n C.1 C.2.1 dX9_drawn_84 rfl (lv_at hl 2 rfl) ?_
              refine z_get C X zk9 (hI.1 1 (by decide)) rfl 0 (by decide) kw_389 (zR Ω 2) (zfvF (off := 1) X.2.2.2 (hI.1 1 (by decide)) (hI.2 1 (by decide)) rfl rfl (by decide)) dX9_drawn_85 ?_
              refine lv_aload_n C.1 C.2.1 dX9_drawn_88 rfl (lv_at hl 1 rfl) ?_
              have g_89 : Rg (μ x_1 1) := zrgf0 (ci := 8) X.2.2.2 (zob.self o_21) (zo8 o_21) 1 rfl
              refine z_get C X zk8 (zob.self o_21) (zo8 o_21) 1 (by decide) kw_194 (zI (μ x_1 1)) rfl dX9_drawn_89 ?_
              obtain ⟨hc92, h⟩ := chk_some h
              obtain ⟨hn92, h⟩ := chk_some h
              have o_92 := (zrg5 X.2.2.2 (hI.1 2 (by decide)) rfl (i := (μ x_1 1))).resolve_left hn92
              refine z_aald5 C X (hI.1 2 (by decide)) rfl hc92 dX9_drawn_92 ?_
              rw [zQ_pos Ω hn92]
              refine zlet_elim h (fun x_3 ex_3 h => ?_)
              rw [← ex_3] at o_92 ⊢
              clear hn92 ex_3
              refine lv_aload_n C.1 C.2.1 dX9_drawn_93 rfl (lv_at hl 1 rfl) ?_
              refine lv_aload C.1 C.2.1 dX9_drawn_94 (lv_at hl 0 rfl) ?_
              obtain ⟨x_4, μ_5, hq96, h⟩ := bnd2_some h
              refine z_callV1 C X zk0 (hI.1 33 (by decide)) rfl (As := [zR Ω x_3, zR Ω x_1, zR Ω x_2]) (M_X0_findApart hI μ x_3 x_1 x_2 o_92 o_21 o_28 hq96) zc_X0_findApart kw_887 (zroom (by decide) (by decide)) rfl hl.1 rfl (Nat.le_of_ble_eq_true rfl) dX9_drawn_96 ⟨Nat.zero_le _, Nat.zero_le _⟩ (fun H locs g_96 X => ?_)
              obtain ⟨rfl, rfl⟩ := Prod.mk.inj (Option.some.inj h)
              exact rt X g_96 dX9_drawn_99
            · rw [if_neg hc74] at h
              refine z_bipush C dX9_drawn_77 (by decide) ?_
              obtain ⟨rfl, rfl⟩ := Prod.mk.inj (Option.some.inj h)
              exact rt X ⟨by decide, by decide⟩ dX9_drawn_79
    · rw [if_pos hc11] at h
      refine z_iconst C dX9_drawn_14 ?_
      obtain ⟨rfl, rfl⟩ := Prod.mk.inj (Option.some.inj h)
      exact rt X ⟨by decide, by decide⟩ dX9_drawn_15
theorem zc_X9_drawn : zcal yX9_drawn cX9_drawn 5 (some Jvm.ClassFile.FieldType.int) RX9 2 := ⟨⟨kw_886, kw_884, kw_885, kw_1⟩, rfl, by decide, by decide, by decide +kernel⟩

def f_X9_areBits (x0 : Int) (x1 : Int) : Int :=
  if x0 < 0 then
    0
  else
    if x0 < (zshl 1 x1) then
      1
    else
      0
set_option maxHeartbeats 4000000 in
set_option maxRecDepth 100000 in
theorem M_X9_areBits {l : Launch} {Ω : zO} (hI : zIc Ω) (μ : zMem) (x0 : Int) (x1 : Int) (gx0 : Rg x0) (gx1 : Rg x1) : XMet l yX9_areBits cX9_areBits 2 (some Jvm.ClassFile.FieldType.boolean) 0 Ω [zI x0, zI x1] μ (some (zI (f_X9_areBits x0 x1))) (0 ≤ (f_X9_areBits x0 x1) ∧ (f_X9_areBits x0 x1) ≤ 1) μ := by
  obtain ⟨r, h⟩ : ∃ r, f_X9_areBits x0 x1 = r := ⟨_, rfl⟩
  rw [h]
  refine XMet.ofZ (by decide) (Nat.le_of_ble_eq_true rfl) ?_
  intro p e s m args below meth c ls Q C rt X hl
  have C : zC p s m args c cX9_areBits RX9 2 Ω := C
  have hl : lv_has ls 2 [(0, zI x0), (1, zI x1)] := hl
  unfold f_X9_areBits at h
  skip
  refine lv_iload_n C.1 C.2.1 dX9_areBits_0 rfl (lv_at hl 0 rfl) ?_
  refine z_iflt C gx0 (tgt := 15) dX9_areBits_1 (by decide) (fun hc1 => ?_) (fun hc1 => ?_)
  · rw [if_pos hc1] at h
    refine z_iconst C dX9_areBits_15 ?_
    subst h
    exact rt X ⟨by decide, by decide⟩ dX9_areBits_16
  · rw [if_neg hc1] at h
    refine lv_iload_n C.1 C.2.1 dX9_areBits_4 rfl (lv_at hl 0 rfl) ?_
    refine z_iconst C dX9_areBits_5 ?_
    refine lv_iload_n C.1 C.2.1 dX9_areBits_6 rfl (lv_at hl 1 rfl) ?_
    refine z_ishl C dX9_areBits_7 ?_
    refine z_icmpge C gx0 (Rg.t _) (tgt := 15) dX9_areBits_8 (by decide) (fun hc8 => ?_) (fun hc8 => ?_)
    · rw [if_neg hc8] at h
      refine z_iconst C dX9_areBits_15 ?_
      subst h
      exact rt X ⟨by decide, by decide⟩ dX9_areBits_16
    · rw [if_pos hc8] at h
      refine z_iconst C dX9_areBits_11 ?_
      refine lv_goto (tgt := 16) C.1 C.2.1 dX9_areBits_12 (by decide) ?_
      subst h
      exact rt X ⟨by decide, by decide⟩ dX9_areBits_16
theorem zc_X9_areBits : zcas yX9_areBits cX9_areBits 2 (some Jvm.ClassFile.FieldType.boolean) 2 := ⟨⟨kw_935, kw_934, kw_1⟩, by decide, by decide, by decide +kernel⟩

def f_X9_product_L70 (x2 : Int) (x3 : Int) (μ : zMem) (x_1 : Int) : Nat → Int → Int → Option Int
  | 0, _, _ => none
  | n + 1, x_4, x_5 =>
    if x_5 < (μ x_1 8) then
      bnd (f_X5_multiply x_1 x_5 x2 x3 μ) fun x_6 =>
      zlet ((zor x_4 (zshl x_6 x_5))) fun x_7 =>
      zlet (zw (x_5 + 1)) fun x_8 =>
      (f_X9_product_L70 x2 x3 μ x_1 n) x_7 x_8
    else
      some x_4
def f_X9_product (x1 : Int) (x2 : Int) (x3 : Int) (μ : zMem) : Option Int :=
  if (f_X9_isOwn x1) = 0 then
    some (-1)
  else
    chk ((0 : Int) ≤ x1 ∧ x1 < 2) <|
    chk ((μ 2 x1) ≠ 0) <|
    zlet (μ 2 x1) fun x_1 =>
    if (f_X9_areBits x2 (μ x_1 7)) = 0 then
      some (-1)
    else
      if (f_X9_areBits x3 (μ x_1 7)) = 0 then
        some (-1)
      else
        bnd (f_X5_isClass x_1 x2 μ) fun x_2 =>
        if x_2 = 0 then
          some (-2)
        else
          bnd (f_X5_isClass x_1 x3 μ) fun x_3 =>
          if x_3 = 0 then
            some (-2)
          else
            (f_X9_product_L70 x2 x3 μ x_1) zfu 0 0
set_option maxHeartbeats 4000000 in
set_option maxRecDepth 100000 in
theorem M_X9_product {l : Launch} {Ω : zO} (hI : zIc Ω) (μ : zMem) (x1 : Int) (x2 : Int) (x3 : Int) {r : Int} (gx1 : Rg x1) (gx2 : Rg x2) (gx3 : Rg x3) (h : f_X9_product x1 x2 x3 μ = some r) : XMet l yX9_product cX9_product 7 (some Jvm.ClassFile.FieldType.int) 2 Ω [zR Ω 1, zI x1, zI x2, zI x3] μ (some (zI r)) (Rg r) μ := by
  refine XMet.ofI (by decide) (Nat.le_of_ble_eq_true rfl) ?_
  intro p e s m args below meth c ls Q C rt X hl
  have C : zC p s m args c cX9_product RX9 7 Ω := C
  have hl : lv_has ls 7 [(0, zR Ω 1), (1, zI x1), (2, zI x2), (3, zI x3)] := hl
  unfold f_X9_product at h
  skip
  refine lv_iload_n C.1 C.2.1 dX9_product_0 rfl (lv_at hl 1 rfl) ?_
  refine z_callS1 C X (As := [zI x1]) (M_X9_isOwn hI μ x1 gx1) zc_X9_isOwn kw_427 (zroom (by decide) (by decide)) rfl hl.1 rfl (Nat.le_of_ble_eq_true rfl) dX9_product_1 ⟨Nat.zero_le _, Nat.zero_le _⟩ (fun H locs g_1 X => ?_)
  refine z_ifne C (rgz g_1) (tgt := 9) dX9_product_4 (by decide) (fun hc4 => ?_) (fun hc4 => ?_)
  · rw [if_neg hc4] at h
    refine lv_aload_n C.1 C.2.1 dX9_product_9 rfl (lv_at hl 0 rfl) ?_
    refine z_get C X zk9 (hI.1 1 (by decide)) rfl 0 (by decide) kw_389 (zR Ω 2) (zfvF (off := 1) X.2.2.2 (hI.1 1 (by decide)) (hI.2 1 (by decide)) rfl rfl (by decide)) dX9_product_10 ?_
    refine lv_iload_n C.1 C.2.1 dX9_product_13 rfl (lv_at hl 1 rfl) ?_
    obtain ⟨hc14, h⟩ := chk_some h
    obtain ⟨hn14, h⟩ := chk_some h
    have o_14 := (zrg5 X.2.2.2 (hI.1 2 (by decide)) rfl (i := x1)).resolve_left hn14
    refine z_aald5 C X (hI.1 2 (by decide)) rfl hc14 dX9_product_14 ?_
    rw [zQ_pos Ω hn14]
    refine zlet_elim h (fun x_1 ex_1 h => ?_)
    rw [← ex_1] at o_14 ⊢
    clear hn14 ex_1
    refine lv_astore C.1 C.2.1 (lv' := [(4, zR Ω x_1), (0, zR Ω 1), (1, zI x1), (2, zI x2), (3, zI x3)]) dX9_product_15 hl (by decide) rfl (fun ls hl => ?_)
    refine lv_iload_n C.1 C.2.1 dX9_product_17 rfl (lv_at hl 3 rfl) ?_
    refine lv_aload C.1 C.2.1 dX9_product_18 (lv_at hl 0 rfl) ?_
    have g_20 : Rg (μ x_1 7) := zrgf0 (ci := 5) X.2.2.2 (zob.self o_14) (zo5 o_14) 7 rfl
    refine z_get C X zk5 (zob.self o_14) (zo5 o_14) 7 (by decide) kw_84 (zI (μ x_1 7)) rfl dX9_product_20 ?_
    refine z_callS1 C X (As := [zI x2, zI (μ x_1 7)]) (M_X9_areBits hI μ x2 (μ x_1 7) gx2 g_20) zc_X9_areBits kw_933 (zroom (by decide) (by decide)) rfl hl.1 rfl (Nat.le_of_ble_eq_true rfl) dX9_product_23 ⟨Nat.zero_le _, Nat.zero_le _⟩ (fun H locs g_23 X => ?_)
    refine z_ifeq C (rgz g_23) (tgt := 41) dX9_product_26 (by decide) (fun hc26 => ?_) (fun hc26 => ?_)
    · rw [if_pos hc26] at h
      refine z_iconst C dX9_product_41 ?_
      obtain rfl := Option.some.inj h
      exact rt X ⟨by decide, by decide⟩ dX9_product_42
    · rw [if_neg hc26] at h
      refine lv_iload_n C.1 C.2.1 dX9_product_29 rfl (lv_at hl 4 rfl) ?_
      refine lv_aload C.1 C.2.1 dX9_product_30 (lv_at hl 0 rfl) ?_
      have g_32 : Rg (μ x_1 7) := zrgf0 (ci := 5) X.2.2.2 (zob.self o_14) (zo5 o_14) 7 rfl
      refine z_get C X zk5 (zob.self o_14) (zo5 o_14) 7 (by decide) kw_84 (zI (μ x_1 7)) rfl dX9_product_32 ?_
      refine z_callS1 C X (As := [zI x3, zI (μ x_1 7)]) (M_X9_areBits hI μ x3 (μ x_1 7) gx3 g_32) zc_X9_areBits kw_933 (zroom (by decide) (by decide)) rfl hl.1 rfl (Nat.le_of_ble_eq_true rfl) dX9_product_35 ⟨Nat.zero_le _, Nat.zero_le _⟩ (fun H locs g_35 X => ?_)
      refine z_ifne C (rgz g_35) (tgt := 43) dX9_product_38 (by decide) (fun hc38 => ?_) (fun hc38 => ?_)
      · rw [if_neg hc38] at h
        refine lv_aload C.1 C.2.1 dX9_product_43 (lv_at hl 0 rfl) ?_
        refine lv_iload_n C.1 C.2.1 dX9_product_45 rfl (lv_at hl 3 rfl) ?_
        obtain ⟨x_2, hq46, h⟩ := bnd_some h
        refine z_callV1 C X zk5 (zob.self o_14) (zo5 o_14) (As := [zI x2]) (M_X5_isClass μ x_1 x2 o_14 gx2 hq46) zc_X5_isClass kw_936 (zroom (by decide) (by decide)) rfl hl.1 rfl (Nat.le_of_ble_eq_true rfl) dX9_product_46 ⟨Nat.zero_le _, Nat.zero_le _⟩ (fun H locs g_46 X => ?_)
        refine z_ifeq C (rgz g_46) (tgt := 61) dX9_product_49 (by decide) (fun hc49 => ?_) (fun hc49 => ?_)
        · rw [if_pos hc49] at h
          refine z_bipush C dX9_product_61 (by decide) ?_
          obtain rfl := Option.some.inj h
          exact rt X ⟨by decide, by decide⟩ dX9_product_63
        · rw [if_neg hc49] at h
          refine lv_aload C.1 C.2.1 dX9_product_52 (lv_at hl 0 rfl) ?_
          refine lv_iload_n C.1 C.2.1 dX9_product_54 rfl (lv_at hl 4 rfl) ?_
          obtain ⟨x_3, hq55, h⟩ := bnd_some h
          refine z_callV1 C X zk5 (zob.self o_14) (zo5 o_14) (As := [zI x3]) (M_X5_isClass μ x_1 x3 o_14 gx3 hq55) zc_X5_isClass kw_936 (zroom (by decide) (by decide)) rfl hl.1 rfl (Nat.le_of_ble_eq_true rfl) dX9_product_55 ⟨Nat.zero_le _, Nat.zero_le _⟩ (fun H locs g_55 X => ?_)
          refine z_ifne C (rgz g_55) (tgt := 64) dX9_product_58 (by decide) (fun hc58 => ?_) (fun hc58 => ?_)
          · rw [if_neg hc58] at h
            refine z_iconst C dX9_product_64 ?_
            refine lv_istore C.1 C.2.1 (lv' := [(5, zI 0), (4, zR Ω x_1), (0, zR Ω 1), (1, zI x1), (2, zI x2), (3, zI x3)]) dX9_product_65 hl (by decide) rfl (fun ls hl => ?_)
            refine z_iconst C dX9_product_67 ?_
            refine lv_istore C.1 C.2.1 (lv' := [(6, zI 0), (5, zI 0), (4, zR Ω x_1), (0, zR Ω 1), (1, zI x1), (2, zI x2), (3, zI x3)]) dX9_product_68 hl (by decide) rfl (fun ls hl => ?_)
            have L70 : ∀ (n70 : Nat) (x_4 : Int) (x_5 : Int) (H : Heap) (locs : List Loc) (ls : Array Slot), Rg x_4 → Rg x_5 → zX Ω μ (zfree Ω) s.heap H locs → lv_has ls 7 [(2, zI x2), (3, zI x3), (4, zR Ω x_1), (5, zI x_4), (6, zI x_5)] → (f_X9_product_L70 x2 x3 μ x_1 n70 x_4 x_5) = some r → W p l e (zrm 2) s m args below meth c H locs 0 0 Q (F0 m 70 ls []) := by
              intro n70
              induction n70 with
              | zero =>
                intro x_4 x_5 H locs ls _ _ _ _ h
                cases h
              | succ n70 ih70 =>
                intro x_4 x_5 H locs ls gx_4 gx_5 X hl h
                unfold f_X9_product_L70 at h
                refine lv_iload C.1 C.2.1 dX9_product_70 (lv_at hl 4 rfl) ?_
                refine lv_aload C.1 C.2.1 dX9_product_72 (lv_at hl 2 rfl) ?_
                have g_74 : Rg (μ x_1 8) := zrgf0 (ci := 5) X.2.2.2 (zob.self o_14) (zo5 o_14) 8 rfl
                refine z_get C X zk5 (zob.self o_14) (zo5 o_14) 8 (by decide) kw_91 (zI (μ x_1 8)) rfl dX9_product_74 ?_
                refine z_icmpge C gx_5 g_74 (tgt := 103) dX9_product_77 (by decide) (fun hc77 => ?_) (fun hc77 => ?_)
                · rw [if_neg hc77] at h
                  refine lv_iload C.1 C.2.1 dX9_product_103 (lv_at hl 3 rfl) ?_
                  obtain rfl := Option.some.inj h
                  exact rt X gx_4 dX9_product_105
                · rw [if_pos hc77] at h
                  refine lv_iload C.1 C.2.1 dX9_product_80 (lv_at hl 3 rfl) ?_
                  refine lv_aload C.1 C.2.1 dX9_product_82 (lv_at hl 2 rfl) ?_
                  refine lv_iload C.1 C.2.1 dX9_product_84 (lv_at hl 4 rfl) ?_
                  refine lv_iload_n C.1 C.2.1 dX9_product_86 rfl (lv_at hl 0 rfl) ?_
                  refine lv_iload_n C.1 C.2.1 dX9_product_87 rfl (lv_at hl 1 rfl) ?_
                  obtain ⟨x_6, hq88, h⟩ := bnd_some h
                  refine z_callV1 C X zk5 (zob.self o_14) (zo5 o_14) (As := [zI x_5, zI x2, zI x3]) (M_X5_multiply μ x_1 x_5 x2 x3 o_14 gx_5 gx2 gx3 hq88) zc_X5_multiply kw_940 (zroom (by decide) (by decide)) rfl hl.1 rfl (Nat.le_of_ble_eq_true rfl) dX9_product_88 ⟨Nat.zero_le _, Nat.zero_le _⟩ (fun H locs g_88 X => ?_)
                  refine lv_iload C.1 C.2.1 dX9_product_91 (lv_at hl 4 rfl) ?_
                  refine z_ishl C dX9_product_93 ?_
                  refine z_ior C dX9_product_94 ?_
                  refine zlet_elim h (fun x_7 ex_7 h => ?_)
                  have gx_7 : Rg x_7 := by rw [ex_7]; exact (Rg.t _)
                  refine z_istore C ex_7 dX9_product_95 hl (by decide) (lv' := [(5, zI x_7), (2, zI x2), (3, zI x3), (4, zR Ω x_1), (6, zI x_5)]) rfl (fun ls hl => ?_)
                  clear ex_7
                  refine zlet_elim h (fun x_8 ex_8 h => ?_)
                  have gx_8 : Rg x_8 := by rw [ex_8]; exact Rg.w _
                  refine z_iinc C ex_8 dX9_product_97 hl (k := 4) rfl (by decide) (lv' := [(6, zI x_8), (5, zI x_7), (2, zI x2), (3, zI x3), (4, zR Ω x_1)]) rfl (fun ls hl => ?_)
                  clear ex_8
                  refine lv_goto (tgt := 70) C.1 C.2.1 dX9_product_100 (by decide) ?_
                  exact ih70 x_7 x_8 _ _ _ gx_7 gx_8 X (lv_sub hl [2, 3, 4, 1, 0] rfl) h
            exact L70 zfu 0 0 _ _ _ ⟨by decide, by decide⟩ ⟨by decide, by decide⟩ X (lv_sub hl [5, 6, 2, 1, 0] rfl) h
          · rw [if_pos hc58] at h
            refine z_bipush C dX9_product_61 (by decide) ?_
            obtain rfl := Option.some.inj h
            exact rt X ⟨by decide, by decide⟩ dX9_product_63
      · rw [if_pos hc38] at h
        refine z_iconst C dX9_product_41 ?_
        obtain rfl := Option.some.inj h
        exact rt X ⟨by decide, by decide⟩ dX9_product_42
  · rw [if_pos hc4] at h
    refine z_iconst C dX9_product_7 ?_
    obtain rfl := Option.some.inj h
    exact rt X ⟨by decide, by decide⟩ dX9_product_8
theorem zc_X9_product : zcal yX9_product cX9_product 7 (some Jvm.ClassFile.FieldType.int) RX9 3 := ⟨⟨kw_932, kw_930, kw_931, kw_1⟩, rfl, by decide, by decide, by decide +kernel⟩

def f_X9_nought (x1 : Int) (x2 : Int) (μ : zMem) : Option (Int × zMem) :=
  if (f_X9_isOwn x1) = 0 then
    some ((-1), μ)
  else
    chk ((0 : Int) ≤ x1 ∧ x1 < 2) <|
    chk ((μ 2 x1) ≠ 0) <|
    zlet (μ 2 x1) fun x_1 =>
    if (f_X9_areBits x2 (μ x_1 8)) = 0 then
      some ((-1), μ)
    else
      chk ((0 : Int) ≤ x1 ∧ x1 < 2) <|
      chk ((μ 2 x1) ≠ 0) <|
      zlet (μ 2 x1) fun x_2 =>
      bnd2 (f_X2_isSumOfEdges x_2 x2 μ) fun x_3 μ_4 =>
      if x_3 = 0 then
        some (0, μ_4)
      else
        some (1, μ_4)
set_option maxHeartbeats 4000000 in
set_option maxRecDepth 100000 in
theorem M_X9_nought {l : Launch} {Ω : zO} (hI : zIc Ω) (μ : zMem) (x1 : Int) (x2 : Int) {r : Int} {μ' : zMem} (gx1 : Rg x1) (gx2 : Rg x2) (h : f_X9_nought x1 x2 μ = some (r, μ')) : XMet l yX9_nought cX9_nought 3 (some Jvm.ClassFile.FieldType.int) 4 Ω [zR Ω 1, zI x1, zI x2] μ (some (zI r)) (Rg r) μ' := by
  refine XMet.ofI (by decide) (Nat.le_of_ble_eq_true rfl) ?_
  intro p e s m args below meth c ls Q C rt X hl
  have C : zC p s m args c cX9_nought RX9 3 Ω := C
  have hl : lv_has ls 3 [(0, zR Ω 1), (1, zI x1), (2, zI x2)] := hl
  unfold f_X9_nought at h
  skip
  refine lv_iload_n C.1 C.2.1 dX9_nought_0 rfl (lv_at hl 1 rfl) ?_
  refine z_callS1 C X (As := [zI x1]) (M_X9_isOwn hI μ x1 gx1) zc_X9_isOwn kw_427 (zroom (by decide) (by decide)) rfl hl.1 rfl (Nat.le_of_ble_eq_true rfl) dX9_nought_1 ⟨Nat.zero_le _, Nat.zero_le _⟩ (fun H locs g_1 X => ?_)
  refine z_ifeq C (rgz g_1) (tgt := 23) dX9_nought_4 (by decide) (fun hc4 => ?_) (fun hc4 => ?_)
  · rw [if_pos hc4] at h
    refine z_iconst C dX9_nought_23 ?_
    obtain ⟨rfl, rfl⟩ := Prod.mk.inj (Option.some.inj h)
    exact rt X ⟨by decide, by decide⟩ dX9_nought_24
  · rw [if_neg hc4] at h
    refine lv_iload_n C.1 C.2.1 dX9_nought_7 rfl (lv_at hl 2 rfl) ?_
    refine lv_aload_n C.1 C.2.1 dX9_nought_8 rfl (lv_at hl 0 rfl) ?_
    refine z_get C X zk9 (hI.1 1 (by decide)) rfl 0 (by decide) kw_389 (zR Ω 2) (zfvF (off := 1) X.2.2.2 (hI.1 1 (by decide)) (hI.2 1 (by decide)) rfl rfl (by decide)) dX9_nought_9 ?_
    refine lv_iload_n C.1 C.2.1 dX9_nought_12 rfl (lv_at hl 1 rfl) ?_
    obtain ⟨hc13, h⟩ := chk_some h
    obtain ⟨hn13, h⟩ := chk_some h
    have o_13 := (zrg5 X.2.2.2 (hI.1 2 (by decide)) rfl (i := x1)).resolve_left hn13
    refine z_aald5 C X (hI.1 2 (by decide)) rfl hc13 dX9_nought_13 ?_
    rw [zQ_pos Ω hn13]
    refine zlet_elim h (fun x_1 ex_1 h => ?_)
    rw [← ex_1] at o_13 ⊢
    clear hn13 ex_1
    have g_14 : Rg (μ x_1 8) := zrgf0 (ci := 5) X.2.2.2 (zob.self o_13) (zo5 o_13) 8 rfl
    refine z_get C X zk5 (zob.self o_13) (zo5 o_13) 8 (by decide) kw_91 (zI (μ x_1 8)) rfl dX9_nought_14 ?_
    refine z_callS1 C X (As := [zI x2, zI (μ x_1 8)]) (M_X9_areBits hI μ x2 (μ x_1 8) gx2 g_14) zc_X9_areBits kw_933 (zroom (by decide) (by decide)) rfl hl.1 rfl (Nat.le_of_ble_eq_true rfl) dX9_nought_17 ⟨Nat.zero_le _, Nat.zero_le _⟩ (fun H locs g_17 X => ?_)
    refine z_ifne C (rgz g_17) (tgt := 25) dX9_nought_20 (by decide) (fun hc20 => ?_) (fun hc20 => ?_)
    · rw [if_neg hc20] at h
      refine lv_aload_n C.1 C.2.1 dX9_nought_25 rfl (lv_at hl 0 rfl) ?_
      refine z_get C X zk9 (hI.1 1 (by decide)) rfl 7 (by decide) kw_396 (zR Ω 23) (zfvF (off := 22) X.2.2.2 (hI.1 1 (by decide)) (hI.2 1 (by decide)) rfl rfl (by decide)) dX9_nought_26 ?_
      refine lv_aload_n C.1 C.2.1 dX9_nought_29 rfl (lv_at hl 0 rfl) ?_
      refine z_get C X zk9 (hI.1 1 (by decide)) rfl 0 (by decide) kw_389 (zR Ω 2) (zfvF (off := 1) X.2.2.2 (hI.1 1 (by decide)) (hI.2 1 (by decide)) rfl rfl (by decide)) dX9_nought_30 ?_
      refine lv_iload_n C.1 C.2.1 dX9_nought_33 rfl (lv_at hl 1 rfl) ?_
      obtain ⟨hc34, h⟩ := chk_some h
      obtain ⟨hn34, h⟩ := chk_some h
      have o_34 := (zrg5 X.2.2.2 (hI.1 2 (by decide)) rfl (i := x1)).resolve_left hn34
      refine z_aald5 C X (hI.1 2 (by decide)) rfl hc34 dX9_nought_34 ?_
      rw [zQ_pos Ω hn34]
      refine zlet_elim h (fun x_2 ex_2 h => ?_)
      rw [← ex_2] at o_34 ⊢
      clear hn34 ex_2
      refine lv_iload_n C.1 C.2.1 dX9_nought_35 rfl (lv_at hl 2 rfl) ?_
      obtain ⟨x_3, μ_4, hq36, h⟩ := bnd2_some h
      refine z_callV1 C X zk2 (hI.1 23 (by decide)) rfl (As := [zR Ω x_2, zI x2]) (M_X2_isSumOfEdges hI μ x_2 x2 o_34 gx2 hq36) zc_X2_isSumOfEdges kw_948 (zroom (by decide) (by decide)) rfl hl.1 rfl (Nat.le_of_ble_eq_true rfl) dX9_nought_36 ⟨Nat.zero_le _, Nat.zero_le _⟩ (fun H locs g_36 X => ?_)
      refine z_ifeq C (rgz g_36) (tgt := 46) dX9_nought_39 (by decide) (fun hc39 => ?_) (fun hc39 => ?_)
      · rw [if_pos hc39] at h
        refine z_iconst C dX9_nought_46 ?_
        obtain ⟨rfl, rfl⟩ := Prod.mk.inj (Option.some.inj h)
        exact rt X ⟨by decide, by decide⟩ dX9_nought_47
      · rw [if_neg hc39] at h
        refine z_iconst C dX9_nought_42 ?_
        refine lv_goto (tgt := 47) C.1 C.2.1 dX9_nought_43 (by decide) ?_
        obtain ⟨rfl, rfl⟩ := Prod.mk.inj (Option.some.inj h)
        exact rt X ⟨by decide, by decide⟩ dX9_nought_47
    · rw [if_pos hc20] at h
      refine z_iconst C dX9_nought_23 ?_
      obtain ⟨rfl, rfl⟩ := Prod.mk.inj (Option.some.inj h)
      exact rt X ⟨by decide, by decide⟩ dX9_nought_24
theorem zc_X9_nought : zcal yX9_nought cX9_nought 3 (some Jvm.ClassFile.FieldType.int) RX9 2 := ⟨⟨kw_947, kw_945, kw_946, kw_1⟩, rfl, by decide, by decide, by decide +kernel⟩

def f_X9_fold (x1 : Int) (μ : zMem) : Option (Int × zMem) :=
  if (f_X9_isOwn x1) = 0 then
    some ((-1), μ)
  else
    chk ((0 : Int) ≤ x1 ∧ x1 < 2) <|
    chk ((μ 2 x1) ≠ 0) <|
    zlet (μ 2 x1) fun x_1 =>
    bnd2 (f_X5_collapse x_1 μ) fun x_2 μ_3 =>
    chk ((0 : Int) ≤ x1 ∧ x1 < 2) <|
    chk ((μ_3 2 x1) ≠ 0) <|
    zlet (μ_3 2 x1) fun x_4 =>
    bnd (f_X5_findPart x_4 μ_3) fun μ_5 =>
    bnd (f_X9_emptySlots x1 μ_5) fun μ_6 =>
    some (x_2, μ_6)
set_option maxHeartbeats 4000000 in
set_option maxRecDepth 100000 in
theorem M_X9_fold {l : Launch} {Ω : zO} (hI : zIc Ω) (μ : zMem) (x1 : Int) {r : Int} {μ' : zMem} (gx1 : Rg x1) (h : f_X9_fold x1 μ = some (r, μ')) : XMet l yX9_fold cX9_fold 3 (some Jvm.ClassFile.FieldType.int) 4 Ω [zR Ω 1, zI x1] μ (some (zI r)) (Rg r) μ' := by
  refine XMet.ofI (by decide) (Nat.le_of_ble_eq_true rfl) ?_
  intro p e s m args below meth c ls Q C rt X hl
  have C : zC p s m args c cX9_fold RX9 3 Ω := C
  have hl : lv_has ls 3 [(0, zR Ω 1), (1, zI x1)] := hl
  unfold f_X9_fold at h
  skip
  refine lv_iload_n C.1 C.2.1 dX9_fold_0 rfl (lv_at hl 1 rfl) ?_
  refine z_callS1 C X (As := [zI x1]) (M_X9_isOwn hI μ x1 gx1) zc_X9_isOwn kw_427 (zroom (by decide) (by decide)) rfl hl.1 rfl (Nat.le_of_ble_eq_true rfl) dX9_fold_1 ⟨Nat.zero_le _, Nat.zero_le _⟩ (fun H locs g_1 X => ?_)
  refine z_ifne C (rgz g_1) (tgt := 9) dX9_fold_4 (by decide) (fun hc4 => ?_) (fun hc4 => ?_)
  · rw [if_neg hc4] at h
    refine lv_aload_n C.1 C.2.1 dX9_fold_9 rfl (lv_at hl 0 rfl) ?_
    refine z_get C X zk9 (hI.1 1 (by decide)) rfl 0 (by decide) kw_389 (zR Ω 2) (zfvF (off := 1) X.2.2.2 (hI.1 1 (by decide)) (hI.2 1 (by decide)) rfl rfl (by decide)) dX9_fold_10 ?_
    refine lv_iload_n C.1 C.2.1 dX9_fold_13 rfl (lv_at hl 1 rfl) ?_
    obtain ⟨hc14, h⟩ := chk_some h
    obtain ⟨hn14, h⟩ := chk_some h
    have o_14 := (zrg5 X.2.2.2 (hI.1 2 (by decide)) rfl (i := x1)).resolve_left hn14
    refine z_aald5 C X (hI.1 2 (by decide)) rfl hc14 dX9_fold_14 ?_
    rw [zQ_pos Ω hn14]
    refine zlet_elim h (fun x_1 ex_1 h => ?_)
    rw [← ex_1] at o_14 ⊢
    clear hn14 ex_1
    obtain ⟨x_2, μ_3, hq15, h⟩ := bnd2_some h
    refine z_callV1 C X zk5 (zob.self o_14) (zo5 o_14) (As := []) (M_X5_collapse μ x_1 o_14 hq15) zc_X5_collapse kw_972 (zroom (by decide) (by decide)) rfl hl.1 rfl (Nat.le_of_ble_eq_true rfl) dX9_fold_15 ⟨Nat.zero_le _, Nat.zero_le _⟩ (fun H locs g_15 X => ?_)
    refine lv_istore_n C.1 C.2.1 (lv' := [(2, zI x_2), (0, zR Ω 1), (1, zI x1)]) dX9_fold_18 rfl hl (by decide) rfl (fun ls hl => ?_)
    refine lv_aload_n C.1 C.2.1 dX9_fold_19 rfl (lv_at hl 1 rfl) ?_
    refine z_get C X zk9 (hI.1 1 (by decide)) rfl 0 (by decide) kw_389 (zR Ω 2) (zfvF (off := 1) X.2.2.2 (hI.1 1 (by decide)) (hI.2 1 (by decide)) rfl rfl (by decide)) dX9_fold_20 ?_
    refine lv_iload_n C.1 C.2.1 dX9_fold_23 rfl (lv_at hl 2 rfl) ?_
    obtain ⟨hc24, h⟩ := chk_some h
    obtain ⟨hn24, h⟩ := chk_some h
    have o_24 := (zrg5 X.2.2.2 (hI.1 2 (by decide)) rfl (i := x1)).resolve_left hn24
    refine z_aald5 C X (hI.1 2 (by decide)) rfl hc24 dX9_fold_24 ?_
    rw [zQ_pos Ω hn24]
    refine zlet_elim h (fun x_4 ex_4 h => ?_)
    rw [← ex_4] at o_24 ⊢
    clear hn24 ex_4
    obtain ⟨μ_5, hq25, h⟩ := bnd_some h
    refine z_callV0 C X zk5 (zob.self o_24) (zo5 o_24) (As := []) (M_X5_findPart μ_3 x_4 o_24 hq25) zc_X5_findPart kw_431 (zroom (by decide) (by decide)) rfl hl.1 rfl (Nat.le_of_ble_eq_true rfl) dX9_fold_25 ⟨Nat.zero_le _, Nat.zero_le _⟩ (fun H locs g_25 X => ?_)
    refine lv_aload_n C.1 C.2.1 dX9_fold_28 rfl (lv_at hl 1 rfl) ?_
    refine lv_iload_n C.1 C.2.1 dX9_fold_29 rfl (lv_at hl 2 rfl) ?_
    obtain ⟨μ_6, hq30, h⟩ := bnd_some h
    refine z_callV0 C X zk9 (hI.1 1 (by decide)) rfl (As := [zI x1]) (M_X9_emptySlots hI μ_5 x1 gx1 hq30) zc_X9_emptySlots kw_432 (zroom (by decide) (by decide)) rfl hl.1 rfl (Nat.le_of_ble_eq_true rfl) dX9_fold_30 ⟨Nat.zero_le _, Nat.zero_le _⟩ (fun H locs g_30 X => ?_)
    refine lv_iload_n C.1 C.2.1 dX9_fold_33 rfl (lv_at hl 0 rfl) ?_
    obtain ⟨rfl, rfl⟩ := Prod.mk.inj (Option.some.inj h)
    exact rt X g_15 dX9_fold_34
  · rw [if_pos hc4] at h
    refine z_iconst C dX9_fold_7 ?_
    obtain ⟨rfl, rfl⟩ := Prod.mk.inj (Option.some.inj h)
    exact rt X ⟨by decide, by decide⟩ dX9_fold_8
theorem zc_X9_fold : zcal yX9_fold cX9_fold 3 (some Jvm.ClassFile.FieldType.int) RX9 1 := ⟨⟨kw_971, kw_969, kw_970, kw_1⟩, rfl, by decide, by decide, by decide +kernel⟩

