def f_X5_numberTurns_L7 (t0 : Int) : Nat → Int → zMem → Option zMem
  | 0, _, _ => none
  | n + 1, x_2, μ_3 =>
    if x_2 < (μ_3 t0 7) then
      chk ((0 : Int) ≤ x_2 ∧ x_2 < zlen (t0 + 3)) <|
      if (μ_3 (t0 + 3) x_2) = (-1) then
        zlet (zw (x_2 + 1)) fun x_4 =>
        (f_X5_numberTurns_L7 t0 n) x_4 μ_3
      else
        chk ((0 : Int) ≤ x_2 ∧ x_2 < zlen (t0 + 1)) <|
        chk ((0 : Int) ≤ (μ_3 (t0 + 1) x_2) ∧ (μ_3 (t0 + 1) x_2) < zlen (t0 + 4)) <|
        if (μ_3 (t0 + 4) (μ_3 (t0 + 1) x_2)) = 0 then
          zlet (zw (x_2 + 1)) fun x_5 =>
          (f_X5_numberTurns_L7 t0 n) x_5 μ_3
        else
          chk ((0 : Int) ≤ x_2 ∧ x_2 < zlen (t0 + 3)) <|
          zlet (zup μ_3 (t0 + 3) x_2 (μ_3 t0 10)) fun μ_6 =>
          zlet (zup μ_6 t0 10 (zw ((μ_6 t0 10) + 1))) fun μ_7 =>
          zlet (zw (x_2 + 1)) fun x_8 =>
          (f_X5_numberTurns_L7 t0 n) x_8 μ_7
    else
      some μ_3
def f_X5_numberTurns (t0 : Int) (μ : zMem) : Option zMem :=
  zlet (zup μ t0 10 0) fun μ_1 =>
  (f_X5_numberTurns_L7 t0) zfu 0 μ_1
set_option maxHeartbeats 4000000 in
set_option maxRecDepth 100000 in
theorem M_X5_numberTurns {l : Launch} {Ω : zO} (μ : zMem) (t0 : Int) {μ' : zMem} (o_t0 : zob Ω.2.2.1 5 t0) (h : f_X5_numberTurns t0 μ = some μ') : XMet l yX5_numberTurns cX5_numberTurns 2 none 0 Ω [zR Ω t0] μ none True μ' := by
  refine XMet.ofV (by decide) (Nat.le_of_ble_eq_true rfl) ?_
  intro p e s m args below meth c ls Q C rt X hl
  have C : zC p s m args c cX5_numberTurns RX5 2 Ω := C
  have hl : lv_has ls 2 [(0, zR Ω t0)] := hl
  unfold f_X5_numberTurns at h
  skip
  refine lv_aload_n C.1 C.2.1 dX5_numberTurns_0 rfl (lv_at hl 0 rfl) ?_
  refine z_iconst C dX5_numberTurns_1 ?_
  refine zlet_elim h (fun μ_1 em h => ?_)
  refine z_putI C X zk5 (zob.self o_t0) (zo5 o_t0) 10 (by decide) kw_99 rfl rfl rfl rfl ⟨by decide, by decide⟩ em dX5_numberTurns_2 (fun H locs X => ?_)
  clear em
  refine z_iconst C dX5_numberTurns_5 ?_
  refine lv_istore_n C.1 C.2.1 (lv' := [(1, zI 0), (0, zR Ω t0)]) dX5_numberTurns_6 rfl hl (by decide) rfl (fun ls hl => ?_)
  have L7 : ∀ (n7 : Nat) (x_2 : Int) (μ_3 : zMem) (H : Heap) (locs : List Loc) (ls : Array Slot), Rg x_2 → zX Ω μ_3 (zfree Ω) s.heap H locs → lv_has ls 2 [(0, zR Ω t0), (1, zI x_2)] → (f_X5_numberTurns_L7 t0 n7 x_2 μ_3) = some μ' → W p l e (zrm 0) s m args below meth c H locs 0 0 Q (F0 m 7 ls []) := by
    intro n7
    induction n7 with
    | zero =>
      intro x_2 μ_3 H locs ls _ _ _ h
      cases h
    | succ n7 ih7 =>
      intro x_2 μ_3 H locs ls gx_2 X hl h
      unfold f_X5_numberTurns_L7 at h
      refine lv_iload_n C.1 C.2.1 dX5_numberTurns_7 rfl (lv_at hl 1 rfl) ?_
      refine lv_aload_n C.1 C.2.1 dX5_numberTurns_8 rfl (lv_at hl 0 rfl) ?_
      have g_9 : Rg (μ_3 t0 7) := zrgf0 (ci := 5) X.2.2.2 (zob.self o_t0) (zo5 o_t0) 7 rfl
      refine z_get C X zk5 (zob.self o_t0) (zo5 o_t0) 7 (by decide) kw_83 (zI (μ_3 t0 7)) rfl dX5_numberTurns_9 ?_
      refine z_icmpge C gx_2 g_9 (tgt := 65) dX5_numberTurns_12 (by decide) (fun hc12 => ?_) (fun hc12 => ?_)
      · rw [if_neg hc12] at h
        obtain rfl := Option.some.inj h
        exact rt X dX5_numberTurns_65
      · rw [if_pos hc12] at h
        refine lv_aload_n C.1 C.2.1 dX5_numberTurns_15 rfl (lv_at hl 0 rfl) ?_
        refine z_get C X zk5 (zob.self o_t0) (zo5 o_t0) 2 (by decide) kw_64 (zR Ω (t0 + 3)) (zfvF (off := 3) X.2.2.2 (zob.self o_t0) o_t0.2.2 (zo5 o_t0) rfl (by rw [zo5_3 o_t0]; decide)) dX5_numberTurns_16 ?_
        refine lv_iload_n C.1 C.2.1 dX5_numberTurns_19 rfl (lv_at hl 1 rfl) ?_
        obtain ⟨hc20, h⟩ := chk_some h
        have g_20 : Rg (μ_3 (t0 + 3) x_2) := zrg1 X.2.2.2 (o_t0.2.1 3 (by decide) (by decide)) (zo5_3 o_t0)
        refine z_iald C X (o_t0.2.1 3 (by decide) (by decide)) (zo5_3 o_t0) hc20 dX5_numberTurns_20 ?_
        refine z_iconst C dX5_numberTurns_21 ?_
        refine z_icmpeq C g_20 ⟨by decide, by decide⟩ (tgt := 59) dX5_numberTurns_22 (by decide) (fun hc22 => ?_) (fun hc22 => ?_)
        · rw [if_pos hc22] at h
          refine zlet_elim h (fun x_4 ex_4 h => ?_)
          have gx_4 : Rg x_4 := by rw [ex_4]; exact Rg.w _
          refine z_iinc C ex_4 dX5_numberTurns_59 hl (k := 1) rfl (by decide) (lv' := [(1, zI x_4), (0, zR Ω t0)]) rfl (fun ls hl => ?_)
          clear ex_4
          refine lv_goto (tgt := 7) C.1 C.2.1 dX5_numberTurns_62 (by decide) ?_
          exact ih7 x_4 μ_3 _ _ _ gx_4 X (lv_sub hl [1, 0] rfl) h
        · rw [if_neg hc22] at h
          refine lv_aload_n C.1 C.2.1 dX5_numberTurns_25 rfl (lv_at hl 0 rfl) ?_
          refine z_get C X zk5 (zob.self o_t0) (zo5 o_t0) 3 (by decide) kw_68 (zR Ω (t0 + 4)) (zfvF (off := 4) X.2.2.2 (zob.self o_t0) o_t0.2.2 (zo5 o_t0) rfl (by rw [zo5_4 o_t0]; decide)) dX5_numberTurns_26 ?_
          refine lv_aload_n C.1 C.2.1 dX5_numberTurns_29 rfl (lv_at hl 0 rfl) ?_
          refine z_get C X zk5 (zob.self o_t0) (zo5 o_t0) 0 (by decide) kw_56 (zR Ω (t0 + 1)) (zfvF (off := 1) X.2.2.2 (zob.self o_t0) o_t0.2.2 (zo5 o_t0) rfl (by rw [zo5_1 o_t0]; decide)) dX5_numberTurns_30 ?_
          refine lv_iload_n C.1 C.2.1 dX5_numberTurns_33 rfl (lv_at hl 1 rfl) ?_
          obtain ⟨hc34, h⟩ := chk_some h
          have g_34 : Rg (μ_3 (t0 + 1) x_2) := zrg1 X.2.2.2 (o_t0.2.1 1 (by decide) (by decide)) (zo5_1 o_t0)
          refine z_iald C X (o_t0.2.1 1 (by decide) (by decide)) (zo5_1 o_t0) hc34 dX5_numberTurns_34 ?_
          obtain ⟨hc35, h⟩ := chk_some h
          have g_35 : 0 ≤ (μ_3 (t0 + 4) (μ_3 (t0 + 1) x_2)) ∧ (μ_3 (t0 + 4) (μ_3 (t0 + 1) x_2)) ≤ 1 := zrg3 X.2.2.2 (o_t0.2.1 4 (by decide) (by decide)) (zo5_4 o_t0)
          refine z_zald C X (o_t0.2.1 4 (by decide) (by decide)) (zo5_4 o_t0) hc35 dX5_numberTurns_35 ?_
          refine z_ifeq C (rgz g_35) (tgt := 59) dX5_numberTurns_36 (by decide) (fun hc36 => ?_) (fun hc36 => ?_)
          · rw [if_pos hc36] at h
            refine zlet_elim h (fun x_5 ex_5 h => ?_)
            have gx_5 : Rg x_5 := by rw [ex_5]; exact Rg.w _
            refine z_iinc C ex_5 dX5_numberTurns_59 hl (k := 1) rfl (by decide) (lv' := [(1, zI x_5), (0, zR Ω t0)]) rfl (fun ls hl => ?_)
            clear ex_5
            refine lv_goto (tgt := 7) C.1 C.2.1 dX5_numberTurns_62 (by decide) ?_
            exact ih7 x_5 μ_3 _ _ _ gx_5 X (lv_sub hl [1, 0] rfl) h
          · rw [if_neg hc36] at h
            refine lv_aload_n C.1 C.2.1 dX5_numberTurns_39 rfl (lv_at hl 0 rfl) ?_
            refine z_get C X zk5 (zob.self o_t0) (zo5 o_t0) 2 (by decide) kw_64 (zR Ω (t0 + 3)) (zfvF (off := 3) X.2.2.2 (zob.self o_t0) o_t0.2.2 (zo5 o_t0) rfl (by rw [zo5_3 o_t0]; decide)) dX5_numberTurns_40 ?_
            refine lv_iload_n C.1 C.2.1 dX5_numberTurns_43 rfl (lv_at hl 1 rfl) ?_
            refine lv_aload_n C.1 C.2.1 dX5_numberTurns_44 rfl (lv_at hl 0 rfl) ?_
            have g_45 : Rg (μ_3 t0 10) := zrgf0 (ci := 5) X.2.2.2 (zob.self o_t0) (zo5 o_t0) 10 rfl
            refine z_get C X zk5 (zob.self o_t0) (zo5 o_t0) 10 (by decide) kw_99 (zI (μ_3 t0 10)) rfl dX5_numberTurns_45 ?_
            obtain ⟨hc48, h⟩ := chk_some h
            refine zlet_elim h (fun μ_6 em h => ?_)
            refine z_iast C X (o_t0.2.1 3 (by decide) (by decide)) (zo5_3 o_t0) hc48 (zok1 (zo5_3 o_t0) g_45) em dX5_numberTurns_48 (fun H locs X => ?_)
            clear em
            refine lv_aload_n C.1 C.2.1 dX5_numberTurns_49 rfl (lv_at hl 0 rfl) ?_
            refine lv_dup C.1 C.2.1 dX5_numberTurns_50 rfl ?_
            have g_51 : Rg (μ_6 t0 10) := zrgf0 (ci := 5) X.2.2.2 (zob.self o_t0) (zo5 o_t0) 10 rfl
            refine z_get C X zk5 (zob.self o_t0) (zo5 o_t0) 10 (by decide) kw_99 (zI (μ_6 t0 10)) rfl dX5_numberTurns_51 ?_
            refine z_iconst C dX5_numberTurns_54 ?_
            refine z_iadd C dX5_numberTurns_55 ?_
            refine zlet_elim h (fun μ_7 em h => ?_)
            refine z_putI C X zk5 (zob.self o_t0) (zo5 o_t0) 10 (by decide) kw_99 rfl rfl rfl rfl (Rg.w _) em dX5_numberTurns_56 (fun H locs X => ?_)
            clear em
            refine zlet_elim h (fun x_8 ex_8 h => ?_)
            have gx_8 : Rg x_8 := by rw [ex_8]; exact Rg.w _
            refine z_iinc C ex_8 dX5_numberTurns_59 hl (k := 1) rfl (by decide) (lv' := [(1, zI x_8), (0, zR Ω t0)]) rfl (fun ls hl => ?_)
            clear ex_8
            refine lv_goto (tgt := 7) C.1 C.2.1 dX5_numberTurns_62 (by decide) ?_
            exact ih7 x_8 μ_7 _ _ _ gx_8 X (lv_sub hl [1, 0] rfl) h
  exact L7 zfu 0 μ_1 _ _ _ ⟨by decide, by decide⟩ X (lv_sub hl [1, 0] rfl) h
theorem zc_X5_numberTurns : zcal yX5_numberTurns cX5_numberTurns 2 none RX5 0 := ⟨⟨kw_55, kw_54, kp_1, kw_3⟩, rfl, by decide, by decide, by decide +kernel⟩

def f_X5_findPart_K130 (t0 : Int) (μ_5 : zMem) : Option zMem :=
  bnd (f_X5_numberTurns t0 μ_5) fun μ_6 =>
  some μ_6
def f_X5_findPart_L65 (t0 : Int) (g130 : zMem → Option zMem) : Nat → Int → zMem → Option zMem
  | 0, _, _ => none
  | n + 1, x_7, μ_8 =>
    if (μ_8 t0 9) < (μ_8 t0 6) then
      if x_7 = (-1) then
        g130 μ_8
      else
        chk ((0 : Int) ≤ x_7 ∧ x_7 < zlen (t0 + 3)) <|
        zlet (zup μ_8 (t0 + 3) x_7 (-1)) fun μ_9 =>
        chk ((0 : Int) ≤ x_7 ∧ x_7 < zlen (t0 + 1)) <|
        chk ((0 : Int) ≤ (μ_9 (t0 + 1) x_7) ∧ (μ_9 (t0 + 1) x_7) < zlen (t0 + 4)) <|
        zlet (zup μ_9 (t0 + 4) (μ_9 (t0 + 1) x_7) (zz 1)) fun μ_10 =>
        chk ((0 : Int) ≤ x_7 ∧ x_7 < zlen (t0 + 2)) <|
        chk ((0 : Int) ≤ (μ_10 (t0 + 2) x_7) ∧ (μ_10 (t0 + 2) x_7) < zlen (t0 + 4)) <|
        zlet (zup μ_10 (t0 + 4) (μ_10 (t0 + 2) x_7) (zz 1)) fun μ_11 =>
        zlet (zup μ_11 t0 9 (zw ((μ_11 t0 9) + 1))) fun μ_12 =>
        bnd (f_X5_leastLeadingOut t0 μ_12) fun x_13 =>
        (f_X5_findPart_L65 t0 g130 n) x_13 μ_12
    else
      g130 μ_8
def f_X5_findPart_K55 (t0 : Int) (μ_2 : zMem) : Option zMem :=
  zlet (zup μ_2 t0 9 1) fun μ_3 =>
  bnd (f_X5_leastLeadingOut t0 μ_3) fun x_4 =>
  (f_X5_findPart_L65 t0 (f_X5_findPart_K130 t0)) zfu x_4 μ_3
def f_X5_findPart_L33 (t0 : Int) (g55 : zMem → Option zMem) : Nat → Int → zMem → Option zMem
  | 0, _, _ => none
  | n + 1, x_14, μ_15 =>
    if x_14 < (μ_15 t0 7) then
      chk ((0 : Int) ≤ x_14 ∧ x_14 < zlen (t0 + 3)) <|
      zlet (zup μ_15 (t0 + 3) x_14 (-2)) fun μ_16 =>
      zlet (zw (x_14 + 1)) fun x_17 =>
      (f_X5_findPart_L33 t0 g55 n) x_17 μ_16
    else
      g55 μ_15
def f_X5_findPart_K31 (t0 : Int) (μ_1 : zMem) : Option zMem :=
  (f_X5_findPart_L33 t0 (f_X5_findPart_K55 t0)) zfu 0 μ_1
def f_X5_findPart_J24 (t0 : Int) (x_18 : Int) (g2 : Int → zMem → Option zMem) (x_20 : Int) (μ_21 : zMem) : Option zMem :=
  chk ((0 : Int) ≤ x_18 ∧ x_18 < zlen (t0 + 4)) <|
  zlet (zup μ_21 (t0 + 4) x_18 (zz x_20)) fun μ_22 =>
  zlet (zw (x_18 + 1)) fun x_23 =>
  g2 x_23 μ_22
def f_X5_findPart_L2 (t0 : Int) (g31 : zMem → Option zMem) : Nat → Int → zMem → Option zMem
  | 0, _, _ => none
  | n + 1, x_18, μ_19 =>
    if x_18 < (μ_19 t0 6) then
      (f_X5_findPart_J24 t0 x_18 (f_X5_findPart_L2 t0 g31 n)) (if x_18 = 0 then 1 else 0) μ_19
    else
      g31 μ_19
def f_X5_findPart (t0 : Int) (μ : zMem) : Option zMem :=
  (f_X5_findPart_L2 t0 (f_X5_findPart_K31 t0)) zfu 0 μ
set_option maxHeartbeats 4000000 in
set_option maxRecDepth 100000 in
theorem M_X5_findPart {l : Launch} {Ω : zO} (μ : zMem) (t0 : Int) {μ' : zMem} (o_t0 : zob Ω.2.2.1 5 t0) (h : f_X5_findPart t0 μ = some μ') : XMet l yX5_findPart cX5_findPart 2 none 1 Ω [zR Ω t0] μ none True μ' := by
  refine XMet.ofV (by decide) (Nat.le_of_ble_eq_true rfl) ?_
  intro p e s m args below meth c ls Q C rt X hl
  have C : zC p s m args c cX5_findPart RX5 2 Ω := C
  have hl : lv_has ls 2 [(0, zR Ω t0)] := hl
  unfold f_X5_findPart at h
  skip
  refine z_iconst C dX5_findPart_0 ?_
  refine lv_istore_n C.1 C.2.1 (lv' := [(1, zI 0), (0, zR Ω t0)]) dX5_findPart_1 rfl hl (by decide) rfl (fun ls hl => ?_)
  have K31 : ∀ (μ_1 : zMem) (H : Heap) (locs : List Loc) (ls : Array Slot), zX Ω μ_1 (zfree Ω) s.heap H locs → lv_has ls 2 [(0, zR Ω t0)] → (f_X5_findPart_K31 t0) μ_1 = some μ' → W p l e (zrm 1) s m args below meth c H locs 0 0 Q (F0 m 31 ls []) := by
    intro μ_1 H locs ls  X hl h
    unfold f_X5_findPart_K31 at h
    refine z_iconst C dX5_findPart_31 ?_
    refine lv_istore_n C.1 C.2.1 (lv' := [(1, zI 0), (0, zR Ω t0)]) dX5_findPart_32 rfl hl (by decide) rfl (fun ls hl => ?_)
    have K55 : ∀ (μ_2 : zMem) (H : Heap) (locs : List Loc) (ls : Array Slot), zX Ω μ_2 (zfree Ω) s.heap H locs → lv_has ls 2 [(0, zR Ω t0)] → (f_X5_findPart_K55 t0) μ_2 = some μ' → W p l e (zrm 1) s m args below meth c H locs 0 0 Q (F0 m 55 ls []) := by
      intro μ_2 H locs ls  X hl h
      unfold f_X5_findPart_K55 at h
      refine lv_aload_n C.1 C.2.1 dX5_findPart_55 rfl (lv_at hl 0 rfl) ?_
      refine z_iconst C dX5_findPart_56 ?_
      refine zlet_elim h (fun μ_3 em h => ?_)
      refine z_putI C X zk5 (zob.self o_t0) (zo5 o_t0) 9 (by decide) kw_96 rfl rfl rfl rfl ⟨by decide, by decide⟩ em dX5_findPart_57 (fun H locs X => ?_)
      clear em
      refine lv_aload_n C.1 C.2.1 dX5_findPart_60 rfl (lv_at hl 0 rfl) ?_
      obtain ⟨x_4, hq61, h⟩ := bnd_some h
      refine z_callV1 C X zk5 (zob.self o_t0) (zo5 o_t0) (As := []) (M_X5_leastLeadingOut μ_3 t0 o_t0 hq61) zc_X5_leastLeadingOut kw_48 (zroom (by decide) (by decide)) rfl hl.1 rfl (Nat.le_of_ble_eq_true rfl) dX5_findPart_61 ⟨Nat.zero_le _, Nat.zero_le _⟩ (fun H locs g_61 X => ?_)
      refine lv_istore_n C.1 C.2.1 (lv' := [(1, zI x_4), (0, zR Ω t0)]) dX5_findPart_64 rfl hl (by decide) rfl (fun ls hl => ?_)
      have K130 : ∀ (μ_5 : zMem) (H : Heap) (locs : List Loc) (ls : Array Slot), zX Ω μ_5 (zfree Ω) s.heap H locs → lv_has ls 2 [(0, zR Ω t0)] → (f_X5_findPart_K130 t0) μ_5 = some μ' → W p l e (zrm 1) s m args below meth c H locs 0 0 Q (F0 m 130 ls []) := by
        intro μ_5 H locs ls  X hl h
        unfold f_X5_findPart_K130 at h
        refine lv_aload_n C.1 C.2.1 dX5_findPart_130 rfl (lv_at hl 0 rfl) ?_
        obtain ⟨μ_6, hq131, h⟩ := bnd_some h
        refine z_callV0 C X zk5 (zob.self o_t0) (zo5 o_t0) (As := []) (M_X5_numberTurns μ_5 t0 o_t0 hq131) zc_X5_numberTurns kw_52 (zroom (by decide) (by decide)) rfl hl.1 rfl (Nat.le_of_ble_eq_true rfl) dX5_findPart_131 ⟨Nat.zero_le _, Nat.zero_le _⟩ (fun H locs g_131 X => ?_)
        obtain rfl := Option.some.inj h
        exact rt X dX5_findPart_134
      have L65 : ∀ (n65 : Nat) (x_7 : Int) (μ_8 : zMem) (H : Heap) (locs : List Loc) (ls : Array Slot), Rg x_7 → zX Ω μ_8 (zfree Ω) s.heap H locs → lv_has ls 2 [(0, zR Ω t0), (1, zI x_7)] → (f_X5_findPart_L65 t0 (f_X5_findPart_K130 t0) n65 x_7 μ_8) = some μ' → W p l e (zrm 1) s m args below meth c H locs 0 0 Q (F0 m 65 ls []) := by
        intro n65
        induction n65 with
        | zero =>
          intro x_7 μ_8 H locs ls _ _ _ h
          cases h
        | succ n65 ih65 =>
          intro x_7 μ_8 H locs ls gx_7 X hl h
          unfold f_X5_findPart_L65 at h
          refine lv_aload_n C.1 C.2.1 dX5_findPart_65 rfl (lv_at hl 0 rfl) ?_
          have g_66 : Rg (μ_8 t0 9) := zrgf0 (ci := 5) X.2.2.2 (zob.self o_t0) (zo5 o_t0) 9 rfl
          refine z_get C X zk5 (zob.self o_t0) (zo5 o_t0) 9 (by decide) kw_96 (zI (μ_8 t0 9)) rfl dX5_findPart_66 ?_
          refine lv_aload_n C.1 C.2.1 dX5_findPart_69 rfl (lv_at hl 0 rfl) ?_
          have g_70 : Rg (μ_8 t0 6) := zrgf0 (ci := 5) X.2.2.2 (zob.self o_t0) (zo5 o_t0) 6 rfl
          refine z_get C X zk5 (zob.self o_t0) (zo5 o_t0) 6 (by decide) kw_78 (zI (μ_8 t0 6)) rfl dX5_findPart_70 ?_
          refine z_icmpge C g_66 g_70 (tgt := 130) dX5_findPart_73 (by decide) (fun hc73 => ?_) (fun hc73 => ?_)
          · rw [if_neg hc73] at h
            exact K130 μ_8 _ _ _ X (lv_sub hl [0] rfl) h
          · rw [if_pos hc73] at h
            refine lv_iload_n C.1 C.2.1 dX5_findPart_76 rfl (lv_at hl 1 rfl) ?_
            refine z_iconst C dX5_findPart_77 ?_
            refine z_icmpeq C gx_7 ⟨by decide, by decide⟩ (tgt := 130) dX5_findPart_78 (by decide) (fun hc78 => ?_) (fun hc78 => ?_)
            · rw [if_pos hc78] at h
              exact K130 μ_8 _ _ _ X (lv_sub hl [0] rfl) h
            · rw [if_neg hc78] at h
              refine lv_aload_n C.1 C.2.1 dX5_findPart_81 rfl (lv_at hl 0 rfl) ?_
              refine z_get C X zk5 (zob.self o_t0) (zo5 o_t0) 2 (by decide) kw_64 (zR Ω (t0 + 3)) (zfvF (off := 3) X.2.2.2 (zob.self o_t0) o_t0.2.2 (zo5 o_t0) rfl (by rw [zo5_3 o_t0]; decide)) dX5_findPart_82 ?_
              refine lv_iload_n C.1 C.2.1 dX5_findPart_85 rfl (lv_at hl 1 rfl) ?_
              refine z_iconst C dX5_findPart_86 ?_
              obtain ⟨hc87, h⟩ := chk_some h
              refine zlet_elim h (fun μ_9 em h => ?_)
              refine z_iast C X (o_t0.2.1 3 (by decide) (by decide)) (zo5_3 o_t0) hc87 (zok1 (zo5_3 o_t0) ⟨by decide, by decide⟩) em dX5_findPart_87 (fun H locs X => ?_)
              clear em
              refine lv_aload_n C.1 C.2.1 dX5_findPart_88 rfl (lv_at hl 0 rfl) ?_
              refine z_get C X zk5 (zob.self o_t0) (zo5 o_t0) 3 (by decide) kw_68 (zR Ω (t0 + 4)) (zfvF (off := 4) X.2.2.2 (zob.self o_t0) o_t0.2.2 (zo5 o_t0) rfl (by rw [zo5_4 o_t0]; decide)) dX5_findPart_89 ?_
              refine lv_aload_n C.1 C.2.1 dX5_findPart_92 rfl (lv_at hl 0 rfl) ?_
              refine z_get C X zk5 (zob.self o_t0) (zo5 o_t0) 0 (by decide) kw_56 (zR Ω (t0 + 1)) (zfvF (off := 1) X.2.2.2 (zob.self o_t0) o_t0.2.2 (zo5 o_t0) rfl (by rw [zo5_1 o_t0]; decide)) dX5_findPart_93 ?_
              refine lv_iload_n C.1 C.2.1 dX5_findPart_96 rfl (lv_at hl 1 rfl) ?_
              obtain ⟨hc97, h⟩ := chk_some h
              have g_97 : Rg (μ_9 (t0 + 1) x_7) := zrg1 X.2.2.2 (o_t0.2.1 1 (by decide) (by decide)) (zo5_1 o_t0)
              refine z_iald C X (o_t0.2.1 1 (by decide) (by decide)) (zo5_1 o_t0) hc97 dX5_findPart_97 ?_
              refine z_iconst C dX5_findPart_98 ?_
              obtain ⟨hc99, h⟩ := chk_some h
              refine zlet_elim h (fun μ_10 em h => ?_)
              refine z_zast C X (o_t0.2.1 4 (by decide) (by decide)) (zo5_4 o_t0) hc99 (zok3 (zo5_4 o_t0)) em dX5_findPart_99 (fun H locs X => ?_)
              clear em
              refine lv_aload_n C.1 C.2.1 dX5_findPart_100 rfl (lv_at hl 0 rfl) ?_
              refine z_get C X zk5 (zob.self o_t0) (zo5 o_t0) 3 (by decide) kw_68 (zR Ω (t0 + 4)) (zfvF (off := 4) X.2.2.2 (zob.self o_t0) o_t0.2.2 (zo5 o_t0) rfl (by rw [zo5_4 o_t0]; decide)) dX5_findPart_101 ?_
              refine lv_aload_n C.1 C.2.1 dX5_findPart_104 rfl (lv_at hl 0 rfl) ?_
              refine z_get C X zk5 (zob.self o_t0) (zo5 o_t0) 1 (by decide) kw_60 (zR Ω (t0 + 2)) (zfvF (off := 2) X.2.2.2 (zob.self o_t0) o_t0.2.2 (zo5 o_t0) rfl (by rw [zo5_2 o_t0]; decide)) dX5_findPart_105 ?_
              refine lv_iload_n C.1 C.2.1 dX5_findPart_108 rfl (lv_at hl 1 rfl) ?_
              obtain ⟨hc109, h⟩ := chk_some h
              have g_109 : Rg (μ_10 (t0 + 2) x_7) := zrg1 X.2.2.2 (o_t0.2.1 2 (by decide) (by decide)) (zo5_2 o_t0)
              refine z_iald C X (o_t0.2.1 2 (by decide) (by decide)) (zo5_2 o_t0) hc109 dX5_findPart_109 ?_
              refine z_iconst C dX5_findPart_110 ?_
              obtain ⟨hc111, h⟩ := chk_some h
              refine zlet_elim h (fun μ_11 em h => ?_)
              refine z_zast C X (o_t0.2.1 4 (by decide) (by decide)) (zo5_4 o_t0) hc111 (zok3 (zo5_4 o_t0)) em dX5_findPart_111 (fun H locs X => ?_)
              clear em
              refine lv_aload_n C.1 C.2.1 dX5_findPart_112 rfl (lv_at hl 0 rfl) ?_
              refine lv_dup C.1 C.2.1 dX5_findPart_113 rfl ?_
              have g_114 : Rg (μ_11 t0 9) := zrgf0 (ci := 5) X.2.2.2 (zob.self o_t0) (zo5 o_t0) 9 rfl
              refine z_get C X zk5 (zob.self o_t0) (zo5 o_t0) 9 (by decide) kw_96 (zI (μ_11 t0 9)) rfl dX5_findPart_114 ?_
              refine z_iconst C dX5_findPart_117 ?_
              refine z_iadd C dX5_findPart_118 ?_
              refine zlet_elim h (fun μ_12 em h => ?_)
              refine z_putI C X zk5 (zob.self o_t0) (zo5 o_t0) 9 (by decide) kw_96 rfl rfl rfl rfl (Rg.w _) em dX5_findPart_119 (fun H locs X => ?_)
              clear em
              refine lv_aload_n C.1 C.2.1 dX5_findPart_122 rfl (lv_at hl 0 rfl) ?_
              obtain ⟨x_13, hq123, h⟩ := bnd_some h
              refine z_callV1 C X zk5 (zob.self o_t0) (zo5 o_t0) (As := []) (M_X5_leastLeadingOut μ_12 t0 o_t0 hq123) zc_X5_leastLeadingOut kw_48 (zroom (by decide) (by decide)) rfl hl.1 rfl (Nat.le_of_ble_eq_true rfl) dX5_findPart_123 ⟨Nat.zero_le _, Nat.zero_le _⟩ (fun H locs g_123 X => ?_)
              refine lv_istore_n C.1 C.2.1 (lv' := [(1, zI x_13), (0, zR Ω t0)]) dX5_findPart_126 rfl hl (by decide) rfl (fun ls hl => ?_)
              refine lv_goto (tgt := 65) C.1 C.2.1 dX5_findPart_127 (by decide) ?_
              exact ih65 x_13 μ_12 _ _ _ g_123 X (lv_sub hl [1, 0] rfl) h
      exact L65 zfu x_4 μ_3 _ _ _ g_61 X (lv_sub hl [1, 0] rfl) h
    have L33 : ∀ (n33 : Nat) (x_14 : Int) (μ_15 : zMem) (H : Heap) (locs : List Loc) (ls : Array Slot), Rg x_14 → zX Ω μ_15 (zfree Ω) s.heap H locs → lv_has ls 2 [(0, zR Ω t0), (1, zI x_14)] → (f_X5_findPart_L33 t0 (f_X5_findPart_K55 t0) n33 x_14 μ_15) = some μ' → W p l e (zrm 1) s m args below meth c H locs 0 0 Q (F0 m 33 ls []) := by
      intro n33
      induction n33 with
      | zero =>
        intro x_14 μ_15 H locs ls _ _ _ h
        cases h
      | succ n33 ih33 =>
        intro x_14 μ_15 H locs ls gx_14 X hl h
        unfold f_X5_findPart_L33 at h
        refine lv_iload_n C.1 C.2.1 dX5_findPart_33 rfl (lv_at hl 1 rfl) ?_
        refine lv_aload_n C.1 C.2.1 dX5_findPart_34 rfl (lv_at hl 0 rfl) ?_
        have g_35 : Rg (μ_15 t0 7) := zrgf0 (ci := 5) X.2.2.2 (zob.self o_t0) (zo5 o_t0) 7 rfl
        refine z_get C X zk5 (zob.self o_t0) (zo5 o_t0) 7 (by decide) kw_83 (zI (μ_15 t0 7)) rfl dX5_findPart_35 ?_
        refine z_icmpge C gx_14 g_35 (tgt := 55) dX5_findPart_38 (by decide) (fun hc38 => ?_) (fun hc38 => ?_)
        · rw [if_neg hc38] at h
          exact K55 μ_15 _ _ _ X (lv_sub hl [0] rfl) h
        · rw [if_pos hc38] at h
          refine lv_aload_n C.1 C.2.1 dX5_findPart_41 rfl (lv_at hl 0 rfl) ?_
          refine z_get C X zk5 (zob.self o_t0) (zo5 o_t0) 2 (by decide) kw_64 (zR Ω (t0 + 3)) (zfvF (off := 3) X.2.2.2 (zob.self o_t0) o_t0.2.2 (zo5 o_t0) rfl (by rw [zo5_3 o_t0]; decide)) dX5_findPart_42 ?_
          refine lv_iload_n C.1 C.2.1 dX5_findPart_45 rfl (lv_at hl 1 rfl) ?_
          refine z_bipush C dX5_findPart_46 (by decide) ?_
          obtain ⟨hc48, h⟩ := chk_some h
          refine zlet_elim h (fun μ_16 em h => ?_)
          refine z_iast C X (o_t0.2.1 3 (by decide) (by decide)) (zo5_3 o_t0) hc48 (zok1 (zo5_3 o_t0) ⟨by decide, by decide⟩) em dX5_findPart_48 (fun H locs X => ?_)
          clear em
          refine zlet_elim h (fun x_17 ex_17 h => ?_)
          have gx_17 : Rg x_17 := by rw [ex_17]; exact Rg.w _
          refine z_iinc C ex_17 dX5_findPart_49 hl (k := 1) rfl (by decide) (lv' := [(1, zI x_17), (0, zR Ω t0)]) rfl (fun ls hl => ?_)
          clear ex_17
          refine lv_goto (tgt := 33) C.1 C.2.1 dX5_findPart_52 (by decide) ?_
          exact ih33 x_17 μ_16 _ _ _ gx_17 X (lv_sub hl [1, 0] rfl) h
    exact L33 zfu 0 μ_1 _ _ _ ⟨by decide, by decide⟩ X (lv_sub hl [1, 0] rfl) h
  have L2 : ∀ (n2 : Nat) (x_18 : Int) (μ_19 : zMem) (H : Heap) (locs : List Loc) (ls : Array Slot), Rg x_18 → zX Ω μ_19 (zfree Ω) s.heap H locs → lv_has ls 2 [(0, zR Ω t0), (1, zI x_18)] → (f_X5_findPart_L2 t0 (f_X5_findPart_K31 t0) n2 x_18 μ_19) = some μ' → W p l e (zrm 1) s m args below meth c H locs 0 0 Q (F0 m 2 ls []) := by
    intro n2
    induction n2 with
    | zero =>
      intro x_18 μ_19 H locs ls _ _ _ h
      cases h
    | succ n2 ih2 =>
      intro x_18 μ_19 H locs ls gx_18 X hl h
      unfold f_X5_findPart_L2 at h
      refine lv_iload_n C.1 C.2.1 dX5_findPart_2 rfl (lv_at hl 1 rfl) ?_
      refine lv_aload_n C.1 C.2.1 dX5_findPart_3 rfl (lv_at hl 0 rfl) ?_
      have g_4 : Rg (μ_19 t0 6) := zrgf0 (ci := 5) X.2.2.2 (zob.self o_t0) (zo5 o_t0) 6 rfl
      refine z_get C X zk5 (zob.self o_t0) (zo5 o_t0) 6 (by decide) kw_78 (zI (μ_19 t0 6)) rfl dX5_findPart_4 ?_
      refine z_icmpge C gx_18 g_4 (tgt := 31) dX5_findPart_7 (by decide) (fun hc7 => ?_) (fun hc7 => ?_)
      · rw [if_neg hc7] at h
        exact K31 μ_19 _ _ _ X (lv_sub hl [0] rfl) h
      · rw [if_pos hc7] at h
        refine lv_aload_n C.1 C.2.1 dX5_findPart_10 rfl (lv_at hl 0 rfl) ?_
        refine z_get C X zk5 (zob.self o_t0) (zo5 o_t0) 3 (by decide) kw_68 (zR Ω (t0 + 4)) (zfvF (off := 4) X.2.2.2 (zob.self o_t0) o_t0.2.2 (zo5 o_t0) rfl (by rw [zo5_4 o_t0]; decide)) dX5_findPart_11 ?_
        refine lv_iload_n C.1 C.2.1 dX5_findPart_14 rfl (lv_at hl 1 rfl) ?_
        refine lv_iload_n C.1 C.2.1 dX5_findPart_15 rfl (lv_at hl 1 rfl) ?_
        have K24 : ∀ (x_20 : Int) (μ_21 : zMem) (H : Heap) (locs : List Loc) (ls : Array Slot), Rg x_20 → zX Ω μ_21 (zfree Ω) s.heap H locs → lv_has ls 2 [(0, zR Ω t0), (1, zI x_18)] → (f_X5_findPart_J24 t0 x_18 (f_X5_findPart_L2 t0 (f_X5_findPart_K31 t0) n2)) x_20 μ_21 = some μ' → W p l e (zrm 1) s m args below meth c H locs 0 0 Q (F0 m 24 ls [zI x_20, zI x_18, zR Ω (t0 + 4)]) := by
          intro x_20 μ_21 H locs ls gx_20 X hl h
          unfold f_X5_findPart_J24 at h
          obtain ⟨hc24, h⟩ := chk_some h
          refine zlet_elim h (fun μ_22 em h => ?_)
          refine z_zast C X (o_t0.2.1 4 (by decide) (by decide)) (zo5_4 o_t0) hc24 (zok3 (zo5_4 o_t0)) em dX5_findPart_24 (fun H locs X => ?_)
          clear em
          refine zlet_elim h (fun x_23 ex_23 h => ?_)
          have gx_23 : Rg x_23 := by rw [ex_23]; exact Rg.w _
          refine z_iinc C ex_23 dX5_findPart_25 hl (k := 1) rfl (by decide) (lv' := [(1, zI x_23), (0, zR Ω t0)]) rfl (fun ls hl => ?_)
          clear ex_23
          refine lv_goto (tgt := 2) C.1 C.2.1 dX5_findPart_28 (by decide) ?_
          exact ih2 x_23 μ_22 _ _ _ gx_23 X (lv_sub hl [1, 0] rfl) h
        refine z_ifne C gx_18 (tgt := 23) dX5_findPart_16 (by decide) (fun hc16 => ?_) (fun hc16 => ?_)
        · rw [if_neg hc16] at h
          refine z_iconst C dX5_findPart_23 ?_
          exact K24 0 μ_19 _ _ _ ⟨by decide, by decide⟩ X (lv_sub hl [0, 1] rfl) h
        · rw [if_pos hc16] at h
          refine z_iconst C dX5_findPart_19 ?_
          refine lv_goto (tgt := 24) C.1 C.2.1 dX5_findPart_20 (by decide) ?_
          exact K24 1 μ_19 _ _ _ ⟨by decide, by decide⟩ X (lv_sub hl [0, 1] rfl) h
  exact L2 zfu 0 μ _ _ _ ⟨by decide, by decide⟩ X (lv_sub hl [1, 0] rfl) h
theorem zc_X5_findPart : zcal yX5_findPart cX5_findPart 2 none RX5 0 := ⟨⟨kw_47, kw_45, kw_46, kw_3⟩, rfl, by decide, by decide, by decide +kernel⟩

def f_X1_lay (x1 : Int) (x2 : Int) (μ : zMem) : Option zMem :=
  zlet (zup μ 3 6 x2) fun μ_1 =>
  chk ((μ_1 27 9) ≠ 0) <|
  zlet (μ_1 27 9) fun x_2 =>
  zlet (zup μ_1 3 8 x_2) fun μ_3 =>
  zlet (zup μ_3 3 7 (μ_3 27 8)) fun μ_4 =>
  chk ((0 : Int) ≤ 0 ∧ (0 : Int) ≤ 0 ∧ (0 : Int) ≤ (μ_4 3 7) ∧ 0 + (μ_4 3 7) ≤ 12 ∧ 0 + (μ_4 3 7) ≤ 12) <|
  zlet (zcpy μ_4 28 0 11 0 (μ_4 3 7)) fun μ_5 =>
  bnd (f_J7_fill_53178 12 (-2) μ_5) fun μ_6 =>
  chk ((0 : Int) ≤ 0 ∧ (0 : Int) ≤ 0 ∧ (0 : Int) ≤ (μ_6 x1 7) ∧ 0 + (μ_6 x1 7) ≤ zlen (x1 + 3) ∧ 0 + (μ_6 x1 7) ≤ 12) <|
  zlet (zcpy μ_6 (x1 + 3) 0 12 0 (μ_6 x1 7)) fun μ_7 =>
  bnd (f_X1_placeCorners x1 μ_7) fun μ_8 =>
  chk ((μ_8 3 8) ≠ 0) <|
  zlet (μ_8 3 8) fun x_9 =>
  bnd (f_X5_clear 4 (zw ((μ_8 x1 9) * (μ_8 x_9 0))) μ_8) fun μ_10 =>
  bnd (f_X1_addEdges x1 μ_10) fun μ_11 =>
  bnd (f_X1_addPanes x1 μ_11) fun μ_12 =>
  bnd (f_X5_findPart 4 μ_12) fun μ_13 =>
  some μ_13
set_option maxHeartbeats 4000000 in
set_option maxRecDepth 100000 in
theorem M_X1_lay {l : Launch} {Ω : zO} (hI : zIc Ω) (μ : zMem) (x1 : Int) (x2 : Int) {μ' : zMem} (o_x1 : zob Ω.2.2.1 5 x1) (gx2 : Rg x2) (h : f_X1_lay x1 x2 μ = some μ') : XMet l yX1_lay cX1_lay 4 none 4 Ω [zR Ω 3, zR Ω x1, zI x2, zR Ω 27] μ none True μ' := by
  refine XMet.ofV (by decide) (Nat.le_of_ble_eq_true rfl) ?_
  intro p e s m args below meth c ls Q C rt X hl
  have C : zC p s m args c cX1_lay RX1 4 Ω := C
  have hl : lv_has ls 4 [(0, zR Ω 3), (1, zR Ω x1), (2, zI x2), (3, zR Ω 27)] := hl
  unfold f_X1_lay at h
  skip
  refine lv_aload_n C.1 C.2.1 dX1_lay_0 rfl (lv_at hl 0 rfl) ?_
  refine lv_iload_n C.1 C.2.1 dX1_lay_1 rfl (lv_at hl 2 rfl) ?_
  refine zlet_elim h (fun μ_1 em h => ?_)
  refine z_putI C X zk1 (hI.1 3 (by decide)) rfl 6 (by decide) kw_133 rfl rfl rfl rfl gx2 em dX1_lay_2 (fun H locs X => ?_)
  clear em
  refine lv_aload_n C.1 C.2.1 dX1_lay_5 rfl (lv_at hl 0 rfl) ?_
  refine lv_aload_n C.1 C.2.1 dX1_lay_6 rfl (lv_at hl 3 rfl) ?_
  obtain ⟨hn7, h⟩ := chk_some h
  have o_7 : zob Ω.2.2.1 4 (μ_1 27 9) := (zrgf4 (ci := 6) X.2.2.2 (hI.1 27 (by decide)) rfl 9 4 rfl rfl).resolve_left hn7
  refine z_get C X zk6 (hI.1 27 (by decide)) rfl 9 (by decide) kw_265 (zQ Ω (μ_1 27 9)) rfl dX1_lay_7 ?_
  rw [zQ_pos Ω hn7]
  refine zlet_elim h (fun x_2 ex_2 h => ?_)
  rw [← ex_2] at o_7 ⊢
  clear hn7 ex_2
  refine zlet_elim h (fun μ_3 em h => ?_)
  refine z_putQ (co := 4) C X zk1 (hI.1 3 (by decide)) rfl 8 (by decide) kw_137 rfl rfl rfl rfl o_7 (zob.ne o_7) em dX1_lay_10 (fun H locs X => ?_)
  clear em
  refine lv_aload_n C.1 C.2.1 dX1_lay_13 rfl (lv_at hl 0 rfl) ?_
  refine lv_aload_n C.1 C.2.1 dX1_lay_14 rfl (lv_at hl 3 rfl) ?_
  have g_15 : Rg (μ_3 27 8) := zrgf0 (ci := 6) X.2.2.2 (hI.1 27 (by decide)) rfl 8 rfl
  refine z_get C X zk6 (hI.1 27 (by decide)) rfl 8 (by decide) kw_263 (zI (μ_3 27 8)) rfl dX1_lay_15 ?_
  refine zlet_elim h (fun μ_4 em h => ?_)
  refine z_putI C X zk1 (hI.1 3 (by decide)) rfl 7 (by decide) kw_135 rfl rfl rfl rfl g_15 em dX1_lay_18 (fun H locs X => ?_)
  clear em
  refine lv_aload_n C.1 C.2.1 dX1_lay_21 rfl (lv_at hl 3 rfl) ?_
  refine z_get C X zk6 (hI.1 27 (by decide)) rfl 0 (by decide) kw_254 (zR Ω 28) (zfvF (off := 1) X.2.2.2 (hI.1 27 (by decide)) (hI.2 27 (by decide)) rfl rfl (by decide)) dX1_lay_22 ?_
  refine z_iconst C dX1_lay_25 ?_
  refine lv_aload_n C.1 C.2.1 dX1_lay_26 rfl (lv_at hl 0 rfl) ?_
  refine z_get C X zk1 (hI.1 3 (by decide)) rfl 1 (by decide) kw_127 (zR Ω 11) (zfvF (off := 8) X.2.2.2 (hI.1 3 (by decide)) (hI.2 3 (by decide)) rfl rfl (by decide)) dX1_lay_27 ?_
  refine z_iconst C dX1_lay_30 ?_
  refine lv_aload_n C.1 C.2.1 dX1_lay_31 rfl (lv_at hl 0 rfl) ?_
  have g_32 : Rg (μ_4 3 7) := zrgf0 (ci := 1) X.2.2.2 (hI.1 3 (by decide)) rfl 7 rfl
  refine z_get C X zk1 (hI.1 3 (by decide)) rfl 7 (by decide) kw_135 (zI (μ_4 3 7)) rfl dX1_lay_32 ?_
  obtain ⟨hc35, h⟩ := chk_some h
  refine zlet_elim h (fun μ_5 em h => ?_)
  refine z_copy C X hl.1 (hI.1 28 (by decide)) rfl (hI.1 11 (by decide)) rfl hc35 kw_777 em (by decide) (by decide) dX1_lay_35 (fun H locs X => ?_)
  clear em
  refine lv_aload_n C.1 C.2.1 dX1_lay_38 rfl (lv_at hl 0 rfl) ?_
  refine z_get C X zk1 (hI.1 3 (by decide)) rfl 2 (by decide) kw_129 (zR Ω 12) (zfvF (off := 9) X.2.2.2 (hI.1 3 (by decide)) (hI.2 3 (by decide)) rfl rfl (by decide)) dX1_lay_39 ?_
  refine z_bipush C dX1_lay_42 (by decide) ?_
  obtain ⟨μ_6, hq44, h⟩ := bnd_some h
  refine z_callS0 C X (As := [zR Ω 12, zI (-2)]) (M_J7_fill_53178 μ_5 12 (-2) (hI.1 12 (by decide)) rfl ⟨by decide, by decide⟩ hq44) zc_J7_fill_53178 kw_778 (zroom (by decide) (by decide)) rfl hl.1 rfl (Nat.le_of_ble_eq_true rfl) dX1_lay_44 ⟨Nat.zero_le _, Nat.zero_le _⟩ (fun H locs g_44 X => ?_)
  refine lv_aload_n C.1 C.2.1 dX1_lay_47 rfl (lv_at hl 1 rfl) ?_
  refine z_get C X zk5 (zob.self o_x1) (zo5 o_x1) 2 (by decide) kw_66 (zR Ω (x1 + 3)) (zfvF (off := 3) X.2.2.2 (zob.self o_x1) o_x1.2.2 (zo5 o_x1) rfl (by rw [zo5_3 o_x1]; decide)) dX1_lay_48 ?_
  refine z_iconst C dX1_lay_51 ?_
  refine lv_aload_n C.1 C.2.1 dX1_lay_52 rfl (lv_at hl 0 rfl) ?_
  refine z_get C X zk1 (hI.1 3 (by decide)) rfl 2 (by decide) kw_129 (zR Ω 12) (zfvF (off := 9) X.2.2.2 (hI.1 3 (by decide)) (hI.2 3 (by decide)) rfl rfl (by decide)) dX1_lay_53 ?_
  refine z_iconst C dX1_lay_56 ?_
  refine lv_aload_n C.1 C.2.1 dX1_lay_57 rfl (lv_at hl 1 rfl) ?_
  have g_58 : Rg (μ_6 x1 7) := zrgf0 (ci := 5) X.2.2.2 (zob.self o_x1) (zo5 o_x1) 7 rfl
  refine z_get C X zk5 (zob.self o_x1) (zo5 o_x1) 7 (by decide) kw_85 (zI (μ_6 x1 7)) rfl dX1_lay_58 ?_
  obtain ⟨hc61, h⟩ := chk_some h
  refine zlet_elim h (fun μ_7 em h => ?_)
  refine z_copy C X hl.1 (o_x1.2.1 3 (by decide) (by decide)) (zo5_3 o_x1) (hI.1 12 (by decide)) rfl hc61 kw_777 em (by decide) (by decide) dX1_lay_61 (fun H locs X => ?_)
  clear em
  refine lv_aload_n C.1 C.2.1 dX1_lay_64 rfl (lv_at hl 0 rfl) ?_
  refine lv_aload_n C.1 C.2.1 dX1_lay_65 rfl (lv_at hl 1 rfl) ?_
  obtain ⟨μ_8, hq66, h⟩ := bnd_some h
  refine z_callV0 C X zk1 (hI.1 3 (by decide)) rfl (As := [zR Ω x1]) (M_X1_placeCorners hI μ_7 x1 o_x1 hq66) zc_X1_placeCorners kw_781 (zroom (by decide) (by decide)) rfl hl.1 rfl (Nat.le_of_ble_eq_true rfl) dX1_lay_66 ⟨Nat.zero_le _, Nat.zero_le _⟩ (fun H locs g_66 X => ?_)
  refine lv_aload_n C.1 C.2.1 dX1_lay_69 rfl (lv_at hl 0 rfl) ?_
  refine z_get C X zk1 (hI.1 3 (by decide)) rfl 0 (by decide) kw_125 (zR Ω 4) (zfvF (off := 1) X.2.2.2 (hI.1 3 (by decide)) (hI.2 3 (by decide)) rfl rfl (by decide)) dX1_lay_70 ?_
  refine lv_aload_n C.1 C.2.1 dX1_lay_73 rfl (lv_at hl 1 rfl) ?_
  have g_74 : Rg (μ_8 x1 9) := zrgf0 (ci := 5) X.2.2.2 (zob.self o_x1) (zo5 o_x1) 9 rfl
  refine z_get C X zk5 (zob.self o_x1) (zo5 o_x1) 9 (by decide) kw_94 (zI (μ_8 x1 9)) rfl dX1_lay_74 ?_
  refine lv_aload_n C.1 C.2.1 dX1_lay_77 rfl (lv_at hl 0 rfl) ?_
  obtain ⟨hn78, h⟩ := chk_some h
  have o_78 : zob Ω.2.2.1 4 (μ_8 3 8) := (zrgf4 (ci := 1) X.2.2.2 (hI.1 3 (by decide)) rfl 8 4 rfl rfl).resolve_left hn78
  refine z_get C X zk1 (hI.1 3 (by decide)) rfl 8 (by decide) kw_137 (zQ Ω (μ_8 3 8)) rfl dX1_lay_78 ?_
  rw [zQ_pos Ω hn78]
  refine zlet_elim h (fun x_9 ex_9 h => ?_)
  rw [← ex_9] at o_78 ⊢
  clear hn78 ex_9
  have g_81 : Rg (μ_8 x_9 0) := zrgf0 (ci := 4) X.2.2.2 (zob.self o_78) (zo4 o_78) 0 rfl
  refine z_get C X zk4 (zob.self o_78) (zo4 o_78) 0 (by decide) kw_370 (zI (μ_8 x_9 0)) rfl dX1_lay_81 ?_
  refine z_imul C dX1_lay_84 ?_
  obtain ⟨μ_10, hq85, h⟩ := bnd_some h
  refine z_callV0 C X zk5 (hI.1 4 (by decide)) rfl (As := [zI (zw ((μ_8 x1 9) * (μ_8 x_9 0)))]) (M_X5_clear μ_8 4 (zw ((μ_8 x1 9) * (μ_8 x_9 0))) (zoc5 hI 4 rfl (by decide)) (Rg.w _) hq85) zc_X5_clear kw_785 (zroom (by decide) (by decide)) rfl hl.1 rfl (Nat.le_of_ble_eq_true rfl) dX1_lay_85 ⟨Nat.zero_le _, Nat.zero_le _⟩ (fun H locs g_85 X => ?_)
  refine lv_aload_n C.1 C.2.1 dX1_lay_88 rfl (lv_at hl 0 rfl) ?_
  refine lv_aload_n C.1 C.2.1 dX1_lay_89 rfl (lv_at hl 1 rfl) ?_
  obtain ⟨μ_11, hq90, h⟩ := bnd_some h
  refine z_callV0 C X zk1 (hI.1 3 (by decide)) rfl (As := [zR Ω x1]) (M_X1_addEdges hI μ_10 x1 o_x1 hq90) zc_X1_addEdges kw_786 (zroom (by decide) (by decide)) rfl hl.1 rfl (Nat.le_of_ble_eq_true rfl) dX1_lay_90 ⟨Nat.zero_le _, Nat.zero_le _⟩ (fun H locs g_90 X => ?_)
  refine lv_aload_n C.1 C.2.1 dX1_lay_93 rfl (lv_at hl 0 rfl) ?_
  refine lv_aload_n C.1 C.2.1 dX1_lay_94 rfl (lv_at hl 1 rfl) ?_
  obtain ⟨μ_12, hq95, h⟩ := bnd_some h
  refine z_callV0 C X zk1 (hI.1 3 (by decide)) rfl (As := [zR Ω x1]) (M_X1_addPanes hI μ_11 x1 o_x1 hq95) zc_X1_addPanes kw_797 (zroom (by decide) (by decide)) rfl hl.1 rfl (Nat.le_of_ble_eq_true rfl) dX1_lay_95 ⟨Nat.zero_le _, Nat.zero_le _⟩ (fun H locs g_95 X => ?_)
  refine lv_aload_n C.1 C.2.1 dX1_lay_98 rfl (lv_at hl 0 rfl) ?_
  refine z_get C X zk1 (hI.1 3 (by decide)) rfl 0 (by decide) kw_125 (zR Ω 4) (zfvF (off := 1) X.2.2.2 (hI.1 3 (by decide)) (hI.2 3 (by decide)) rfl rfl (by decide)) dX1_lay_99 ?_
  obtain ⟨μ_13, hq102, h⟩ := bnd_some h
  refine z_callV0 C X zk5 (hI.1 4 (by decide)) rfl (As := []) (M_X5_findPart μ_12 4 (zoc5 hI 4 rfl (by decide)) hq102) zc_X5_findPart kw_808 (zroom (by decide) (by decide)) rfl hl.1 rfl (Nat.le_of_ble_eq_true rfl) dX1_lay_102 ⟨Nat.zero_le _, Nat.zero_le _⟩ (fun H locs g_102 X => ?_)
  obtain rfl := Option.some.inj h
  exact rt X dX1_lay_105
theorem zc_X1_lay : zcal yX1_lay cX1_lay 4 none RX1 3 := ⟨⟨kw_776, kw_774, kw_775, kw_2⟩, rfl, by decide, by decide, by decide +kernel⟩

def f_X2_clearBelow_K130 (x_3 : Int) (g20 : Int → zMem → Option zMem) (μ_6 : zMem) : Option zMem :=
  zlet (zw (x_3 + 1)) fun x_7 =>
  g20 x_7 μ_6
def f_X2_clearBelow_L48 (x1 : Int) (x3 : Int) (x_1 : Int) (x_3 : Int) (x_5 : Int) (g130 : zMem → Option zMem) : Nat → Int → zMem → Option zMem
  | 0, _, _ => none
  | n + 1, x_8, μ_9 =>
    if x_8 < (μ_9 23 4) then
      if x_5 = 0 then
        g130 μ_9
      else
        chk ((0 : Int) ≤ (zw ((zw (x_3 * (μ_9 23 4))) + x_8)) ∧ (zw ((zw (x_3 * (μ_9 23 4))) + x_8)) < 1536) <|
        chk ((0 : Int) ≤ (zw ((zw (x1 * (μ_9 23 4))) + x_8)) ∧ (zw ((zw (x1 * (μ_9 23 4))) + x_8)) < 1536) <|
        zlet ((zl ((zl (x_1 * (μ_9 24 (zw ((zw (x_3 * (μ_9 23 4))) + x_8))))) - (zl (x_5 * (μ_9 24 (zw ((zw (x1 * (μ_9 23 4))) + x_8)))))))) fun x_10 =>
        chk (x3 ≠ 0) <|
        chk ((0 : Int) ≤ (zw ((zw (x_3 * (μ_9 23 4))) + x_8)) ∧ (zw ((zw (x_3 * (μ_9 23 4))) + x_8)) < 1536) <|
        zlet (zup μ_9 24 (zw ((zw (x_3 * (μ_9 23 4))) + x_8)) (zfmod x_10 x3)) fun μ_11 =>
        zlet (zw (x_8 + 1)) fun x_12 =>
        (f_X2_clearBelow_L48 x1 x3 x_1 x_3 x_5 g130 n) x_12 μ_11
    else
      g130 μ_9
def f_X2_clearBelow_L20 (x1 : Int) (x2 : Int) (x3 : Int) (x_1 : Int) : Nat → Int → zMem → Option zMem
  | 0, _, _ => none
  | n + 1, x_3, μ_4 =>
    if x_3 < (μ_4 23 3) then
      chk ((0 : Int) ≤ (zw ((zw (x_3 * (μ_4 23 4))) + x2)) ∧ (zw ((zw (x_3 * (μ_4 23 4))) + x2)) < 1536) <|
      zlet ((μ_4 24 (zw ((zw (x_3 * (μ_4 23 4))) + x2)))) fun x_5 =>
      (f_X2_clearBelow_L48 x1 x3 x_1 x_3 x_5 (f_X2_clearBelow_K130 x_3 (f_X2_clearBelow_L20 x1 x2 x3 x_1 n))) zfu x2 μ_4
    else
      some μ_4
def f_X2_clearBelow (x1 : Int) (x2 : Int) (x3 : Int) (μ : zMem) : Option zMem :=
  chk ((0 : Int) ≤ (zw ((zw (x1 * (μ 23 4))) + x2)) ∧ (zw ((zw (x1 * (μ 23 4))) + x2)) < 1536) <|
  zlet ((μ 24 (zw ((zw (x1 * (μ 23 4))) + x2)))) fun x_1 =>
  zlet ((zw (x1 + 1))) fun x_2 =>
  (f_X2_clearBelow_L20 x1 x2 x3 x_1) zfu x_2 μ
set_option maxHeartbeats 4000000 in
set_option maxRecDepth 100000 in
theorem M_X2_clearBelow {l : Launch} {Ω : zO} (hI : zIc Ω) (μ : zMem) (x1 : Int) (x2 : Int) (x3 : Int) {μ' : zMem} (gx1 : Rg x1) (gx2 : Rg x2) (gx3 : Rg x3) (h : f_X2_clearBelow x1 x2 x3 μ = some μ') : XMet l yX2_clearBelow cX2_clearBelow 12 none 0 Ω [zR Ω 23, zI x1, zI x2, zI x3] μ none True μ' := by
  refine XMet.ofV (by decide) (Nat.le_of_ble_eq_true rfl) ?_
  intro p e s m args below meth c ls Q C rt X hl
  have C : zC p s m args c cX2_clearBelow RX2 12 Ω := C
  have hl : lv_has ls 12 [(0, zR Ω 23), (1, zI x1), (2, zI x2), (3, zI x3)] := hl
  unfold f_X2_clearBelow at h
  skip
  refine lv_aload_n C.1 C.2.1 dX2_clearBelow_0 rfl (lv_at hl 0 rfl) ?_
  refine z_get C X zk2 (hI.1 23 (by decide)) rfl 0 (by decide) kw_223 (zR Ω 24) (zfvF (off := 1) X.2.2.2 (hI.1 23 (by decide)) (hI.2 23 (by decide)) rfl rfl (by decide)) dX2_clearBelow_1 ?_
  refine lv_iload_n C.1 C.2.1 dX2_clearBelow_4 rfl (lv_at hl 1 rfl) ?_
  refine lv_aload_n C.1 C.2.1 dX2_clearBelow_5 rfl (lv_at hl 0 rfl) ?_
  have g_6 : Rg (μ 23 4) := zrgf0 (ci := 2) X.2.2.2 (hI.1 23 (by decide)) rfl 4 rfl
  refine z_get C X zk2 (hI.1 23 (by decide)) rfl 4 (by decide) kw_228 (zI (μ 23 4)) rfl dX2_clearBelow_6 ?_
  refine z_imul C dX2_clearBelow_9 ?_
  refine lv_iload_n C.1 C.2.1 dX2_clearBelow_10 rfl (lv_at hl 2 rfl) ?_
  refine z_iadd C dX2_clearBelow_11 ?_
  obtain ⟨hc12, h⟩ := chk_some h
  have g_12 : Rl (μ 24 (zw ((zw (x1 * (μ 23 4))) + x2))) := zrg2 X.2.2.2 (hI.1 24 (by decide)) rfl
  refine z_lald C X (hI.1 24 (by decide)) rfl hc12 dX2_clearBelow_12 ?_
  refine zlet_elim h (fun x_1 ex_1 h => ?_)
  have gx_1 : Rl x_1 := by rw [ex_1]; exact g_12
  refine z_lstore C ex_1 dX2_clearBelow_13 hl (by decide) (lv' := [(4, zJ x_1), (0, zR Ω 23), (1, zI x1), (2, zI x2), (3, zI x3)]) rfl (fun ls hl => ?_)
  clear ex_1
  refine lv_iload_n C.1 C.2.1 dX2_clearBelow_15 rfl (lv_at hl 2 rfl) ?_
  refine z_iconst C dX2_clearBelow_16 ?_
  refine z_iadd C dX2_clearBelow_17 ?_
  refine zlet_elim h (fun x_2 ex_2 h => ?_)
  have gx_2 : Rg x_2 := by rw [ex_2]; exact (Rg.w _)
  refine z_istore C ex_2 dX2_clearBelow_18 hl (by decide) (lv' := [(6, zI x_2), (4, zJ x_1), (0, zR Ω 23), (1, zI x1), (2, zI x2), (3, zI x3)]) rfl (fun ls hl => ?_)
  clear ex_2
  have L20 : ∀ (n20 : Nat) (x_3 : Int) (μ_4 : zMem) (H : Heap) (locs : List Loc) (ls : Array Slot), Rg x_3 → zX Ω μ_4 (zfree Ω) s.heap H locs → lv_has ls 12 [(0, zR Ω 23), (1, zI x1), (2, zI x2), (3, zI x3), (4, zJ x_1), (6, zI x_3)] → (f_X2_clearBelow_L20 x1 x2 x3 x_1 n20 x_3 μ_4) = some μ' → W p l e (zrm 0) s m args below meth c H locs 0 0 Q (F0 m 20 ls []) := by
    intro n20
    induction n20 with
    | zero =>
      intro x_3 μ_4 H locs ls _ _ _ h
      cases h
    | succ n20 ih20 =>
      intro x_3 μ_4 H locs ls gx_3 X hl h
      unfold f_X2_clearBelow_L20 at h
      refine lv_iload C.1 C.2.1 dX2_clearBelow_20 (lv_at hl 5 rfl) ?_
      refine lv_aload_n C.1 C.2.1 dX2_clearBelow_22 rfl (lv_at hl 0 rfl) ?_
      have g_23 : Rg (μ_4 23 3) := zrgf0 (ci := 2) X.2.2.2 (hI.1 23 (by decide)) rfl 3 rfl
      refine z_get C X zk2 (hI.1 23 (by decide)) rfl 3 (by decide) kw_227 (zI (μ_4 23 3)) rfl dX2_clearBelow_23 ?_
      refine z_icmpge C gx_3 g_23 (tgt := 136) dX2_clearBelow_26 (by decide) (fun hc26 => ?_) (fun hc26 => ?_)
      · rw [if_neg hc26] at h
        obtain rfl := Option.some.inj h
        exact rt X dX2_clearBelow_136
      · rw [if_pos hc26] at h
        refine lv_aload_n C.1 C.2.1 dX2_clearBelow_29 rfl (lv_at hl 0 rfl) ?_
        refine z_get C X zk2 (hI.1 23 (by decide)) rfl 0 (by decide) kw_223 (zR Ω 24) (zfvF (off := 1) X.2.2.2 (hI.1 23 (by decide)) (hI.2 23 (by decide)) rfl rfl (by decide)) dX2_clearBelow_30 ?_
        refine lv_iload C.1 C.2.1 dX2_clearBelow_33 (lv_at hl 5 rfl) ?_
        refine lv_aload_n C.1 C.2.1 dX2_clearBelow_35 rfl (lv_at hl 0 rfl) ?_
        have g_36 : Rg (μ_4 23 4) := zrgf0 (ci := 2) X.2.2.2 (hI.1 23 (by decide)) rfl 4 rfl
        refine z_get C X zk2 (hI.1 23 (by decide)) rfl 4 (by decide) kw_228 (zI (μ_4 23 4)) rfl dX2_clearBelow_36 ?_
        refine z_imul C dX2_clearBelow_39 ?_
        refine lv_iload_n C.1 C.2.1 dX2_clearBelow_40 rfl (lv_at hl 2 rfl) ?_
        refine z_iadd C dX2_clearBelow_41 ?_
        obtain ⟨hc42, h⟩ := chk_some h
        have g_42 : Rl (μ_4 24 (zw ((zw (x_3 * (μ_4 23 4))) + x2))) := zrg2 X.2.2.2 (hI.1 24 (by decide)) rfl
        refine z_lald C X (hI.1 24 (by decide)) rfl hc42 dX2_clearBelow_42 ?_
        refine zlet_elim h (fun x_5 ex_5 h => ?_)
        have gx_5 : Rl x_5 := by rw [ex_5]; exact g_42
        refine z_lstore C ex_5 dX2_clearBelow_43 hl (by decide) (lv' := [(7, zJ x_5), (0, zR Ω 23), (1, zI x1), (2, zI x2), (3, zI x3), (4, zJ x_1), (6, zI x_3)]) rfl (fun ls hl => ?_)
        clear ex_5
        refine lv_iload_n C.1 C.2.1 dX2_clearBelow_45 rfl (lv_at hl 3 rfl) ?_
        refine lv_istore C.1 C.2.1 (lv' := [(9, zI x2), (7, zJ x_5), (0, zR Ω 23), (1, zI x1), (2, zI x2), (3, zI x3), (4, zJ x_1), (6, zI x_3)]) dX2_clearBelow_46 hl (by decide) rfl (fun ls hl => ?_)
        have K130 : ∀ (μ_6 : zMem) (H : Heap) (locs : List Loc) (ls : Array Slot), zX Ω μ_6 (zfree Ω) s.heap H locs → lv_has ls 12 [(0, zR Ω 23), (1, zI x1), (2, zI x2), (3, zI x3), (4, zJ x_1), (6, zI x_3)] → (f_X2_clearBelow_K130 x_3 (f_X2_clearBelow_L20 x1 x2 x3 x_1 n20)) μ_6 = some μ' → W p l e (zrm 0) s m args below meth c H locs 0 0 Q (F0 m 130 ls []) := by
          intro μ_6 H locs ls  X hl h
          unfold f_X2_clearBelow_K130 at h
          refine zlet_elim h (fun x_7 ex_7 h => ?_)
          have gx_7 : Rg x_7 := by rw [ex_7]; exact Rg.w _
          refine z_iinc C ex_7 dX2_clearBelow_130 hl (k := 5) rfl (by decide) (lv' := [(6, zI x_7), (0, zR Ω 23), (1, zI x1), (2, zI x2), (3, zI x3), (4, zJ x_1)]) rfl (fun ls hl => ?_)
          clear ex_7
          refine lv_goto (tgt := 20) C.1 C.2.1 dX2_clearBelow_133 (by decide) ?_
          exact ih20 x_7 μ_6 _ _ _ gx_7 X (lv_sub hl [1, 2, 3, 4, 5, 0] rfl) h
        have L48 : ∀ (n48 : Nat) (x_8 : Int) (μ_9 : zMem) (H : Heap) (locs : List Loc) (ls : Array Slot), Rg x_8 → zX Ω μ_9 (zfree Ω) s.heap H locs → lv_has ls 12 [(0, zR Ω 23), (1, zI x1), (2, zI x2), (3, zI x3), (4, zJ x_1), (6, zI x_3), (7, zJ x_5), (9, zI x_8)] → (f_X2_clearBelow_L48 x1 x3 x_1 x_3 x_5 (f_X2_clearBelow_K130 x_3 (f_X2_clearBelow_L20 x1 x2 x3 x_1 n20)) n48 x_8 μ_9) = some μ' → W p l e (zrm 0) s m args below meth c H locs 0 0 Q (F0 m 48 ls []) := by
          intro n48
          induction n48 with
          | zero =>
            intro x_8 μ_9 H locs ls _ _ _ h
            cases h
          | succ n48 ih48 =>
            intro x_8 μ_9 H locs ls gx_8 X hl h
            unfold f_X2_clearBelow_L48 at h
            refine lv_iload C.1 C.2.1 dX2_clearBelow_48 (lv_at hl 7 rfl) ?_
            refine lv_aload_n C.1 C.2.1 dX2_clearBelow_50 rfl (lv_at hl 0 rfl) ?_
            have g_51 : Rg (μ_9 23 4) := zrgf0 (ci := 2) X.2.2.2 (hI.1 23 (by decide)) rfl 4 rfl
            refine z_get C X zk2 (hI.1 23 (by decide)) rfl 4 (by decide) kw_228 (zI (μ_9 23 4)) rfl dX2_clearBelow_51 ?_
            refine z_icmpge C gx_8 g_51 (tgt := 130) dX2_clearBelow_54 (by decide) (fun hc54 => ?_) (fun hc54 => ?_)
            · rw [if_neg hc54] at h
              exact K130 μ_9 _ _ _ X (lv_sub hl [0, 1, 2, 3, 4, 5] rfl) h
            · rw [if_pos hc54] at h
              refine lv_lload C.1 C.2.1 dX2_clearBelow_57 (lv_at hl 6 rfl) ?_
              refine z_lconst C 0 rfl dX2_clearBelow_59 ?_
              refine z_leq C gx_5 ⟨by decide, by decide⟩ (tgt := 130) dX2_clearBelow_60 dX2_clearBelow_61 (by decide) (fun hc60 => ?_) (fun hc60 => ?_)
              · rw [if_pos hc60] at h
                exact K130 μ_9 _ _ _ X (lv_sub hl [0, 1, 2, 3, 4, 5] rfl) h
              · rw [if_neg hc60] at h
                refine lv_lload C.1 C.2.1 dX2_clearBelow_64 (lv_at hl 4 rfl) ?_
                refine lv_aload_n C.1 C.2.1 dX2_clearBelow_66 rfl (lv_at hl 0 rfl) ?_
                refine z_get C X zk2 (hI.1 23 (by decide)) rfl 0 (by decide) kw_223 (zR Ω 24) (zfvF (off := 1) X.2.2.2 (hI.1 23 (by decide)) (hI.2 23 (by decide)) rfl rfl (by decide)) dX2_clearBelow_67 ?_
                refine lv_iload C.1 C.2.1 dX2_clearBelow_70 (lv_at hl 5 rfl) ?_
                refine lv_aload_n C.1 C.2.1 dX2_clearBelow_72 rfl (lv_at hl 0 rfl) ?_
                have g_73 : Rg (μ_9 23 4) := zrgf0 (ci := 2) X.2.2.2 (hI.1 23 (by decide)) rfl 4 rfl
                refine z_get C X zk2 (hI.1 23 (by decide)) rfl 4 (by decide) kw_228 (zI (μ_9 23 4)) rfl dX2_clearBelow_73 ?_
                refine z_imul C dX2_clearBelow_76 ?_
                refine lv_iload C.1 C.2.1 dX2_clearBelow_77 (lv_at hl 7 rfl) ?_
                refine z_iadd C dX2_clearBelow_79 ?_
                obtain ⟨hc80, h⟩ := chk_some h
                have g_80 : Rl (μ_9 24 (zw ((zw (x_3 * (μ_9 23 4))) + x_8))) := zrg2 X.2.2.2 (hI.1 24 (by decide)) rfl
                refine z_lald C X (hI.1 24 (by decide)) rfl hc80 dX2_clearBelow_80 ?_
                refine z_lmul C dX2_clearBelow_81 ?_
                refine lv_lload C.1 C.2.1 dX2_clearBelow_82 (lv_at hl 6 rfl) ?_
                refine lv_aload_n C.1 C.2.1 dX2_clearBelow_84 rfl (lv_at hl 0 rfl) ?_
                refine z_get C X zk2 (hI.1 23 (by decide)) rfl 0 (by decide) kw_223 (zR Ω 24) (zfvF (off := 1) X.2.2.2 (hI.1 23 (by decide)) (hI.2 23 (by decide)) rfl rfl (by decide)) dX2_clearBelow_85 ?_
                refine lv_iload_n C.1 C.2.1 dX2_clearBelow_88 rfl (lv_at hl 1 rfl) ?_
                refine lv_aload_n C.1 C.2.1 dX2_clearBelow_89 rfl (lv_at hl 0 rfl) ?_
                have g_90 : Rg (μ_9 23 4) := zrgf0 (ci := 2) X.2.2.2 (hI.1 23 (by decide)) rfl 4 rfl
                refine z_get C X zk2 (hI.1 23 (by decide)) rfl 4 (by decide) kw_228 (zI (μ_9 23 4)) rfl dX2_clearBelow_90 ?_
                refine z_imul C dX2_clearBelow_93 ?_
                refine lv_iload C.1 C.2.1 dX2_clearBelow_94 (lv_at hl 7 rfl) ?_
                refine z_iadd C dX2_clearBelow_96 ?_
                obtain ⟨hc97, h⟩ := chk_some h
                have g_97 : Rl (μ_9 24 (zw ((zw (x1 * (μ_9 23 4))) + x_8))) := zrg2 X.2.2.2 (hI.1 24 (by decide)) rfl
                refine z_lald C X (hI.1 24 (by decide)) rfl hc97 dX2_clearBelow_97 ?_
                refine z_lmul C dX2_clearBelow_98 ?_
                refine z_lsub C dX2_clearBelow_99 ?_
                refine zlet_elim h (fun x_10 ex_10 h => ?_)
                have gx_10 : Rl x_10 := by rw [ex_10]; exact (Rl.w _)
                refine z_lstore C ex_10 dX2_clearBelow_100 hl (by decide) (lv' := [(10, zJ x_10), (0, zR Ω 23), (1, zI x1), (2, zI x2), (3, zI x3), (4, zJ x_1), (6, zI x_3), (7, zJ x_5), (9, zI x_8)]) rfl (fun ls hl => ?_)
                clear ex_10
                refine lv_aload_n C.1 C.2.1 dX2_clearBelow_102 rfl (lv_at hl 1 rfl) ?_
                refine z_get C X zk2 (hI.1 23 (by decide)) rfl 0 (by decide) kw_223 (zR Ω 24) (zfvF (off := 1) X.2.2.2 (hI.1 23 (by decide)) (hI.2 23 (by decide)) rfl rfl (by decide)) dX2_clearBelow_103 ?_
                refine lv_iload C.1 C.2.1 dX2_clearBelow_106 (lv_at hl 6 rfl) ?_
                refine lv_aload_n C.1 C.2.1 dX2_clearBelow_108 rfl (lv_at hl 1 rfl) ?_
                have g_109 : Rg (μ_9 23 4) := zrgf0 (ci := 2) X.2.2.2 (hI.1 23 (by decide)) rfl 4 rfl
                refine z_get C X zk2 (hI.1 23 (by decide)) rfl 4 (by decide) kw_228 (zI (μ_9 23 4)) rfl dX2_clearBelow_109 ?_
                refine z_imul C dX2_clearBelow_112 ?_
                refine lv_iload C.1 C.2.1 dX2_clearBelow_113 (lv_at hl 8 rfl) ?_
                refine z_iadd C dX2_clearBelow_115 ?_
                refine lv_lload C.1 C.2.1 dX2_clearBelow_116 (lv_at hl 0 rfl) ?_
                refine lv_iload_n C.1 C.2.1 dX2_clearBelow_118 rfl (lv_at hl 4 rfl) ?_
                refine z_i2l C gx3 dX2_clearBelow_119 ?_
                obtain ⟨hc120, h⟩ := chk_some h
                refine z_fmod C (Rg.l gx3) hc120 hl.1 kw_623 kw_624 kw_4 kw_625 (by decide) (Nat.le_of_ble_eq_true rfl) (Nat.zero_le _) (Nat.zero_le _) dX2_clearBelow_120 ?_
                obtain ⟨hc123, h⟩ := chk_some h
                refine zlet_elim h (fun μ_11 em h => ?_)
                refine z_last C X (hI.1 24 (by decide)) rfl hc123 (zok2 rfl (Rl.t _)) em dX2_clearBelow_123 (fun H locs X => ?_)
                clear em
                refine zlet_elim h (fun x_12 ex_12 h => ?_)
                have gx_12 : Rg x_12 := by rw [ex_12]; exact Rg.w _
                refine z_iinc C ex_12 dX2_clearBelow_124 hl (k := 8) rfl (by decide) (lv' := [(9, zI x_12), (10, zJ x_10), (0, zR Ω 23), (1, zI x1), (2, zI x2), (3, zI x3), (4, zJ x_1), (6, zI x_3), (7, zJ x_5)]) rfl (fun ls hl => ?_)
                clear ex_12
                refine lv_goto (tgt := 48) C.1 C.2.1 dX2_clearBelow_127 (by decide) ?_
                exact ih48 x_12 μ_11 _ _ _ gx_12 X (lv_sub hl [2, 3, 4, 5, 6, 7, 8, 0] rfl) h
        exact L48 zfu x2 μ_4 _ _ _ gx2 X (lv_sub hl [2, 3, 4, 5, 6, 7, 1, 0] rfl) h
  exact L20 zfu x_2 μ _ _ _ gx_2 X (lv_sub hl [2, 3, 4, 5, 1, 0] rfl) h
theorem zc_X2_clearBelow : zcal yX2_clearBelow cX2_clearBelow 12 none RX2 3 := ⟨⟨kw_629, kw_628, kp_18, kw_7⟩, rfl, by decide, by decide, by decide +kernel⟩

def f_X2_keepBelow_L2 (x1 : Int) : Nat → Int → zMem → Option zMem
  | 0, _, _ => none
  | n + 1, x_1, μ_2 =>
    if x_1 < (zw ((μ_2 23 3) * (μ_2 23 4))) then
      chk ((0 : Int) ≤ x_1 ∧ x_1 < 1536) <|
      chk (x1 ≠ 0) <|
      chk ((0 : Int) ≤ x_1 ∧ x_1 < 1536) <|
      zlet (zup μ_2 24 x_1 (zfmod (μ_2 24 x_1) x1)) fun μ_3 =>
      zlet (zw (x_1 + 1)) fun x_4 =>
      (f_X2_keepBelow_L2 x1 n) x_4 μ_3
    else
      some μ_2
def f_X2_keepBelow (x1 : Int) (μ : zMem) : Option zMem :=
  (f_X2_keepBelow_L2 x1) zfu 0 μ
set_option maxHeartbeats 4000000 in
set_option maxRecDepth 100000 in
theorem M_X2_keepBelow {l : Launch} {Ω : zO} (hI : zIc Ω) (μ : zMem) (x1 : Int) {μ' : zMem} (gx1 : Rl x1) (h : f_X2_keepBelow x1 μ = some μ') : XMet l yX2_keepBelow cX2_keepBelow 4 none 0 Ω [zR Ω 23, zJ x1] μ none True μ' := by
  refine XMet.ofV (by decide) (Nat.le_of_ble_eq_true rfl) ?_
  intro p e s m args below meth c ls Q C rt X hl
  have C : zC p s m args c cX2_keepBelow RX2 4 Ω := C
  have hl : lv_has ls 4 [(0, zR Ω 23), (1, zJ x1)] := hl
  unfold f_X2_keepBelow at h
  skip
  refine z_iconst C dX2_keepBelow_0 ?_
  refine lv_istore_n C.1 C.2.1 (lv' := [(3, zI 0), (0, zR Ω 23), (1, zJ x1)]) dX2_keepBelow_1 rfl hl (by decide) rfl (fun ls hl => ?_)
  have L2 : ∀ (n2 : Nat) (x_1 : Int) (μ_2 : zMem) (H : Heap) (locs : List Loc) (ls : Array Slot), Rg x_1 → zX Ω μ_2 (zfree Ω) s.heap H locs → lv_has ls 4 [(0, zR Ω 23), (1, zJ x1), (3, zI x_1)] → (f_X2_keepBelow_L2 x1 n2 x_1 μ_2) = some μ' → W p l e (zrm 0) s m args below meth c H locs 0 0 Q (F0 m 2 ls []) := by
    intro n2
    induction n2 with
    | zero =>
      intro x_1 μ_2 H locs ls _ _ _ h
      cases h
    | succ n2 ih2 =>
      intro x_1 μ_2 H locs ls gx_1 X hl h
      unfold f_X2_keepBelow_L2 at h
      refine lv_iload_n C.1 C.2.1 dX2_keepBelow_2 rfl (lv_at hl 2 rfl) ?_
      refine lv_aload_n C.1 C.2.1 dX2_keepBelow_3 rfl (lv_at hl 0 rfl) ?_
      have g_4 : Rg (μ_2 23 3) := zrgf0 (ci := 2) X.2.2.2 (hI.1 23 (by decide)) rfl 3 rfl
      refine z_get C X zk2 (hI.1 23 (by decide)) rfl 3 (by decide) kw_227 (zI (μ_2 23 3)) rfl dX2_keepBelow_4 ?_
      refine lv_aload_n C.1 C.2.1 dX2_keepBelow_7 rfl (lv_at hl 0 rfl) ?_
      have g_8 : Rg (μ_2 23 4) := zrgf0 (ci := 2) X.2.2.2 (hI.1 23 (by decide)) rfl 4 rfl
      refine z_get C X zk2 (hI.1 23 (by decide)) rfl 4 (by decide) kw_228 (zI (μ_2 23 4)) rfl dX2_keepBelow_8 ?_
      refine z_imul C dX2_keepBelow_11 ?_
      refine z_icmpge C gx_1 (Rg.w _) (tgt := 37) dX2_keepBelow_12 (by decide) (fun hc12 => ?_) (fun hc12 => ?_)
      · rw [if_neg hc12] at h
        obtain rfl := Option.some.inj h
        exact rt X dX2_keepBelow_37
      · rw [if_pos hc12] at h
        refine lv_aload_n C.1 C.2.1 dX2_keepBelow_15 rfl (lv_at hl 0 rfl) ?_
        refine z_get C X zk2 (hI.1 23 (by decide)) rfl 0 (by decide) kw_223 (zR Ω 24) (zfvF (off := 1) X.2.2.2 (hI.1 23 (by decide)) (hI.2 23 (by decide)) rfl rfl (by decide)) dX2_keepBelow_16 ?_
        refine lv_iload_n C.1 C.2.1 dX2_keepBelow_19 rfl (lv_at hl 2 rfl) ?_
        refine lv_aload_n C.1 C.2.1 dX2_keepBelow_20 rfl (lv_at hl 0 rfl) ?_
        refine z_get C X zk2 (hI.1 23 (by decide)) rfl 0 (by decide) kw_223 (zR Ω 24) (zfvF (off := 1) X.2.2.2 (hI.1 23 (by decide)) (hI.2 23 (by decide)) rfl rfl (by decide)) dX2_keepBelow_21 ?_
        refine lv_iload_n C.1 C.2.1 dX2_keepBelow_24 rfl (lv_at hl 2 rfl) ?_
        obtain ⟨hc25, h⟩ := chk_some h
        have g_25 : Rl (μ_2 24 x_1) := zrg2 X.2.2.2 (hI.1 24 (by decide)) rfl
        refine z_lald C X (hI.1 24 (by decide)) rfl hc25 dX2_keepBelow_25 ?_
        refine lv_lload_n C.1 C.2.1 dX2_keepBelow_26 rfl (lv_at hl 1 rfl) ?_
        obtain ⟨hc27, h⟩ := chk_some h
        refine z_fmod C gx1 hc27 hl.1 kw_623 kw_624 kw_4 kw_625 (by decide) (Nat.le_of_ble_eq_true rfl) (Nat.zero_le _) (Nat.zero_le _) dX2_keepBelow_27 ?_
        obtain ⟨hc30, h⟩ := chk_some h
        refine zlet_elim h (fun μ_3 em h => ?_)
        refine z_last C X (hI.1 24 (by decide)) rfl hc30 (zok2 rfl (Rl.t _)) em dX2_keepBelow_30 (fun H locs X => ?_)
        clear em
        refine zlet_elim h (fun x_4 ex_4 h => ?_)
        have gx_4 : Rg x_4 := by rw [ex_4]; exact Rg.w _
        refine z_iinc C ex_4 dX2_keepBelow_31 hl (k := 2) rfl (by decide) (lv' := [(3, zI x_4), (0, zR Ω 23), (1, zJ x1)]) rfl (fun ls hl => ?_)
        clear ex_4
        refine lv_goto (tgt := 2) C.1 C.2.1 dX2_keepBelow_34 (by decide) ?_
        exact ih2 x_4 μ_3 _ _ _ gx_4 X (lv_sub hl [1, 2, 0] rfl) h
  exact L2 zfu 0 μ _ _ _ ⟨by decide, by decide⟩ X (lv_sub hl [1, 2, 0] rfl) h
theorem zc_X2_keepBelow : zcal yX2_keepBelow cX2_keepBelow 4 none RX2 1 := ⟨⟨kw_622, kw_621, kp_17, kw_7⟩, rfl, by decide, by decide, by decide +kernel⟩

def f_X2_rowWith_L2 (x1 : Int) (μ : zMem) : Nat → Int → Option Int
  | 0, _ => none
  | n + 1, x_1 =>
    if x_1 < (μ 23 3) then
      chk ((0 : Int) ≤ (zw ((zw (x_1 * (μ 23 4))) + x1)) ∧ (zw ((zw (x_1 * (μ 23 4))) + x1)) < 1536) <|
      if (μ 24 (zw ((zw (x_1 * (μ 23 4))) + x1))) = 0 then
        zlet (zw (x_1 + 1)) fun x_2 =>
        (f_X2_rowWith_L2 x1 μ n) x_2
      else
        some x_1
    else
      some (-1)
def f_X2_rowWith (x1 : Int) (x2 : Int) (μ : zMem) : Option Int :=
  (f_X2_rowWith_L2 x1 μ) zfu x2
set_option maxHeartbeats 4000000 in
set_option maxRecDepth 100000 in
theorem M_X2_rowWith {l : Launch} {Ω : zO} (hI : zIc Ω) (μ : zMem) (x1 : Int) (x2 : Int) {r : Int} (gx1 : Rg x1) (gx2 : Rg x2) (h : f_X2_rowWith x1 x2 μ = some r) : XMet l yX2_rowWith cX2_rowWith 4 (some Jvm.ClassFile.FieldType.int) 0 Ω [zR Ω 23, zI x1, zI x2] μ (some (zI r)) (Rg r) μ := by
  refine XMet.ofI (by decide) (Nat.le_of_ble_eq_true rfl) ?_
  intro p e s m args below meth c ls Q C rt X hl
  have C : zC p s m args c cX2_rowWith RX2 4 Ω := C
  have hl : lv_has ls 4 [(0, zR Ω 23), (1, zI x1), (2, zI x2)] := hl
  unfold f_X2_rowWith at h
  skip
  refine lv_iload_n C.1 C.2.1 dX2_rowWith_0 rfl (lv_at hl 2 rfl) ?_
  refine lv_istore_n C.1 C.2.1 (lv' := [(3, zI x2), (0, zR Ω 23), (1, zI x1), (2, zI x2)]) dX2_rowWith_1 rfl hl (by decide) rfl (fun ls hl => ?_)
  have L2 : ∀ (n2 : Nat) (x_1 : Int) (H : Heap) (locs : List Loc) (ls : Array Slot), Rg x_1 → zX Ω μ (zfree Ω) s.heap H locs → lv_has ls 4 [(0, zR Ω 23), (1, zI x1), (3, zI x_1)] → (f_X2_rowWith_L2 x1 μ n2 x_1) = some r → W p l e (zrm 0) s m args below meth c H locs 0 0 Q (F0 m 2 ls []) := by
    intro n2
    induction n2 with
    | zero =>
      intro x_1 H locs ls _ _ _ h
      cases h
    | succ n2 ih2 =>
      intro x_1 H locs ls gx_1 X hl h
      unfold f_X2_rowWith_L2 at h
      refine lv_iload_n C.1 C.2.1 dX2_rowWith_2 rfl (lv_at hl 2 rfl) ?_
      refine lv_aload_n C.1 C.2.1 dX2_rowWith_3 rfl (lv_at hl 0 rfl) ?_
      have g_4 : Rg (μ 23 3) := zrgf0 (ci := 2) X.2.2.2 (hI.1 23 (by decide)) rfl 3 rfl
      refine z_get C X zk2 (hI.1 23 (by decide)) rfl 3 (by decide) kw_227 (zI (μ 23 3)) rfl dX2_rowWith_4 ?_
      refine z_icmpge C gx_1 g_4 (tgt := 36) dX2_rowWith_7 (by decide) (fun hc7 => ?_) (fun hc7 => ?_)
      · rw [if_neg hc7] at h
        refine z_iconst C dX2_rowWith_36 ?_
        obtain rfl := Option.some.inj h
        exact rt X ⟨by decide, by decide⟩ dX2_rowWith_37
      · rw [if_pos hc7] at h
        refine lv_aload_n C.1 C.2.1 dX2_rowWith_10 rfl (lv_at hl 0 rfl) ?_
        refine z_get C X zk2 (hI.1 23 (by decide)) rfl 0 (by decide) kw_223 (zR Ω 24) (zfvF (off := 1) X.2.2.2 (hI.1 23 (by decide)) (hI.2 23 (by decide)) rfl rfl (by decide)) dX2_rowWith_11 ?_
        refine lv_iload_n C.1 C.2.1 dX2_rowWith_14 rfl (lv_at hl 2 rfl) ?_
        refine lv_aload_n C.1 C.2.1 dX2_rowWith_15 rfl (lv_at hl 0 rfl) ?_
        have g_16 : Rg (μ 23 4) := zrgf0 (ci := 2) X.2.2.2 (hI.1 23 (by decide)) rfl 4 rfl
        refine z_get C X zk2 (hI.1 23 (by decide)) rfl 4 (by decide) kw_228 (zI (μ 23 4)) rfl dX2_rowWith_16 ?_
        refine z_imul C dX2_rowWith_19 ?_
        refine lv_iload_n C.1 C.2.1 dX2_rowWith_20 rfl (lv_at hl 1 rfl) ?_
        refine z_iadd C dX2_rowWith_21 ?_
        obtain ⟨hc22, h⟩ := chk_some h
        have g_22 : Rl (μ 24 (zw ((zw (x_1 * (μ 23 4))) + x1))) := zrg2 X.2.2.2 (hI.1 24 (by decide)) rfl
        refine z_lald C X (hI.1 24 (by decide)) rfl hc22 dX2_rowWith_22 ?_
        refine z_lconst C 0 rfl dX2_rowWith_23 ?_
        refine z_leq C g_22 ⟨by decide, by decide⟩ (tgt := 30) dX2_rowWith_24 dX2_rowWith_25 (by decide) (fun hc24 => ?_) (fun hc24 => ?_)
        · rw [if_pos hc24] at h
          refine zlet_elim h (fun x_2 ex_2 h => ?_)
          have gx_2 : Rg x_2 := by rw [ex_2]; exact Rg.w _
          refine z_iinc C ex_2 dX2_rowWith_30 hl (k := 2) rfl (by decide) (lv' := [(3, zI x_2), (0, zR Ω 23), (1, zI x1)]) rfl (fun ls hl => ?_)
          clear ex_2
          refine lv_goto (tgt := 2) C.1 C.2.1 dX2_rowWith_33 (by decide) ?_
          exact ih2 x_2 _ _ _ gx_2 X (lv_sub hl [1, 2, 0] rfl) h
        · rw [if_neg hc24] at h
          refine lv_iload_n C.1 C.2.1 dX2_rowWith_28 rfl (lv_at hl 2 rfl) ?_
          obtain rfl := Option.some.inj h
          exact rt X gx_1 dX2_rowWith_29
  exact L2 zfu x2 _ _ _ gx2 X (lv_sub hl [1, 2, 0] rfl) h
theorem zc_X2_rowWith : zcal yX2_rowWith cX2_rowWith 4 (some Jvm.ClassFile.FieldType.int) RX2 2 := ⟨⟨kw_606, kw_605, kp_13, kw_7⟩, rfl, by decide, by decide, by decide +kernel⟩

