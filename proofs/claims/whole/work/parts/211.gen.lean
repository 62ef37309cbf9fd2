def f_X7_stepOfSign_J19 (x0 : Int) : Int :=
  if x0 < 65 then
    (-1)
  else
    if x0 ≤ 90 then
      (zw ((zw (2 * (zw (x0 - 65)))) + 1))
    else
      (-1)
def f_X7_stepOfSign (x0 : Int) : Int :=
  if x0 < 97 then
    (f_X7_stepOfSign_J19 x0)
  else
    if x0 ≤ 122 then
      (zw (2 * (zw (x0 - 97))))
    else
      (f_X7_stepOfSign_J19 x0)
set_option maxHeartbeats 4000000 in
set_option maxRecDepth 100000 in
theorem M_X7_stepOfSign {l : Launch} {Ω : zO} (hI : zIc Ω) (μ : zMem) (x0 : Int) (gx0 : Rg x0) : XMet l yX7_stepOfSign cX7_stepOfSign 1 (some Jvm.ClassFile.FieldType.int) 0 Ω [zI x0] μ (some (zI (f_X7_stepOfSign x0))) (Rg (f_X7_stepOfSign x0)) μ := by
  obtain ⟨r, h⟩ : ∃ r, f_X7_stepOfSign x0 = r := ⟨_, rfl⟩
  rw [h]
  refine XMet.ofI (by decide) (Nat.le_of_ble_eq_true rfl) ?_
  intro p e s m args below meth c ls Q C rt X hl
  have C : zC p s m args c cX7_stepOfSign RX7 1 Ω := C
  have hl : lv_has ls 1 [(0, zI x0)] := hl
  unfold f_X7_stepOfSign at h
  skip
  refine lv_iload_n C.1 C.2.1 dX7_stepOfSign_0 rfl (lv_at hl 0 rfl) ?_
  refine z_bipush C dX7_stepOfSign_1 (by decide) ?_
  have K19 : ∀ (H : Heap) (locs : List Loc) (ls : Array Slot), zX Ω μ (zfree Ω) s.heap H locs → lv_has ls 1 [(0, zI x0)] → (f_X7_stepOfSign_J19 x0) = r → W p l e (zrm 0) s m args below meth c H locs 0 0 Q (F0 m 19 ls []) := by
    intro  H locs ls  X hl h
    unfold f_X7_stepOfSign_J19 at h
    refine lv_iload_n C.1 C.2.1 dX7_stepOfSign_19 rfl (lv_at hl 0 rfl) ?_
    refine z_bipush C dX7_stepOfSign_20 (by decide) ?_
    refine z_icmplt C gx0 ⟨by decide, by decide⟩ (tgt := 42) dX7_stepOfSign_22 (by decide) (fun hc22 => ?_) (fun hc22 => ?_)
    · rw [if_pos hc22] at h
      refine z_iconst C dX7_stepOfSign_42 ?_
      subst h
      exact rt X ⟨by decide, by decide⟩ dX7_stepOfSign_43
    · rw [if_neg hc22] at h
      refine lv_iload_n C.1 C.2.1 dX7_stepOfSign_25 rfl (lv_at hl 0 rfl) ?_
      refine z_bipush C dX7_stepOfSign_26 (by decide) ?_
      refine z_icmpgt C gx0 ⟨by decide, by decide⟩ (tgt := 42) dX7_stepOfSign_28 (by decide) (fun hc28 => ?_) (fun hc28 => ?_)
      · rw [if_neg hc28] at h
        refine z_iconst C dX7_stepOfSign_42 ?_
        subst h
        exact rt X ⟨by decide, by decide⟩ dX7_stepOfSign_43
      · rw [if_pos hc28] at h
        refine z_iconst C dX7_stepOfSign_31 ?_
        refine lv_iload_n C.1 C.2.1 dX7_stepOfSign_32 rfl (lv_at hl 0 rfl) ?_
        refine z_bipush C dX7_stepOfSign_33 (by decide) ?_
        refine z_isub C dX7_stepOfSign_35 ?_
        refine z_imul C dX7_stepOfSign_36 ?_
        refine z_iconst C dX7_stepOfSign_37 ?_
        refine z_iadd C dX7_stepOfSign_38 ?_
        refine lv_goto (tgt := 43) C.1 C.2.1 dX7_stepOfSign_39 (by decide) ?_
        subst h
        exact rt X (Rg.w _) dX7_stepOfSign_43
  refine z_icmplt C gx0 ⟨by decide, by decide⟩ (tgt := 19) dX7_stepOfSign_3 (by decide) (fun hc3 => ?_) (fun hc3 => ?_)
  · rw [if_pos hc3] at h
    exact K19 _ _ _ X (lv_sub hl [0] rfl) h
  · rw [if_neg hc3] at h
    refine lv_iload_n C.1 C.2.1 dX7_stepOfSign_6 rfl (lv_at hl 0 rfl) ?_
    refine z_bipush C dX7_stepOfSign_7 (by decide) ?_
    refine z_icmpgt C gx0 ⟨by decide, by decide⟩ (tgt := 19) dX7_stepOfSign_9 (by decide) (fun hc9 => ?_) (fun hc9 => ?_)
    · rw [if_neg hc9] at h
      exact K19 _ _ _ X (lv_sub hl [0] rfl) h
    · rw [if_pos hc9] at h
      refine z_iconst C dX7_stepOfSign_12 ?_
      refine lv_iload_n C.1 C.2.1 dX7_stepOfSign_13 rfl (lv_at hl 0 rfl) ?_
      refine z_bipush C dX7_stepOfSign_14 (by decide) ?_
      refine z_isub C dX7_stepOfSign_16 ?_
      refine z_imul C dX7_stepOfSign_17 ?_
      subst h
      exact rt X (Rg.w _) dX7_stepOfSign_18
theorem zc_X7_stepOfSign : zcas yX7_stepOfSign cX7_stepOfSign 1 (some Jvm.ClassFile.FieldType.int) 1 := ⟨⟨kw_488, kw_487, kw_5⟩, by decide, by decide, by decide +kernel⟩

def f_X8_clear (t0 : Int) (μ : zMem) : Option zMem :=
  zlet (zup μ t0 2 0) fun μ_1 =>
  zlet (zup μ_1 t0 3 0) fun μ_2 =>
  zlet (zup μ_2 t0 4 0) fun μ_3 =>
  some μ_3
set_option maxHeartbeats 4000000 in
set_option maxRecDepth 100000 in
theorem M_X8_clear {l : Launch} {Ω : zO} (μ : zMem) (t0 : Int) {μ' : zMem} (o_t0 : zob Ω.2.2.1 8 t0) (h : f_X8_clear t0 μ = some μ') : XMet l yX8_clear cX8_clear 1 none 0 Ω [zR Ω t0] μ none True μ' := by
  refine XMet.ofV (by decide) (Nat.le_of_ble_eq_true rfl) ?_
  intro p e s m args below meth c ls Q C rt X hl
  have C : zC p s m args c cX8_clear RX8 1 Ω := C
  have hl : lv_has ls 1 [(0, zR Ω t0)] := hl
  unfold f_X8_clear at h
  skip
  refine lv_aload_n C.1 C.2.1 dX8_clear_0 rfl (lv_at hl 0 rfl) ?_
  refine z_iconst C dX8_clear_1 ?_
  refine zlet_elim h (fun μ_1 em h => ?_)
  refine z_putI C X zk8 (zob.self o_t0) (zo8 o_t0) 2 (by decide) kw_195 rfl rfl rfl rfl ⟨by decide, by decide⟩ em dX8_clear_2 (fun H locs X => ?_)
  clear em
  refine lv_aload_n C.1 C.2.1 dX8_clear_5 rfl (lv_at hl 0 rfl) ?_
  refine z_iconst C dX8_clear_6 ?_
  refine zlet_elim h (fun μ_2 em h => ?_)
  refine z_putI C X zk8 (zob.self o_t0) (zo8 o_t0) 3 (by decide) kw_201 rfl rfl rfl rfl ⟨by decide, by decide⟩ em dX8_clear_7 (fun H locs X => ?_)
  clear em
  refine lv_aload_n C.1 C.2.1 dX8_clear_10 rfl (lv_at hl 0 rfl) ?_
  refine z_iconst C dX8_clear_11 ?_
  refine zlet_elim h (fun μ_3 em h => ?_)
  refine z_putI C X zk8 (zob.self o_t0) (zo8 o_t0) 4 (by decide) kw_204 rfl rfl rfl rfl ⟨by decide, by decide⟩ em dX8_clear_12 (fun H locs X => ?_)
  clear em
  obtain rfl := Option.some.inj h
  exact rt X dX8_clear_15
theorem zc_X8_clear : zcal yX8_clear cX8_clear 1 none RX8 0 := ⟨⟨kw_481, kw_479, kw_480, kw_6⟩, rfl, by decide, by decide, by decide +kernel⟩

def f_X8_goOn_J46 (t0 : Int) (x1 : Int) (x2 : Int) (μ_2 : zMem) : Option (Int × zMem) :=
  chk ((0 : Int) ≤ (μ_2 t0 2) ∧ (μ_2 t0 2) < zlen (t0 + 1)) <|
  zlet (zup μ_2 (t0 + 1) (μ_2 t0 2) x2) fun μ_3 =>
  zlet (zup μ_3 t0 2 (zw ((μ_3 t0 2) + 1))) fun μ_4 =>
  bnd (f_X5_endOf x1 x2 μ_4) fun x_5 =>
  zlet (zup μ_4 t0 4 x_5) fun μ_6 =>
  some (1, μ_6)
def f_X8_goOn_J30 (t0 : Int) (x1 : Int) (x2 : Int) (μ_1 : zMem) : Option (Int × zMem) :=
  if (μ_1 t0 2) = 0 then
    bnd (f_X5_startOf x1 x2 μ_1) fun x_7 =>
    zlet (zup μ_1 t0 3 x_7) fun μ_8 =>
    (f_X8_goOn_J46 t0 x1 x2) μ_8
  else
    (f_X8_goOn_J46 t0 x1 x2) μ_1
def f_X8_goOn (t0 : Int) (x1 : Int) (x2 : Int) (μ : zMem) : Option (Int × zMem) :=
  if (μ t0 2) < 16 then
    if (μ t0 2) ≤ 0 then
      (f_X8_goOn_J30 t0 x1 x2) μ
    else
      bnd (f_X5_startOf x1 x2 μ) fun x_9 =>
      if x_9 = (μ t0 4) then
        (f_X8_goOn_J30 t0 x1 x2) μ
      else
        some (0, μ)
  else
    some (0, μ)
set_option maxHeartbeats 4000000 in
set_option maxRecDepth 100000 in
theorem M_X8_goOn {l : Launch} {Ω : zO} (μ : zMem) (t0 : Int) (x1 : Int) (x2 : Int) {r : Int} {μ' : zMem} (o_t0 : zob Ω.2.2.1 8 t0) (o_x1 : zob Ω.2.2.1 5 x1) (gx2 : Rg x2) (h : f_X8_goOn t0 x1 x2 μ = some (r, μ')) : XMet l yX8_goOn cX8_goOn 3 (some Jvm.ClassFile.FieldType.boolean) 1 Ω [zR Ω t0, zR Ω x1, zI x2] μ (some (zI r)) (0 ≤ r ∧ r ≤ 1) μ' := by
  refine XMet.ofZ (by decide) (Nat.le_of_ble_eq_true rfl) ?_
  intro p e s m args below meth c ls Q C rt X hl
  have C : zC p s m args c cX8_goOn RX8 3 Ω := C
  have hl : lv_has ls 3 [(0, zR Ω t0), (1, zR Ω x1), (2, zI x2)] := hl
  unfold f_X8_goOn at h
  skip
  refine lv_aload_n C.1 C.2.1 dX8_goOn_0 rfl (lv_at hl 0 rfl) ?_
  have g_1 : Rg (μ t0 2) := zrgf0 (ci := 8) X.2.2.2 (zob.self o_t0) (zo8 o_t0) 2 rfl
  refine z_get C X zk8 (zob.self o_t0) (zo8 o_t0) 2 (by decide) kw_195 (zI (μ t0 2)) rfl dX8_goOn_1 ?_
  refine z_bipush C dX8_goOn_4 (by decide) ?_
  refine z_icmpge C g_1 ⟨by decide, by decide⟩ (tgt := 28) dX8_goOn_6 (by decide) (fun hc6 => ?_) (fun hc6 => ?_)
  · rw [if_neg hc6] at h
    refine z_iconst C dX8_goOn_28 ?_
    obtain ⟨rfl, rfl⟩ := Prod.mk.inj (Option.some.inj h)
    exact rt X ⟨by decide, by decide⟩ dX8_goOn_29
  · rw [if_pos hc6] at h
    refine lv_aload_n C.1 C.2.1 dX8_goOn_9 rfl (lv_at hl 0 rfl) ?_
    have g_10 : Rg (μ t0 2) := zrgf0 (ci := 8) X.2.2.2 (zob.self o_t0) (zo8 o_t0) 2 rfl
    refine z_get C X zk8 (zob.self o_t0) (zo8 o_t0) 2 (by decide) kw_195 (zI (μ t0 2)) rfl dX8_goOn_10 ?_
    have K30 : ∀ (μ_1 : zMem) (H : Heap) (locs : List Loc) (ls : Array Slot), zX Ω μ_1 (zfree Ω) s.heap H locs → lv_has ls 3 [(0, zR Ω t0), (1, zR Ω x1), (2, zI x2)] → (f_X8_goOn_J30 t0 x1 x2) μ_1 = some (r, μ') → W p l e (zrm 1) s m args below meth c H locs 0 0 Q (F0 m 30 ls []) := by
      intro μ_1 H locs ls  X hl h
      unfold f_X8_goOn_J30 at h
      refine lv_aload_n C.1 C.2.1 dX8_goOn_30 rfl (lv_at hl 0 rfl) ?_
      have g_31 : Rg (μ_1 t0 2) := zrgf0 (ci := 8) X.2.2.2 (zob.self o_t0) (zo8 o_t0) 2 rfl
      refine z_get C X zk8 (zob.self o_t0) (zo8 o_t0) 2 (by decide) kw_195 (zI (μ_1 t0 2)) rfl dX8_goOn_31 ?_
      have K46 : ∀ (μ_2 : zMem) (H : Heap) (locs : List Loc) (ls : Array Slot), zX Ω μ_2 (zfree Ω) s.heap H locs → lv_has ls 3 [(0, zR Ω t0), (1, zR Ω x1), (2, zI x2)] → (f_X8_goOn_J46 t0 x1 x2) μ_2 = some (r, μ') → W p l e (zrm 1) s m args below meth c H locs 0 0 Q (F0 m 46 ls []) := by
        intro μ_2 H locs ls  X hl h
        unfold f_X8_goOn_J46 at h
        refine lv_aload_n C.1 C.2.1 dX8_goOn_46 rfl (lv_at hl 0 rfl) ?_
        refine z_get C X zk8 (zob.self o_t0) (zo8 o_t0) 0 (by decide) kw_187 (zR Ω (t0 + 1)) (zfvF (off := 1) X.2.2.2 (zob.self o_t0) o_t0.2.2 (zo8 o_t0) rfl (by rw [zo8_1 o_t0]; decide)) dX8_goOn_47 ?_
        refine lv_aload_n C.1 C.2.1 dX8_goOn_50 rfl (lv_at hl 0 rfl) ?_
        have g_51 : Rg (μ_2 t0 2) := zrgf0 (ci := 8) X.2.2.2 (zob.self o_t0) (zo8 o_t0) 2 rfl
        refine z_get C X zk8 (zob.self o_t0) (zo8 o_t0) 2 (by decide) kw_195 (zI (μ_2 t0 2)) rfl dX8_goOn_51 ?_
        refine lv_iload_n C.1 C.2.1 dX8_goOn_54 rfl (lv_at hl 2 rfl) ?_
        obtain ⟨hc55, h⟩ := chk_some h
        refine zlet_elim h (fun μ_3 em h => ?_)
        refine z_iast C X (o_t0.2.1 1 (by decide) (by decide)) (zo8_1 o_t0) hc55 (zok1 (zo8_1 o_t0) gx2) em dX8_goOn_55 (fun H locs X => ?_)
        clear em
        refine lv_aload_n C.1 C.2.1 dX8_goOn_56 rfl (lv_at hl 0 rfl) ?_
        refine lv_dup C.1 C.2.1 dX8_goOn_57 rfl ?_
        have g_58 : Rg (μ_3 t0 2) := zrgf0 (ci := 8) X.2.2.2 (zob.self o_t0) (zo8 o_t0) 2 rfl
        refine z_get C X zk8 (zob.self o_t0) (zo8 o_t0) 2 (by decide) kw_195 (zI (μ_3 t0 2)) rfl dX8_goOn_58 ?_
        refine z_iconst C dX8_goOn_61 ?_
        refine z_iadd C dX8_goOn_62 ?_
        refine zlet_elim h (fun μ_4 em h => ?_)
        refine z_putI C X zk8 (zob.self o_t0) (zo8 o_t0) 2 (by decide) kw_195 rfl rfl rfl rfl (Rg.w _) em dX8_goOn_63 (fun H locs X => ?_)
        clear em
        refine lv_aload_n C.1 C.2.1 dX8_goOn_66 rfl (lv_at hl 0 rfl) ?_
        refine lv_aload_n C.1 C.2.1 dX8_goOn_67 rfl (lv_at hl 1 rfl) ?_
        refine lv_iload_n C.1 C.2.1 dX8_goOn_68 rfl (lv_at hl 2 rfl) ?_
        obtain ⟨x_5, hq69, h⟩ := bnd_some h
        refine z_callV1 C X zk5 (zob.self o_x1) (zo5 o_x1) (As := [zI x2]) (M_X5_endOf μ_4 x1 x2 o_x1 gx2 hq69) zc_X5_endOf kw_497 (zroom (by decide) (by decide)) rfl hl.1 rfl (Nat.le_of_ble_eq_true rfl) dX8_goOn_69 ⟨Nat.zero_le _, Nat.zero_le _⟩ (fun H locs g_69 X => ?_)
        refine zlet_elim h (fun μ_6 em h => ?_)
        refine z_putI C X zk8 (zob.self o_t0) (zo8 o_t0) 4 (by decide) kw_204 rfl rfl rfl rfl g_69 em dX8_goOn_72 (fun H locs X => ?_)
        clear em
        refine z_iconst C dX8_goOn_75 ?_
        obtain ⟨rfl, rfl⟩ := Prod.mk.inj (Option.some.inj h)
        exact rt X ⟨by decide, by decide⟩ dX8_goOn_76
      refine z_ifne C g_31 (tgt := 46) dX8_goOn_34 (by decide) (fun hc34 => ?_) (fun hc34 => ?_)
      · rw [if_neg hc34] at h
        exact K46 μ_1 _ _ _ X (lv_sub hl [0, 1, 2] rfl) h
      · rw [if_pos hc34] at h
        refine lv_aload_n C.1 C.2.1 dX8_goOn_37 rfl (lv_at hl 0 rfl) ?_
        refine lv_aload_n C.1 C.2.1 dX8_goOn_38 rfl (lv_at hl 1 rfl) ?_
        refine lv_iload_n C.1 C.2.1 dX8_goOn_39 rfl (lv_at hl 2 rfl) ?_
        obtain ⟨x_7, hq40, h⟩ := bnd_some h
        refine z_callV1 C X zk5 (zob.self o_x1) (zo5 o_x1) (As := [zI x2]) (M_X5_startOf μ_1 x1 x2 o_x1 gx2 hq40) zc_X5_startOf kw_493 (zroom (by decide) (by decide)) rfl hl.1 rfl (Nat.le_of_ble_eq_true rfl) dX8_goOn_40 ⟨Nat.zero_le _, Nat.zero_le _⟩ (fun H locs g_40 X => ?_)
        refine zlet_elim h (fun μ_8 em h => ?_)
        refine z_putI C X zk8 (zob.self o_t0) (zo8 o_t0) 3 (by decide) kw_201 rfl rfl rfl rfl g_40 em dX8_goOn_43 (fun H locs X => ?_)
        clear em
        exact K46 μ_8 _ _ _ X (lv_sub hl [0, 1, 2] rfl) h
    refine z_ifle C g_10 (tgt := 30) dX8_goOn_13 (by decide) (fun hc13 => ?_) (fun hc13 => ?_)
    · rw [if_pos hc13] at h
      exact K30 μ _ _ _ X (lv_sub hl [0, 1, 2] rfl) h
    · rw [if_neg hc13] at h
      refine lv_aload_n C.1 C.2.1 dX8_goOn_16 rfl (lv_at hl 1 rfl) ?_
      refine lv_iload_n C.1 C.2.1 dX8_goOn_17 rfl (lv_at hl 2 rfl) ?_
      obtain ⟨x_9, hq18, h⟩ := bnd_some h
      refine z_callV1 C X zk5 (zob.self o_x1) (zo5 o_x1) (As := [zI x2]) (M_X5_startOf μ x1 x2 o_x1 gx2 hq18) zc_X5_startOf kw_493 (zroom (by decide) (by decide)) rfl hl.1 rfl (Nat.le_of_ble_eq_true rfl) dX8_goOn_18 ⟨Nat.zero_le _, Nat.zero_le _⟩ (fun H locs g_18 X => ?_)
      refine lv_aload_n C.1 C.2.1 dX8_goOn_21 rfl (lv_at hl 0 rfl) ?_
      have g_22 : Rg (μ t0 4) := zrgf0 (ci := 8) X.2.2.2 (zob.self o_t0) (zo8 o_t0) 4 rfl
      refine z_get C X zk8 (zob.self o_t0) (zo8 o_t0) 4 (by decide) kw_204 (zI (μ t0 4)) rfl dX8_goOn_22 ?_
      refine z_icmpeq C g_18 g_22 (tgt := 30) dX8_goOn_25 (by decide) (fun hc25 => ?_) (fun hc25 => ?_)
      · rw [if_pos hc25] at h
        exact K30 μ _ _ _ X (lv_sub hl [0, 1, 2] rfl) h
      · rw [if_neg hc25] at h
        refine z_iconst C dX8_goOn_28 ?_
        obtain ⟨rfl, rfl⟩ := Prod.mk.inj (Option.some.inj h)
        exact rt X ⟨by decide, by decide⟩ dX8_goOn_29
theorem zc_X8_goOn : zcal yX8_goOn cX8_goOn 3 (some Jvm.ClassFile.FieldType.boolean) RX8 2 := ⟨⟨kw_492, kw_490, kw_491, kw_6⟩, rfl, by decide, by decide, by decide +kernel⟩

def f_X7_readSteps_L7 (x1 : Int) (x2 : Int) (x3 : Int) : Nat → Int → zMem → Option zMem
  | 0, _, _ => none
  | n + 1, x_2, μ_3 =>
    if x_2 < x3 then
      bnd2 (f_X7_look μ_3) fun x_4 μ_5 =>
      zlet ((f_X7_stepOfSign x_4)) fun x_6 =>
      if x_6 = (-1) then
        some μ_5
      else
        if (zshr x_6 1) < (μ_5 x1 7) then
          bnd2 (f_X8_goOn x2 x1 x_6 μ_5) fun x_7 μ_8 =>
          if x_7 = 0 then
            some μ_8
          else
            zlet (zup μ_8 19 2 (zw ((μ_8 19 2) + 1))) fun μ_9 =>
            zlet (zw (x_2 + 1)) fun x_10 =>
            (f_X7_readSteps_L7 x1 x2 x3 n) x_10 μ_9
        else
          some μ_5
    else
      some μ_3
def f_X7_readSteps (x1 : Int) (x2 : Int) (x3 : Int) (μ : zMem) : Option zMem :=
  bnd (f_X8_clear x2 μ) fun μ_1 =>
  (f_X7_readSteps_L7 x1 x2 x3) zfu 0 μ_1
set_option maxHeartbeats 4000000 in
set_option maxRecDepth 100000 in
theorem M_X7_readSteps {l : Launch} {Ω : zO} (hI : zIc Ω) (μ : zMem) (x1 : Int) (x2 : Int) (x3 : Int) {μ' : zMem} (o_x1 : zob Ω.2.2.1 5 x1) (o_x2 : zob Ω.2.2.1 8 x2) (gx3 : Rg x3) (h : f_X7_readSteps x1 x2 x3 μ = some μ') : XMet l yX7_readSteps cX7_readSteps 6 none 2 Ω [zR Ω 19, zR Ω x1, zR Ω x2, zI x3] μ none True μ' := by
  refine XMet.ofV (by decide) (Nat.le_of_ble_eq_true rfl) ?_
  intro p e s m args below meth c ls Q C rt X hl
  have C : zC p s m args c cX7_readSteps RX7 6 Ω := C
  have hl : lv_has ls 6 [(0, zR Ω 19), (1, zR Ω x1), (2, zR Ω x2), (3, zI x3)] := hl
  unfold f_X7_readSteps at h
  skip
  refine lv_aload_n C.1 C.2.1 dX7_readSteps_0 rfl (lv_at hl 2 rfl) ?_
  obtain ⟨μ_1, hq1, h⟩ := bnd_some h
  refine z_callV0 C X zk8 (zob.self o_x2) (zo8 o_x2) (As := []) (M_X8_clear μ x2 o_x2 hq1) zc_X8_clear kw_478 (zroom (by decide) (by decide)) rfl hl.1 rfl (Nat.le_of_ble_eq_true rfl) dX7_readSteps_1 ⟨Nat.zero_le _, Nat.zero_le _⟩ (fun H locs g_1 X => ?_)
  refine z_iconst C dX7_readSteps_4 ?_
  refine lv_istore C.1 C.2.1 (lv' := [(4, zI 0), (0, zR Ω 19), (1, zR Ω x1), (2, zR Ω x2), (3, zI x3)]) dX7_readSteps_5 hl (by decide) rfl (fun ls hl => ?_)
  have L7 : ∀ (n7 : Nat) (x_2 : Int) (μ_3 : zMem) (H : Heap) (locs : List Loc) (ls : Array Slot), Rg x_2 → zX Ω μ_3 (zfree Ω) s.heap H locs → lv_has ls 6 [(0, zR Ω 19), (1, zR Ω x1), (2, zR Ω x2), (3, zI x3), (4, zI x_2)] → (f_X7_readSteps_L7 x1 x2 x3 n7 x_2 μ_3) = some μ' → W p l e (zrm 2) s m args below meth c H locs 0 0 Q (F0 m 7 ls []) := by
    intro n7
    induction n7 with
    | zero =>
      intro x_2 μ_3 H locs ls _ _ _ h
      cases h
    | succ n7 ih7 =>
      intro x_2 μ_3 H locs ls gx_2 X hl h
      unfold f_X7_readSteps_L7 at h
      refine lv_iload C.1 C.2.1 dX7_readSteps_7 (lv_at hl 4 rfl) ?_
      refine lv_iload_n C.1 C.2.1 dX7_readSteps_9 rfl (lv_at hl 3 rfl) ?_
      refine z_icmpge C gx_2 gx3 (tgt := 66) dX7_readSteps_10 (by decide) (fun hc10 => ?_) (fun hc10 => ?_)
      · rw [if_neg hc10] at h
        obtain rfl := Option.some.inj h
        exact rt X dX7_readSteps_66
      · rw [if_pos hc10] at h
        refine lv_aload_n C.1 C.2.1 dX7_readSteps_13 rfl (lv_at hl 0 rfl) ?_
        obtain ⟨x_4, μ_5, hq14, h⟩ := bnd2_some h
        refine z_callV1 C X zk7 (hI.1 19 (by decide)) rfl (As := []) (M_X7_look hI μ_3 hq14) zc_X7_look kw_482 (zroom (by decide) (by decide)) rfl hl.1 rfl (Nat.le_of_ble_eq_true rfl) dX7_readSteps_14 ⟨Nat.zero_le _, Nat.zero_le _⟩ (fun H locs g_14 X => ?_)
        refine z_callS1 C X (As := [zI x_4]) (M_X7_stepOfSign hI μ_5 x_4 g_14) zc_X7_stepOfSign kw_486 (zroom (by decide) (by decide)) rfl hl.1 rfl (Nat.le_of_ble_eq_true rfl) dX7_readSteps_17 ⟨Nat.zero_le _, Nat.zero_le _⟩ (fun H locs g_17 X => ?_)
        refine zlet_elim h (fun x_6 ex_6 h => ?_)
        have gx_6 : Rg x_6 := by rw [ex_6]; exact g_17
        refine z_istore C ex_6 dX7_readSteps_20 hl (by decide) (lv' := [(5, zI x_6), (0, zR Ω 19), (1, zR Ω x1), (2, zR Ω x2), (3, zI x3), (4, zI x_2)]) rfl (fun ls hl => ?_)
        clear ex_6
        refine lv_iload C.1 C.2.1 dX7_readSteps_22 (lv_at hl 0 rfl) ?_
        refine z_iconst C dX7_readSteps_24 ?_
        refine z_icmpeq C gx_6 ⟨by decide, by decide⟩ (tgt := 49) dX7_readSteps_25 (by decide) (fun hc25 => ?_) (fun hc25 => ?_)
        · rw [if_pos hc25] at h
          obtain rfl := Option.some.inj h
          exact rt X dX7_readSteps_49
        · rw [if_neg hc25] at h
          refine lv_iload C.1 C.2.1 dX7_readSteps_28 (lv_at hl 0 rfl) ?_
          refine z_iconst C dX7_readSteps_30 ?_
          refine z_ishr C dX7_readSteps_31 ?_
          refine lv_aload_n C.1 C.2.1 dX7_readSteps_32 rfl (lv_at hl 2 rfl) ?_
          have g_33 : Rg (μ_5 x1 7) := zrgf0 (ci := 5) X.2.2.2 (zob.self o_x1) (zo5 o_x1) 7 rfl
          refine z_get C X zk5 (zob.self o_x1) (zo5 o_x1) 7 (by decide) kw_86 (zI (μ_5 x1 7)) rfl dX7_readSteps_33 ?_
          refine z_icmpge C (Rg.t _) g_33 (tgt := 49) dX7_readSteps_36 (by decide) (fun hc36 => ?_) (fun hc36 => ?_)
          · rw [if_neg hc36] at h
            obtain rfl := Option.some.inj h
            exact rt X dX7_readSteps_49
          · rw [if_pos hc36] at h
            refine lv_aload_n C.1 C.2.1 dX7_readSteps_39 rfl (lv_at hl 3 rfl) ?_
            refine lv_aload_n C.1 C.2.1 dX7_readSteps_40 rfl (lv_at hl 2 rfl) ?_
            refine lv_iload C.1 C.2.1 dX7_readSteps_41 (lv_at hl 0 rfl) ?_
            obtain ⟨x_7, μ_8, hq43, h⟩ := bnd2_some h
            refine z_callV1 C X zk8 (zob.self o_x2) (zo8 o_x2) (As := [zR Ω x1, zI x_6]) (M_X8_goOn μ_5 x2 x1 x_6 o_x2 o_x1 gx_6 hq43) zc_X8_goOn kw_489 (zroom (by decide) (by decide)) rfl hl.1 rfl (Nat.le_of_ble_eq_true rfl) dX7_readSteps_43 ⟨Nat.zero_le _, Nat.zero_le _⟩ (fun H locs g_43 X => ?_)
            refine z_ifne C (rgz g_43) (tgt := 50) dX7_readSteps_46 (by decide) (fun hc46 => ?_) (fun hc46 => ?_)
            · rw [if_neg hc46] at h
              refine lv_aload_n C.1 C.2.1 dX7_readSteps_50 rfl (lv_at hl 1 rfl) ?_
              refine lv_dup C.1 C.2.1 dX7_readSteps_51 rfl ?_
              have g_52 : Rg (μ_8 19 2) := zrgf0 (ci := 7) X.2.2.2 (hI.1 19 (by decide)) rfl 2 rfl
              refine z_get C X zk7 (hI.1 19 (by decide)) rfl 2 (by decide) kw_173 (zI (μ_8 19 2)) rfl dX7_readSteps_52 ?_
              refine z_iconst C dX7_readSteps_55 ?_
              refine z_iadd C dX7_readSteps_56 ?_
              refine zlet_elim h (fun μ_9 em h => ?_)
              refine z_putI C X zk7 (hI.1 19 (by decide)) rfl 2 (by decide) kw_173 rfl rfl rfl rfl (Rg.w _) em dX7_readSteps_57 (fun H locs X => ?_)
              clear em
              refine zlet_elim h (fun x_10 ex_10 h => ?_)
              have gx_10 : Rg x_10 := by rw [ex_10]; exact Rg.w _
              refine z_iinc C ex_10 dX7_readSteps_60 hl (k := 5) rfl (by decide) (lv' := [(4, zI x_10), (5, zI x_6), (0, zR Ω 19), (1, zR Ω x1), (2, zR Ω x2), (3, zI x3)]) rfl (fun ls hl => ?_)
              clear ex_10
              refine lv_goto (tgt := 7) C.1 C.2.1 dX7_readSteps_63 (by decide) ?_
              exact ih7 x_10 μ_9 _ _ _ gx_10 X (lv_sub hl [2, 3, 4, 5, 0] rfl) h
            · rw [if_pos hc46] at h
              obtain rfl := Option.some.inj h
              exact rt X dX7_readSteps_49
  exact L7 zfu 0 μ_1 _ _ _ ⟨by decide, by decide⟩ X (lv_sub hl [1, 2, 3, 4, 0] rfl) h
theorem zc_X7_readSteps : zcal yX7_readSteps cX7_readSteps 6 none RX7 3 := ⟨⟨kw_477, kw_475, kw_476, kw_5⟩, rfl, by decide, by decide, by decide +kernel⟩

def f_X8_isRim (t0 : Int) (μ : zMem) : Int :=
  if (μ t0 2) ≤ 0 then
    0
  else
    if (μ t0 3) = (μ t0 4) then
      1
    else
      0
set_option maxHeartbeats 4000000 in
set_option maxRecDepth 100000 in
theorem M_X8_isRim {l : Launch} {Ω : zO} (μ : zMem) (t0 : Int) (o_t0 : zob Ω.2.2.1 8 t0) : XMet l yX8_isRim cX8_isRim 1 (some Jvm.ClassFile.FieldType.boolean) 0 Ω [zR Ω t0] μ (some (zI (f_X8_isRim t0 μ))) (0 ≤ (f_X8_isRim t0 μ) ∧ (f_X8_isRim t0 μ) ≤ 1) μ := by
  obtain ⟨r, h⟩ : ∃ r, f_X8_isRim t0 μ = r := ⟨_, rfl⟩
  rw [h]
  refine XMet.ofZ (by decide) (Nat.le_of_ble_eq_true rfl) ?_
  intro p e s m args below meth c ls Q C rt X hl
  have C : zC p s m args c cX8_isRim RX8 1 Ω := C
  have hl : lv_has ls 1 [(0, zR Ω t0)] := hl
  unfold f_X8_isRim at h
  skip
  refine lv_aload_n C.1 C.2.1 dX8_isRim_0 rfl (lv_at hl 0 rfl) ?_
  have g_1 : Rg (μ t0 2) := zrgf0 (ci := 8) X.2.2.2 (zob.self o_t0) (zo8 o_t0) 2 rfl
  refine z_get C X zk8 (zob.self o_t0) (zo8 o_t0) 2 (by decide) kw_195 (zI (μ t0 2)) rfl dX8_isRim_1 ?_
  refine z_ifle C g_1 (tgt := 22) dX8_isRim_4 (by decide) (fun hc4 => ?_) (fun hc4 => ?_)
  · rw [if_pos hc4] at h
    refine z_iconst C dX8_isRim_22 ?_
    subst h
    exact rt X ⟨by decide, by decide⟩ dX8_isRim_23
  · rw [if_neg hc4] at h
    refine lv_aload_n C.1 C.2.1 dX8_isRim_7 rfl (lv_at hl 0 rfl) ?_
    have g_8 : Rg (μ t0 3) := zrgf0 (ci := 8) X.2.2.2 (zob.self o_t0) (zo8 o_t0) 3 rfl
    refine z_get C X zk8 (zob.self o_t0) (zo8 o_t0) 3 (by decide) kw_201 (zI (μ t0 3)) rfl dX8_isRim_8 ?_
    refine lv_aload_n C.1 C.2.1 dX8_isRim_11 rfl (lv_at hl 0 rfl) ?_
    have g_12 : Rg (μ t0 4) := zrgf0 (ci := 8) X.2.2.2 (zob.self o_t0) (zo8 o_t0) 4 rfl
    refine z_get C X zk8 (zob.self o_t0) (zo8 o_t0) 4 (by decide) kw_204 (zI (μ t0 4)) rfl dX8_isRim_12 ?_
    refine z_icmpne C g_8 g_12 (tgt := 22) dX8_isRim_15 (by decide) (fun hc15 => ?_) (fun hc15 => ?_)
    · rw [if_neg hc15] at h
      refine z_iconst C dX8_isRim_22 ?_
      subst h
      exact rt X ⟨by decide, by decide⟩ dX8_isRim_23
    · rw [if_pos hc15] at h
      refine z_iconst C dX8_isRim_18 ?_
      refine lv_goto (tgt := 23) C.1 C.2.1 dX8_isRim_19 (by decide) ?_
      subst h
      exact rt X ⟨by decide, by decide⟩ dX8_isRim_23
theorem zc_X8_isRim : zcal yX8_isRim cX8_isRim 1 (some Jvm.ClassFile.FieldType.boolean) RX8 0 := ⟨⟨kw_504, kw_502, kw_503, kw_6⟩, rfl, by decide, by decide, by decide +kernel⟩

def f_X7_readRim (x1 : Int) (x2 : Int) (μ : zMem) : Option (Int × zMem) :=
  bnd (f_X7_readSteps x1 x2 8 μ) fun μ_1 =>
  some ((f_X8_isRim x2 μ_1), μ_1)
set_option maxHeartbeats 4000000 in
set_option maxRecDepth 100000 in
theorem M_X7_readRim {l : Launch} {Ω : zO} (hI : zIc Ω) (μ : zMem) (x1 : Int) (x2 : Int) {r : Int} {μ' : zMem} (o_x1 : zob Ω.2.2.1 5 x1) (o_x2 : zob Ω.2.2.1 8 x2) (h : f_X7_readRim x1 x2 μ = some (r, μ')) : XMet l yX7_readRim cX7_readRim 3 (some Jvm.ClassFile.FieldType.boolean) 3 Ω [zR Ω 19, zR Ω x1, zR Ω x2] μ (some (zI r)) (0 ≤ r ∧ r ≤ 1) μ' := by
  refine XMet.ofZ (by decide) (Nat.le_of_ble_eq_true rfl) ?_
  intro p e s m args below meth c ls Q C rt X hl
  have C : zC p s m args c cX7_readRim RX7 3 Ω := C
  have hl : lv_has ls 3 [(0, zR Ω 19), (1, zR Ω x1), (2, zR Ω x2)] := hl
  unfold f_X7_readRim at h
  skip
  refine lv_aload_n C.1 C.2.1 dX7_readRim_0 rfl (lv_at hl 0 rfl) ?_
  refine lv_aload_n C.1 C.2.1 dX7_readRim_1 rfl (lv_at hl 1 rfl) ?_
  refine lv_aload_n C.1 C.2.1 dX7_readRim_2 rfl (lv_at hl 2 rfl) ?_
  refine z_bipush C dX7_readRim_3 (by decide) ?_
  obtain ⟨μ_1, hq5, h⟩ := bnd_some h
  refine z_callV0 C X zk7 (hI.1 19 (by decide)) rfl (As := [zR Ω x1, zR Ω x2, zI 8]) (M_X7_readSteps hI μ x1 x2 8 o_x1 o_x2 ⟨by decide, by decide⟩ hq5) zc_X7_readSteps kw_474 (zroom (by decide) (by decide)) rfl hl.1 rfl (Nat.le_of_ble_eq_true rfl) dX7_readRim_5 ⟨Nat.zero_le _, Nat.zero_le _⟩ (fun H locs g_5 X => ?_)
  refine lv_aload_n C.1 C.2.1 dX7_readRim_8 rfl (lv_at hl 2 rfl) ?_
  refine z_callV1 C X zk8 (zob.self o_x2) (zo8 o_x2) (As := []) (M_X8_isRim μ_1 x2 o_x2) zc_X8_isRim kw_501 (zroom (by decide) (by decide)) rfl hl.1 rfl (Nat.le_of_ble_eq_true rfl) dX7_readRim_9 ⟨Nat.zero_le _, Nat.zero_le _⟩ (fun H locs g_9 X => ?_)
  obtain ⟨rfl, rfl⟩ := Prod.mk.inj (Option.some.inj h)
  exact rt X g_9 dX7_readRim_12
theorem zc_X7_readRim : zcal yX7_readRim cX7_readRim 3 (some Jvm.ClassFile.FieldType.boolean) RX7 2 := ⟨⟨kw_473, kw_471, kw_472, kw_5⟩, rfl, by decide, by decide, by decide +kernel⟩

def f_X7_readClause_J43 (x1 : Int) (μ_1 : zMem) : Option (Int × zMem) :=
  if (μ_1 x1 7) < 12 then
    bnd2 (f_X7_pass (zc (zw (97 + (μ_1 x1 7)))) μ_1) fun x_2 μ_3 =>
    if x_2 = 0 then
      some (0, μ_3)
    else
      bnd2 (f_X7_readEdge x1 μ_3) fun x_4 μ_5 =>
      if x_4 = 0 then
        some (0, μ_5)
      else
        some (1, μ_5)
  else
    some (0, μ_1)
def f_X7_readClause (x1 : Int) (x2 : Int) (μ : zMem) : Option (Int × zMem) :=
  if (μ x1 8) < 8 then
    bnd2 (f_X7_pass 58 μ) fun x_6 μ_7 =>
    if x_6 = 0 then
      (f_X7_readClause_J43 x1) μ_7
    else
      bnd2 (f_X7_readRim x1 x2 μ_7) fun x_8 μ_9 =>
      if x_8 = 0 then
        some (0, μ_9)
      else
        bnd (f_X5_addPane x1 (x2 + 1) (μ_9 x2 2) μ_9) fun μ_10 =>
        some (1, μ_10)
  else
    (f_X7_readClause_J43 x1) μ
set_option maxHeartbeats 4000000 in
set_option maxRecDepth 100000 in
theorem M_X7_readClause {l : Launch} {Ω : zO} (hI : zIc Ω) (μ : zMem) (x1 : Int) (x2 : Int) {r : Int} {μ' : zMem} (o_x1 : zob Ω.2.2.1 5 x1) (o_x2 : zob Ω.2.2.1 8 x2) (h : f_X7_readClause x1 x2 μ = some (r, μ')) : XMet l yX7_readClause cX7_readClause 3 (some Jvm.ClassFile.FieldType.boolean) 4 Ω [zR Ω 19, zR Ω x1, zR Ω x2] μ (some (zI r)) (0 ≤ r ∧ r ≤ 1) μ' := by
  refine XMet.ofZ (by decide) (Nat.le_of_ble_eq_true rfl) ?_
  intro p e s m args below meth c ls Q C rt X hl
  have C : zC p s m args c cX7_readClause RX7 3 Ω := C
  have hl : lv_has ls 3 [(0, zR Ω 19), (1, zR Ω x1), (2, zR Ω x2)] := hl
  unfold f_X7_readClause at h
  skip
  refine lv_aload_n C.1 C.2.1 dX7_readClause_0 rfl (lv_at hl 1 rfl) ?_
  have g_1 : Rg (μ x1 8) := zrgf0 (ci := 5) X.2.2.2 (zob.self o_x1) (zo5 o_x1) 8 rfl
  refine z_get C X zk5 (zob.self o_x1) (zo5 o_x1) 8 (by decide) kw_93 (zI (μ x1 8)) rfl dX7_readClause_1 ?_
  refine z_bipush C dX7_readClause_4 (by decide) ?_
  have K43 : ∀ (μ_1 : zMem) (H : Heap) (locs : List Loc) (ls : Array Slot), zX Ω μ_1 (zfree Ω) s.heap H locs → lv_has ls 3 [(0, zR Ω 19), (1, zR Ω x1)] → (f_X7_readClause_J43 x1) μ_1 = some (r, μ') → W p l e (zrm 4) s m args below meth c H locs 0 0 Q (F0 m 43 ls []) := by
    intro μ_1 H locs ls  X hl h
    unfold f_X7_readClause_J43 at h
    refine lv_aload_n C.1 C.2.1 dX7_readClause_43 rfl (lv_at hl 1 rfl) ?_
    have g_44 : Rg (μ_1 x1 7) := zrgf0 (ci := 5) X.2.2.2 (zob.self o_x1) (zo5 o_x1) 7 rfl
    refine z_get C X zk5 (zob.self o_x1) (zo5 o_x1) 7 (by decide) kw_86 (zI (μ_1 x1 7)) rfl dX7_readClause_44 ?_
    refine z_bipush C dX7_readClause_47 (by decide) ?_
    refine z_icmpge C g_44 ⟨by decide, by decide⟩ (tgt := 79) dX7_readClause_49 (by decide) (fun hc49 => ?_) (fun hc49 => ?_)
    · rw [if_neg hc49] at h
      refine z_iconst C dX7_readClause_79 ?_
      obtain ⟨rfl, rfl⟩ := Prod.mk.inj (Option.some.inj h)
      exact rt X ⟨by decide, by decide⟩ dX7_readClause_80
    · rw [if_pos hc49] at h
      refine lv_aload_n C.1 C.2.1 dX7_readClause_52 rfl (lv_at hl 0 rfl) ?_
      refine z_bipush C dX7_readClause_53 (by decide) ?_
      refine lv_aload_n C.1 C.2.1 dX7_readClause_55 rfl (lv_at hl 1 rfl) ?_
      have g_56 : Rg (μ_1 x1 7) := zrgf0 (ci := 5) X.2.2.2 (zob.self o_x1) (zo5 o_x1) 7 rfl
      refine z_get C X zk5 (zob.self o_x1) (zo5 o_x1) 7 (by decide) kw_86 (zI (μ_1 x1 7)) rfl dX7_readClause_56 ?_
      refine z_iadd C dX7_readClause_59 ?_
      refine z_i2c C dX7_readClause_60 ?_
      obtain ⟨x_2, μ_3, hq61, h⟩ := bnd2_some h
      refine z_callV1 C X zk7 (hI.1 19 (by decide)) rfl (As := [zI (zc (zw (97 + (μ_1 x1 7))))]) (M_X7_pass hI μ_1 (zc (zw (97 + (μ_1 x1 7)))) (Rg.t _) hq61) zc_X7_pass kw_538 (zroom (by decide) (by decide)) rfl hl.1 rfl (Nat.le_of_ble_eq_true rfl) dX7_readClause_61 ⟨Nat.zero_le _, Nat.zero_le _⟩ (fun H locs g_61 X => ?_)
      refine z_ifeq C (rgz g_61) (tgt := 79) dX7_readClause_64 (by decide) (fun hc64 => ?_) (fun hc64 => ?_)
      · rw [if_pos hc64] at h
        refine z_iconst C dX7_readClause_79 ?_
        obtain ⟨rfl, rfl⟩ := Prod.mk.inj (Option.some.inj h)
        exact rt X ⟨by decide, by decide⟩ dX7_readClause_80
      · rw [if_neg hc64] at h
        refine lv_aload_n C.1 C.2.1 dX7_readClause_67 rfl (lv_at hl 0 rfl) ?_
        refine lv_aload_n C.1 C.2.1 dX7_readClause_68 rfl (lv_at hl 1 rfl) ?_
        obtain ⟨x_4, μ_5, hq69, h⟩ := bnd2_some h
        refine z_callV1 C X zk7 (hI.1 19 (by decide)) rfl (As := [zR Ω x1]) (M_X7_readEdge hI μ_3 x1 o_x1 hq69) zc_X7_readEdge kw_548 (zroom (by decide) (by decide)) rfl hl.1 rfl (Nat.le_of_ble_eq_true rfl) dX7_readClause_69 ⟨Nat.zero_le _, Nat.zero_le _⟩ (fun H locs g_69 X => ?_)
        refine z_ifeq C (rgz g_69) (tgt := 79) dX7_readClause_72 (by decide) (fun hc72 => ?_) (fun hc72 => ?_)
        · rw [if_pos hc72] at h
          refine z_iconst C dX7_readClause_79 ?_
          obtain ⟨rfl, rfl⟩ := Prod.mk.inj (Option.some.inj h)
          exact rt X ⟨by decide, by decide⟩ dX7_readClause_80
        · rw [if_neg hc72] at h
          refine z_iconst C dX7_readClause_75 ?_
          refine lv_goto (tgt := 80) C.1 C.2.1 dX7_readClause_76 (by decide) ?_
          obtain ⟨rfl, rfl⟩ := Prod.mk.inj (Option.some.inj h)
          exact rt X ⟨by decide, by decide⟩ dX7_readClause_80
  refine z_icmpge C g_1 ⟨by decide, by decide⟩ (tgt := 43) dX7_readClause_6 (by decide) (fun hc6 => ?_) (fun hc6 => ?_)
  · rw [if_neg hc6] at h
    exact K43 μ _ _ _ X (lv_sub hl [0, 1] rfl) h
  · rw [if_pos hc6] at h
    refine lv_aload_n C.1 C.2.1 dX7_readClause_9 rfl (lv_at hl 0 rfl) ?_
    refine z_bipush C dX7_readClause_10 (by decide) ?_
    obtain ⟨x_6, μ_7, hq12, h⟩ := bnd2_some h
    refine z_callV1 C X zk7 (hI.1 19 (by decide)) rfl (As := [zI 58]) (M_X7_pass hI μ 58 ⟨by decide, by decide⟩ hq12) zc_X7_pass kw_538 (zroom (by decide) (by decide)) rfl hl.1 rfl (Nat.le_of_ble_eq_true rfl) dX7_readClause_12 ⟨Nat.zero_le _, Nat.zero_le _⟩ (fun H locs g_12 X => ?_)
    refine z_ifeq C (rgz g_12) (tgt := 43) dX7_readClause_15 (by decide) (fun hc15 => ?_) (fun hc15 => ?_)
    · rw [if_pos hc15] at h
      exact K43 μ_7 _ _ _ X (lv_sub hl [0, 1] rfl) h
    · rw [if_neg hc15] at h
      refine lv_aload_n C.1 C.2.1 dX7_readClause_18 rfl (lv_at hl 0 rfl) ?_
      refine lv_aload_n C.1 C.2.1 dX7_readClause_19 rfl (lv_at hl 1 rfl) ?_
      refine lv_aload_n C.1 C.2.1 dX7_readClause_20 rfl (lv_at hl 2 rfl) ?_
      obtain ⟨x_8, μ_9, hq21, h⟩ := bnd2_some h
      refine z_callV1 C X zk7 (hI.1 19 (by decide)) rfl (As := [zR Ω x1, zR Ω x2]) (M_X7_readRim hI μ_7 x1 x2 o_x1 o_x2 hq21) zc_X7_readRim kw_546 (zroom (by decide) (by decide)) rfl hl.1 rfl (Nat.le_of_ble_eq_true rfl) dX7_readClause_21 ⟨Nat.zero_le _, Nat.zero_le _⟩ (fun H locs g_21 X => ?_)
      refine z_ifne C (rgz g_21) (tgt := 29) dX7_readClause_24 (by decide) (fun hc24 => ?_) (fun hc24 => ?_)
      · rw [if_neg hc24] at h
        refine lv_aload_n C.1 C.2.1 dX7_readClause_29 rfl (lv_at hl 1 rfl) ?_
        refine lv_aload_n C.1 C.2.1 dX7_readClause_30 rfl (lv_at hl 2 rfl) ?_
        refine z_get C X zk8 (zob.self o_x2) (zo8 o_x2) 0 (by decide) kw_191 (zR Ω (x2 + 1)) (zfvF (off := 1) X.2.2.2 (zob.self o_x2) o_x2.2.2 (zo8 o_x2) rfl (by rw [zo8_1 o_x2]; decide)) dX7_readClause_31 ?_
        refine lv_aload_n C.1 C.2.1 dX7_readClause_34 rfl (lv_at hl 2 rfl) ?_
        have g_35 : Rg (μ_9 x2 2) := zrgf0 (ci := 8) X.2.2.2 (zob.self o_x2) (zo8 o_x2) 2 rfl
        refine z_get C X zk8 (zob.self o_x2) (zo8 o_x2) 2 (by decide) kw_199 (zI (μ_9 x2 2)) rfl dX7_readClause_35 ?_
        obtain ⟨μ_10, hq38, h⟩ := bnd_some h
        refine z_callV0 C X zk5 (zob.self o_x1) (zo5 o_x1) (As := [zR Ω (x2 + 1), zI (μ_9 x2 2)]) (M_X5_addPane μ_9 x1 (x2 + 1) (μ_9 x2 2) o_x1 (o_x2.2.1 1 (by decide) (by decide)) (zo8_1 o_x2) g_35 hq38) zc_X5_addPane kw_547 (zroom (by decide) (by decide)) rfl hl.1 rfl (Nat.le_of_ble_eq_true rfl) dX7_readClause_38 ⟨Nat.zero_le _, Nat.zero_le _⟩ (fun H locs g_38 X => ?_)
        refine z_iconst C dX7_readClause_41 ?_
        obtain ⟨rfl, rfl⟩ := Prod.mk.inj (Option.some.inj h)
        exact rt X ⟨by decide, by decide⟩ dX7_readClause_42
      · rw [if_pos hc24] at h
        refine z_iconst C dX7_readClause_27 ?_
        obtain ⟨rfl, rfl⟩ := Prod.mk.inj (Option.some.inj h)
        exact rt X ⟨by decide, by decide⟩ dX7_readClause_28
theorem zc_X7_readClause : zcal yX7_readClause cX7_readClause 3 (some Jvm.ClassFile.FieldType.boolean) RX7 2 := ⟨⟨kw_545, kw_544, kp_8, kw_5⟩, rfl, by decide, by decide, by decide +kernel⟩

def f_X7_readSpace_K56 (μ_4 : zMem) : Option (Int × zMem) :=
  bnd2 (f_X7_isRead μ_4) fun x_5 μ_6 =>
  some (x_5, μ_6)
def f_X7_readSpace_L23 (x1 : Int) (x2 : Int) (g56 : zMem → Option (Int × zMem)) : Nat → Int → zMem → Option (Int × zMem)
  | 0, _, _ => none
  | n + 1, x_7, μ_8 =>
    if x_7 < 120 then
      bnd2 (f_X7_pass 59 μ_8) fun x_9 μ_10 =>
      if x_9 = 0 then
        g56 μ_10
      else
        bnd2 (f_X7_readClause x1 x2 μ_10) fun x_11 μ_12 =>
        if x_11 = 0 then
          some (0, μ_12)
        else
          zlet (zw (x_7 + 1)) fun x_13 =>
          (f_X7_readSpace_L23 x1 x2 g56 n) x_13 μ_12
    else
      g56 μ_8
def f_X7_readSpace (x1 : Int) (x2 : Int) (μ : zMem) : Option (Int × zMem) :=
  bnd2 (f_X7_readNumber 1 8 μ) fun x_1 μ_2 =>
  if x_1 = (-1) then
    some (0, μ_2)
  else
    bnd (f_X5_clear x1 x_1 μ_2) fun μ_3 =>
    (f_X7_readSpace_L23 x1 x2 f_X7_readSpace_K56) zfu 0 μ_3
set_option maxHeartbeats 4000000 in
set_option maxRecDepth 100000 in
theorem M_X7_readSpace {l : Launch} {Ω : zO} (hI : zIc Ω) (μ : zMem) (x1 : Int) (x2 : Int) {r : Int} {μ' : zMem} (o_x1 : zob Ω.2.2.1 5 x1) (o_x2 : zob Ω.2.2.1 8 x2) (h : f_X7_readSpace x1 x2 μ = some (r, μ')) : XMet l yX7_readSpace cX7_readSpace 5 (some Jvm.ClassFile.FieldType.boolean) 5 Ω [zR Ω 19, zR Ω x1, zR Ω x2] μ (some (zI r)) (0 ≤ r ∧ r ≤ 1) μ' := by
  refine XMet.ofZ (by decide) (Nat.le_of_ble_eq_true rfl) ?_
  intro p e s m args below meth c ls Q C rt X hl
  have C : zC p s m args c cX7_readSpace RX7 5 Ω := C
  have hl : lv_has ls 5 [(0, zR Ω 19), (1, zR Ω x1), (2, zR Ω x2)] := hl
  unfold f_X7_readSpace at h
  skip
  refine lv_aload_n C.1 C.2.1 dX7_readSpace_0 rfl (lv_at hl 0 rfl) ?_
  refine z_iconst C dX7_readSpace_1 ?_
  refine z_bipush C dX7_readSpace_2 (by decide) ?_
  obtain ⟨x_1, μ_2, hq4, h⟩ := bnd2_some h
  refine z_callV1 C X zk7 (hI.1 19 (by decide)) rfl (As := [zI 1, zI 8]) (M_X7_readNumber hI μ 1 8 ⟨by decide, by decide⟩ ⟨by decide, by decide⟩ hq4) zc_X7_readNumber kw_532 (zroom (by decide) (by decide)) rfl hl.1 rfl (Nat.le_of_ble_eq_true rfl) dX7_readSpace_4 ⟨Nat.zero_le _, Nat.zero_le _⟩ (fun H locs g_4 X => ?_)
  refine lv_istore_n C.1 C.2.1 (lv' := [(3, zI x_1), (0, zR Ω 19), (1, zR Ω x1), (2, zR Ω x2)]) dX7_readSpace_7 rfl hl (by decide) rfl (fun ls hl => ?_)
  refine lv_iload_n C.1 C.2.1 dX7_readSpace_8 rfl (lv_at hl 0 rfl) ?_
  refine z_iconst C dX7_readSpace_9 ?_
  refine z_icmpne C g_4 ⟨by decide, by decide⟩ (tgt := 15) dX7_readSpace_10 (by decide) (fun hc10 => ?_) (fun hc10 => ?_)
  · rw [if_neg hc10] at h
    refine lv_aload_n C.1 C.2.1 dX7_readSpace_15 rfl (lv_at hl 2 rfl) ?_
    refine lv_iload_n C.1 C.2.1 dX7_readSpace_16 rfl (lv_at hl 0 rfl) ?_
    obtain ⟨μ_3, hq17, h⟩ := bnd_some h
    refine z_callV0 C X zk5 (zob.self o_x1) (zo5 o_x1) (As := [zI x_1]) (M_X5_clear μ_2 x1 x_1 o_x1 g_4 hq17) zc_X5_clear kw_537 (zroom (by decide) (by decide)) rfl hl.1 rfl (Nat.le_of_ble_eq_true rfl) dX7_readSpace_17 ⟨Nat.zero_le _, Nat.zero_le _⟩ (fun H locs g_17 X => ?_)
    refine z_iconst C dX7_readSpace_20 ?_
    refine lv_istore C.1 C.2.1 (lv' := [(4, zI 0), (3, zI x_1), (0, zR Ω 19), (1, zR Ω x1), (2, zR Ω x2)]) dX7_readSpace_21 hl (by decide) rfl (fun ls hl => ?_)
    have K56 : ∀ (μ_4 : zMem) (H : Heap) (locs : List Loc) (ls : Array Slot), zX Ω μ_4 (zfree Ω) s.heap H locs → lv_has ls 5 [(0, zR Ω 19)] → f_X7_readSpace_K56 μ_4 = some (r, μ') → W p l e (zrm 5) s m args below meth c H locs 0 0 Q (F0 m 56 ls []) := by
      intro μ_4 H locs ls  X hl h
      unfold f_X7_readSpace_K56 at h
      refine lv_aload_n C.1 C.2.1 dX7_readSpace_56 rfl (lv_at hl 0 rfl) ?_
      obtain ⟨x_5, μ_6, hq57, h⟩ := bnd2_some h
      refine z_callV1 C X zk7 (hI.1 19 (by decide)) rfl (As := []) (M_X7_isRead hI μ_4 hq57) zc_X7_isRead kw_553 (zroom (by decide) (by decide)) rfl hl.1 rfl (Nat.le_of_ble_eq_true rfl) dX7_readSpace_57 ⟨Nat.zero_le _, Nat.zero_le _⟩ (fun H locs g_57 X => ?_)
      obtain ⟨rfl, rfl⟩ := Prod.mk.inj (Option.some.inj h)
      exact rt X g_57 dX7_readSpace_60
    have L23 : ∀ (n23 : Nat) (x_7 : Int) (μ_8 : zMem) (H : Heap) (locs : List Loc) (ls : Array Slot), Rg x_7 → zX Ω μ_8 (zfree Ω) s.heap H locs → lv_has ls 5 [(0, zR Ω 19), (1, zR Ω x1), (2, zR Ω x2), (4, zI x_7)] → (f_X7_readSpace_L23 x1 x2 f_X7_readSpace_K56 n23 x_7 μ_8) = some (r, μ') → W p l e (zrm 5) s m args below meth c H locs 0 0 Q (F0 m 23 ls []) := by
      intro n23
      induction n23 with
      | zero =>
        intro x_7 μ_8 H locs ls _ _ _ h
        cases h
      | succ n23 ih23 =>
        intro x_7 μ_8 H locs ls gx_7 X hl h
        unfold f_X7_readSpace_L23 at h
        refine lv_iload C.1 C.2.1 dX7_readSpace_23 (lv_at hl 3 rfl) ?_
        refine z_bipush C dX7_readSpace_25 (by decide) ?_
        refine z_icmpge C gx_7 ⟨by decide, by decide⟩ (tgt := 56) dX7_readSpace_27 (by decide) (fun hc27 => ?_) (fun hc27 => ?_)
        · rw [if_neg hc27] at h
          exact K56 μ_8 _ _ _ X (lv_sub hl [0] rfl) h
        · rw [if_pos hc27] at h
          refine lv_aload_n C.1 C.2.1 dX7_readSpace_30 rfl (lv_at hl 0 rfl) ?_
          refine z_bipush C dX7_readSpace_31 (by decide) ?_
          obtain ⟨x_9, μ_10, hq33, h⟩ := bnd2_some h
          refine z_callV1 C X zk7 (hI.1 19 (by decide)) rfl (As := [zI 59]) (M_X7_pass hI μ_8 59 ⟨by decide, by decide⟩ hq33) zc_X7_pass kw_538 (zroom (by decide) (by decide)) rfl hl.1 rfl (Nat.le_of_ble_eq_true rfl) dX7_readSpace_33 ⟨Nat.zero_le _, Nat.zero_le _⟩ (fun H locs g_33 X => ?_)
          refine z_ifeq C (rgz g_33) (tgt := 56) dX7_readSpace_36 (by decide) (fun hc36 => ?_) (fun hc36 => ?_)
          · rw [if_pos hc36] at h
            exact K56 μ_10 _ _ _ X (lv_sub hl [0] rfl) h
          · rw [if_neg hc36] at h
            refine lv_aload_n C.1 C.2.1 dX7_readSpace_39 rfl (lv_at hl 0 rfl) ?_
            refine lv_aload_n C.1 C.2.1 dX7_readSpace_40 rfl (lv_at hl 1 rfl) ?_
            refine lv_aload_n C.1 C.2.1 dX7_readSpace_41 rfl (lv_at hl 2 rfl) ?_
            obtain ⟨x_11, μ_12, hq42, h⟩ := bnd2_some h
            refine z_callV1 C X zk7 (hI.1 19 (by decide)) rfl (As := [zR Ω x1, zR Ω x2]) (M_X7_readClause hI μ_10 x1 x2 o_x1 o_x2 hq42) zc_X7_readClause kw_542 (zroom (by decide) (by decide)) rfl hl.1 rfl (Nat.le_of_ble_eq_true rfl) dX7_readSpace_42 ⟨Nat.zero_le _, Nat.zero_le _⟩ (fun H locs g_42 X => ?_)
            refine z_ifne C (rgz g_42) (tgt := 50) dX7_readSpace_45 (by decide) (fun hc45 => ?_) (fun hc45 => ?_)
            · rw [if_neg hc45] at h
              refine zlet_elim h (fun x_13 ex_13 h => ?_)
              have gx_13 : Rg x_13 := by rw [ex_13]; exact Rg.w _
              refine z_iinc C ex_13 dX7_readSpace_50 hl (k := 3) rfl (by decide) (lv' := [(4, zI x_13), (0, zR Ω 19), (1, zR Ω x1), (2, zR Ω x2)]) rfl (fun ls hl => ?_)
              clear ex_13
              refine lv_goto (tgt := 23) C.1 C.2.1 dX7_readSpace_53 (by decide) ?_
              exact ih23 x_13 μ_12 _ _ _ gx_13 X (lv_sub hl [1, 2, 3, 0] rfl) h
            · rw [if_pos hc45] at h
              refine z_iconst C dX7_readSpace_48 ?_
              obtain ⟨rfl, rfl⟩ := Prod.mk.inj (Option.some.inj h)
              exact rt X ⟨by decide, by decide⟩ dX7_readSpace_49
    exact L23 zfu 0 μ_3 _ _ _ ⟨by decide, by decide⟩ X (lv_sub hl [2, 3, 4, 0] rfl) h
  · rw [if_pos hc10] at h
    refine z_iconst C dX7_readSpace_13 ?_
    obtain ⟨rfl, rfl⟩ := Prod.mk.inj (Option.some.inj h)
    exact rt X ⟨by decide, by decide⟩ dX7_readSpace_14
theorem zc_X7_readSpace : zcal yX7_readSpace cX7_readSpace 5 (some Jvm.ClassFile.FieldType.boolean) RX7 2 := ⟨⟨kw_531, kw_529, kw_530, kw_5⟩, rfl, by decide, by decide, by decide +kernel⟩

def f_X8_takeReduced_J73 (t0 : Int) (x1 : Int) (x_4 : Int) (g23 : Int → zMem → Option zMem) (μ_6 : zMem) : Option zMem :=
  chk ((0 : Int) ≤ x_4 ∧ x_4 < zlen (x1 + 1)) <|
  chk ((0 : Int) ≤ (μ_6 t0 2) ∧ (μ_6 t0 2) < zlen (t0 + 1)) <|
  zlet (zup μ_6 (t0 + 1) (μ_6 t0 2) (μ_6 (x1 + 1) x_4)) fun μ_7 =>
  zlet (zup μ_7 t0 2 (zw ((μ_7 t0 2) + 1))) fun μ_8 =>
  zlet (zw (x_4 + 1)) fun x_9 =>
  g23 x_9 μ_8
def f_X8_takeReduced_L23 (t0 : Int) (x1 : Int) : Nat → Int → zMem → Option zMem
  | 0, _, _ => none
  | n + 1, x_4, μ_5 =>
    if x_4 < (μ_5 x1 2) then
      if (μ_5 t0 2) ≤ 0 then
        (f_X8_takeReduced_J73 t0 x1 x_4 (f_X8_takeReduced_L23 t0 x1 n)) μ_5
      else
        chk ((0 : Int) ≤ (zw ((μ_5 t0 2) - 1)) ∧ (zw ((μ_5 t0 2) - 1)) < zlen (t0 + 1)) <|
        chk ((0 : Int) ≤ x_4 ∧ x_4 < zlen (x1 + 1)) <|
        if (μ_5 (t0 + 1) (zw ((μ_5 t0 2) - 1))) = (zxor (μ_5 (x1 + 1) x_4) 1) then
          zlet (zup μ_5 t0 2 (zw ((μ_5 t0 2) - 1))) fun μ_10 =>
          zlet (zw (x_4 + 1)) fun x_11 =>
          (f_X8_takeReduced_L23 t0 x1 n) x_11 μ_10
        else
          (f_X8_takeReduced_J73 t0 x1 x_4 (f_X8_takeReduced_L23 t0 x1 n)) μ_5
    else
      some μ_5
def f_X8_takeReduced (t0 : Int) (x1 : Int) (μ : zMem) : Option zMem :=
  zlet (zup μ t0 2 0) fun μ_1 =>
  zlet (zup μ_1 t0 3 (μ_1 x1 3)) fun μ_2 =>
  zlet (zup μ_2 t0 4 (μ_2 x1 4)) fun μ_3 =>
  (f_X8_takeReduced_L23 t0 x1) zfu 0 μ_3
set_option maxHeartbeats 4000000 in
set_option maxRecDepth 100000 in
theorem M_X8_takeReduced {l : Launch} {Ω : zO} (μ : zMem) (t0 : Int) (x1 : Int) {μ' : zMem} (o_t0 : zob Ω.2.2.1 8 t0) (o_x1 : zob Ω.2.2.1 8 x1) (h : f_X8_takeReduced t0 x1 μ = some μ') : XMet l yX8_takeReduced cX8_takeReduced 3 none 0 Ω [zR Ω t0, zR Ω x1] μ none True μ' := by
  refine XMet.ofV (by decide) (Nat.le_of_ble_eq_true rfl) ?_
  intro p e s m args below meth c ls Q C rt X hl
  have C : zC p s m args c cX8_takeReduced RX8 3 Ω := C
  have hl : lv_has ls 3 [(0, zR Ω t0), (1, zR Ω x1)] := hl
  unfold f_X8_takeReduced at h
  skip
  refine lv_aload_n C.1 C.2.1 dX8_takeReduced_0 rfl (lv_at hl 0 rfl) ?_
  refine z_iconst C dX8_takeReduced_1 ?_
  refine zlet_elim h (fun μ_1 em h => ?_)
  refine z_putI C X zk8 (zob.self o_t0) (zo8 o_t0) 2 (by decide) kw_195 rfl rfl rfl rfl ⟨by decide, by decide⟩ em dX8_takeReduced_2 (fun H locs X => ?_)
  clear em
  refine lv_aload_n C.1 C.2.1 dX8_takeReduced_5 rfl (lv_at hl 0 rfl) ?_
  refine lv_aload_n C.1 C.2.1 dX8_takeReduced_6 rfl (lv_at hl 1 rfl) ?_
  have g_7 : Rg (μ_1 x1 3) := zrgf0 (ci := 8) X.2.2.2 (zob.self o_x1) (zo8 o_x1) 3 rfl
  refine z_get C X zk8 (zob.self o_x1) (zo8 o_x1) 3 (by decide) kw_201 (zI (μ_1 x1 3)) rfl dX8_takeReduced_7 ?_
  refine zlet_elim h (fun μ_2 em h => ?_)
  refine z_putI C X zk8 (zob.self o_t0) (zo8 o_t0) 3 (by decide) kw_201 rfl rfl rfl rfl g_7 em dX8_takeReduced_10 (fun H locs X => ?_)
  clear em
  refine lv_aload_n C.1 C.2.1 dX8_takeReduced_13 rfl (lv_at hl 0 rfl) ?_
  refine lv_aload_n C.1 C.2.1 dX8_takeReduced_14 rfl (lv_at hl 1 rfl) ?_
  have g_15 : Rg (μ_2 x1 4) := zrgf0 (ci := 8) X.2.2.2 (zob.self o_x1) (zo8 o_x1) 4 rfl
  refine z_get C X zk8 (zob.self o_x1) (zo8 o_x1) 4 (by decide) kw_204 (zI (μ_2 x1 4)) rfl dX8_takeReduced_15 ?_
  refine zlet_elim h (fun μ_3 em h => ?_)
  refine z_putI C X zk8 (zob.self o_t0) (zo8 o_t0) 4 (by decide) kw_204 rfl rfl rfl rfl g_15 em dX8_takeReduced_18 (fun H locs X => ?_)
  clear em
  refine z_iconst C dX8_takeReduced_21 ?_
  refine lv_istore_n C.1 C.2.1 (lv' := [(2, zI 0), (0, zR Ω t0), (1, zR Ω x1)]) dX8_takeReduced_22 rfl hl (by decide) rfl (fun ls hl => ?_)
  have L23 : ∀ (n23 : Nat) (x_4 : Int) (μ_5 : zMem) (H : Heap) (locs : List Loc) (ls : Array Slot), Rg x_4 → zX Ω μ_5 (zfree Ω) s.heap H locs → lv_has ls 3 [(0, zR Ω t0), (1, zR Ω x1), (2, zI x_4)] → (f_X8_takeReduced_L23 t0 x1 n23 x_4 μ_5) = some μ' → W p l e (zrm 0) s m args below meth c H locs 0 0 Q (F0 m 23 ls []) := by
    intro n23
    induction n23 with
    | zero =>
      intro x_4 μ_5 H locs ls _ _ _ h
      cases h
    | succ n23 ih23 =>
      intro x_4 μ_5 H locs ls gx_4 X hl h
      unfold f_X8_takeReduced_L23 at h
      refine lv_iload_n C.1 C.2.1 dX8_takeReduced_23 rfl (lv_at hl 2 rfl) ?_
      refine lv_aload_n C.1 C.2.1 dX8_takeReduced_24 rfl (lv_at hl 1 rfl) ?_
      have g_25 : Rg (μ_5 x1 2) := zrgf0 (ci := 8) X.2.2.2 (zob.self o_x1) (zo8 o_x1) 2 rfl
      refine z_get C X zk8 (zob.self o_x1) (zo8 o_x1) 2 (by decide) kw_195 (zI (μ_5 x1 2)) rfl dX8_takeReduced_25 ?_
      refine z_icmpge C gx_4 g_25 (tgt := 104) dX8_takeReduced_28 (by decide) (fun hc28 => ?_) (fun hc28 => ?_)
      · rw [if_neg hc28] at h
        obtain rfl := Option.some.inj h
        exact rt X dX8_takeReduced_104
      · rw [if_pos hc28] at h
        refine lv_aload_n C.1 C.2.1 dX8_takeReduced_31 rfl (lv_at hl 0 rfl) ?_
        have g_32 : Rg (μ_5 t0 2) := zrgf0 (ci := 8) X.2.2.2 (zob.self o_t0) (zo8 o_t0) 2 rfl
        refine z_get C X zk8 (zob.self o_t0) (zo8 o_t0) 2 (by decide) kw_195 (zI (μ_5 t0 2)) rfl dX8_takeReduced_32 ?_
        have K73 : ∀ (μ_6 : zMem) (H : Heap) (locs : List Loc) (ls : Array Slot), zX Ω μ_6 (zfree Ω) s.heap H locs → lv_has ls 3 [(0, zR Ω t0), (1, zR Ω x1), (2, zI x_4)] → (f_X8_takeReduced_J73 t0 x1 x_4 (f_X8_takeReduced_L23 t0 x1 n23)) μ_6 = some μ' → W p l e (zrm 0) s m args below meth c H locs 0 0 Q (F0 m 73 ls []) := by
          intro μ_6 H locs ls  X hl h
          unfold f_X8_takeReduced_J73 at h
          refine lv_aload_n C.1 C.2.1 dX8_takeReduced_73 rfl (lv_at hl 0 rfl) ?_
          refine z_get C X zk8 (zob.self o_t0) (zo8 o_t0) 0 (by decide) kw_187 (zR Ω (t0 + 1)) (zfvF (off := 1) X.2.2.2 (zob.self o_t0) o_t0.2.2 (zo8 o_t0) rfl (by rw [zo8_1 o_t0]; decide)) dX8_takeReduced_74 ?_
          refine lv_aload_n C.1 C.2.1 dX8_takeReduced_77 rfl (lv_at hl 0 rfl) ?_
          have g_78 : Rg (μ_6 t0 2) := zrgf0 (ci := 8) X.2.2.2 (zob.self o_t0) (zo8 o_t0) 2 rfl
          refine z_get C X zk8 (zob.self o_t0) (zo8 o_t0) 2 (by decide) kw_195 (zI (μ_6 t0 2)) rfl dX8_takeReduced_78 ?_
          refine lv_aload_n C.1 C.2.1 dX8_takeReduced_81 rfl (lv_at hl 1 rfl) ?_
          refine z_get C X zk8 (zob.self o_x1) (zo8 o_x1) 0 (by decide) kw_187 (zR Ω (x1 + 1)) (zfvF (off := 1) X.2.2.2 (zob.self o_x1) o_x1.2.2 (zo8 o_x1) rfl (by rw [zo8_1 o_x1]; decide)) dX8_takeReduced_82 ?_
          refine lv_iload_n C.1 C.2.1 dX8_takeReduced_85 rfl (lv_at hl 2 rfl) ?_
          obtain ⟨hc86, h⟩ := chk_some h
          have g_86 : Rg (μ_6 (x1 + 1) x_4) := zrg1 X.2.2.2 (o_x1.2.1 1 (by decide) (by decide)) (zo8_1 o_x1)
          refine z_iald C X (o_x1.2.1 1 (by decide) (by decide)) (zo8_1 o_x1) hc86 dX8_takeReduced_86 ?_
          obtain ⟨hc87, h⟩ := chk_some h
          refine zlet_elim h (fun μ_7 em h => ?_)
          refine z_iast C X (o_t0.2.1 1 (by decide) (by decide)) (zo8_1 o_t0) hc87 (zok1 (zo8_1 o_t0) g_86) em dX8_takeReduced_87 (fun H locs X => ?_)
          clear em
          refine lv_aload_n C.1 C.2.1 dX8_takeReduced_88 rfl (lv_at hl 0 rfl) ?_
          refine lv_dup C.1 C.2.1 dX8_takeReduced_89 rfl ?_
          have g_90 : Rg (μ_7 t0 2) := zrgf0 (ci := 8) X.2.2.2 (zob.self o_t0) (zo8 o_t0) 2 rfl
          refine z_get C X zk8 (zob.self o_t0) (zo8 o_t0) 2 (by decide) kw_195 (zI (μ_7 t0 2)) rfl dX8_takeReduced_90 ?_
          refine z_iconst C dX8_takeReduced_93 ?_
          refine z_iadd C dX8_takeReduced_94 ?_
          refine zlet_elim h (fun μ_8 em h => ?_)
          refine z_putI C X zk8 (zob.self o_t0) (zo8 o_t0) 2 (by decide) kw_195 rfl rfl rfl rfl (Rg.w _) em dX8_takeReduced_95 (fun H locs X => ?_)
          clear em
          refine zlet_elim h (fun x_9 ex_9 h => ?_)
          have gx_9 : Rg x_9 := by rw [ex_9]; exact Rg.w _
          refine z_iinc C ex_9 dX8_takeReduced_98 hl (k := 2) rfl (by decide) (lv' := [(2, zI x_9), (0, zR Ω t0), (1, zR Ω x1)]) rfl (fun ls hl => ?_)
          clear ex_9
          refine lv_goto (tgt := 23) C.1 C.2.1 dX8_takeReduced_101 (by decide) ?_
          exact ih23 x_9 μ_8 _ _ _ gx_9 X (lv_sub hl [1, 2, 0] rfl) h
        refine z_ifle C g_32 (tgt := 73) dX8_takeReduced_35 (by decide) (fun hc35 => ?_) (fun hc35 => ?_)
        · rw [if_pos hc35] at h
          exact K73 μ_5 _ _ _ X (lv_sub hl [0, 1, 2] rfl) h
        · rw [if_neg hc35] at h
          refine lv_aload_n C.1 C.2.1 dX8_takeReduced_38 rfl (lv_at hl 0 rfl) ?_
          refine z_get C X zk8 (zob.self o_t0) (zo8 o_t0) 0 (by decide) kw_187 (zR Ω (t0 + 1)) (zfvF (off := 1) X.2.2.2 (zob.self o_t0) o_t0.2.2 (zo8 o_t0) rfl (by rw [zo8_1 o_t0]; decide)) dX8_takeReduced_39 ?_
          refine lv_aload_n C.1 C.2.1 dX8_takeReduced_42 rfl (lv_at hl 0 rfl) ?_
          have g_43 : Rg (μ_5 t0 2) := zrgf0 (ci := 8) X.2.2.2 (zob.self o_t0) (zo8 o_t0) 2 rfl
          refine z_get C X zk8 (zob.self o_t0) (zo8 o_t0) 2 (by decide) kw_195 (zI (μ_5 t0 2)) rfl dX8_takeReduced_43 ?_
          refine z_iconst C dX8_takeReduced_46 ?_
          refine z_isub C dX8_takeReduced_47 ?_
          obtain ⟨hc48, h⟩ := chk_some h
          have g_48 : Rg (μ_5 (t0 + 1) (zw ((μ_5 t0 2) - 1))) := zrg1 X.2.2.2 (o_t0.2.1 1 (by decide) (by decide)) (zo8_1 o_t0)
          refine z_iald C X (o_t0.2.1 1 (by decide) (by decide)) (zo8_1 o_t0) hc48 dX8_takeReduced_48 ?_
          refine lv_aload_n C.1 C.2.1 dX8_takeReduced_49 rfl (lv_at hl 1 rfl) ?_
          refine z_get C X zk8 (zob.self o_x1) (zo8 o_x1) 0 (by decide) kw_187 (zR Ω (x1 + 1)) (zfvF (off := 1) X.2.2.2 (zob.self o_x1) o_x1.2.2 (zo8 o_x1) rfl (by rw [zo8_1 o_x1]; decide)) dX8_takeReduced_50 ?_
          refine lv_iload_n C.1 C.2.1 dX8_takeReduced_53 rfl (lv_at hl 2 rfl) ?_
          obtain ⟨hc54, h⟩ := chk_some h
          have g_54 : Rg (μ_5 (x1 + 1) x_4) := zrg1 X.2.2.2 (o_x1.2.1 1 (by decide) (by decide)) (zo8_1 o_x1)
          refine z_iald C X (o_x1.2.1 1 (by decide) (by decide)) (zo8_1 o_x1) hc54 dX8_takeReduced_54 ?_
          refine z_iconst C dX8_takeReduced_55 ?_
          refine z_ixor C dX8_takeReduced_56 ?_
          refine z_icmpne C g_48 (Rg.t _) (tgt := 73) dX8_takeReduced_57 (by decide) (fun hc57 => ?_) (fun hc57 => ?_)
          · rw [if_neg hc57] at h
            exact K73 μ_5 _ _ _ X (lv_sub hl [0, 1, 2] rfl) h
          · rw [if_pos hc57] at h
            refine lv_aload_n C.1 C.2.1 dX8_takeReduced_60 rfl (lv_at hl 0 rfl) ?_
            refine lv_dup C.1 C.2.1 dX8_takeReduced_61 rfl ?_
            have g_62 : Rg (μ_5 t0 2) := zrgf0 (ci := 8) X.2.2.2 (zob.self o_t0) (zo8 o_t0) 2 rfl
            refine z_get C X zk8 (zob.self o_t0) (zo8 o_t0) 2 (by decide) kw_195 (zI (μ_5 t0 2)) rfl dX8_takeReduced_62 ?_
            refine z_iconst C dX8_takeReduced_65 ?_
            refine z_isub C dX8_takeReduced_66 ?_
            refine zlet_elim h (fun μ_10 em h => ?_)
            refine z_putI C X zk8 (zob.self o_t0) (zo8 o_t0) 2 (by decide) kw_195 rfl rfl rfl rfl (Rg.w _) em dX8_takeReduced_67 (fun H locs X => ?_)
            clear em
            refine lv_goto (tgt := 98) C.1 C.2.1 dX8_takeReduced_70 (by decide) ?_
            refine zlet_elim h (fun x_11 ex_11 h => ?_)
            have gx_11 : Rg x_11 := by rw [ex_11]; exact Rg.w _
            refine z_iinc C ex_11 dX8_takeReduced_98 hl (k := 2) rfl (by decide) (lv' := [(2, zI x_11), (0, zR Ω t0), (1, zR Ω x1)]) rfl (fun ls hl => ?_)
            clear ex_11
            refine lv_goto (tgt := 23) C.1 C.2.1 dX8_takeReduced_101 (by decide) ?_
            exact ih23 x_11 μ_10 _ _ _ gx_11 X (lv_sub hl [1, 2, 0] rfl) h
  exact L23 zfu 0 μ_3 _ _ _ ⟨by decide, by decide⟩ X (lv_sub hl [1, 2, 0] rfl) h
theorem zc_X8_takeReduced : zcal yX8_takeReduced cX8_takeReduced 3 none RX8 1 := ⟨⟨kw_855, kw_853, kw_854, kw_6⟩, rfl, by decide, by decide, by decide +kernel⟩

def f_X9_emptySlots_L2 (x1 : Int) : Nat → Int → zMem → Option zMem
  | 0, _, _ => none
  | n + 1, x_1, μ_2 =>
    if x_1 < 4 then
      chk ((0 : Int) ≤ x_1 ∧ x_1 < 4) <|
      chk ((μ_2 16 x_1) ≠ 0) <|
      zlet (μ_2 16 x_1) fun x_3 =>
      if (μ_2 x_3 1) = x1 then
        chk ((0 : Int) ≤ x_1 ∧ x_1 < 4) <|
        chk ((μ_2 16 x_1) ≠ 0) <|
        zlet (μ_2 16 x_1) fun x_5 =>
        zlet (zup μ_2 x_5 1 (-1)) fun μ_6 =>
        zlet (zw (x_1 + 1)) fun x_7 =>
        (f_X9_emptySlots_L2 x1 n) x_7 μ_6
      else
        zlet (zw (x_1 + 1)) fun x_4 =>
        (f_X9_emptySlots_L2 x1 n) x_4 μ_2
    else
      some μ_2
def f_X9_emptySlots (x1 : Int) (μ : zMem) : Option zMem :=
  (f_X9_emptySlots_L2 x1) zfu 0 μ
set_option maxHeartbeats 4000000 in
set_option maxRecDepth 100000 in
theorem M_X9_emptySlots {l : Launch} {Ω : zO} (hI : zIc Ω) (μ : zMem) (x1 : Int) {μ' : zMem} (gx1 : Rg x1) (h : f_X9_emptySlots x1 μ = some μ') : XMet l yX9_emptySlots cX9_emptySlots 3 none 0 Ω [zR Ω 1, zI x1] μ none True μ' := by
  refine XMet.ofV (by decide) (Nat.le_of_ble_eq_true rfl) ?_
  intro p e s m args below meth c ls Q C rt X hl
  have C : zC p s m args c cX9_emptySlots RX9 3 Ω := C
  have hl : lv_has ls 3 [(0, zR Ω 1), (1, zI x1)] := hl
  unfold f_X9_emptySlots at h
  skip
  refine z_iconst C dX9_emptySlots_0 ?_
  refine lv_istore_n C.1 C.2.1 (lv' := [(2, zI 0), (0, zR Ω 1), (1, zI x1)]) dX9_emptySlots_1 rfl hl (by decide) rfl (fun ls hl => ?_)
  have L2 : ∀ (n2 : Nat) (x_1 : Int) (μ_2 : zMem) (H : Heap) (locs : List Loc) (ls : Array Slot), Rg x_1 → zX Ω μ_2 (zfree Ω) s.heap H locs → lv_has ls 3 [(0, zR Ω 1), (1, zI x1), (2, zI x_1)] → (f_X9_emptySlots_L2 x1 n2 x_1 μ_2) = some μ' → W p l e (zrm 0) s m args below meth c H locs 0 0 Q (F0 m 2 ls []) := by
    intro n2
    induction n2 with
    | zero =>
      intro x_1 μ_2 H locs ls _ _ _ h
      cases h
    | succ n2 ih2 =>
      intro x_1 μ_2 H locs ls gx_1 X hl h
      unfold f_X9_emptySlots_L2 at h
      refine lv_iload_n C.1 C.2.1 dX9_emptySlots_2 rfl (lv_at hl 2 rfl) ?_
      refine z_iconst C dX9_emptySlots_3 ?_
      refine z_icmpge C gx_1 ⟨by decide, by decide⟩ (tgt := 36) dX9_emptySlots_4 (by decide) (fun hc4 => ?_) (fun hc4 => ?_)
      · rw [if_neg hc4] at h
        obtain rfl := Option.some.inj h
        exact rt X dX9_emptySlots_36
      · rw [if_pos hc4] at h
        refine lv_aload_n C.1 C.2.1 dX9_emptySlots_7 rfl (lv_at hl 0 rfl) ?_
        refine z_get C X zk9 (hI.1 1 (by decide)) rfl 2 (by decide) kw_391 (zR Ω 16) (zfvF (off := 15) X.2.2.2 (hI.1 1 (by decide)) (hI.2 1 (by decide)) rfl rfl (by decide)) dX9_emptySlots_8 ?_
        refine lv_iload_n C.1 C.2.1 dX9_emptySlots_11 rfl (lv_at hl 2 rfl) ?_
        obtain ⟨hc12, h⟩ := chk_some h
        obtain ⟨hn12, h⟩ := chk_some h
        have o_12 := (zrg6 X.2.2.2 (hI.1 16 (by decide)) rfl (i := x_1)).resolve_left hn12
        refine z_aald6 C X (hI.1 16 (by decide)) rfl hc12 dX9_emptySlots_12 ?_
        rw [zQ_pos Ω hn12]
        refine zlet_elim h (fun x_3 ex_3 h => ?_)
        rw [← ex_3] at o_12 ⊢
        clear hn12 ex_3
        have g_13 : Rg (μ_2 x_3 1) := zrgf0 (ci := 8) X.2.2.2 (zob.self o_12) (zo8 o_12) 1 rfl
        refine z_get C X zk8 (zob.self o_12) (zo8 o_12) 1 (by decide) kw_194 (zI (μ_2 x_3 1)) rfl dX9_emptySlots_13 ?_
        refine lv_iload_n C.1 C.2.1 dX9_emptySlots_16 rfl (lv_at hl 1 rfl) ?_
        refine z_icmpne C g_13 gx1 (tgt := 30) dX9_emptySlots_17 (by decide) (fun hc17 => ?_) (fun hc17 => ?_)
        · rw [if_neg hc17] at h
          refine zlet_elim h (fun x_4 ex_4 h => ?_)
          have gx_4 : Rg x_4 := by rw [ex_4]; exact Rg.w _
          refine z_iinc C ex_4 dX9_emptySlots_30 hl (k := 2) rfl (by decide) (lv' := [(2, zI x_4), (0, zR Ω 1), (1, zI x1)]) rfl (fun ls hl => ?_)
          clear ex_4
          refine lv_goto (tgt := 2) C.1 C.2.1 dX9_emptySlots_33 (by decide) ?_
          exact ih2 x_4 μ_2 _ _ _ gx_4 X (lv_sub hl [1, 2, 0] rfl) h
        · rw [if_pos hc17] at h
          refine lv_aload_n C.1 C.2.1 dX9_emptySlots_20 rfl (lv_at hl 0 rfl) ?_
          refine z_get C X zk9 (hI.1 1 (by decide)) rfl 2 (by decide) kw_391 (zR Ω 16) (zfvF (off := 15) X.2.2.2 (hI.1 1 (by decide)) (hI.2 1 (by decide)) rfl rfl (by decide)) dX9_emptySlots_21 ?_
          refine lv_iload_n C.1 C.2.1 dX9_emptySlots_24 rfl (lv_at hl 2 rfl) ?_
          obtain ⟨hc25, h⟩ := chk_some h
          obtain ⟨hn25, h⟩ := chk_some h
          have o_25 := (zrg6 X.2.2.2 (hI.1 16 (by decide)) rfl (i := x_1)).resolve_left hn25
          refine z_aald6 C X (hI.1 16 (by decide)) rfl hc25 dX9_emptySlots_25 ?_
          rw [zQ_pos Ω hn25]
          refine zlet_elim h (fun x_5 ex_5 h => ?_)
          rw [← ex_5] at o_25 ⊢
          clear hn25 ex_5
          refine z_iconst C dX9_emptySlots_26 ?_
          refine zlet_elim h (fun μ_6 em h => ?_)
          refine z_putI C X zk8 (zob.self o_25) (zo8 o_25) 1 (by decide) kw_194 rfl rfl rfl rfl ⟨by decide, by decide⟩ em dX9_emptySlots_27 (fun H locs X => ?_)
          clear em
          refine zlet_elim h (fun x_7 ex_7 h => ?_)
          have gx_7 : Rg x_7 := by rw [ex_7]; exact Rg.w _
          refine z_iinc C ex_7 dX9_emptySlots_30 hl (k := 2) rfl (by decide) (lv' := [(2, zI x_7), (0, zR Ω 1), (1, zI x1)]) rfl (fun ls hl => ?_)
          clear ex_7
          refine lv_goto (tgt := 2) C.1 C.2.1 dX9_emptySlots_33 (by decide) ?_
          exact ih2 x_7 μ_6 _ _ _ gx_7 X (lv_sub hl [1, 2, 0] rfl) h
  exact L2 zfu 0 μ _ _ _ ⟨by decide, by decide⟩ X (lv_sub hl [1, 2, 0] rfl) h
theorem zc_X9_emptySlots : zcal yX9_emptySlots cX9_emptySlots 3 none RX9 1 := ⟨⟨kw_435, kw_434, kp_4, kw_1⟩, rfl, by decide, by decide, by decide +kernel⟩

def f_X9_isOwn (x0 : Int) : Int :=
  if x0 = 0 then
    1
  else
    if x0 = 1 then
      1
    else
      0
set_option maxHeartbeats 4000000 in
set_option maxRecDepth 100000 in
theorem M_X9_isOwn {l : Launch} {Ω : zO} (hI : zIc Ω) (μ : zMem) (x0 : Int) (gx0 : Rg x0) : XMet l yX9_isOwn cX9_isOwn 1 (some Jvm.ClassFile.FieldType.boolean) 0 Ω [zI x0] μ (some (zI (f_X9_isOwn x0))) (0 ≤ (f_X9_isOwn x0) ∧ (f_X9_isOwn x0) ≤ 1) μ := by
  obtain ⟨r, h⟩ : ∃ r, f_X9_isOwn x0 = r := ⟨_, rfl⟩
  rw [h]
  refine XMet.ofZ (by decide) (Nat.le_of_ble_eq_true rfl) ?_
  intro p e s m args below meth c ls Q C rt X hl
  have C : zC p s m args c cX9_isOwn RX9 1 Ω := C
  have hl : lv_has ls 1 [(0, zI x0)] := hl
  unfold f_X9_isOwn at h
  skip
  refine lv_iload_n C.1 C.2.1 dX9_isOwn_0 rfl (lv_at hl 0 rfl) ?_
  refine z_ifeq C gx0 (tgt := 9) dX9_isOwn_1 (by decide) (fun hc1 => ?_) (fun hc1 => ?_)
  · rw [if_pos hc1] at h
    refine z_iconst C dX9_isOwn_9 ?_
    refine lv_goto (tgt := 14) C.1 C.2.1 dX9_isOwn_10 (by decide) ?_
    subst h
    exact rt X ⟨by decide, by decide⟩ dX9_isOwn_14
  · rw [if_neg hc1] at h
    refine lv_iload_n C.1 C.2.1 dX9_isOwn_4 rfl (lv_at hl 0 rfl) ?_
    refine z_iconst C dX9_isOwn_5 ?_
    refine z_icmpne C gx0 ⟨by decide, by decide⟩ (tgt := 13) dX9_isOwn_6 (by decide) (fun hc6 => ?_) (fun hc6 => ?_)
    · rw [if_neg hc6] at h
      refine z_iconst C dX9_isOwn_13 ?_
      subst h
      exact rt X ⟨by decide, by decide⟩ dX9_isOwn_14
    · rw [if_pos hc6] at h
      refine z_iconst C dX9_isOwn_9 ?_
      refine lv_goto (tgt := 14) C.1 C.2.1 dX9_isOwn_10 (by decide) ?_
      subst h
      exact rt X ⟨by decide, by decide⟩ dX9_isOwn_14
theorem zc_X9_isOwn : zcas yX9_isOwn cX9_isOwn 1 (some Jvm.ClassFile.FieldType.boolean) 1 := ⟨⟨kw_429, kw_428, kw_1⟩, by decide, by decide, by decide +kernel⟩

