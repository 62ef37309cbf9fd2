def f_J7_fill_d0a16_L6 (x0 : Int) (x1 : Int) (x_1 : Int) : Nat → Int → zMem → Option zMem
  | 0, _, _ => none
  | n + 1, x_2, μ_3 =>
    if x_2 < x_1 then
      chk ((0 : Int) ≤ x_2 ∧ x_2 < zlen x0) <|
      zlet (zup μ_3 x0 x_2 x1) fun μ_4 =>
      zlet (zw (x_2 + 1)) fun x_5 =>
      (f_J7_fill_d0a16_L6 x0 x1 x_1 n) x_5 μ_4
    else
      some μ_3
def f_J7_fill_d0a16 (x0 : Int) (x1 : Int) (μ : zMem) : Option zMem :=
  zlet ((zlen x0)) fun x_1 =>
  (f_J7_fill_d0a16_L6 x0 x1 x_1) zfu 0 μ
set_option maxHeartbeats 4000000 in
set_option maxRecDepth 100000 in
theorem M_J7_fill_d0a16 {l : Launch} {Ω : zO} (μ : zMem) (x0 : Int) (x1 : Int) {μ' : zMem} (mx0 : x0 ∈ Ω.2.2.1.1) (sx0 : (zsh x0).1 = 2) (gx1 : Rl x1) (h : f_J7_fill_d0a16 x0 x1 μ = some μ') : XMet l yJ7_fill_d0a16 cJ7_fill_d0a16 5 none 0 Ω [zR Ω x0, zJ x1] μ none True μ' := by
  refine XMet.ofV (by decide) (Nat.le_of_ble_eq_true rfl) ?_
  intro p e s m args below meth c ls Q C rt X hl
  have C : zC p s m args c cJ7_fill_d0a16 RJ7 5 Ω := C
  have hl : lv_has ls 5 [(0, zR Ω x0), (1, zJ x1)] := hl
  unfold f_J7_fill_d0a16 at h
  skip
  refine z_iconst C dJ7_fill_d0a16_0 ?_
  refine lv_istore_n C.1 C.2.1 (lv' := [(3, zI 0), (0, zR Ω x0), (1, zJ x1)]) dJ7_fill_d0a16_1 rfl hl (by decide) rfl (fun ls hl => ?_)
  refine lv_aload_n C.1 C.2.1 dJ7_fill_d0a16_2 rfl (lv_at hl 1 rfl) ?_
  have g_3 : Rg (zlen x0) := zlen_rg x0
  refine z_alen C X mx0 (a := 2) sx0 (by decide) (zlen x0) rfl dJ7_fill_d0a16_3 ?_
  refine zlet_elim h (fun x_1 ex_1 h => ?_)
  have gx_1 : Rg x_1 := by rw [ex_1]; exact g_3
  refine z_istore C ex_1 dJ7_fill_d0a16_4 hl (by decide) (lv' := [(4, zI x_1), (3, zI 0), (0, zR Ω x0), (1, zJ x1)]) rfl (fun ls hl => ?_)
  clear ex_1
  have L6 : ∀ (n6 : Nat) (x_2 : Int) (μ_3 : zMem) (H : Heap) (locs : List Loc) (ls : Array Slot), Rg x_2 → zX Ω μ_3 (zfree Ω) s.heap H locs → lv_has ls 5 [(0, zR Ω x0), (1, zJ x1), (3, zI x_2), (4, zI x_1)] → (f_J7_fill_d0a16_L6 x0 x1 x_1 n6 x_2 μ_3) = some μ' → W p l e (zrm 0) s m args below meth c H locs 0 0 Q (F0 m 6 ls []) := by
    intro n6
    induction n6 with
    | zero =>
      intro x_2 μ_3 H locs ls _ _ _ h
      cases h
    | succ n6 ih6 =>
      intro x_2 μ_3 H locs ls gx_2 X hl h
      unfold f_J7_fill_d0a16_L6 at h
      refine lv_iload_n C.1 C.2.1 dJ7_fill_d0a16_6 rfl (lv_at hl 2 rfl) ?_
      refine lv_iload C.1 C.2.1 dJ7_fill_d0a16_7 (lv_at hl 3 rfl) ?_
      refine z_icmpge C gx_2 gx_1 (tgt := 22) dJ7_fill_d0a16_9 (by decide) (fun hc9 => ?_) (fun hc9 => ?_)
      · rw [if_neg hc9] at h
        obtain rfl := Option.some.inj h
        exact rt X dJ7_fill_d0a16_22
      · rw [if_pos hc9] at h
        refine lv_aload_n C.1 C.2.1 dJ7_fill_d0a16_12 rfl (lv_at hl 0 rfl) ?_
        refine lv_iload_n C.1 C.2.1 dJ7_fill_d0a16_13 rfl (lv_at hl 2 rfl) ?_
        refine lv_lload_n C.1 C.2.1 dJ7_fill_d0a16_14 rfl (lv_at hl 1 rfl) ?_
        obtain ⟨hc15, h⟩ := chk_some h
        refine zlet_elim h (fun μ_4 em h => ?_)
        refine z_last C X mx0 sx0 hc15 (zok2 sx0 gx1) em dJ7_fill_d0a16_15 (fun H locs X => ?_)
        clear em
        refine zlet_elim h (fun x_5 ex_5 h => ?_)
        have gx_5 : Rg x_5 := by rw [ex_5]; exact Rg.w _
        refine z_iinc C ex_5 dJ7_fill_d0a16_16 hl (k := 2) rfl (by decide) (lv' := [(3, zI x_5), (0, zR Ω x0), (1, zJ x1), (4, zI x_1)]) rfl (fun ls hl => ?_)
        clear ex_5
        refine lv_goto (tgt := 6) C.1 C.2.1 dJ7_fill_d0a16_19 (by decide) ?_
        exact ih6 x_5 μ_4 _ _ _ gx_5 X (lv_sub hl [1, 2, 0, 3] rfl) h
  exact L6 zfu 0 μ _ _ _ ⟨by decide, by decide⟩ X (lv_sub hl [2, 3, 1, 0] rfl) h
theorem zc_J7_fill_d0a16 : zcas yJ7_fill_d0a16 cJ7_fill_d0a16 5 none 2 := ⟨⟨kw_598, kw_597, kw_14⟩, by decide, by decide, by decide +kernel⟩

def f_X0_push_J37 (x1 : Int) (μ_1 : zMem) : Option zMem :=
  if (μ_1 33 3) < 24 then
    chk ((0 : Int) ≤ (μ_1 33 3) ∧ (μ_1 33 3) < 24) <|
    zlet (zup μ_1 36 (μ_1 33 3) x1) fun μ_2 =>
    zlet (zup μ_2 33 3 (zw ((μ_2 33 3) + 1))) fun μ_3 =>
    some μ_3
  else
    some μ_1
def f_X0_push (x1 : Int) (μ : zMem) : Option zMem :=
  if (μ 33 3) ≤ 0 then
    (f_X0_push_J37 x1) μ
  else
    chk ((0 : Int) ≤ (zw ((μ 33 3) - 1)) ∧ (zw ((μ 33 3) - 1)) < 24) <|
    if (μ 36 (zw ((μ 33 3) - 1))) = (zxor x1 1) then
      zlet (zup μ 33 3 (zw ((μ 33 3) - 1))) fun μ_4 =>
      some μ_4
    else
      (f_X0_push_J37 x1) μ
set_option maxHeartbeats 4000000 in
set_option maxRecDepth 100000 in
theorem M_X0_push {l : Launch} {Ω : zO} (hI : zIc Ω) (μ : zMem) (x1 : Int) {μ' : zMem} (gx1 : Rg x1) (h : f_X0_push x1 μ = some μ') : XMet l yX0_push cX0_push 2 none 0 Ω [zR Ω 33, zI x1] μ none True μ' := by
  refine XMet.ofV (by decide) (Nat.le_of_ble_eq_true rfl) ?_
  intro p e s m args below meth c ls Q C rt X hl
  have C : zC p s m args c cX0_push RX0 2 Ω := C
  have hl : lv_has ls 2 [(0, zR Ω 33), (1, zI x1)] := hl
  unfold f_X0_push at h
  skip
  refine lv_aload_n C.1 C.2.1 dX0_push_0 rfl (lv_at hl 0 rfl) ?_
  have g_1 : Rg (μ 33 3) := zrgf0 (ci := 0) X.2.2.2 (hI.1 33 (by decide)) rfl 3 rfl
  refine z_get C X zk0 (hI.1 33 (by decide)) rfl 3 (by decide) kw_296 (zI (μ 33 3)) rfl dX0_push_1 ?_
  have K37 : ∀ (μ_1 : zMem) (H : Heap) (locs : List Loc) (ls : Array Slot), zX Ω μ_1 (zfree Ω) s.heap H locs → lv_has ls 2 [(0, zR Ω 33), (1, zI x1)] → (f_X0_push_J37 x1) μ_1 = some μ' → W p l e (zrm 0) s m args below meth c H locs 0 0 Q (F0 m 37 ls []) := by
    intro μ_1 H locs ls  X hl h
    unfold f_X0_push_J37 at h
    refine lv_aload_n C.1 C.2.1 dX0_push_37 rfl (lv_at hl 0 rfl) ?_
    have g_38 : Rg (μ_1 33 3) := zrgf0 (ci := 0) X.2.2.2 (hI.1 33 (by decide)) rfl 3 rfl
    refine z_get C X zk0 (hI.1 33 (by decide)) rfl 3 (by decide) kw_296 (zI (μ_1 33 3)) rfl dX0_push_38 ?_
    refine lv_aload_n C.1 C.2.1 dX0_push_41 rfl (lv_at hl 0 rfl) ?_
    refine z_get C X zk0 (hI.1 33 (by decide)) rfl 2 (by decide) kw_295 (zR Ω 36) (zfvF (off := 3) X.2.2.2 (hI.1 33 (by decide)) (hI.2 33 (by decide)) rfl rfl (by decide)) dX0_push_42 ?_
    have g_45 : Rg 24 := zlen_rg 36
    refine z_alen C X (hI.1 36 (by decide)) (a := 1) rfl (by decide) 24 rfl dX0_push_45 ?_
    refine z_icmpge C g_38 g_45 (tgt := 69) dX0_push_46 (by decide) (fun hc46 => ?_) (fun hc46 => ?_)
    · rw [if_neg hc46] at h
      obtain rfl := Option.some.inj h
      exact rt X dX0_push_69
    · rw [if_pos hc46] at h
      refine lv_aload_n C.1 C.2.1 dX0_push_49 rfl (lv_at hl 0 rfl) ?_
      refine z_get C X zk0 (hI.1 33 (by decide)) rfl 2 (by decide) kw_295 (zR Ω 36) (zfvF (off := 3) X.2.2.2 (hI.1 33 (by decide)) (hI.2 33 (by decide)) rfl rfl (by decide)) dX0_push_50 ?_
      refine lv_aload_n C.1 C.2.1 dX0_push_53 rfl (lv_at hl 0 rfl) ?_
      have g_54 : Rg (μ_1 33 3) := zrgf0 (ci := 0) X.2.2.2 (hI.1 33 (by decide)) rfl 3 rfl
      refine z_get C X zk0 (hI.1 33 (by decide)) rfl 3 (by decide) kw_296 (zI (μ_1 33 3)) rfl dX0_push_54 ?_
      refine lv_iload_n C.1 C.2.1 dX0_push_57 rfl (lv_at hl 1 rfl) ?_
      obtain ⟨hc58, h⟩ := chk_some h
      refine zlet_elim h (fun μ_2 em h => ?_)
      refine z_iast C X (hI.1 36 (by decide)) rfl hc58 (zok1 rfl gx1) em dX0_push_58 (fun H locs X => ?_)
      clear em
      refine lv_aload_n C.1 C.2.1 dX0_push_59 rfl (lv_at hl 0 rfl) ?_
      refine lv_dup C.1 C.2.1 dX0_push_60 rfl ?_
      have g_61 : Rg (μ_2 33 3) := zrgf0 (ci := 0) X.2.2.2 (hI.1 33 (by decide)) rfl 3 rfl
      refine z_get C X zk0 (hI.1 33 (by decide)) rfl 3 (by decide) kw_296 (zI (μ_2 33 3)) rfl dX0_push_61 ?_
      refine z_iconst C dX0_push_64 ?_
      refine z_iadd C dX0_push_65 ?_
      refine zlet_elim h (fun μ_3 em h => ?_)
      refine z_putI C X zk0 (hI.1 33 (by decide)) rfl 3 (by decide) kw_296 rfl rfl rfl rfl (Rg.w _) em dX0_push_66 (fun H locs X => ?_)
      clear em
      obtain rfl := Option.some.inj h
      exact rt X dX0_push_69
  refine z_ifle C g_1 (tgt := 37) dX0_push_4 (by decide) (fun hc4 => ?_) (fun hc4 => ?_)
  · rw [if_pos hc4] at h
    exact K37 μ _ _ _ X (lv_sub hl [0, 1] rfl) h
  · rw [if_neg hc4] at h
    refine lv_aload_n C.1 C.2.1 dX0_push_7 rfl (lv_at hl 0 rfl) ?_
    refine z_get C X zk0 (hI.1 33 (by decide)) rfl 2 (by decide) kw_295 (zR Ω 36) (zfvF (off := 3) X.2.2.2 (hI.1 33 (by decide)) (hI.2 33 (by decide)) rfl rfl (by decide)) dX0_push_8 ?_
    refine lv_aload_n C.1 C.2.1 dX0_push_11 rfl (lv_at hl 0 rfl) ?_
    have g_12 : Rg (μ 33 3) := zrgf0 (ci := 0) X.2.2.2 (hI.1 33 (by decide)) rfl 3 rfl
    refine z_get C X zk0 (hI.1 33 (by decide)) rfl 3 (by decide) kw_296 (zI (μ 33 3)) rfl dX0_push_12 ?_
    refine z_iconst C dX0_push_15 ?_
    refine z_isub C dX0_push_16 ?_
    obtain ⟨hc17, h⟩ := chk_some h
    have g_17 : Rg (μ 36 (zw ((μ 33 3) - 1))) := zrg1 X.2.2.2 (hI.1 36 (by decide)) rfl
    refine z_iald C X (hI.1 36 (by decide)) rfl hc17 dX0_push_17 ?_
    refine lv_iload_n C.1 C.2.1 dX0_push_18 rfl (lv_at hl 1 rfl) ?_
    refine z_iconst C dX0_push_19 ?_
    refine z_ixor C dX0_push_20 ?_
    refine z_icmpne C g_17 (Rg.t _) (tgt := 37) dX0_push_21 (by decide) (fun hc21 => ?_) (fun hc21 => ?_)
    · rw [if_neg hc21] at h
      exact K37 μ _ _ _ X (lv_sub hl [0, 1] rfl) h
    · rw [if_pos hc21] at h
      refine lv_aload_n C.1 C.2.1 dX0_push_24 rfl (lv_at hl 0 rfl) ?_
      refine lv_dup C.1 C.2.1 dX0_push_25 rfl ?_
      have g_26 : Rg (μ 33 3) := zrgf0 (ci := 0) X.2.2.2 (hI.1 33 (by decide)) rfl 3 rfl
      refine z_get C X zk0 (hI.1 33 (by decide)) rfl 3 (by decide) kw_296 (zI (μ 33 3)) rfl dX0_push_26 ?_
      refine z_iconst C dX0_push_29 ?_
      refine z_isub C dX0_push_30 ?_
      refine zlet_elim h (fun μ_4 em h => ?_)
      refine z_putI C X zk0 (hI.1 33 (by decide)) rfl 3 (by decide) kw_296 rfl rfl rfl rfl (Rg.w _) em dX0_push_31 (fun H locs X => ?_)
      clear em
      refine lv_goto (tgt := 69) C.1 C.2.1 dX0_push_34 (by decide) ?_
      obtain rfl := Option.some.inj h
      exact rt X dX0_push_69
theorem zc_X0_push : zcal yX0_push cX0_push 2 none RX0 1 := ⟨⟨kw_903, kw_902, kp_40, kw_9⟩, rfl, by decide, by decide, by decide +kernel⟩

def f_X0_pushAll_L3 (x1 : Int) (x3 : Int) : Nat → Int → zMem → Option zMem
  | 0, _, _ => none
  | n + 1, x_1, μ_2 =>
    if x_1 < x3 then
      chk ((0 : Int) ≤ x_1 ∧ x_1 < zlen (x1 + 1)) <|
      bnd (f_X0_push (μ_2 (x1 + 1) x_1) μ_2) fun μ_3 =>
      zlet (zw (x_1 + 1)) fun x_4 =>
      (f_X0_pushAll_L3 x1 x3 n) x_4 μ_3
    else
      some μ_2
def f_X0_pushAll (x1 : Int) (x2 : Int) (x3 : Int) (μ : zMem) : Option zMem :=
  (f_X0_pushAll_L3 x1 x3) zfu x2 μ
set_option maxHeartbeats 4000000 in
set_option maxRecDepth 100000 in
theorem M_X0_pushAll {l : Launch} {Ω : zO} (hI : zIc Ω) (μ : zMem) (x1 : Int) (x2 : Int) (x3 : Int) {μ' : zMem} (o_x1 : zob Ω.2.2.1 8 x1) (gx2 : Rg x2) (gx3 : Rg x3) (h : f_X0_pushAll x1 x2 x3 μ = some μ') : XMet l yX0_pushAll cX0_pushAll 5 none 1 Ω [zR Ω 33, zR Ω x1, zI x2, zI x3] μ none True μ' := by
  refine XMet.ofV (by decide) (Nat.le_of_ble_eq_true rfl) ?_
  intro p e s m args below meth c ls Q C rt X hl
  have C : zC p s m args c cX0_pushAll RX0 5 Ω := C
  have hl : lv_has ls 5 [(0, zR Ω 33), (1, zR Ω x1), (2, zI x2), (3, zI x3)] := hl
  unfold f_X0_pushAll at h
  skip
  refine lv_iload_n C.1 C.2.1 dX0_pushAll_0 rfl (lv_at hl 2 rfl) ?_
  refine lv_istore C.1 C.2.1 (lv' := [(4, zI x2), (0, zR Ω 33), (1, zR Ω x1), (2, zI x2), (3, zI x3)]) dX0_pushAll_1 hl (by decide) rfl (fun ls hl => ?_)
  have L3 : ∀ (n3 : Nat) (x_1 : Int) (μ_2 : zMem) (H : Heap) (locs : List Loc) (ls : Array Slot), Rg x_1 → zX Ω μ_2 (zfree Ω) s.heap H locs → lv_has ls 5 [(0, zR Ω 33), (1, zR Ω x1), (3, zI x3), (4, zI x_1)] → (f_X0_pushAll_L3 x1 x3 n3 x_1 μ_2) = some μ' → W p l e (zrm 1) s m args below meth c H locs 0 0 Q (F0 m 3 ls []) := by
    intro n3
    induction n3 with
    | zero =>
      intro x_1 μ_2 H locs ls _ _ _ h
      cases h
    | succ n3 ih3 =>
      intro x_1 μ_2 H locs ls gx_1 X hl h
      unfold f_X0_pushAll_L3 at h
      refine lv_iload C.1 C.2.1 dX0_pushAll_3 (lv_at hl 3 rfl) ?_
      refine lv_iload_n C.1 C.2.1 dX0_pushAll_5 rfl (lv_at hl 2 rfl) ?_
      refine z_icmpge C gx_1 gx3 (tgt := 26) dX0_pushAll_6 (by decide) (fun hc6 => ?_) (fun hc6 => ?_)
      · rw [if_neg hc6] at h
        obtain rfl := Option.some.inj h
        exact rt X dX0_pushAll_26
      · rw [if_pos hc6] at h
        refine lv_aload_n C.1 C.2.1 dX0_pushAll_9 rfl (lv_at hl 0 rfl) ?_
        refine lv_aload_n C.1 C.2.1 dX0_pushAll_10 rfl (lv_at hl 1 rfl) ?_
        refine z_get C X zk8 (zob.self o_x1) (zo8 o_x1) 0 (by decide) kw_189 (zR Ω (x1 + 1)) (zfvF (off := 1) X.2.2.2 (zob.self o_x1) o_x1.2.2 (zo8 o_x1) rfl (by rw [zo8_1 o_x1]; decide)) dX0_pushAll_11 ?_
        refine lv_iload C.1 C.2.1 dX0_pushAll_14 (lv_at hl 3 rfl) ?_
        obtain ⟨hc16, h⟩ := chk_some h
        have g_16 : Rg (μ_2 (x1 + 1) x_1) := zrg1 X.2.2.2 (o_x1.2.1 1 (by decide) (by decide)) (zo8_1 o_x1)
        refine z_iald C X (o_x1.2.1 1 (by decide) (by decide)) (zo8_1 o_x1) hc16 dX0_pushAll_16 ?_
        obtain ⟨μ_3, hq17, h⟩ := bnd_some h
        refine z_callV0 C X zk0 (hI.1 33 (by decide)) rfl (As := [zI (μ_2 (x1 + 1) x_1)]) (M_X0_push hI μ_2 (μ_2 (x1 + 1) x_1) g_16 hq17) zc_X0_push kw_900 (zroom (by decide) (by decide)) rfl hl.1 rfl (Nat.le_of_ble_eq_true rfl) dX0_pushAll_17 ⟨Nat.zero_le _, Nat.zero_le _⟩ (fun H locs g_17 X => ?_)
        refine zlet_elim h (fun x_4 ex_4 h => ?_)
        have gx_4 : Rg x_4 := by rw [ex_4]; exact Rg.w _
        refine z_iinc C ex_4 dX0_pushAll_20 hl (k := 3) rfl (by decide) (lv' := [(4, zI x_4), (0, zR Ω 33), (1, zR Ω x1), (3, zI x3)]) rfl (fun ls hl => ?_)
        clear ex_4
        refine lv_goto (tgt := 3) C.1 C.2.1 dX0_pushAll_23 (by decide) ?_
        exact ih3 x_4 μ_3 _ _ _ gx_4 X (lv_sub hl [1, 2, 3, 0] rfl) h
  exact L3 zfu x2 μ _ _ _ gx2 X (lv_sub hl [1, 2, 4, 0] rfl) h
theorem zc_X0_pushAll : zcal yX0_pushAll cX0_pushAll 5 none RX0 3 := ⟨⟨kw_899, kw_898, kp_39, kw_9⟩, rfl, by decide, by decide, by decide +kernel⟩

def f_X5_rimStep (t0 : Int) (x1 : Int) (x2 : Int) (μ : zMem) : Option Int :=
  chk ((0 : Int) ≤ (zw ((zw (x1 * 8)) + x2)) ∧ (zw ((zw (x1 * 8)) + x2)) < zlen (t0 + 5)) <|
  some (μ (t0 + 5) (zw ((zw (x1 * 8)) + x2)))
set_option maxHeartbeats 4000000 in
set_option maxRecDepth 100000 in
theorem M_X5_rimStep {l : Launch} {Ω : zO} (μ : zMem) (t0 : Int) (x1 : Int) (x2 : Int) {r : Int} (o_t0 : zob Ω.2.2.1 5 t0) (gx1 : Rg x1) (gx2 : Rg x2) (h : f_X5_rimStep t0 x1 x2 μ = some r) : XMet l yX5_rimStep cX5_rimStep 3 (some Jvm.ClassFile.FieldType.int) 0 Ω [zR Ω t0, zI x1, zI x2] μ (some (zI r)) (Rg r) μ := by
  refine XMet.ofI (by decide) (Nat.le_of_ble_eq_true rfl) ?_
  intro p e s m args below meth c ls Q C rt X hl
  have C : zC p s m args c cX5_rimStep RX5 3 Ω := C
  have hl : lv_has ls 3 [(0, zR Ω t0), (1, zI x1), (2, zI x2)] := hl
  unfold f_X5_rimStep at h
  skip
  refine lv_aload_n C.1 C.2.1 dX5_rimStep_0 rfl (lv_at hl 0 rfl) ?_
  refine z_get C X zk5 (zob.self o_t0) (zo5 o_t0) 4 (by decide) kw_70 (zR Ω (t0 + 5)) (zfvF (off := 5) X.2.2.2 (zob.self o_t0) o_t0.2.2 (zo5 o_t0) rfl (by rw [zo5_5 o_t0]; decide)) dX5_rimStep_1 ?_
  refine lv_iload_n C.1 C.2.1 dX5_rimStep_4 rfl (lv_at hl 1 rfl) ?_
  refine z_bipush C dX5_rimStep_5 (by decide) ?_
  refine z_imul C dX5_rimStep_7 ?_
  refine lv_iload_n C.1 C.2.1 dX5_rimStep_8 rfl (lv_at hl 2 rfl) ?_
  refine z_iadd C dX5_rimStep_9 ?_
  obtain ⟨hc10, h⟩ := chk_some h
  have g_10 : Rg (μ (t0 + 5) (zw ((zw (x1 * 8)) + x2))) := zrg1 X.2.2.2 (o_t0.2.1 5 (by decide) (by decide)) (zo5_5 o_t0)
  refine z_iald C X (o_t0.2.1 5 (by decide) (by decide)) (zo5_5 o_t0) hc10 dX5_rimStep_10 ?_
  obtain rfl := Option.some.inj h
  exact rt X g_10 dX5_rimStep_11
theorem zc_X5_rimStep : zcal yX5_rimStep cX5_rimStep 3 (some Jvm.ClassFile.FieldType.int) RX5 2 := ⟨⟨kw_577, kw_575, kw_576, kw_3⟩, rfl, by decide, by decide, by decide +kernel⟩

def f_X0_draw_K114 (x2 : Int) (x3 : Int) (μ_4 : zMem) : Option zMem :=
  bnd (f_X0_pushAll x2 x3 (μ_4 x2 2) μ_4) fun μ_5 =>
  some μ_5
def f_X0_draw_J106 (x_7 : Int) (g28 : Int → Int → zMem → Option zMem) (x_13 : Int) (μ_14 : zMem) : Option zMem :=
  zlet (zw (x_7 + 1)) fun x_15 =>
  g28 x_13 x_15 μ_14
def f_X0_draw_J84 (x_7 : Int) (g28 : Int → Int → zMem → Option zMem) (x_16 : Int) (μ_17 : zMem) : Option zMem :=
  zlet (zw (x_7 + 1)) fun x_18 =>
  g28 x_16 x_18 μ_17
def f_X0_draw_J60 (x6 : Int) (x_1 : Int) (x_6 : Int) (x_7 : Int) (g28 : Int → Int → zMem → Option zMem) (x_10 : Int) (μ_11 : zMem) : Option zMem :=
  bnd (f_X0_push x_10 μ_11) fun μ_12 =>
  if x6 = 0 then
    (f_X0_draw_J106 x_7 g28) (if x_6 = (zw (x_1 - 1)) then 0 else (zw (x_6 + 1))) μ_12
  else
    (f_X0_draw_J84 x_7 g28) (if x_6 = 0 then (zw (x_1 - 1)) else (zw (x_6 - 1))) μ_12
def f_X0_draw_L28 (x1 : Int) (x4 : Int) (x6 : Int) (x_1 : Int) (g114 : zMem → Option zMem) : Nat → Int → Int → zMem → Option zMem
  | 0, _, _, _ => none
  | n + 1, x_6, x_7, μ_8 =>
    if x_7 < x_1 then
      bnd (f_X5_rimStep x1 x4 x_6 μ_8) fun x_9 =>
      (f_X0_draw_J60 x6 x_1 x_6 x_7 (f_X0_draw_L28 x1 x4 x6 x_1 g114 n)) (if x6 = 0 then x_9 else (zxor x_9 1)) μ_8
    else
      g114 μ_8
def f_X0_draw (x1 : Int) (x2 : Int) (x3 : Int) (x4 : Int) (x5 : Int) (x6 : Int) (μ : zMem) : Option zMem :=
  chk ((0 : Int) ≤ x4 ∧ x4 < zlen (x1 + 6)) <|
  zlet ((μ (x1 + 6) x4)) fun x_1 =>
  zlet (zup μ 33 3 0) fun μ_2 =>
  bnd (f_X0_pushAll x2 0 x3 μ_2) fun μ_3 =>
  (f_X0_draw_L28 x1 x4 x6 x_1 (f_X0_draw_K114 x2 x3)) zfu x5 0 μ_3
set_option maxHeartbeats 4000000 in
set_option maxRecDepth 100000 in
theorem M_X0_draw {l : Launch} {Ω : zO} (hI : zIc Ω) (μ : zMem) (x1 : Int) (x2 : Int) (x3 : Int) (x4 : Int) (x5 : Int) (x6 : Int) {μ' : zMem} (o_x1 : zob Ω.2.2.1 5 x1) (o_x2 : zob Ω.2.2.1 8 x2) (gx3 : Rg x3) (gx4 : Rg x4) (gx5 : Rg x5) (gx6 : Rg x6) (h : f_X0_draw x1 x2 x3 x4 x5 x6 μ = some μ') : XMet l yX0_draw cX0_draw 11 none 2 Ω [zR Ω 33, zR Ω x1, zR Ω x2, zI x3, zI x4, zI x5, zI x6] μ none True μ' := by
  refine XMet.ofV (by decide) (Nat.le_of_ble_eq_true rfl) ?_
  intro p e s m args below meth c ls Q C rt X hl
  have C : zC p s m args c cX0_draw RX0 11 Ω := C
  have hl : lv_has ls 11 [(0, zR Ω 33), (1, zR Ω x1), (2, zR Ω x2), (3, zI x3), (4, zI x4), (5, zI x5), (6, zI x6)] := hl
  unfold f_X0_draw at h
  skip
  refine lv_aload_n C.1 C.2.1 dX0_draw_0 rfl (lv_at hl 1 rfl) ?_
  refine z_get C X zk5 (zob.self o_x1) (zo5 o_x1) 5 (by decide) kw_73 (zR Ω (x1 + 6)) (zfvF (off := 6) X.2.2.2 (zob.self o_x1) o_x1.2.2 (zo5 o_x1) rfl (by rw [zo5_6 o_x1]; decide)) dX0_draw_1 ?_
  refine lv_iload C.1 C.2.1 dX0_draw_4 (lv_at hl 4 rfl) ?_
  obtain ⟨hc6, h⟩ := chk_some h
  have g_6 : Rg (μ (x1 + 6) x4) := zrg1 X.2.2.2 (o_x1.2.1 6 (by decide) (by decide)) (zo5_6 o_x1)
  refine z_iald C X (o_x1.2.1 6 (by decide) (by decide)) (zo5_6 o_x1) hc6 dX0_draw_6 ?_
  refine zlet_elim h (fun x_1 ex_1 h => ?_)
  have gx_1 : Rg x_1 := by rw [ex_1]; exact g_6
  refine z_istore C ex_1 dX0_draw_7 hl (by decide) (lv' := [(7, zI x_1), (0, zR Ω 33), (1, zR Ω x1), (2, zR Ω x2), (3, zI x3), (4, zI x4), (5, zI x5), (6, zI x6)]) rfl (fun ls hl => ?_)
  clear ex_1
  refine lv_aload_n C.1 C.2.1 dX0_draw_9 rfl (lv_at hl 1 rfl) ?_
  refine z_iconst C dX0_draw_10 ?_
  refine zlet_elim h (fun μ_2 em h => ?_)
  refine z_putI C X zk0 (hI.1 33 (by decide)) rfl 3 (by decide) kw_296 rfl rfl rfl rfl ⟨by decide, by decide⟩ em dX0_draw_11 (fun H locs X => ?_)
  clear em
  refine lv_aload_n C.1 C.2.1 dX0_draw_14 rfl (lv_at hl 1 rfl) ?_
  refine lv_aload_n C.1 C.2.1 dX0_draw_15 rfl (lv_at hl 3 rfl) ?_
  refine z_iconst C dX0_draw_16 ?_
  refine lv_iload_n C.1 C.2.1 dX0_draw_17 rfl (lv_at hl 4 rfl) ?_
  obtain ⟨μ_3, hq18, h⟩ := bnd_some h
  refine z_callV0 C X zk0 (hI.1 33 (by decide)) rfl (As := [zR Ω x2, zI 0, zI x3]) (M_X0_pushAll hI μ_2 x2 0 x3 o_x2 ⟨by decide, by decide⟩ gx3 hq18) zc_X0_pushAll kw_896 (zroom (by decide) (by decide)) rfl hl.1 rfl (Nat.le_of_ble_eq_true rfl) dX0_draw_18 ⟨Nat.zero_le _, Nat.zero_le _⟩ (fun H locs g_18 X => ?_)
  refine lv_iload C.1 C.2.1 dX0_draw_21 (lv_at hl 6 rfl) ?_
  refine lv_istore C.1 C.2.1 (lv' := [(8, zI x5), (7, zI x_1), (0, zR Ω 33), (1, zR Ω x1), (2, zR Ω x2), (3, zI x3), (4, zI x4), (5, zI x5), (6, zI x6)]) dX0_draw_23 hl (by decide) rfl (fun ls hl => ?_)
  refine z_iconst C dX0_draw_25 ?_
  refine lv_istore C.1 C.2.1 (lv' := [(9, zI 0), (8, zI x5), (7, zI x_1), (0, zR Ω 33), (1, zR Ω x1), (2, zR Ω x2), (3, zI x3), (4, zI x4), (5, zI x5), (6, zI x6)]) dX0_draw_26 hl (by decide) rfl (fun ls hl => ?_)
  have K114 : ∀ (μ_4 : zMem) (H : Heap) (locs : List Loc) (ls : Array Slot), zX Ω μ_4 (zfree Ω) s.heap H locs → lv_has ls 11 [(0, zR Ω 33), (2, zR Ω x2), (3, zI x3)] → (f_X0_draw_K114 x2 x3) μ_4 = some μ' → W p l e (zrm 2) s m args below meth c H locs 0 0 Q (F0 m 114 ls []) := by
    intro μ_4 H locs ls  X hl h
    unfold f_X0_draw_K114 at h
    refine lv_aload_n C.1 C.2.1 dX0_draw_114 rfl (lv_at hl 0 rfl) ?_
    refine lv_aload_n C.1 C.2.1 dX0_draw_115 rfl (lv_at hl 1 rfl) ?_
    refine lv_iload_n C.1 C.2.1 dX0_draw_116 rfl (lv_at hl 2 rfl) ?_
    refine lv_aload_n C.1 C.2.1 dX0_draw_117 rfl (lv_at hl 1 rfl) ?_
    have g_118 : Rg (μ_4 x2 2) := zrgf0 (ci := 8) X.2.2.2 (zob.self o_x2) (zo8 o_x2) 2 rfl
    refine z_get C X zk8 (zob.self o_x2) (zo8 o_x2) 2 (by decide) kw_196 (zI (μ_4 x2 2)) rfl dX0_draw_118 ?_
    obtain ⟨μ_5, hq121, h⟩ := bnd_some h
    refine z_callV0 C X zk0 (hI.1 33 (by decide)) rfl (As := [zR Ω x2, zI x3, zI (μ_4 x2 2)]) (M_X0_pushAll hI μ_4 x2 x3 (μ_4 x2 2) o_x2 gx3 g_118 hq121) zc_X0_pushAll kw_896 (zroom (by decide) (by decide)) rfl hl.1 rfl (Nat.le_of_ble_eq_true rfl) dX0_draw_121 ⟨Nat.zero_le _, Nat.zero_le _⟩ (fun H locs g_121 X => ?_)
    obtain rfl := Option.some.inj h
    exact rt X dX0_draw_124
  have L28 : ∀ (n28 : Nat) (x_6 : Int) (x_7 : Int) (μ_8 : zMem) (H : Heap) (locs : List Loc) (ls : Array Slot), Rg x_6 → Rg x_7 → zX Ω μ_8 (zfree Ω) s.heap H locs → lv_has ls 11 [(0, zR Ω 33), (1, zR Ω x1), (2, zR Ω x2), (3, zI x3), (4, zI x4), (6, zI x6), (7, zI x_1), (8, zI x_6), (9, zI x_7)] → (f_X0_draw_L28 x1 x4 x6 x_1 (f_X0_draw_K114 x2 x3) n28 x_6 x_7 μ_8) = some μ' → W p l e (zrm 2) s m args below meth c H locs 0 0 Q (F0 m 28 ls []) := by
    intro n28
    induction n28 with
    | zero =>
      intro x_6 x_7 μ_8 H locs ls _ _ _ _ h
      cases h
    | succ n28 ih28 =>
      intro x_6 x_7 μ_8 H locs ls gx_6 gx_7 X hl h
      unfold f_X0_draw_L28 at h
      refine lv_iload C.1 C.2.1 dX0_draw_28 (lv_at hl 8 rfl) ?_
      refine lv_iload C.1 C.2.1 dX0_draw_30 (lv_at hl 6 rfl) ?_
      refine z_icmpge C gx_7 gx_1 (tgt := 114) dX0_draw_32 (by decide) (fun hc32 => ?_) (fun hc32 => ?_)
      · rw [if_neg hc32] at h
        exact K114 μ_8 _ _ _ X (lv_sub hl [0, 2, 3] rfl) h
      · rw [if_pos hc32] at h
        refine lv_aload_n C.1 C.2.1 dX0_draw_35 rfl (lv_at hl 1 rfl) ?_
        refine lv_iload C.1 C.2.1 dX0_draw_36 (lv_at hl 4 rfl) ?_
        refine lv_iload C.1 C.2.1 dX0_draw_38 (lv_at hl 7 rfl) ?_
        obtain ⟨x_9, hq40, h⟩ := bnd_some h
        refine z_callV1 C X zk5 (zob.self o_x1) (zo5 o_x1) (As := [zI x4, zI x_6]) (M_X5_rimStep μ_8 x1 x4 x_6 o_x1 gx4 gx_6 hq40) zc_X5_rimStep kw_913 (zroom (by decide) (by decide)) rfl hl.1 rfl (Nat.le_of_ble_eq_true rfl) dX0_draw_40 ⟨Nat.zero_le _, Nat.zero_le _⟩ (fun H locs g_40 X => ?_)
        refine lv_istore C.1 C.2.1 (lv' := [(10, zI x_9), (0, zR Ω 33), (1, zR Ω x1), (2, zR Ω x2), (3, zI x3), (4, zI x4), (6, zI x6), (7, zI x_1), (8, zI x_6), (9, zI x_7)]) dX0_draw_43 hl (by decide) rfl (fun ls hl => ?_)
        refine lv_aload_n C.1 C.2.1 dX0_draw_45 rfl (lv_at hl 1 rfl) ?_
        refine lv_iload C.1 C.2.1 dX0_draw_46 (lv_at hl 6 rfl) ?_
        have K60 : ∀ (x_10 : Int) (μ_11 : zMem) (H : Heap) (locs : List Loc) (ls : Array Slot), Rg x_10 → zX Ω μ_11 (zfree Ω) s.heap H locs → lv_has ls 11 [(0, zR Ω 33), (1, zR Ω x1), (2, zR Ω x2), (3, zI x3), (4, zI x4), (6, zI x6), (7, zI x_1), (8, zI x_6), (9, zI x_7)] → (f_X0_draw_J60 x6 x_1 x_6 x_7 (f_X0_draw_L28 x1 x4 x6 x_1 (f_X0_draw_K114 x2 x3) n28)) x_10 μ_11 = some μ' → W p l e (zrm 2) s m args below meth c H locs 0 0 Q (F0 m 60 ls [zI x_10, zR Ω 33]) := by
          intro x_10 μ_11 H locs ls gx_10 X hl h
          unfold f_X0_draw_J60 at h
          obtain ⟨μ_12, hq60, h⟩ := bnd_some h
          refine z_callV0 C X zk0 (hI.1 33 (by decide)) rfl (As := [zI x_10]) (M_X0_push hI μ_11 x_10 gx_10 hq60) zc_X0_push kw_900 (zroom (by decide) (by decide)) rfl hl.1 rfl (Nat.le_of_ble_eq_true rfl) dX0_draw_60 ⟨Nat.zero_le _, Nat.zero_le _⟩ (fun H locs g_60 X => ?_)
          refine lv_iload C.1 C.2.1 dX0_draw_63 (lv_at hl 5 rfl) ?_
          refine z_ifeq C gx6 (tgt := 89) dX0_draw_65 (by decide) (fun hc65 => ?_) (fun hc65 => ?_)
          · rw [if_pos hc65] at h
            refine lv_iload C.1 C.2.1 dX0_draw_89 (lv_at hl 7 rfl) ?_
            refine lv_iload C.1 C.2.1 dX0_draw_91 (lv_at hl 6 rfl) ?_
            refine z_iconst C dX0_draw_93 ?_
            refine z_isub C dX0_draw_94 ?_
            have K106 : ∀ (x_13 : Int) (μ_14 : zMem) (H : Heap) (locs : List Loc) (ls : Array Slot), Rg x_13 → zX Ω μ_14 (zfree Ω) s.heap H locs → lv_has ls 11 [(0, zR Ω 33), (1, zR Ω x1), (2, zR Ω x2), (3, zI x3), (4, zI x4), (6, zI x6), (7, zI x_1), (9, zI x_7)] → (f_X0_draw_J106 x_7 (f_X0_draw_L28 x1 x4 x6 x_1 (f_X0_draw_K114 x2 x3) n28)) x_13 μ_14 = some μ' → W p l e (zrm 2) s m args below meth c H locs 0 0 Q (F0 m 106 ls [zI x_13]) := by
              intro x_13 μ_14 H locs ls gx_13 X hl h
              unfold f_X0_draw_J106 at h
              refine lv_istore C.1 C.2.1 (lv' := [(8, zI x_13), (0, zR Ω 33), (1, zR Ω x1), (2, zR Ω x2), (3, zI x3), (4, zI x4), (6, zI x6), (7, zI x_1), (9, zI x_7)]) dX0_draw_106 hl (by decide) rfl (fun ls hl => ?_)
              refine zlet_elim h (fun x_15 ex_15 h => ?_)
              have gx_15 : Rg x_15 := by rw [ex_15]; exact Rg.w _
              refine z_iinc C ex_15 dX0_draw_108 hl (k := 8) rfl (by decide) (lv' := [(9, zI x_15), (8, zI x_13), (0, zR Ω 33), (1, zR Ω x1), (2, zR Ω x2), (3, zI x3), (4, zI x4), (6, zI x6), (7, zI x_1)]) rfl (fun ls hl => ?_)
              clear ex_15
              refine lv_goto (tgt := 28) C.1 C.2.1 dX0_draw_111 (by decide) ?_
              exact ih28 x_13 x_15 μ_14 _ _ _ gx_13 gx_15 X (lv_sub hl [2, 3, 4, 5, 6, 7, 8, 1, 0] rfl) h
            refine z_icmpne C gx_6 (Rg.w _) (tgt := 102) dX0_draw_95 (by decide) (fun hc95 => ?_) (fun hc95 => ?_)
            · rw [if_neg hc95] at h
              refine lv_iload C.1 C.2.1 dX0_draw_102 (lv_at hl 7 rfl) ?_
              refine z_iconst C dX0_draw_104 ?_
              refine z_iadd C dX0_draw_105 ?_
              exact K106 (zw (x_6 + 1)) μ_12 _ _ _ (Rg.w _) X (lv_sub hl [0, 1, 2, 3, 4, 5, 6, 8] rfl) h
            · rw [if_pos hc95] at h
              refine z_iconst C dX0_draw_98 ?_
              refine lv_goto (tgt := 106) C.1 C.2.1 dX0_draw_99 (by decide) ?_
              exact K106 0 μ_12 _ _ _ ⟨by decide, by decide⟩ X (lv_sub hl [0, 1, 2, 3, 4, 5, 6, 8] rfl) h
          · rw [if_neg hc65] at h
            refine lv_iload C.1 C.2.1 dX0_draw_68 (lv_at hl 7 rfl) ?_
            have K84 : ∀ (x_16 : Int) (μ_17 : zMem) (H : Heap) (locs : List Loc) (ls : Array Slot), Rg x_16 → zX Ω μ_17 (zfree Ω) s.heap H locs → lv_has ls 11 [(0, zR Ω 33), (1, zR Ω x1), (2, zR Ω x2), (3, zI x3), (4, zI x4), (6, zI x6), (7, zI x_1), (9, zI x_7)] → (f_X0_draw_J84 x_7 (f_X0_draw_L28 x1 x4 x6 x_1 (f_X0_draw_K114 x2 x3) n28)) x_16 μ_17 = some μ' → W p l e (zrm 2) s m args below meth c H locs 0 0 Q (F0 m 84 ls [zI x_16]) := by
              intro x_16 μ_17 H locs ls gx_16 X hl h
              unfold f_X0_draw_J84 at h
              refine lv_istore C.1 C.2.1 (lv' := [(8, zI x_16), (0, zR Ω 33), (1, zR Ω x1), (2, zR Ω x2), (3, zI x3), (4, zI x4), (6, zI x6), (7, zI x_1), (9, zI x_7)]) dX0_draw_84 hl (by decide) rfl (fun ls hl => ?_)
              refine lv_goto (tgt := 108) C.1 C.2.1 dX0_draw_86 (by decide) ?_
              refine zlet_elim h (fun x_18 ex_18 h => ?_)
              have gx_18 : Rg x_18 := by rw [ex_18]; exact Rg.w _
              refine z_iinc C ex_18 dX0_draw_108 hl (k := 8) rfl (by decide) (lv' := [(9, zI x_18), (8, zI x_16), (0, zR Ω 33), (1, zR Ω x1), (2, zR Ω x2), (3, zI x3), (4, zI x4), (6, zI x6), (7, zI x_1)]) rfl (fun ls hl => ?_)
              clear ex_18
              refine lv_goto (tgt := 28) C.1 C.2.1 dX0_draw_111 (by decide) ?_
              exact ih28 x_16 x_18 μ_17 _ _ _ gx_16 gx_18 X (lv_sub hl [2, 3, 4, 5, 6, 7, 8, 1, 0] rfl) h
            refine z_ifne C gx_6 (tgt := 80) dX0_draw_70 (by decide) (fun hc70 => ?_) (fun hc70 => ?_)
            · rw [if_neg hc70] at h
              refine lv_iload C.1 C.2.1 dX0_draw_80 (lv_at hl 7 rfl) ?_
              refine z_iconst C dX0_draw_82 ?_
              refine z_isub C dX0_draw_83 ?_
              exact K84 (zw (x_6 - 1)) μ_12 _ _ _ (Rg.w _) X (lv_sub hl [0, 1, 2, 3, 4, 5, 6, 8] rfl) h
            · rw [if_pos hc70] at h
              refine lv_iload C.1 C.2.1 dX0_draw_73 (lv_at hl 6 rfl) ?_
              refine z_iconst C dX0_draw_75 ?_
              refine z_isub C dX0_draw_76 ?_
              refine lv_goto (tgt := 84) C.1 C.2.1 dX0_draw_77 (by decide) ?_
              exact K84 (zw (x_1 - 1)) μ_12 _ _ _ (Rg.w _) X (lv_sub hl [0, 1, 2, 3, 4, 5, 6, 8] rfl) h
        refine z_ifeq C gx6 (tgt := 58) dX0_draw_48 (by decide) (fun hc48 => ?_) (fun hc48 => ?_)
        · rw [if_pos hc48] at h
          refine lv_iload C.1 C.2.1 dX0_draw_58 (lv_at hl 0 rfl) ?_
          exact K60 x_9 μ_8 _ _ _ g_40 X (lv_sub hl [1, 2, 3, 4, 5, 6, 7, 8, 9] rfl) h
        · rw [if_neg hc48] at h
          refine lv_iload C.1 C.2.1 dX0_draw_51 (lv_at hl 0 rfl) ?_
          refine z_iconst C dX0_draw_53 ?_
          refine z_ixor C dX0_draw_54 ?_
          refine lv_goto (tgt := 60) C.1 C.2.1 dX0_draw_55 (by decide) ?_
          exact K60 (zxor x_9 1) μ_8 _ _ _ (Rg.t _) X (lv_sub hl [1, 2, 3, 4, 5, 6, 7, 8, 9] rfl) h
  exact L28 zfu x5 0 μ_3 _ _ _ gx5 ⟨by decide, by decide⟩ X (lv_sub hl [3, 4, 5, 6, 7, 9, 2, 1, 0] rfl) h
theorem zc_X0_draw : zcal yX0_draw cX0_draw 11 none RX0 6 := ⟨⟨kw_918, kw_917, kp_43, kw_9⟩, rfl, by decide, by decide, by decide +kernel⟩

def f_X0_pack_L14 : Nat → Int → zMem → Option zMem
  | 0, _, _ => none
  | n + 1, x_3, μ_4 =>
    if x_3 < (μ_4 33 3) then
      if x_3 < 16 then
        chk ((0 : Int) ≤ x_3 ∧ x_3 < 24) <|
        zlet ((zw ((μ_4 36 x_3) + 1))) fun x_5 =>
        if x_3 < 12 then
          zlet (zup μ_4 33 4 (zlor (μ_4 33 4) (zlshl x_5 (zw (5 * x_3))))) fun μ_8 =>
          zlet (zw (x_3 + 1)) fun x_9 =>
          (f_X0_pack_L14 n) x_9 μ_8
        else
          zlet (zup μ_4 33 5 (zlor (μ_4 33 5) (zlshl x_5 (zw (5 * (zw (x_3 - 12))))))) fun μ_6 =>
          zlet (zw (x_3 + 1)) fun x_7 =>
          (f_X0_pack_L14 n) x_7 μ_6
      else
        some μ_4
    else
      some μ_4
def f_X0_pack (μ : zMem) : Option zMem :=
  zlet (zup μ 33 4 0) fun μ_1 =>
  zlet (zup μ_1 33 5 1099511627776) fun μ_2 =>
  (f_X0_pack_L14) zfu 0 μ_2
set_option maxHeartbeats 4000000 in
set_option maxRecDepth 100000 in
theorem M_X0_pack {l : Launch} {Ω : zO} (hI : zIc Ω) (μ : zMem) {μ' : zMem} (h : f_X0_pack μ = some μ') : XMet l yX0_pack cX0_pack 4 none 0 Ω [zR Ω 33] μ none True μ' := by
  refine XMet.ofV (by decide) (Nat.le_of_ble_eq_true rfl) ?_
  intro p e s m args below meth c ls Q C rt X hl
  have C : zC p s m args c cX0_pack RX0 4 Ω := C
  have hl : lv_has ls 4 [(0, zR Ω 33)] := hl
  unfold f_X0_pack at h
  skip
  refine lv_aload_n C.1 C.2.1 dX0_pack_0 rfl (lv_at hl 0 rfl) ?_
  refine z_lconst C 0 rfl dX0_pack_1 ?_
  refine zlet_elim h (fun μ_1 em h => ?_)
  refine z_putJ C X zk0 (hI.1 33 (by decide)) rfl 4 (by decide) kw_297 rfl rfl rfl rfl ⟨by decide, by decide⟩ em dX0_pack_2 (fun H locs X => ?_)
  clear em
  refine lv_aload_n C.1 C.2.1 dX0_pack_5 rfl (lv_at hl 0 rfl) ?_
  refine z_ldc2 C 1099511627776 kw_908 (by decide) dX0_pack_6 ?_
  refine zlet_elim h (fun μ_2 em h => ?_)
  refine z_putJ C X zk0 (hI.1 33 (by decide)) rfl 5 (by decide) kw_298 rfl rfl rfl rfl ⟨by decide, by decide⟩ em dX0_pack_9 (fun H locs X => ?_)
  clear em
  refine z_iconst C dX0_pack_12 ?_
  refine lv_istore_n C.1 C.2.1 (lv' := [(1, zI 0), (0, zR Ω 33)]) dX0_pack_13 rfl hl (by decide) rfl (fun ls hl => ?_)
  have L14 : ∀ (n14 : Nat) (x_3 : Int) (μ_4 : zMem) (H : Heap) (locs : List Loc) (ls : Array Slot), Rg x_3 → zX Ω μ_4 (zfree Ω) s.heap H locs → lv_has ls 4 [(0, zR Ω 33), (1, zI x_3)] → (f_X0_pack_L14 n14 x_3 μ_4) = some μ' → W p l e (zrm 0) s m args below meth c H locs 0 0 Q (F0 m 14 ls []) := by
    intro n14
    induction n14 with
    | zero =>
      intro x_3 μ_4 H locs ls _ _ _ h
      cases h
    | succ n14 ih14 =>
      intro x_3 μ_4 H locs ls gx_3 X hl h
      unfold f_X0_pack_L14 at h
      refine lv_iload_n C.1 C.2.1 dX0_pack_14 rfl (lv_at hl 1 rfl) ?_
      refine lv_aload_n C.1 C.2.1 dX0_pack_15 rfl (lv_at hl 0 rfl) ?_
      have g_16 : Rg (μ_4 33 3) := zrgf0 (ci := 0) X.2.2.2 (hI.1 33 (by decide)) rfl 3 rfl
      refine z_get C X zk0 (hI.1 33 (by decide)) rfl 3 (by decide) kw_296 (zI (μ_4 33 3)) rfl dX0_pack_16 ?_
      refine z_icmpge C gx_3 g_16 (tgt := 84) dX0_pack_19 (by decide) (fun hc19 => ?_) (fun hc19 => ?_)
      · rw [if_neg hc19] at h
        obtain rfl := Option.some.inj h
        exact rt X dX0_pack_84
      · rw [if_pos hc19] at h
        refine lv_iload_n C.1 C.2.1 dX0_pack_22 rfl (lv_at hl 1 rfl) ?_
        refine z_bipush C dX0_pack_23 (by decide) ?_
        refine z_icmpge C gx_3 ⟨by decide, by decide⟩ (tgt := 84) dX0_pack_25 (by decide) (fun hc25 => ?_) (fun hc25 => ?_)
        · rw [if_neg hc25] at h
          obtain rfl := Option.some.inj h
          exact rt X dX0_pack_84
        · rw [if_pos hc25] at h
          refine lv_aload_n C.1 C.2.1 dX0_pack_28 rfl (lv_at hl 0 rfl) ?_
          refine z_get C X zk0 (hI.1 33 (by decide)) rfl 2 (by decide) kw_295 (zR Ω 36) (zfvF (off := 3) X.2.2.2 (hI.1 33 (by decide)) (hI.2 33 (by decide)) rfl rfl (by decide)) dX0_pack_29 ?_
          refine lv_iload_n C.1 C.2.1 dX0_pack_32 rfl (lv_at hl 1 rfl) ?_
          obtain ⟨hc33, h⟩ := chk_some h
          have g_33 : Rg (μ_4 36 x_3) := zrg1 X.2.2.2 (hI.1 36 (by decide)) rfl
          refine z_iald C X (hI.1 36 (by decide)) rfl hc33 dX0_pack_33 ?_
          refine z_iconst C dX0_pack_34 ?_
          refine z_iadd C dX0_pack_35 ?_
          refine z_i2l C (Rg.w _) dX0_pack_36 ?_
          refine zlet_elim h (fun x_5 ex_5 h => ?_)
          have gx_5 : Rl x_5 := by rw [ex_5]; exact (Rg.l (Rg.w _))
          refine z_lstore_n C ex_5 dX0_pack_37 rfl hl (by decide) (lv' := [(2, zJ x_5), (0, zR Ω 33), (1, zI x_3)]) rfl (fun ls hl => ?_)
          clear ex_5
          refine lv_iload_n C.1 C.2.1 dX0_pack_38 rfl (lv_at hl 2 rfl) ?_
          refine z_bipush C dX0_pack_39 (by decide) ?_
          refine z_icmpge C gx_3 ⟨by decide, by decide⟩ (tgt := 61) dX0_pack_41 (by decide) (fun hc41 => ?_) (fun hc41 => ?_)
          · rw [if_neg hc41] at h
            refine lv_aload_n C.1 C.2.1 dX0_pack_61 rfl (lv_at hl 1 rfl) ?_
            refine lv_dup C.1 C.2.1 dX0_pack_62 rfl ?_
            have g_63 : Rl (μ_4 33 5) := zrgf1 (ci := 0) X.2.2.2 (hI.1 33 (by decide)) rfl 5 rfl
            refine z_get C X zk0 (hI.1 33 (by decide)) rfl 5 (by decide) kw_298 (zJ (μ_4 33 5)) rfl dX0_pack_63 ?_
            refine lv_lload_n C.1 C.2.1 dX0_pack_66 rfl (lv_at hl 0 rfl) ?_
            refine z_iconst C dX0_pack_67 ?_
            refine lv_iload_n C.1 C.2.1 dX0_pack_68 rfl (lv_at hl 2 rfl) ?_
            refine z_bipush C dX0_pack_69 (by decide) ?_
            refine z_isub C dX0_pack_71 ?_
            refine z_imul C dX0_pack_72 ?_
            refine z_lshl C dX0_pack_73 ?_
            refine z_lor C dX0_pack_74 ?_
            refine zlet_elim h (fun μ_6 em h => ?_)
            refine z_putJ C X zk0 (hI.1 33 (by decide)) rfl 5 (by decide) kw_298 rfl rfl rfl rfl (Rl.t _) em dX0_pack_75 (fun H locs X => ?_)
            clear em
            refine zlet_elim h (fun x_7 ex_7 h => ?_)
            have gx_7 : Rg x_7 := by rw [ex_7]; exact Rg.w _
            refine z_iinc C ex_7 dX0_pack_78 hl (k := 2) rfl (by decide) (lv' := [(1, zI x_7), (2, zJ x_5), (0, zR Ω 33)]) rfl (fun ls hl => ?_)
            clear ex_7
            refine lv_goto (tgt := 14) C.1 C.2.1 dX0_pack_81 (by decide) ?_
            exact ih14 x_7 μ_6 _ _ _ gx_7 X (lv_sub hl [2, 0] rfl) h
          · rw [if_pos hc41] at h
            refine lv_aload_n C.1 C.2.1 dX0_pack_44 rfl (lv_at hl 1 rfl) ?_
            refine lv_dup C.1 C.2.1 dX0_pack_45 rfl ?_
            have g_46 : Rl (μ_4 33 4) := zrgf1 (ci := 0) X.2.2.2 (hI.1 33 (by decide)) rfl 4 rfl
            refine z_get C X zk0 (hI.1 33 (by decide)) rfl 4 (by decide) kw_297 (zJ (μ_4 33 4)) rfl dX0_pack_46 ?_
            refine lv_lload_n C.1 C.2.1 dX0_pack_49 rfl (lv_at hl 0 rfl) ?_
            refine z_iconst C dX0_pack_50 ?_
            refine lv_iload_n C.1 C.2.1 dX0_pack_51 rfl (lv_at hl 2 rfl) ?_
            refine z_imul C dX0_pack_52 ?_
            refine z_lshl C dX0_pack_53 ?_
            refine z_lor C dX0_pack_54 ?_
            refine zlet_elim h (fun μ_8 em h => ?_)
            refine z_putJ C X zk0 (hI.1 33 (by decide)) rfl 4 (by decide) kw_297 rfl rfl rfl rfl (Rl.t _) em dX0_pack_55 (fun H locs X => ?_)
            clear em
            refine lv_goto (tgt := 78) C.1 C.2.1 dX0_pack_58 (by decide) ?_
            refine zlet_elim h (fun x_9 ex_9 h => ?_)
            have gx_9 : Rg x_9 := by rw [ex_9]; exact Rg.w _
            refine z_iinc C ex_9 dX0_pack_78 hl (k := 2) rfl (by decide) (lv' := [(1, zI x_9), (2, zJ x_5), (0, zR Ω 33)]) rfl (fun ls hl => ?_)
            clear ex_9
            refine lv_goto (tgt := 14) C.1 C.2.1 dX0_pack_81 (by decide) ?_
            exact ih14 x_9 μ_8 _ _ _ gx_9 X (lv_sub hl [2, 0] rfl) h
  exact L14 zfu 0 μ_2 _ _ _ ⟨by decide, by decide⟩ X (lv_sub hl [1, 0] rfl) h
theorem zc_X0_pack : zcal yX0_pack cX0_pack 4 none RX0 0 := ⟨⟨kw_907, kw_906, kp_41, kw_9⟩, rfl, by decide, by decide, by decide +kernel⟩

def f_X0_placeOf_J72 (x_2 : Int) (x_3 : Int) (g24 : Int → Int → Option Int) : Option Int :=
  zlet ((zand (zw (x_2 + 1)) 4095)) fun x_4 =>
  zlet (zw (x_3 + 1)) fun x_5 =>
  g24 x_4 x_5
def f_X0_placeOf_L24 (μ : zMem) : Nat → Int → Int → Option Int
  | 0, _, _ => none
  | n + 1, x_2, x_3 =>
    if x_3 < 4096 then
      chk ((0 : Int) ≤ x_2 ∧ x_2 < 4096) <|
      if (μ 35 x_2) = 0 then
        some x_2
      else
        chk ((0 : Int) ≤ x_2 ∧ x_2 < 4096) <|
        if (μ 35 x_2) = (μ 33 5) then
          chk ((0 : Int) ≤ x_2 ∧ x_2 < 4096) <|
          if (μ 34 x_2) = (μ 33 4) then
            some x_2
          else
            (f_X0_placeOf_J72 x_2 x_3 (f_X0_placeOf_L24 μ n))
        else
          (f_X0_placeOf_J72 x_2 x_3 (f_X0_placeOf_L24 μ n))
    else
      some x_2
def f_X0_placeOf (μ : zMem) : Option Int :=
  zlet ((zw (zlushr (zl ((zlxor (zl ((μ 33 4) * (-7046029254386353131))) (μ 33 5)) * (-7046029254386353131))) 52))) fun x_1 =>
  (f_X0_placeOf_L24 μ) zfu x_1 0
set_option maxHeartbeats 4000000 in
set_option maxRecDepth 100000 in
theorem M_X0_placeOf {l : Launch} {Ω : zO} (hI : zIc Ω) (μ : zMem) {r : Int} (h : f_X0_placeOf μ = some r) : XMet l yX0_placeOf cX0_placeOf 3 (some Jvm.ClassFile.FieldType.int) 0 Ω [zR Ω 33] μ (some (zI r)) (Rg r) μ := by
  refine XMet.ofI (by decide) (Nat.le_of_ble_eq_true rfl) ?_
  intro p e s m args below meth c ls Q C rt X hl
  have C : zC p s m args c cX0_placeOf RX0 3 Ω := C
  have hl : lv_has ls 3 [(0, zR Ω 33)] := hl
  unfold f_X0_placeOf at h
  skip
  refine lv_aload_n C.1 C.2.1 dX0_placeOf_0 rfl (lv_at hl 0 rfl) ?_
  have g_1 : Rl (μ 33 4) := zrgf1 (ci := 0) X.2.2.2 (hI.1 33 (by decide)) rfl 4 rfl
  refine z_get C X zk0 (hI.1 33 (by decide)) rfl 4 (by decide) kw_297 (zJ (μ 33 4)) rfl dX0_placeOf_1 ?_
  refine z_ldc2 C (-7046029254386353131) kw_927 (by decide) dX0_placeOf_4 ?_
  refine z_lmul C dX0_placeOf_7 ?_
  refine lv_aload_n C.1 C.2.1 dX0_placeOf_8 rfl (lv_at hl 0 rfl) ?_
  have g_9 : Rl (μ 33 5) := zrgf1 (ci := 0) X.2.2.2 (hI.1 33 (by decide)) rfl 5 rfl
  refine z_get C X zk0 (hI.1 33 (by decide)) rfl 5 (by decide) kw_298 (zJ (μ 33 5)) rfl dX0_placeOf_9 ?_
  refine z_lxor C dX0_placeOf_12 ?_
  refine z_ldc2 C (-7046029254386353131) kw_927 (by decide) dX0_placeOf_13 ?_
  refine z_lmul C dX0_placeOf_16 ?_
  refine z_bipush C dX0_placeOf_17 (by decide) ?_
  refine z_lushr C dX0_placeOf_19 ?_
  refine z_l2i C dX0_placeOf_20 ?_
  refine zlet_elim h (fun x_1 ex_1 h => ?_)
  have gx_1 : Rg x_1 := by rw [ex_1]; exact (Rg.w _)
  refine z_istore_n C ex_1 dX0_placeOf_21 rfl hl (by decide) (lv' := [(1, zI x_1), (0, zR Ω 33)]) rfl (fun ls hl => ?_)
  clear ex_1
  refine z_iconst C dX0_placeOf_22 ?_
  refine lv_istore_n C.1 C.2.1 (lv' := [(2, zI 0), (1, zI x_1), (0, zR Ω 33)]) dX0_placeOf_23 rfl hl (by decide) rfl (fun ls hl => ?_)
  have L24 : ∀ (n24 : Nat) (x_2 : Int) (x_3 : Int) (H : Heap) (locs : List Loc) (ls : Array Slot), Rg x_2 → Rg x_3 → zX Ω μ (zfree Ω) s.heap H locs → lv_has ls 3 [(0, zR Ω 33), (1, zI x_2), (2, zI x_3)] → (f_X0_placeOf_L24 μ n24 x_2 x_3) = some r → W p l e (zrm 0) s m args below meth c H locs 0 0 Q (F0 m 24 ls []) := by
    intro n24
    induction n24 with
    | zero =>
      intro x_2 x_3 H locs ls _ _ _ _ h
      cases h
    | succ n24 ih24 =>
      intro x_2 x_3 H locs ls gx_2 gx_3 X hl h
      unfold f_X0_placeOf_L24 at h
      refine lv_iload_n C.1 C.2.1 dX0_placeOf_24 rfl (lv_at hl 2 rfl) ?_
      refine z_sipush C dX0_placeOf_25 (by decide) ?_
      refine z_icmpge C gx_3 ⟨by decide, by decide⟩ (tgt := 86) dX0_placeOf_28 (by decide) (fun hc28 => ?_) (fun hc28 => ?_)
      · rw [if_neg hc28] at h
        refine lv_iload_n C.1 C.2.1 dX0_placeOf_86 rfl (lv_at hl 1 rfl) ?_
        obtain rfl := Option.some.inj h
        exact rt X gx_2 dX0_placeOf_87
      · rw [if_pos hc28] at h
        refine lv_aload_n C.1 C.2.1 dX0_placeOf_31 rfl (lv_at hl 0 rfl) ?_
        refine z_get C X zk0 (hI.1 33 (by decide)) rfl 1 (by decide) kw_294 (zR Ω 35) (zfvF (off := 2) X.2.2.2 (hI.1 33 (by decide)) (hI.2 33 (by decide)) rfl rfl (by decide)) dX0_placeOf_32 ?_
        refine lv_iload_n C.1 C.2.1 dX0_placeOf_35 rfl (lv_at hl 1 rfl) ?_
        obtain ⟨hc36, h⟩ := chk_some h
        have g_36 : Rl (μ 35 x_2) := zrg2 X.2.2.2 (hI.1 35 (by decide)) rfl
        refine z_lald C X (hI.1 35 (by decide)) rfl hc36 dX0_placeOf_36 ?_
        refine z_lconst C 0 rfl dX0_placeOf_37 ?_
        refine z_leq C g_36 ⟨by decide, by decide⟩ (tgt := 70) dX0_placeOf_38 dX0_placeOf_39 (by decide) (fun hc38 => ?_) (fun hc38 => ?_)
        · rw [if_pos hc38] at h
          refine lv_iload_n C.1 C.2.1 dX0_placeOf_70 rfl (lv_at hl 1 rfl) ?_
          obtain rfl := Option.some.inj h
          exact rt X gx_2 dX0_placeOf_71
        · rw [if_neg hc38] at h
          refine lv_aload_n C.1 C.2.1 dX0_placeOf_42 rfl (lv_at hl 0 rfl) ?_
          refine z_get C X zk0 (hI.1 33 (by decide)) rfl 1 (by decide) kw_294 (zR Ω 35) (zfvF (off := 2) X.2.2.2 (hI.1 33 (by decide)) (hI.2 33 (by decide)) rfl rfl (by decide)) dX0_placeOf_43 ?_
          refine lv_iload_n C.1 C.2.1 dX0_placeOf_46 rfl (lv_at hl 1 rfl) ?_
          obtain ⟨hc47, h⟩ := chk_some h
          have g_47 : Rl (μ 35 x_2) := zrg2 X.2.2.2 (hI.1 35 (by decide)) rfl
          refine z_lald C X (hI.1 35 (by decide)) rfl hc47 dX0_placeOf_47 ?_
          refine lv_aload_n C.1 C.2.1 dX0_placeOf_48 rfl (lv_at hl 0 rfl) ?_
          have g_49 : Rl (μ 33 5) := zrgf1 (ci := 0) X.2.2.2 (hI.1 33 (by decide)) rfl 5 rfl
          refine z_get C X zk0 (hI.1 33 (by decide)) rfl 5 (by decide) kw_298 (zJ (μ 33 5)) rfl dX0_placeOf_49 ?_
          have K72 : ∀ (H : Heap) (locs : List Loc) (ls : Array Slot), zX Ω μ (zfree Ω) s.heap H locs → lv_has ls 3 [(0, zR Ω 33), (1, zI x_2), (2, zI x_3)] → (f_X0_placeOf_J72 x_2 x_3 (f_X0_placeOf_L24 μ n24)) = some r → W p l e (zrm 0) s m args below meth c H locs 0 0 Q (F0 m 72 ls []) := by
            intro  H locs ls  X hl h
            unfold f_X0_placeOf_J72 at h
            refine lv_iload_n C.1 C.2.1 dX0_placeOf_72 rfl (lv_at hl 1 rfl) ?_
            refine z_iconst C dX0_placeOf_73 ?_
            refine z_iadd C dX0_placeOf_74 ?_
            refine z_sipush C dX0_placeOf_75 (by decide) ?_
            refine z_iand C dX0_placeOf_78 ?_
            refine zlet_elim h (fun x_4 ex_4 h => ?_)
            have gx_4 : Rg x_4 := by rw [ex_4]; exact (Rg.t _)
            refine z_istore_n C ex_4 dX0_placeOf_79 rfl hl (by decide) (lv' := [(1, zI x_4), (0, zR Ω 33), (2, zI x_3)]) rfl (fun ls hl => ?_)
            clear ex_4
            refine zlet_elim h (fun x_5 ex_5 h => ?_)
            have gx_5 : Rg x_5 := by rw [ex_5]; exact Rg.w _
            refine z_iinc C ex_5 dX0_placeOf_80 hl (k := 2) rfl (by decide) (lv' := [(2, zI x_5), (1, zI x_4), (0, zR Ω 33)]) rfl (fun ls hl => ?_)
            clear ex_5
            refine lv_goto (tgt := 24) C.1 C.2.1 dX0_placeOf_83 (by decide) ?_
            exact ih24 x_4 x_5 _ _ _ gx_4 gx_5 X (lv_sub hl [2, 1, 0] rfl) h
          refine z_lne C g_47 g_49 (tgt := 72) dX0_placeOf_52 dX0_placeOf_53 (by decide) (fun hc52 => ?_) (fun hc52 => ?_)
          · rw [if_neg hc52] at h
            exact K72 _ _ _ X (lv_sub hl [0, 1, 2] rfl) h
          · rw [if_pos hc52] at h
            refine lv_aload_n C.1 C.2.1 dX0_placeOf_56 rfl (lv_at hl 0 rfl) ?_
            refine z_get C X zk0 (hI.1 33 (by decide)) rfl 0 (by decide) kw_293 (zR Ω 34) (zfvF (off := 1) X.2.2.2 (hI.1 33 (by decide)) (hI.2 33 (by decide)) rfl rfl (by decide)) dX0_placeOf_57 ?_
            refine lv_iload_n C.1 C.2.1 dX0_placeOf_60 rfl (lv_at hl 1 rfl) ?_
            obtain ⟨hc61, h⟩ := chk_some h
            have g_61 : Rl (μ 34 x_2) := zrg2 X.2.2.2 (hI.1 34 (by decide)) rfl
            refine z_lald C X (hI.1 34 (by decide)) rfl hc61 dX0_placeOf_61 ?_
            refine lv_aload_n C.1 C.2.1 dX0_placeOf_62 rfl (lv_at hl 0 rfl) ?_
            have g_63 : Rl (μ 33 4) := zrgf1 (ci := 0) X.2.2.2 (hI.1 33 (by decide)) rfl 4 rfl
            refine z_get C X zk0 (hI.1 33 (by decide)) rfl 4 (by decide) kw_297 (zJ (μ 33 4)) rfl dX0_placeOf_63 ?_
            refine z_lne C g_61 g_63 (tgt := 72) dX0_placeOf_66 dX0_placeOf_67 (by decide) (fun hc66 => ?_) (fun hc66 => ?_)
            · rw [if_neg hc66] at h
              exact K72 _ _ _ X (lv_sub hl [0, 1, 2] rfl) h
            · rw [if_pos hc66] at h
              refine lv_iload_n C.1 C.2.1 dX0_placeOf_70 rfl (lv_at hl 1 rfl) ?_
              obtain rfl := Option.some.inj h
              exact rt X gx_2 dX0_placeOf_71
  exact L24 zfu x_1 0 _ _ _ gx_1 ⟨by decide, by decide⟩ X (lv_sub hl [2, 1, 0] rfl) h
theorem zc_X0_placeOf : zcal yX0_placeOf cX0_placeOf 3 (some Jvm.ClassFile.FieldType.int) RX0 0 := ⟨⟨kw_926, kw_925, kp_45, kw_9⟩, rfl, by decide, by decide, by decide +kernel⟩

def f_X0_meet_J105 (μ_4 : zMem) (x_6 : Int) (μ_7 : zMem) : Option zMem :=
  chk (0 ≤ (zor (μ_4 33 9) x_6) ∧ (zor (μ_4 33 9) x_6) ≤ 1) <|
  zlet (zup μ_7 33 9 (zor (μ_4 33 9) x_6)) fun μ_8 =>
  some μ_8
def f_X0_meet_J48 (x1 : Int) (μ_1 : zMem) (x_2 : Int) (μ_3 : zMem) : Option zMem :=
  chk (0 ≤ (zor (μ_1 33 8) x_2) ∧ (zor (μ_1 33 8) x_2) ≤ 1) <|
  zlet (zup μ_3 33 8 (zor (μ_1 33 8) x_2)) fun μ_4 =>
  bnd (f_X0_placeOf μ_4) fun x_5 =>
  if x1 = 0 then
    chk ((0 : Int) ≤ x_5 ∧ x_5 < 4096) <|
    (f_X0_meet_J105 μ_4) (if (μ_4 35 x_5) = 0 then 0 else 1) μ_4
  else
    chk ((0 : Int) ≤ x_5 ∧ x_5 < 4096) <|
    zlet (zup μ_4 34 x_5 (μ_4 33 4)) fun μ_9 =>
    chk ((0 : Int) ≤ x_5 ∧ x_5 < 4096) <|
    zlet (zup μ_9 35 x_5 (μ_9 33 5)) fun μ_10 =>
    some μ_10
def f_X0_meet_J47 (g48 : Int → zMem → Option zMem) (μ_11 : zMem) : Option zMem :=
  g48 0 μ_11
def f_X0_meet (x1 : Int) (μ : zMem) : Option zMem :=
  if (μ 33 3) ≤ 16 then
    bnd (f_X0_pack μ) fun μ_1 =>
    if (μ_1 33 4) = (μ_1 33 6) then
      if (μ_1 33 5) = (μ_1 33 7) then
        (f_X0_meet_J48 x1 μ_1) 1 μ_1
      else
        (f_X0_meet_J47 (f_X0_meet_J48 x1 μ_1)) μ_1
    else
      (f_X0_meet_J47 (f_X0_meet_J48 x1 μ_1)) μ_1
  else
    some μ
set_option maxHeartbeats 4000000 in
set_option maxRecDepth 100000 in
theorem M_X0_meet {l : Launch} {Ω : zO} (hI : zIc Ω) (μ : zMem) (x1 : Int) {μ' : zMem} (gx1 : Rg x1) (h : f_X0_meet x1 μ = some μ') : XMet l yX0_meet cX0_meet 3 none 1 Ω [zR Ω 33, zI x1] μ none True μ' := by
  refine XMet.ofV (by decide) (Nat.le_of_ble_eq_true rfl) ?_
  intro p e s m args below meth c ls Q C rt X hl
  have C : zC p s m args c cX0_meet RX0 3 Ω := C
  have hl : lv_has ls 3 [(0, zR Ω 33), (1, zI x1)] := hl
  unfold f_X0_meet at h
  skip
  refine lv_aload_n C.1 C.2.1 dX0_meet_0 rfl (lv_at hl 0 rfl) ?_
  have g_1 : Rg (μ 33 3) := zrgf0 (ci := 0) X.2.2.2 (hI.1 33 (by decide)) rfl 3 rfl
  refine z_get C X zk0 (hI.1 33 (by decide)) rfl 3 (by decide) kw_296 (zI (μ 33 3)) rfl dX0_meet_1 ?_
  refine z_bipush C dX0_meet_4 (by decide) ?_
  refine z_icmple C g_1 ⟨by decide, by decide⟩ (tgt := 10) dX0_meet_6 (by decide) (fun hc6 => ?_) (fun hc6 => ?_)
  · rw [if_pos hc6] at h
    refine lv_aload_n C.1 C.2.1 dX0_meet_10 rfl (lv_at hl 0 rfl) ?_
    obtain ⟨μ_1, hq11, h⟩ := bnd_some h
    refine z_callV0 C X zk0 (hI.1 33 (by decide)) rfl (As := []) (M_X0_pack hI μ hq11) zc_X0_pack kw_904 (zroom (by decide) (by decide)) rfl hl.1 rfl (Nat.le_of_ble_eq_true rfl) dX0_meet_11 ⟨Nat.zero_le _, Nat.zero_le _⟩ (fun H locs g_11 X => ?_)
    refine lv_aload_n C.1 C.2.1 dX0_meet_14 rfl (lv_at hl 0 rfl) ?_
    refine lv_dup C.1 C.2.1 dX0_meet_15 rfl ?_
    have g_16 : 0 ≤ (μ_1 33 8) ∧ (μ_1 33 8) ≤ 1 := zrgf2 (ci := 0) X.2.2.2 (hI.1 33 (by decide)) rfl 8 rfl
    refine z_get C X zk0 (hI.1 33 (by decide)) rfl 8 (by decide) kw_301 (zI (μ_1 33 8)) rfl dX0_meet_16 ?_
    refine lv_aload_n C.1 C.2.1 dX0_meet_19 rfl (lv_at hl 0 rfl) ?_
    have g_20 : Rl (μ_1 33 4) := zrgf1 (ci := 0) X.2.2.2 (hI.1 33 (by decide)) rfl 4 rfl
    refine z_get C X zk0 (hI.1 33 (by decide)) rfl 4 (by decide) kw_297 (zJ (μ_1 33 4)) rfl dX0_meet_20 ?_
    refine lv_aload_n C.1 C.2.1 dX0_meet_23 rfl (lv_at hl 0 rfl) ?_
    have g_24 : Rl (μ_1 33 6) := zrgf1 (ci := 0) X.2.2.2 (hI.1 33 (by decide)) rfl 6 rfl
    refine z_get C X zk0 (hI.1 33 (by decide)) rfl 6 (by decide) kw_299 (zJ (μ_1 33 6)) rfl dX0_meet_24 ?_
    have K48 : ∀ (x_2 : Int) (μ_3 : zMem) (H : Heap) (locs : List Loc) (ls : Array Slot), Rg x_2 → zX Ω μ_3 (zfree Ω) s.heap H locs → lv_has ls 3 [(0, zR Ω 33), (1, zI x1)] → (f_X0_meet_J48 x1 μ_1) x_2 μ_3 = some μ' → W p l e (zrm 1) s m args below meth c H locs 0 0 Q (F0 m 48 ls [zI x_2, zI (μ_1 33 8), zR Ω 33]) := by
      intro x_2 μ_3 H locs ls gx_2 X hl h
      unfold f_X0_meet_J48 at h
      refine z_ior C dX0_meet_48 ?_
      obtain ⟨hz49, h⟩ := chk_some h
      refine zlet_elim h (fun μ_4 em h => ?_)
      refine z_putZ C X zk0 (hI.1 33 (by decide)) rfl 8 (by decide) kw_301 rfl rfl rfl rfl hz49 em dX0_meet_49 (fun H locs X => ?_)
      clear em
      refine lv_aload_n C.1 C.2.1 dX0_meet_52 rfl (lv_at hl 0 rfl) ?_
      obtain ⟨x_5, hq53, h⟩ := bnd_some h
      refine z_callV1 C X zk0 (hI.1 33 (by decide)) rfl (As := []) (M_X0_placeOf hI μ_4 hq53) zc_X0_placeOf kw_923 (zroom (by decide) (by decide)) rfl hl.1 rfl (Nat.le_of_ble_eq_true rfl) dX0_meet_53 ⟨Nat.zero_le _, Nat.zero_le _⟩ (fun H locs g_53 X => ?_)
      refine lv_istore_n C.1 C.2.1 (lv' := [(2, zI x_5), (0, zR Ω 33), (1, zI x1)]) dX0_meet_56 rfl hl (by decide) rfl (fun ls hl => ?_)
      refine lv_iload_n C.1 C.2.1 dX0_meet_57 rfl (lv_at hl 2 rfl) ?_
      refine z_ifeq C gx1 (tgt := 84) dX0_meet_58 (by decide) (fun hc58 => ?_) (fun hc58 => ?_)
      · rw [if_pos hc58] at h
        refine lv_aload_n C.1 C.2.1 dX0_meet_84 rfl (lv_at hl 1 rfl) ?_
        refine lv_dup C.1 C.2.1 dX0_meet_85 rfl ?_
        have g_86 : 0 ≤ (μ_4 33 9) ∧ (μ_4 33 9) ≤ 1 := zrgf2 (ci := 0) X.2.2.2 (hI.1 33 (by decide)) rfl 9 rfl
        refine z_get C X zk0 (hI.1 33 (by decide)) rfl 9 (by decide) kw_302 (zI (μ_4 33 9)) rfl dX0_meet_86 ?_
        refine lv_aload_n C.1 C.2.1 dX0_meet_89 rfl (lv_at hl 1 rfl) ?_
        refine z_get C X zk0 (hI.1 33 (by decide)) rfl 1 (by decide) kw_294 (zR Ω 35) (zfvF (off := 2) X.2.2.2 (hI.1 33 (by decide)) (hI.2 33 (by decide)) rfl rfl (by decide)) dX0_meet_90 ?_
        refine lv_iload_n C.1 C.2.1 dX0_meet_93 rfl (lv_at hl 0 rfl) ?_
        obtain ⟨hc94, h⟩ := chk_some h
        have g_94 : Rl (μ_4 35 x_5) := zrg2 X.2.2.2 (hI.1 35 (by decide)) rfl
        refine z_lald C X (hI.1 35 (by decide)) rfl hc94 dX0_meet_94 ?_
        refine z_lconst C 0 rfl dX0_meet_95 ?_
        have K105 : ∀ (x_6 : Int) (μ_7 : zMem) (H : Heap) (locs : List Loc) (ls : Array Slot), Rg x_6 → zX Ω μ_7 (zfree Ω) s.heap H locs → lv_has ls 3 [] → (f_X0_meet_J105 μ_4) x_6 μ_7 = some μ' → W p l e (zrm 1) s m args below meth c H locs 0 0 Q (F0 m 105 ls [zI x_6, zI (μ_4 33 9), zR Ω 33]) := by
          intro x_6 μ_7 H locs ls gx_6 X hl h
          unfold f_X0_meet_J105 at h
          refine z_ior C dX0_meet_105 ?_
          obtain ⟨hz106, h⟩ := chk_some h
          refine zlet_elim h (fun μ_8 em h => ?_)
          refine z_putZ C X zk0 (hI.1 33 (by decide)) rfl 9 (by decide) kw_302 rfl rfl rfl rfl hz106 em dX0_meet_106 (fun H locs X => ?_)
          clear em
          obtain rfl := Option.some.inj h
          exact rt X dX0_meet_109
        refine z_leq C g_94 ⟨by decide, by decide⟩ (tgt := 104) dX0_meet_96 dX0_meet_97 (by decide) (fun hc96 => ?_) (fun hc96 => ?_)
        · rw [if_pos hc96] at h
          refine z_iconst C dX0_meet_104 ?_
          exact K105 0 μ_4 _ _ _ ⟨by decide, by decide⟩ X (lv_sub hl [] rfl) h
        · rw [if_neg hc96] at h
          refine z_iconst C dX0_meet_100 ?_
          refine lv_goto (tgt := 105) C.1 C.2.1 dX0_meet_101 (by decide) ?_
          exact K105 1 μ_4 _ _ _ ⟨by decide, by decide⟩ X (lv_sub hl [] rfl) h
      · rw [if_neg hc58] at h
        refine lv_aload_n C.1 C.2.1 dX0_meet_61 rfl (lv_at hl 1 rfl) ?_
        refine z_get C X zk0 (hI.1 33 (by decide)) rfl 0 (by decide) kw_293 (zR Ω 34) (zfvF (off := 1) X.2.2.2 (hI.1 33 (by decide)) (hI.2 33 (by decide)) rfl rfl (by decide)) dX0_meet_62 ?_
        refine lv_iload_n C.1 C.2.1 dX0_meet_65 rfl (lv_at hl 0 rfl) ?_
        refine lv_aload_n C.1 C.2.1 dX0_meet_66 rfl (lv_at hl 1 rfl) ?_
        have g_67 : Rl (μ_4 33 4) := zrgf1 (ci := 0) X.2.2.2 (hI.1 33 (by decide)) rfl 4 rfl
        refine z_get C X zk0 (hI.1 33 (by decide)) rfl 4 (by decide) kw_297 (zJ (μ_4 33 4)) rfl dX0_meet_67 ?_
        obtain ⟨hc70, h⟩ := chk_some h
        refine zlet_elim h (fun μ_9 em h => ?_)
        refine z_last C X (hI.1 34 (by decide)) rfl hc70 (zok2 rfl g_67) em dX0_meet_70 (fun H locs X => ?_)
        clear em
        refine lv_aload_n C.1 C.2.1 dX0_meet_71 rfl (lv_at hl 1 rfl) ?_
        refine z_get C X zk0 (hI.1 33 (by decide)) rfl 1 (by decide) kw_294 (zR Ω 35) (zfvF (off := 2) X.2.2.2 (hI.1 33 (by decide)) (hI.2 33 (by decide)) rfl rfl (by decide)) dX0_meet_72 ?_
        refine lv_iload_n C.1 C.2.1 dX0_meet_75 rfl (lv_at hl 0 rfl) ?_
        refine lv_aload_n C.1 C.2.1 dX0_meet_76 rfl (lv_at hl 1 rfl) ?_
        have g_77 : Rl (μ_9 33 5) := zrgf1 (ci := 0) X.2.2.2 (hI.1 33 (by decide)) rfl 5 rfl
        refine z_get C X zk0 (hI.1 33 (by decide)) rfl 5 (by decide) kw_298 (zJ (μ_9 33 5)) rfl dX0_meet_77 ?_
        obtain ⟨hc80, h⟩ := chk_some h
        refine zlet_elim h (fun μ_10 em h => ?_)
        refine z_last C X (hI.1 35 (by decide)) rfl hc80 (zok2 rfl g_77) em dX0_meet_80 (fun H locs X => ?_)
        clear em
        refine lv_goto (tgt := 109) C.1 C.2.1 dX0_meet_81 (by decide) ?_
        obtain rfl := Option.some.inj h
        exact rt X dX0_meet_109
    have K47 : ∀ (μ_11 : zMem) (H : Heap) (locs : List Loc) (ls : Array Slot), zX Ω μ_11 (zfree Ω) s.heap H locs → lv_has ls 3 [(0, zR Ω 33), (1, zI x1)] → (f_X0_meet_J47 (f_X0_meet_J48 x1 μ_1)) μ_11 = some μ' → W p l e (zrm 1) s m args below meth c H locs 0 0 Q (F0 m 47 ls [zI (μ_1 33 8), zR Ω 33]) := by
      intro μ_11 H locs ls  X hl h
      unfold f_X0_meet_J47 at h
      refine z_iconst C dX0_meet_47 ?_
      exact K48 0 μ_11 _ _ _ ⟨by decide, by decide⟩ X (lv_sub hl [0, 1] rfl) h
    refine z_lne C g_20 g_24 (tgt := 47) dX0_meet_27 dX0_meet_28 (by decide) (fun hc27 => ?_) (fun hc27 => ?_)
    · rw [if_neg hc27] at h
      exact K47 μ_1 _ _ _ X (lv_sub hl [0, 1] rfl) h
    · rw [if_pos hc27] at h
      refine lv_aload_n C.1 C.2.1 dX0_meet_31 rfl (lv_at hl 0 rfl) ?_
      have g_32 : Rl (μ_1 33 5) := zrgf1 (ci := 0) X.2.2.2 (hI.1 33 (by decide)) rfl 5 rfl
      refine z_get C X zk0 (hI.1 33 (by decide)) rfl 5 (by decide) kw_298 (zJ (μ_1 33 5)) rfl dX0_meet_32 ?_
      refine lv_aload_n C.1 C.2.1 dX0_meet_35 rfl (lv_at hl 0 rfl) ?_
      have g_36 : Rl (μ_1 33 7) := zrgf1 (ci := 0) X.2.2.2 (hI.1 33 (by decide)) rfl 7 rfl
      refine z_get C X zk0 (hI.1 33 (by decide)) rfl 7 (by decide) kw_300 (zJ (μ_1 33 7)) rfl dX0_meet_36 ?_
      refine z_lne C g_32 g_36 (tgt := 47) dX0_meet_39 dX0_meet_40 (by decide) (fun hc39 => ?_) (fun hc39 => ?_)
      · rw [if_neg hc39] at h
        exact K47 μ_1 _ _ _ X (lv_sub hl [0, 1] rfl) h
      · rw [if_pos hc39] at h
        refine z_iconst C dX0_meet_43 ?_
        refine lv_goto (tgt := 48) C.1 C.2.1 dX0_meet_44 (by decide) ?_
        exact K48 1 μ_1 _ _ _ ⟨by decide, by decide⟩ X (lv_sub hl [0, 1] rfl) h
  · rw [if_neg hc6] at h
    obtain rfl := Option.some.inj h
    exact rt X dX0_meet_9
theorem zc_X0_meet : zcal yX0_meet cX0_meet 3 none RX0 1 := ⟨⟨kw_922, kw_921, kp_44, kw_9⟩, rfl, by decide, by decide, by decide +kernel⟩

def f_X5_endOf (t0 : Int) (x1 : Int) (μ : zMem) : Option Int :=
  if (zand x1 1) = 0 then
    chk ((0 : Int) ≤ (zshr x1 1) ∧ (zshr x1 1) < zlen (t0 + 2)) <|
    some (μ (t0 + 2) (zshr x1 1))
  else
    chk ((0 : Int) ≤ (zshr x1 1) ∧ (zshr x1 1) < zlen (t0 + 1)) <|
    some (μ (t0 + 1) (zshr x1 1))
set_option maxHeartbeats 4000000 in
set_option maxRecDepth 100000 in
theorem M_X5_endOf {l : Launch} {Ω : zO} (μ : zMem) (t0 : Int) (x1 : Int) {r : Int} (o_t0 : zob Ω.2.2.1 5 t0) (gx1 : Rg x1) (h : f_X5_endOf t0 x1 μ = some r) : XMet l yX5_endOf cX5_endOf 2 (some Jvm.ClassFile.FieldType.int) 0 Ω [zR Ω t0, zI x1] μ (some (zI r)) (Rg r) μ := by
  refine XMet.ofI (by decide) (Nat.le_of_ble_eq_true rfl) ?_
  intro p e s m args below meth c ls Q C rt X hl
  have C : zC p s m args c cX5_endOf RX5 2 Ω := C
  have hl : lv_has ls 2 [(0, zR Ω t0), (1, zI x1)] := hl
  unfold f_X5_endOf at h
  skip
  refine lv_iload_n C.1 C.2.1 dX5_endOf_0 rfl (lv_at hl 1 rfl) ?_
  refine z_iconst C dX5_endOf_1 ?_
  refine z_iand C dX5_endOf_2 ?_
  refine z_ifne C (Rg.t _) (tgt := 17) dX5_endOf_3 (by decide) (fun hc3 => ?_) (fun hc3 => ?_)
  · rw [if_neg hc3] at h
    refine lv_aload_n C.1 C.2.1 dX5_endOf_17 rfl (lv_at hl 0 rfl) ?_
    refine z_get C X zk5 (zob.self o_t0) (zo5 o_t0) 0 (by decide) kw_56 (zR Ω (t0 + 1)) (zfvF (off := 1) X.2.2.2 (zob.self o_t0) o_t0.2.2 (zo5 o_t0) rfl (by rw [zo5_1 o_t0]; decide)) dX5_endOf_18 ?_
    refine lv_iload_n C.1 C.2.1 dX5_endOf_21 rfl (lv_at hl 1 rfl) ?_
    refine z_iconst C dX5_endOf_22 ?_
    refine z_ishr C dX5_endOf_23 ?_
    obtain ⟨hc24, h⟩ := chk_some h
    have g_24 : Rg (μ (t0 + 1) (zshr x1 1)) := zrg1 X.2.2.2 (o_t0.2.1 1 (by decide) (by decide)) (zo5_1 o_t0)
    refine z_iald C X (o_t0.2.1 1 (by decide) (by decide)) (zo5_1 o_t0) hc24 dX5_endOf_24 ?_
    obtain rfl := Option.some.inj h
    exact rt X g_24 dX5_endOf_25
  · rw [if_pos hc3] at h
    refine lv_aload_n C.1 C.2.1 dX5_endOf_6 rfl (lv_at hl 0 rfl) ?_
    refine z_get C X zk5 (zob.self o_t0) (zo5 o_t0) 1 (by decide) kw_60 (zR Ω (t0 + 2)) (zfvF (off := 2) X.2.2.2 (zob.self o_t0) o_t0.2.2 (zo5 o_t0) rfl (by rw [zo5_2 o_t0]; decide)) dX5_endOf_7 ?_
    refine lv_iload_n C.1 C.2.1 dX5_endOf_10 rfl (lv_at hl 1 rfl) ?_
    refine z_iconst C dX5_endOf_11 ?_
    refine z_ishr C dX5_endOf_12 ?_
    obtain ⟨hc13, h⟩ := chk_some h
    have g_13 : Rg (μ (t0 + 2) (zshr x1 1)) := zrg1 X.2.2.2 (o_t0.2.1 2 (by decide) (by decide)) (zo5_2 o_t0)
    refine z_iald C X (o_t0.2.1 2 (by decide) (by decide)) (zo5_2 o_t0) hc13 dX5_endOf_13 ?_
    refine lv_goto (tgt := 25) C.1 C.2.1 dX5_endOf_14 (by decide) ?_
    obtain rfl := Option.some.inj h
    exact rt X g_13 dX5_endOf_25
theorem zc_X5_endOf : zcal yX5_endOf cX5_endOf 2 (some Jvm.ClassFile.FieldType.int) RX5 1 := ⟨⟨kw_500, kw_498, kw_499, kw_3⟩, rfl, by decide, by decide, by decide +kernel⟩

