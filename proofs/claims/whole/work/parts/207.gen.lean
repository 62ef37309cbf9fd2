def f_X3_renew (t0 : Int) (x1 : Int) (x2 : Int) (μ : zMem) : Option zMem :=
  zlet (zup μ t0 1 x1) fun μ_1 =>
  zlet (zup μ_1 t0 2 x2) fun μ_2 =>
  bnd (f_J7_fill_53178 (t0 + 1) 0 μ_2) fun μ_3 =>
  some μ_3
set_option maxHeartbeats 4000000 in
set_option maxRecDepth 100000 in
theorem M_X3_renew {l : Launch} {Ω : zO} (μ : zMem) (t0 : Int) (x1 : Int) (x2 : Int) {μ' : zMem} (o_t0 : zob Ω.2.2.1 3 t0) (gx1 : Rg x1) (gx2 : Rg x2) (h : f_X3_renew t0 x1 x2 μ = some μ') : XMet l yX3_renew cX3_renew 3 none 1 Ω [zR Ω t0, zI x1, zI x2] μ none True μ' := by
  refine XMet.ofV (by decide) (Nat.le_of_ble_eq_true rfl) ?_
  intro p e s m args below meth c ls Q C rt X hl
  have C : zC p s m args c cX3_renew RX3 3 Ω := C
  have hl : lv_has ls 3 [(0, zR Ω t0), (1, zI x1), (2, zI x2)] := hl
  unfold f_X3_renew at h
  skip
  refine lv_aload_n C.1 C.2.1 dX3_renew_0 rfl (lv_at hl 0 rfl) ?_
  refine lv_iload_n C.1 C.2.1 dX3_renew_1 rfl (lv_at hl 1 rfl) ?_
  refine zlet_elim h (fun μ_1 em h => ?_)
  refine z_putI C X zk3 (zob.self o_t0) (zo3 o_t0) 1 (by decide) kw_332 rfl rfl rfl rfl gx1 em dX3_renew_2 (fun H locs X => ?_)
  clear em
  refine lv_aload_n C.1 C.2.1 dX3_renew_5 rfl (lv_at hl 0 rfl) ?_
  refine lv_iload_n C.1 C.2.1 dX3_renew_6 rfl (lv_at hl 2 rfl) ?_
  refine zlet_elim h (fun μ_2 em h => ?_)
  refine z_putI C X zk3 (zob.self o_t0) (zo3 o_t0) 2 (by decide) kw_334 rfl rfl rfl rfl gx2 em dX3_renew_7 (fun H locs X => ?_)
  clear em
  refine lv_aload_n C.1 C.2.1 dX3_renew_10 rfl (lv_at hl 0 rfl) ?_
  refine z_get C X zk3 (zob.self o_t0) (zo3 o_t0) 0 (by decide) kw_330 (zR Ω (t0 + 1)) (zfvF (off := 1) X.2.2.2 (zob.self o_t0) o_t0.2.2 (zo3 o_t0) rfl (by rw [zo3_1 o_t0]; decide)) dX3_renew_11 ?_
  refine z_iconst C dX3_renew_14 ?_
  obtain ⟨μ_3, hq15, h⟩ := bnd_some h
  refine z_callS0 C X (As := [zR Ω (t0 + 1), zI 0]) (M_J7_fill_53178 μ_2 (t0 + 1) 0 (o_t0.2.1 1 (by decide) (by decide)) (zo3_1 o_t0) ⟨by decide, by decide⟩ hq15) zc_J7_fill_53178 kw_1012 (zroom (by decide) (by decide)) rfl hl.1 rfl (Nat.le_of_ble_eq_true rfl) dX3_renew_15 ⟨Nat.zero_le _, Nat.zero_le _⟩ (fun H locs g_15 X => ?_)
  obtain rfl := Option.some.inj h
  exact rt X dX3_renew_18
theorem zc_X3_renew : zcal yX3_renew cX3_renew 3 none RX3 2 := ⟨⟨kw_1011, kw_1009, kw_1010, kw_10⟩, rfl, by decide, by decide, by decide +kernel⟩

def f_X3_put (t0 : Int) (x1 : Int) (x2 : Int) (μ : zMem) : Option zMem :=
  if (μ t0 1) = 0 then
    chk ((0 : Int) ≤ x1 ∧ x1 < zlen (t0 + 1)) <|
    zlet (zup μ (t0 + 1) x1 (zb x2)) fun μ_3 =>
    some μ_3
  else
    if (μ t0 1) = 1 then
      chk ((0 : Int) ≤ x1 ∧ x1 < zlen (t0 + 1)) <|
      zlet (zup μ (t0 + 1) x1 (zs x2)) fun μ_2 =>
      some μ_2
    else
      chk ((0 : Int) ≤ x1 ∧ x1 < zlen (t0 + 1)) <|
      zlet (zup μ (t0 + 1) x1 x2) fun μ_1 =>
      some μ_1
set_option maxHeartbeats 4000000 in
set_option maxRecDepth 100000 in
theorem M_X3_put {l : Launch} {Ω : zO} (μ : zMem) (t0 : Int) (x1 : Int) (x2 : Int) {μ' : zMem} (o_t0 : zob Ω.2.2.1 3 t0) (gx1 : Rg x1) (gx2 : Rg x2) (h : f_X3_put t0 x1 x2 μ = some μ') : XMet l yX3_put cX3_put 3 none 0 Ω [zR Ω t0, zI x1, zI x2] μ none True μ' := by
  refine XMet.ofV (by decide) (Nat.le_of_ble_eq_true rfl) ?_
  intro p e s m args below meth c ls Q C rt X hl
  have C : zC p s m args c cX3_put RX3 3 Ω := C
  have hl : lv_has ls 3 [(0, zR Ω t0), (1, zI x1), (2, zI x2)] := hl
  unfold f_X3_put at h
  skip
  refine lv_aload_n C.1 C.2.1 dX3_put_0 rfl (lv_at hl 0 rfl) ?_
  have g_1 : Rg (μ t0 1) := zrgf0 (ci := 3) X.2.2.2 (zob.self o_t0) (zo3 o_t0) 1 rfl
  refine z_get C X zk3 (zob.self o_t0) (zo3 o_t0) 1 (by decide) kw_332 (zI (μ t0 1)) rfl dX3_put_1 ?_
  refine z_ifne C g_1 (tgt := 18) dX3_put_4 (by decide) (fun hc4 => ?_) (fun hc4 => ?_)
  · rw [if_neg hc4] at h
    refine lv_aload_n C.1 C.2.1 dX3_put_18 rfl (lv_at hl 0 rfl) ?_
    have g_19 : Rg (μ t0 1) := zrgf0 (ci := 3) X.2.2.2 (zob.self o_t0) (zo3 o_t0) 1 rfl
    refine z_get C X zk3 (zob.self o_t0) (zo3 o_t0) 1 (by decide) kw_332 (zI (μ t0 1)) rfl dX3_put_19 ?_
    refine z_iconst C dX3_put_22 ?_
    refine z_icmpne C g_19 ⟨by decide, by decide⟩ (tgt := 37) dX3_put_23 (by decide) (fun hc23 => ?_) (fun hc23 => ?_)
    · rw [if_neg hc23] at h
      refine lv_aload_n C.1 C.2.1 dX3_put_37 rfl (lv_at hl 0 rfl) ?_
      refine z_get C X zk3 (zob.self o_t0) (zo3 o_t0) 0 (by decide) kw_330 (zR Ω (t0 + 1)) (zfvF (off := 1) X.2.2.2 (zob.self o_t0) o_t0.2.2 (zo3 o_t0) rfl (by rw [zo3_1 o_t0]; decide)) dX3_put_38 ?_
      refine lv_iload_n C.1 C.2.1 dX3_put_41 rfl (lv_at hl 1 rfl) ?_
      refine lv_iload_n C.1 C.2.1 dX3_put_42 rfl (lv_at hl 2 rfl) ?_
      obtain ⟨hc43, h⟩ := chk_some h
      refine zlet_elim h (fun μ_1 em h => ?_)
      refine z_iast C X (o_t0.2.1 1 (by decide) (by decide)) (zo3_1 o_t0) hc43 (zok1 (zo3_1 o_t0) gx2) em dX3_put_43 (fun H locs X => ?_)
      clear em
      obtain rfl := Option.some.inj h
      exact rt X dX3_put_44
    · rw [if_pos hc23] at h
      refine lv_aload_n C.1 C.2.1 dX3_put_26 rfl (lv_at hl 0 rfl) ?_
      refine z_get C X zk3 (zob.self o_t0) (zo3 o_t0) 0 (by decide) kw_330 (zR Ω (t0 + 1)) (zfvF (off := 1) X.2.2.2 (zob.self o_t0) o_t0.2.2 (zo3 o_t0) rfl (by rw [zo3_1 o_t0]; decide)) dX3_put_27 ?_
      refine lv_iload_n C.1 C.2.1 dX3_put_30 rfl (lv_at hl 1 rfl) ?_
      refine lv_iload_n C.1 C.2.1 dX3_put_31 rfl (lv_at hl 2 rfl) ?_
      refine z_i2s C dX3_put_32 ?_
      obtain ⟨hc33, h⟩ := chk_some h
      refine zlet_elim h (fun μ_2 em h => ?_)
      refine z_iast C X (o_t0.2.1 1 (by decide) (by decide)) (zo3_1 o_t0) hc33 (zok1 (zo3_1 o_t0) (Rg.t _)) em dX3_put_33 (fun H locs X => ?_)
      clear em
      refine lv_goto (tgt := 44) C.1 C.2.1 dX3_put_34 (by decide) ?_
      obtain rfl := Option.some.inj h
      exact rt X dX3_put_44
  · rw [if_pos hc4] at h
    refine lv_aload_n C.1 C.2.1 dX3_put_7 rfl (lv_at hl 0 rfl) ?_
    refine z_get C X zk3 (zob.self o_t0) (zo3 o_t0) 0 (by decide) kw_330 (zR Ω (t0 + 1)) (zfvF (off := 1) X.2.2.2 (zob.self o_t0) o_t0.2.2 (zo3 o_t0) rfl (by rw [zo3_1 o_t0]; decide)) dX3_put_8 ?_
    refine lv_iload_n C.1 C.2.1 dX3_put_11 rfl (lv_at hl 1 rfl) ?_
    refine lv_iload_n C.1 C.2.1 dX3_put_12 rfl (lv_at hl 2 rfl) ?_
    refine z_i2b C dX3_put_13 ?_
    obtain ⟨hc14, h⟩ := chk_some h
    refine zlet_elim h (fun μ_3 em h => ?_)
    refine z_iast C X (o_t0.2.1 1 (by decide) (by decide)) (zo3_1 o_t0) hc14 (zok1 (zo3_1 o_t0) (Rg.t _)) em dX3_put_14 (fun H locs X => ?_)
    clear em
    refine lv_goto (tgt := 44) C.1 C.2.1 dX3_put_15 (by decide) ?_
    obtain rfl := Option.some.inj h
    exact rt X dX3_put_44
theorem zc_X3_put : zcal yX3_put cX3_put 3 none RX3 2 := ⟨⟨kw_1024, kw_1022, kw_1023, kw_10⟩, rfl, by decide, by decide, by decide +kernel⟩

def f_X4_factorial_L4 (x0 : Int) : Nat → Int → Int → Option Int
  | 0, _, _ => none
  | n + 1, x_1, x_2 =>
    if x_2 ≤ x0 then
      zlet ((zw (x_1 * x_2))) fun x_3 =>
      zlet (zw (x_2 + 1)) fun x_4 =>
      (f_X4_factorial_L4 x0 n) x_3 x_4
    else
      some x_1
def f_X4_factorial (x0 : Int) : Option Int :=
  (f_X4_factorial_L4 x0) zfu 1 2
set_option maxHeartbeats 4000000 in
set_option maxRecDepth 100000 in
theorem M_X4_factorial {l : Launch} {Ω : zO} (μ : zMem) (x0 : Int) {r : Int} (gx0 : Rg x0) (h : f_X4_factorial x0 = some r) : XMet l yX4_factorial cX4_factorial 3 (some Jvm.ClassFile.FieldType.int) 0 Ω [zI x0] μ (some (zI r)) (Rg r) μ := by
  refine XMet.ofI (by decide) (Nat.le_of_ble_eq_true rfl) ?_
  intro p e s m args below meth c ls Q C rt X hl
  have C : zC p s m args c cX4_factorial RX4 3 Ω := C
  have hl : lv_has ls 3 [(0, zI x0)] := hl
  unfold f_X4_factorial at h
  skip
  refine z_iconst C dX4_factorial_0 ?_
  refine lv_istore_n C.1 C.2.1 (lv' := [(1, zI 1), (0, zI x0)]) dX4_factorial_1 rfl hl (by decide) rfl (fun ls hl => ?_)
  refine z_iconst C dX4_factorial_2 ?_
  refine lv_istore_n C.1 C.2.1 (lv' := [(2, zI 2), (1, zI 1), (0, zI x0)]) dX4_factorial_3 rfl hl (by decide) rfl (fun ls hl => ?_)
  have L4 : ∀ (n4 : Nat) (x_1 : Int) (x_2 : Int) (H : Heap) (locs : List Loc) (ls : Array Slot), Rg x_1 → Rg x_2 → zX Ω μ (zfree Ω) s.heap H locs → lv_has ls 3 [(0, zI x0), (1, zI x_1), (2, zI x_2)] → (f_X4_factorial_L4 x0 n4 x_1 x_2) = some r → W p l e (zrm 0) s m args below meth c H locs 0 0 Q (F0 m 4 ls []) := by
    intro n4
    induction n4 with
    | zero =>
      intro x_1 x_2 H locs ls _ _ _ _ h
      cases h
    | succ n4 ih4 =>
      intro x_1 x_2 H locs ls gx_1 gx_2 X hl h
      unfold f_X4_factorial_L4 at h
      refine lv_iload_n C.1 C.2.1 dX4_factorial_4 rfl (lv_at hl 2 rfl) ?_
      refine lv_iload_n C.1 C.2.1 dX4_factorial_5 rfl (lv_at hl 0 rfl) ?_
      refine z_icmpgt C gx_2 gx0 (tgt := 19) dX4_factorial_6 (by decide) (fun hc6 => ?_) (fun hc6 => ?_)
      · rw [if_neg hc6] at h
        refine lv_iload_n C.1 C.2.1 dX4_factorial_19 rfl (lv_at hl 1 rfl) ?_
        obtain rfl := Option.some.inj h
        exact rt X gx_1 dX4_factorial_20
      · rw [if_pos hc6] at h
        refine lv_iload_n C.1 C.2.1 dX4_factorial_9 rfl (lv_at hl 1 rfl) ?_
        refine lv_iload_n C.1 C.2.1 dX4_factorial_10 rfl (lv_at hl 2 rfl) ?_
        refine z_imul C dX4_factorial_11 ?_
        refine zlet_elim h (fun x_3 ex_3 h => ?_)
        have gx_3 : Rg x_3 := by rw [ex_3]; exact (Rg.w _)
        refine z_istore_n C ex_3 dX4_factorial_12 rfl hl (by decide) (lv' := [(1, zI x_3), (0, zI x0), (2, zI x_2)]) rfl (fun ls hl => ?_)
        clear ex_3
        refine zlet_elim h (fun x_4 ex_4 h => ?_)
        have gx_4 : Rg x_4 := by rw [ex_4]; exact Rg.w _
        refine z_iinc C ex_4 dX4_factorial_13 hl (k := 2) rfl (by decide) (lv' := [(2, zI x_4), (1, zI x_3), (0, zI x0)]) rfl (fun ls hl => ?_)
        clear ex_4
        refine lv_goto (tgt := 4) C.1 C.2.1 dX4_factorial_16 (by decide) ?_
        exact ih4 x_3 x_4 _ _ _ gx_3 gx_4 X (lv_sub hl [2, 1, 0] rfl) h
  exact L4 zfu 1 2 _ _ _ ⟨by decide, by decide⟩ ⟨by decide, by decide⟩ X (lv_sub hl [2, 1, 0] rfl) h
theorem zc_X4_factorial : zcas yX4_factorial cX4_factorial 3 (some Jvm.ClassFile.FieldType.int) 1 := ⟨⟨kw_350, kw_349, kw_11⟩, by decide, by decide, by decide +kernel⟩

def f_X4_goal (x0 : Int) (x1 : Int) (x2 : Int) : Int :=
  (zand (zshr x0 (zw (2 * (zw ((zw (x2 - 1)) - x1))))) 3)
set_option maxHeartbeats 4000000 in
set_option maxRecDepth 100000 in
theorem M_X4_goal {l : Launch} {Ω : zO} (μ : zMem) (x0 : Int) (x1 : Int) (x2 : Int) (gx0 : Rg x0) (gx1 : Rg x1) (gx2 : Rg x2) : XMet l yX4_goal cX4_goal 3 (some Jvm.ClassFile.FieldType.int) 0 Ω [zI x0, zI x1, zI x2] μ (some (zI (f_X4_goal x0 x1 x2))) (Rg (f_X4_goal x0 x1 x2)) μ := by
  obtain ⟨r, h⟩ : ∃ r, f_X4_goal x0 x1 x2 = r := ⟨_, rfl⟩
  rw [h]
  refine XMet.ofI (by decide) (Nat.le_of_ble_eq_true rfl) ?_
  intro p e s m args below meth c ls Q C rt X hl
  have C : zC p s m args c cX4_goal RX4 3 Ω := C
  have hl : lv_has ls 3 [(0, zI x0), (1, zI x1), (2, zI x2)] := hl
  unfold f_X4_goal at h
  skip
  refine lv_iload_n C.1 C.2.1 dX4_goal_0 rfl (lv_at hl 0 rfl) ?_
  refine z_iconst C dX4_goal_1 ?_
  refine lv_iload_n C.1 C.2.1 dX4_goal_2 rfl (lv_at hl 2 rfl) ?_
  refine z_iconst C dX4_goal_3 ?_
  refine z_isub C dX4_goal_4 ?_
  refine lv_iload_n C.1 C.2.1 dX4_goal_5 rfl (lv_at hl 1 rfl) ?_
  refine z_isub C dX4_goal_6 ?_
  refine z_imul C dX4_goal_7 ?_
  refine z_ishr C dX4_goal_8 ?_
  refine z_iconst C dX4_goal_9 ?_
  refine z_iand C dX4_goal_10 ?_
  subst h
  exact rt X (Rg.t _) dX4_goal_11
theorem zc_X4_goal : zcas yX4_goal cX4_goal 3 (some Jvm.ClassFile.FieldType.int) 3 := ⟨⟨kw_356, kw_355, kw_11⟩, by decide, by decide, by decide +kernel⟩

def f_X4_isShuffle_K26 (x1 : Int) (x_1 : Int) : Option Int :=
  if x_1 = (zw ((zshl 1 x1) - 1)) then
    some 1
  else
    some 0
def f_X4_isShuffle_L4 (x0 : Int) (x1 : Int) (g26 : Int → Option Int) : Nat → Int → Int → Option Int
  | 0, _, _ => none
  | n + 1, x_2, x_3 =>
    if x_3 < x1 then
      zlet ((zor x_2 (zshl 1 (f_X4_goal x0 x_3 x1)))) fun x_4 =>
      zlet (zw (x_3 + 1)) fun x_5 =>
      (f_X4_isShuffle_L4 x0 x1 g26 n) x_4 x_5
    else
      g26 x_2
def f_X4_isShuffle (x0 : Int) (x1 : Int) : Option Int :=
  (f_X4_isShuffle_L4 x0 x1 (f_X4_isShuffle_K26 x1)) zfu 0 0
set_option maxHeartbeats 4000000 in
set_option maxRecDepth 100000 in
theorem M_X4_isShuffle {l : Launch} {Ω : zO} (μ : zMem) (x0 : Int) (x1 : Int) {r : Int} (gx0 : Rg x0) (gx1 : Rg x1) (h : f_X4_isShuffle x0 x1 = some r) : XMet l yX4_isShuffle cX4_isShuffle 4 (some Jvm.ClassFile.FieldType.boolean) 1 Ω [zI x0, zI x1] μ (some (zI r)) (0 ≤ r ∧ r ≤ 1) μ := by
  refine XMet.ofZ (by decide) (Nat.le_of_ble_eq_true rfl) ?_
  intro p e s m args below meth c ls Q C rt X hl
  have C : zC p s m args c cX4_isShuffle RX4 4 Ω := C
  have hl : lv_has ls 4 [(0, zI x0), (1, zI x1)] := hl
  unfold f_X4_isShuffle at h
  skip
  refine z_iconst C dX4_isShuffle_0 ?_
  refine lv_istore_n C.1 C.2.1 (lv' := [(2, zI 0), (0, zI x0), (1, zI x1)]) dX4_isShuffle_1 rfl hl (by decide) rfl (fun ls hl => ?_)
  refine z_iconst C dX4_isShuffle_2 ?_
  refine lv_istore_n C.1 C.2.1 (lv' := [(3, zI 0), (2, zI 0), (0, zI x0), (1, zI x1)]) dX4_isShuffle_3 rfl hl (by decide) rfl (fun ls hl => ?_)
  have K26 : ∀ (x_1 : Int) (H : Heap) (locs : List Loc) (ls : Array Slot), Rg x_1 → zX Ω μ (zfree Ω) s.heap H locs → lv_has ls 4 [(1, zI x1), (2, zI x_1)] → (f_X4_isShuffle_K26 x1) x_1 = some r → W p l e (zrm 1) s m args below meth c H locs 0 0 Q (F0 m 26 ls []) := by
    intro x_1 H locs ls gx_1 X hl h
    unfold f_X4_isShuffle_K26 at h
    refine lv_iload_n C.1 C.2.1 dX4_isShuffle_26 rfl (lv_at hl 1 rfl) ?_
    refine z_iconst C dX4_isShuffle_27 ?_
    refine lv_iload_n C.1 C.2.1 dX4_isShuffle_28 rfl (lv_at hl 0 rfl) ?_
    refine z_ishl C dX4_isShuffle_29 ?_
    refine z_iconst C dX4_isShuffle_30 ?_
    refine z_isub C dX4_isShuffle_31 ?_
    refine z_icmpne C gx_1 (Rg.w _) (tgt := 39) dX4_isShuffle_32 (by decide) (fun hc32 => ?_) (fun hc32 => ?_)
    · rw [if_neg hc32] at h
      refine z_iconst C dX4_isShuffle_39 ?_
      obtain rfl := Option.some.inj h
      exact rt X ⟨by decide, by decide⟩ dX4_isShuffle_40
    · rw [if_pos hc32] at h
      refine z_iconst C dX4_isShuffle_35 ?_
      refine lv_goto (tgt := 40) C.1 C.2.1 dX4_isShuffle_36 (by decide) ?_
      obtain rfl := Option.some.inj h
      exact rt X ⟨by decide, by decide⟩ dX4_isShuffle_40
  have L4 : ∀ (n4 : Nat) (x_2 : Int) (x_3 : Int) (H : Heap) (locs : List Loc) (ls : Array Slot), Rg x_2 → Rg x_3 → zX Ω μ (zfree Ω) s.heap H locs → lv_has ls 4 [(0, zI x0), (1, zI x1), (2, zI x_2), (3, zI x_3)] → (f_X4_isShuffle_L4 x0 x1 (f_X4_isShuffle_K26 x1) n4 x_2 x_3) = some r → W p l e (zrm 1) s m args below meth c H locs 0 0 Q (F0 m 4 ls []) := by
    intro n4
    induction n4 with
    | zero =>
      intro x_2 x_3 H locs ls _ _ _ _ h
      cases h
    | succ n4 ih4 =>
      intro x_2 x_3 H locs ls gx_2 gx_3 X hl h
      unfold f_X4_isShuffle_L4 at h
      refine lv_iload_n C.1 C.2.1 dX4_isShuffle_4 rfl (lv_at hl 3 rfl) ?_
      refine lv_iload_n C.1 C.2.1 dX4_isShuffle_5 rfl (lv_at hl 1 rfl) ?_
      refine z_icmpge C gx_3 gx1 (tgt := 26) dX4_isShuffle_6 (by decide) (fun hc6 => ?_) (fun hc6 => ?_)
      · rw [if_neg hc6] at h
        exact K26 x_2 _ _ _ gx_2 X (lv_sub hl [1, 2] rfl) h
      · rw [if_pos hc6] at h
        refine lv_iload_n C.1 C.2.1 dX4_isShuffle_9 rfl (lv_at hl 2 rfl) ?_
        refine z_iconst C dX4_isShuffle_10 ?_
        refine lv_iload_n C.1 C.2.1 dX4_isShuffle_11 rfl (lv_at hl 0 rfl) ?_
        refine lv_iload_n C.1 C.2.1 dX4_isShuffle_12 rfl (lv_at hl 3 rfl) ?_
        refine lv_iload_n C.1 C.2.1 dX4_isShuffle_13 rfl (lv_at hl 1 rfl) ?_
        refine z_callS1 C X (As := [zI x0, zI x_3, zI x1]) (M_X4_goal μ x0 x_3 x1 gx0 gx_3 gx1) zc_X4_goal kw_354 (zroom (by decide) (by decide)) rfl hl.1 rfl (Nat.le_of_ble_eq_true rfl) dX4_isShuffle_14 ⟨Nat.zero_le _, Nat.zero_le _⟩ (fun H locs g_14 X => ?_)
        refine z_ishl C dX4_isShuffle_17 ?_
        refine z_ior C dX4_isShuffle_18 ?_
        refine zlet_elim h (fun x_4 ex_4 h => ?_)
        have gx_4 : Rg x_4 := by rw [ex_4]; exact (Rg.t _)
        refine z_istore_n C ex_4 dX4_isShuffle_19 rfl hl (by decide) (lv' := [(2, zI x_4), (0, zI x0), (1, zI x1), (3, zI x_3)]) rfl (fun ls hl => ?_)
        clear ex_4
        refine zlet_elim h (fun x_5 ex_5 h => ?_)
        have gx_5 : Rg x_5 := by rw [ex_5]; exact Rg.w _
        refine z_iinc C ex_5 dX4_isShuffle_20 hl (k := 3) rfl (by decide) (lv' := [(3, zI x_5), (2, zI x_4), (0, zI x0), (1, zI x1)]) rfl (fun ls hl => ?_)
        clear ex_5
        refine lv_goto (tgt := 4) C.1 C.2.1 dX4_isShuffle_23 (by decide) ?_
        exact ih4 x_4 x_5 _ _ _ gx_4 gx_5 X (lv_sub hl [2, 3, 1, 0] rfl) h
  exact L4 zfu 0 0 _ _ _ ⟨by decide, by decide⟩ ⟨by decide, by decide⟩ X (lv_sub hl [2, 3, 1, 0] rfl) h
theorem zc_X4_isShuffle : zcas yX4_isShuffle cX4_isShuffle 4 (some Jvm.ClassFile.FieldType.boolean) 2 := ⟨⟨kw_353, kw_352, kw_11⟩, by decide, by decide, by decide +kernel⟩

def f_X4_numberOf_K50 (t0 : Int) (μ : zMem) (x_1 : Int) (g2 : Int → Option Int) (x_2 : Int) : Option Int :=
  if x_2 = (μ t0 0) then
    some x_1
  else
    zlet (zw (x_1 + 1)) fun x_3 =>
    g2 x_3
def f_X4_numberOf_L13 (t0 : Int) (x1 : Int) (x2 : Int) (μ : zMem) (x_1 : Int) (g50 : Int → Option Int) : Nat → Int → Option Int
  | 0, _ => none
  | n + 1, x_4 =>
    if x_4 < (μ t0 0) then
      bnd (f_X4_move t0 x_1 x_4 μ) fun x_5 =>
      bnd (f_X4_move t0 x1 x_4 μ) fun x_6 =>
      bnd (f_X4_move t0 x2 x_6 μ) fun x_7 =>
      if x_5 = x_7 then
        zlet (zw (x_4 + 1)) fun x_8 =>
        (f_X4_numberOf_L13 t0 x1 x2 μ x_1 g50 n) x_8
      else
        g50 x_4
    else
      g50 x_4
def f_X4_numberOf_L2 (t0 : Int) (x1 : Int) (x2 : Int) (μ : zMem) : Nat → Int → Option Int
  | 0, _ => none
  | n + 1, x_1 =>
    if x_1 < (μ t0 1) then
      (f_X4_numberOf_L13 t0 x1 x2 μ x_1 (f_X4_numberOf_K50 t0 μ x_1 (f_X4_numberOf_L2 t0 x1 x2 μ n))) zfu 0
    else
      some 0
def f_X4_numberOf (t0 : Int) (x1 : Int) (x2 : Int) (μ : zMem) : Option Int :=
  (f_X4_numberOf_L2 t0 x1 x2 μ) zfu 0
set_option maxHeartbeats 4000000 in
set_option maxRecDepth 100000 in
theorem M_X4_numberOf {l : Launch} {Ω : zO} (μ : zMem) (t0 : Int) (x1 : Int) (x2 : Int) {r : Int} (o_t0 : zob Ω.2.2.1 4 t0) (gx1 : Rg x1) (gx2 : Rg x2) (h : f_X4_numberOf t0 x1 x2 μ = some r) : XMet l yX4_numberOf cX4_numberOf 5 (some Jvm.ClassFile.FieldType.int) 1 Ω [zR Ω t0, zI x1, zI x2] μ (some (zI r)) (Rg r) μ := by
  refine XMet.ofI (by decide) (Nat.le_of_ble_eq_true rfl) ?_
  intro p e s m args below meth c ls Q C rt X hl
  have C : zC p s m args c cX4_numberOf RX4 5 Ω := C
  have hl : lv_has ls 5 [(0, zR Ω t0), (1, zI x1), (2, zI x2)] := hl
  unfold f_X4_numberOf at h
  skip
  refine z_iconst C dX4_numberOf_0 ?_
  refine lv_istore_n C.1 C.2.1 (lv' := [(3, zI 0), (0, zR Ω t0), (1, zI x1), (2, zI x2)]) dX4_numberOf_1 rfl hl (by decide) rfl (fun ls hl => ?_)
  have L2 : ∀ (n2 : Nat) (x_1 : Int) (H : Heap) (locs : List Loc) (ls : Array Slot), Rg x_1 → zX Ω μ (zfree Ω) s.heap H locs → lv_has ls 5 [(0, zR Ω t0), (1, zI x1), (2, zI x2), (3, zI x_1)] → (f_X4_numberOf_L2 t0 x1 x2 μ n2 x_1) = some r → W p l e (zrm 1) s m args below meth c H locs 0 0 Q (F0 m 2 ls []) := by
    intro n2
    induction n2 with
    | zero =>
      intro x_1 H locs ls _ _ _ h
      cases h
    | succ n2 ih2 =>
      intro x_1 H locs ls gx_1 X hl h
      unfold f_X4_numberOf_L2 at h
      refine lv_iload_n C.1 C.2.1 dX4_numberOf_2 rfl (lv_at hl 3 rfl) ?_
      refine lv_aload_n C.1 C.2.1 dX4_numberOf_3 rfl (lv_at hl 0 rfl) ?_
      have g_4 : Rg (μ t0 1) := zrgf0 (ci := 4) X.2.2.2 (zob.self o_t0) (zo4 o_t0) 1 rfl
      refine z_get C X zk4 (zob.self o_t0) (zo4 o_t0) 1 (by decide) kw_373 (zI (μ t0 1)) rfl dX4_numberOf_4 ?_
      refine z_icmpge C gx_1 g_4 (tgt := 67) dX4_numberOf_7 (by decide) (fun hc7 => ?_) (fun hc7 => ?_)
      · rw [if_neg hc7] at h
        refine z_iconst C dX4_numberOf_67 ?_
        obtain rfl := Option.some.inj h
        exact rt X ⟨by decide, by decide⟩ dX4_numberOf_68
      · rw [if_pos hc7] at h
        refine z_iconst C dX4_numberOf_10 ?_
        refine lv_istore C.1 C.2.1 (lv' := [(4, zI 0), (0, zR Ω t0), (1, zI x1), (2, zI x2), (3, zI x_1)]) dX4_numberOf_11 hl (by decide) rfl (fun ls hl => ?_)
        have K50 : ∀ (x_2 : Int) (H : Heap) (locs : List Loc) (ls : Array Slot), Rg x_2 → zX Ω μ (zfree Ω) s.heap H locs → lv_has ls 5 [(0, zR Ω t0), (1, zI x1), (2, zI x2), (3, zI x_1), (4, zI x_2)] → (f_X4_numberOf_K50 t0 μ x_1 (f_X4_numberOf_L2 t0 x1 x2 μ n2)) x_2 = some r → W p l e (zrm 1) s m args below meth c H locs 0 0 Q (F0 m 50 ls []) := by
          intro x_2 H locs ls gx_2 X hl h
          unfold f_X4_numberOf_K50 at h
          refine lv_iload C.1 C.2.1 dX4_numberOf_50 (lv_at hl 4 rfl) ?_
          refine lv_aload_n C.1 C.2.1 dX4_numberOf_52 rfl (lv_at hl 0 rfl) ?_
          have g_53 : Rg (μ t0 0) := zrgf0 (ci := 4) X.2.2.2 (zob.self o_t0) (zo4 o_t0) 0 rfl
          refine z_get C X zk4 (zob.self o_t0) (zo4 o_t0) 0 (by decide) kw_369 (zI (μ t0 0)) rfl dX4_numberOf_53 ?_
          refine z_icmpne C gx_2 g_53 (tgt := 61) dX4_numberOf_56 (by decide) (fun hc56 => ?_) (fun hc56 => ?_)
          · rw [if_neg hc56] at h
            refine zlet_elim h (fun x_3 ex_3 h => ?_)
            have gx_3 : Rg x_3 := by rw [ex_3]; exact Rg.w _
            refine z_iinc C ex_3 dX4_numberOf_61 hl (k := 3) rfl (by decide) (lv' := [(3, zI x_3), (0, zR Ω t0), (1, zI x1), (2, zI x2), (4, zI x_2)]) rfl (fun ls hl => ?_)
            clear ex_3
            refine lv_goto (tgt := 2) C.1 C.2.1 dX4_numberOf_64 (by decide) ?_
            exact ih2 x_3 _ _ _ gx_3 X (lv_sub hl [1, 2, 3, 0] rfl) h
          · rw [if_pos hc56] at h
            refine lv_iload_n C.1 C.2.1 dX4_numberOf_59 rfl (lv_at hl 3 rfl) ?_
            obtain rfl := Option.some.inj h
            exact rt X gx_1 dX4_numberOf_60
        have L13 : ∀ (n13 : Nat) (x_4 : Int) (H : Heap) (locs : List Loc) (ls : Array Slot), Rg x_4 → zX Ω μ (zfree Ω) s.heap H locs → lv_has ls 5 [(0, zR Ω t0), (1, zI x1), (2, zI x2), (3, zI x_1), (4, zI x_4)] → (f_X4_numberOf_L13 t0 x1 x2 μ x_1 (f_X4_numberOf_K50 t0 μ x_1 (f_X4_numberOf_L2 t0 x1 x2 μ n2)) n13 x_4) = some r → W p l e (zrm 1) s m args below meth c H locs 0 0 Q (F0 m 13 ls []) := by
          intro n13
          induction n13 with
          | zero =>
            intro x_4 H locs ls _ _ _ h
            cases h
          | succ n13 ih13 =>
            intro x_4 H locs ls gx_4 X hl h
            unfold f_X4_numberOf_L13 at h
            refine lv_iload C.1 C.2.1 dX4_numberOf_13 (lv_at hl 4 rfl) ?_
            refine lv_aload_n C.1 C.2.1 dX4_numberOf_15 rfl (lv_at hl 0 rfl) ?_
            have g_16 : Rg (μ t0 0) := zrgf0 (ci := 4) X.2.2.2 (zob.self o_t0) (zo4 o_t0) 0 rfl
            refine z_get C X zk4 (zob.self o_t0) (zo4 o_t0) 0 (by decide) kw_369 (zI (μ t0 0)) rfl dX4_numberOf_16 ?_
            refine z_icmpge C gx_4 g_16 (tgt := 50) dX4_numberOf_19 (by decide) (fun hc19 => ?_) (fun hc19 => ?_)
            · rw [if_neg hc19] at h
              exact K50 x_4 _ _ _ gx_4 X (lv_sub hl [0, 1, 2, 3, 4] rfl) h
            · rw [if_pos hc19] at h
              refine lv_aload_n C.1 C.2.1 dX4_numberOf_22 rfl (lv_at hl 0 rfl) ?_
              refine lv_iload_n C.1 C.2.1 dX4_numberOf_23 rfl (lv_at hl 3 rfl) ?_
              refine lv_iload C.1 C.2.1 dX4_numberOf_24 (lv_at hl 4 rfl) ?_
              obtain ⟨x_5, hq26, h⟩ := bnd_some h
              refine z_callV1 C X zk4 (zob.self o_t0) (zo4 o_t0) (As := [zI x_1, zI x_4]) (M_X4_move μ t0 x_1 x_4 o_t0 gx_1 gx_4 hq26) zc_X4_move kw_365 (zroom (by decide) (by decide)) rfl hl.1 rfl (Nat.le_of_ble_eq_true rfl) dX4_numberOf_26 ⟨Nat.zero_le _, Nat.zero_le _⟩ (fun H locs g_26 X => ?_)
              refine lv_aload_n C.1 C.2.1 dX4_numberOf_29 rfl (lv_at hl 0 rfl) ?_
              refine lv_iload_n C.1 C.2.1 dX4_numberOf_30 rfl (lv_at hl 2 rfl) ?_
              refine lv_aload_n C.1 C.2.1 dX4_numberOf_31 rfl (lv_at hl 0 rfl) ?_
              refine lv_iload_n C.1 C.2.1 dX4_numberOf_32 rfl (lv_at hl 1 rfl) ?_
              refine lv_iload C.1 C.2.1 dX4_numberOf_33 (lv_at hl 4 rfl) ?_
              obtain ⟨x_6, hq35, h⟩ := bnd_some h
              refine z_callV1 C X zk4 (zob.self o_t0) (zo4 o_t0) (As := [zI x1, zI x_4]) (M_X4_move μ t0 x1 x_4 o_t0 gx1 gx_4 hq35) zc_X4_move kw_365 (zroom (by decide) (by decide)) rfl hl.1 rfl (Nat.le_of_ble_eq_true rfl) dX4_numberOf_35 ⟨Nat.zero_le _, Nat.zero_le _⟩ (fun H locs g_35 X => ?_)
              obtain ⟨x_7, hq38, h⟩ := bnd_some h
              refine z_callV1 C X zk4 (zob.self o_t0) (zo4 o_t0) (As := [zI x2, zI x_6]) (M_X4_move μ t0 x2 x_6 o_t0 gx2 g_35 hq38) zc_X4_move kw_365 (zroom (by decide) (by decide)) rfl hl.1 rfl (Nat.le_of_ble_eq_true rfl) dX4_numberOf_38 ⟨Nat.zero_le _, Nat.zero_le _⟩ (fun H locs g_38 X => ?_)
              refine z_icmpne C g_26 g_38 (tgt := 50) dX4_numberOf_41 (by decide) (fun hc41 => ?_) (fun hc41 => ?_)
              · rw [if_neg hc41] at h
                exact K50 x_4 _ _ _ gx_4 X (lv_sub hl [0, 1, 2, 3, 4] rfl) h
              · rw [if_pos hc41] at h
                refine zlet_elim h (fun x_8 ex_8 h => ?_)
                have gx_8 : Rg x_8 := by rw [ex_8]; exact Rg.w _
                refine z_iinc C ex_8 dX4_numberOf_44 hl (k := 4) rfl (by decide) (lv' := [(4, zI x_8), (0, zR Ω t0), (1, zI x1), (2, zI x2), (3, zI x_1)]) rfl (fun ls hl => ?_)
                clear ex_8
                refine lv_goto (tgt := 13) C.1 C.2.1 dX4_numberOf_47 (by decide) ?_
                exact ih13 x_8 _ _ _ gx_8 X (lv_sub hl [1, 2, 3, 4, 0] rfl) h
        exact L13 zfu 0 _ _ _ ⟨by decide, by decide⟩ X (lv_sub hl [1, 2, 3, 4, 0] rfl) h
  exact L2 zfu 0 _ _ _ ⟨by decide, by decide⟩ X (lv_sub hl [1, 2, 3, 0] rfl) h
theorem zc_X4_numberOf : zcal yX4_numberOf cX4_numberOf 5 (some Jvm.ClassFile.FieldType.int) RX4 2 := ⟨⟨kw_364, kw_363, kp_3, kw_11⟩, rfl, by decide, by decide, by decide +kernel⟩

def f_X4_multiplyAll_K58 (x_1 : Int) (g2 : Int → zMem → Option zMem) (μ_3 : zMem) : Option zMem :=
  zlet (zw (x_1 + 1)) fun x_4 =>
  g2 x_4 μ_3
def f_X4_multiplyAll_L12 (t0 : Int) (x_1 : Int) (g58 : zMem → Option zMem) : Nat → Int → zMem → Option zMem
  | 0, _, _ => none
  | n + 1, x_5, μ_6 =>
    if x_5 < (μ_6 t0 1) then
      bnd (f_X4_numberOf t0 x_1 x_5 μ_6) fun x_7 =>
      chk ((0 : Int) ≤ (zw ((zw (x_1 * (μ_6 t0 1))) + x_5)) ∧ (zw ((zw (x_1 * (μ_6 t0 1))) + x_5)) < zlen (t0 + 2)) <|
      zlet (zup μ_6 (t0 + 2) (zw ((zw (x_1 * (μ_6 t0 1))) + x_5)) x_7) fun μ_8 =>
      if x_7 = 0 then
        chk ((0 : Int) ≤ x_1 ∧ x_1 < zlen (t0 + 3)) <|
        zlet (zup μ_8 (t0 + 3) x_1 x_5) fun μ_10 =>
        zlet (zw (x_5 + 1)) fun x_11 =>
        (f_X4_multiplyAll_L12 t0 x_1 g58 n) x_11 μ_10
      else
        zlet (zw (x_5 + 1)) fun x_9 =>
        (f_X4_multiplyAll_L12 t0 x_1 g58 n) x_9 μ_8
    else
      g58 μ_6
def f_X4_multiplyAll_L2 (t0 : Int) : Nat → Int → zMem → Option zMem
  | 0, _, _ => none
  | n + 1, x_1, μ_2 =>
    if x_1 < (μ_2 t0 1) then
      (f_X4_multiplyAll_L12 t0 x_1 (f_X4_multiplyAll_K58 x_1 (f_X4_multiplyAll_L2 t0 n))) zfu 0 μ_2
    else
      some μ_2
def f_X4_multiplyAll (t0 : Int) (μ : zMem) : Option zMem :=
  (f_X4_multiplyAll_L2 t0) zfu 0 μ
set_option maxHeartbeats 4000000 in
set_option maxRecDepth 100000 in
theorem M_X4_multiplyAll {l : Launch} {Ω : zO} (μ : zMem) (t0 : Int) {μ' : zMem} (o_t0 : zob Ω.2.2.1 4 t0) (h : f_X4_multiplyAll t0 μ = some μ') : XMet l yX4_multiplyAll cX4_multiplyAll 4 none 2 Ω [zR Ω t0] μ none True μ' := by
  refine XMet.ofV (by decide) (Nat.le_of_ble_eq_true rfl) ?_
  intro p e s m args below meth c ls Q C rt X hl
  have C : zC p s m args c cX4_multiplyAll RX4 4 Ω := C
  have hl : lv_has ls 4 [(0, zR Ω t0)] := hl
  unfold f_X4_multiplyAll at h
  skip
  refine z_iconst C dX4_multiplyAll_0 ?_
  refine lv_istore_n C.1 C.2.1 (lv' := [(1, zI 0), (0, zR Ω t0)]) dX4_multiplyAll_1 rfl hl (by decide) rfl (fun ls hl => ?_)
  have L2 : ∀ (n2 : Nat) (x_1 : Int) (μ_2 : zMem) (H : Heap) (locs : List Loc) (ls : Array Slot), Rg x_1 → zX Ω μ_2 (zfree Ω) s.heap H locs → lv_has ls 4 [(0, zR Ω t0), (1, zI x_1)] → (f_X4_multiplyAll_L2 t0 n2 x_1 μ_2) = some μ' → W p l e (zrm 2) s m args below meth c H locs 0 0 Q (F0 m 2 ls []) := by
    intro n2
    induction n2 with
    | zero =>
      intro x_1 μ_2 H locs ls _ _ _ h
      cases h
    | succ n2 ih2 =>
      intro x_1 μ_2 H locs ls gx_1 X hl h
      unfold f_X4_multiplyAll_L2 at h
      refine lv_iload_n C.1 C.2.1 dX4_multiplyAll_2 rfl (lv_at hl 1 rfl) ?_
      refine lv_aload_n C.1 C.2.1 dX4_multiplyAll_3 rfl (lv_at hl 0 rfl) ?_
      have g_4 : Rg (μ_2 t0 1) := zrgf0 (ci := 4) X.2.2.2 (zob.self o_t0) (zo4 o_t0) 1 rfl
      refine z_get C X zk4 (zob.self o_t0) (zo4 o_t0) 1 (by decide) kw_373 (zI (μ_2 t0 1)) rfl dX4_multiplyAll_4 ?_
      refine z_icmpge C gx_1 g_4 (tgt := 64) dX4_multiplyAll_7 (by decide) (fun hc7 => ?_) (fun hc7 => ?_)
      · rw [if_neg hc7] at h
        obtain rfl := Option.some.inj h
        exact rt X dX4_multiplyAll_64
      · rw [if_pos hc7] at h
        refine z_iconst C dX4_multiplyAll_10 ?_
        refine lv_istore_n C.1 C.2.1 (lv' := [(2, zI 0), (0, zR Ω t0), (1, zI x_1)]) dX4_multiplyAll_11 rfl hl (by decide) rfl (fun ls hl => ?_)
        have K58 : ∀ (μ_3 : zMem) (H : Heap) (locs : List Loc) (ls : Array Slot), zX Ω μ_3 (zfree Ω) s.heap H locs → lv_has ls 4 [(0, zR Ω t0), (1, zI x_1)] → (f_X4_multiplyAll_K58 x_1 (f_X4_multiplyAll_L2 t0 n2)) μ_3 = some μ' → W p l e (zrm 2) s m args below meth c H locs 0 0 Q (F0 m 58 ls []) := by
          intro μ_3 H locs ls  X hl h
          unfold f_X4_multiplyAll_K58 at h
          refine zlet_elim h (fun x_4 ex_4 h => ?_)
          have gx_4 : Rg x_4 := by rw [ex_4]; exact Rg.w _
          refine z_iinc C ex_4 dX4_multiplyAll_58 hl (k := 1) rfl (by decide) (lv' := [(1, zI x_4), (0, zR Ω t0)]) rfl (fun ls hl => ?_)
          clear ex_4
          refine lv_goto (tgt := 2) C.1 C.2.1 dX4_multiplyAll_61 (by decide) ?_
          exact ih2 x_4 μ_3 _ _ _ gx_4 X (lv_sub hl [1, 0] rfl) h
        have L12 : ∀ (n12 : Nat) (x_5 : Int) (μ_6 : zMem) (H : Heap) (locs : List Loc) (ls : Array Slot), Rg x_5 → zX Ω μ_6 (zfree Ω) s.heap H locs → lv_has ls 4 [(0, zR Ω t0), (1, zI x_1), (2, zI x_5)] → (f_X4_multiplyAll_L12 t0 x_1 (f_X4_multiplyAll_K58 x_1 (f_X4_multiplyAll_L2 t0 n2)) n12 x_5 μ_6) = some μ' → W p l e (zrm 2) s m args below meth c H locs 0 0 Q (F0 m 12 ls []) := by
          intro n12
          induction n12 with
          | zero =>
            intro x_5 μ_6 H locs ls _ _ _ h
            cases h
          | succ n12 ih12 =>
            intro x_5 μ_6 H locs ls gx_5 X hl h
            unfold f_X4_multiplyAll_L12 at h
            refine lv_iload_n C.1 C.2.1 dX4_multiplyAll_12 rfl (lv_at hl 2 rfl) ?_
            refine lv_aload_n C.1 C.2.1 dX4_multiplyAll_13 rfl (lv_at hl 0 rfl) ?_
            have g_14 : Rg (μ_6 t0 1) := zrgf0 (ci := 4) X.2.2.2 (zob.self o_t0) (zo4 o_t0) 1 rfl
            refine z_get C X zk4 (zob.self o_t0) (zo4 o_t0) 1 (by decide) kw_373 (zI (μ_6 t0 1)) rfl dX4_multiplyAll_14 ?_
            refine z_icmpge C gx_5 g_14 (tgt := 58) dX4_multiplyAll_17 (by decide) (fun hc17 => ?_) (fun hc17 => ?_)
            · rw [if_neg hc17] at h
              exact K58 μ_6 _ _ _ X (lv_sub hl [0, 1] rfl) h
            · rw [if_pos hc17] at h
              refine lv_aload_n C.1 C.2.1 dX4_multiplyAll_20 rfl (lv_at hl 0 rfl) ?_
              refine lv_iload_n C.1 C.2.1 dX4_multiplyAll_21 rfl (lv_at hl 1 rfl) ?_
              refine lv_iload_n C.1 C.2.1 dX4_multiplyAll_22 rfl (lv_at hl 2 rfl) ?_
              obtain ⟨x_7, hq23, h⟩ := bnd_some h
              refine z_callV1 C X zk4 (zob.self o_t0) (zo4 o_t0) (As := [zI x_1, zI x_5]) (M_X4_numberOf μ_6 t0 x_1 x_5 o_t0 gx_1 gx_5 hq23) zc_X4_numberOf kw_361 (zroom (by decide) (by decide)) rfl hl.1 rfl (Nat.le_of_ble_eq_true rfl) dX4_multiplyAll_23 ⟨Nat.zero_le _, Nat.zero_le _⟩ (fun H locs g_23 X => ?_)
              refine lv_istore_n C.1 C.2.1 (lv' := [(3, zI x_7), (0, zR Ω t0), (1, zI x_1), (2, zI x_5)]) dX4_multiplyAll_26 rfl hl (by decide) rfl (fun ls hl => ?_)
              refine lv_aload_n C.1 C.2.1 dX4_multiplyAll_27 rfl (lv_at hl 1 rfl) ?_
              refine z_get C X zk4 (zob.self o_t0) (zo4 o_t0) 3 (by decide) kw_376 (zR Ω (t0 + 2)) (zfvF (off := 2) X.2.2.2 (zob.self o_t0) o_t0.2.2 (zo4 o_t0) rfl (by rw [zo4_2 o_t0]; decide)) dX4_multiplyAll_28 ?_
              refine lv_iload_n C.1 C.2.1 dX4_multiplyAll_31 rfl (lv_at hl 2 rfl) ?_
              refine lv_aload_n C.1 C.2.1 dX4_multiplyAll_32 rfl (lv_at hl 1 rfl) ?_
              have g_33 : Rg (μ_6 t0 1) := zrgf0 (ci := 4) X.2.2.2 (zob.self o_t0) (zo4 o_t0) 1 rfl
              refine z_get C X zk4 (zob.self o_t0) (zo4 o_t0) 1 (by decide) kw_373 (zI (μ_6 t0 1)) rfl dX4_multiplyAll_33 ?_
              refine z_imul C dX4_multiplyAll_36 ?_
              refine lv_iload_n C.1 C.2.1 dX4_multiplyAll_37 rfl (lv_at hl 3 rfl) ?_
              refine z_iadd C dX4_multiplyAll_38 ?_
              refine lv_iload_n C.1 C.2.1 dX4_multiplyAll_39 rfl (lv_at hl 0 rfl) ?_
              obtain ⟨hc40, h⟩ := chk_some h
              refine zlet_elim h (fun μ_8 em h => ?_)
              refine z_iast C X (o_t0.2.1 2 (by decide) (by decide)) (zo4_2 o_t0) hc40 (zok1 (zo4_2 o_t0) g_23) em dX4_multiplyAll_40 (fun H locs X => ?_)
              clear em
              refine lv_iload_n C.1 C.2.1 dX4_multiplyAll_41 rfl (lv_at hl 0 rfl) ?_
              refine z_ifne C g_23 (tgt := 52) dX4_multiplyAll_42 (by decide) (fun hc42 => ?_) (fun hc42 => ?_)
              · rw [if_neg hc42] at h
                refine zlet_elim h (fun x_9 ex_9 h => ?_)
                have gx_9 : Rg x_9 := by rw [ex_9]; exact Rg.w _
                refine z_iinc C ex_9 dX4_multiplyAll_52 hl (k := 3) rfl (by decide) (lv' := [(2, zI x_9), (3, zI x_7), (0, zR Ω t0), (1, zI x_1)]) rfl (fun ls hl => ?_)
                clear ex_9
                refine lv_goto (tgt := 12) C.1 C.2.1 dX4_multiplyAll_55 (by decide) ?_
                exact ih12 x_9 μ_8 _ _ _ gx_9 X (lv_sub hl [2, 3, 0] rfl) h
              · rw [if_pos hc42] at h
                refine lv_aload_n C.1 C.2.1 dX4_multiplyAll_45 rfl (lv_at hl 1 rfl) ?_
                refine z_get C X zk4 (zob.self o_t0) (zo4 o_t0) 4 (by decide) kw_377 (zR Ω (t0 + 3)) (zfvF (off := 3) X.2.2.2 (zob.self o_t0) o_t0.2.2 (zo4 o_t0) rfl (by rw [zo4_3 o_t0]; decide)) dX4_multiplyAll_46 ?_
                refine lv_iload_n C.1 C.2.1 dX4_multiplyAll_49 rfl (lv_at hl 2 rfl) ?_
                refine lv_iload_n C.1 C.2.1 dX4_multiplyAll_50 rfl (lv_at hl 3 rfl) ?_
                obtain ⟨hc51, h⟩ := chk_some h
                refine zlet_elim h (fun μ_10 em h => ?_)
                refine z_iast C X (o_t0.2.1 3 (by decide) (by decide)) (zo4_3 o_t0) hc51 (zok1 (zo4_3 o_t0) gx_5) em dX4_multiplyAll_51 (fun H locs X => ?_)
                clear em
                refine zlet_elim h (fun x_11 ex_11 h => ?_)
                have gx_11 : Rg x_11 := by rw [ex_11]; exact Rg.w _
                refine z_iinc C ex_11 dX4_multiplyAll_52 hl (k := 3) rfl (by decide) (lv' := [(2, zI x_11), (3, zI x_7), (0, zR Ω t0), (1, zI x_1)]) rfl (fun ls hl => ?_)
                clear ex_11
                refine lv_goto (tgt := 12) C.1 C.2.1 dX4_multiplyAll_55 (by decide) ?_
                exact ih12 x_11 μ_10 _ _ _ gx_11 X (lv_sub hl [2, 3, 0] rfl) h
        exact L12 zfu 0 μ_2 _ _ _ ⟨by decide, by decide⟩ X (lv_sub hl [1, 2, 0] rfl) h
  exact L2 zfu 0 μ _ _ _ ⟨by decide, by decide⟩ X (lv_sub hl [1, 0] rfl) h
theorem zc_X4_multiplyAll : zcal yX4_multiplyAll cX4_multiplyAll 4 none RX4 0 := ⟨⟨kw_360, kw_359, kp_2, kw_11⟩, rfl, by decide, by decide, by decide +kernel⟩

def f_X4_follow (t0 : Int) (x1 : Int) (x2 : Int) (μ : zMem) : Option Int :=
  chk ((0 : Int) ≤ (zw ((zw (x1 * (μ t0 1))) + x2)) ∧ (zw ((zw (x1 * (μ t0 1))) + x2)) < zlen (t0 + 2)) <|
  some (μ (t0 + 2) (zw ((zw (x1 * (μ t0 1))) + x2)))
set_option maxHeartbeats 4000000 in
set_option maxRecDepth 100000 in
theorem M_X4_follow {l : Launch} {Ω : zO} (μ : zMem) (t0 : Int) (x1 : Int) (x2 : Int) {r : Int} (o_t0 : zob Ω.2.2.1 4 t0) (gx1 : Rg x1) (gx2 : Rg x2) (h : f_X4_follow t0 x1 x2 μ = some r) : XMet l yX4_follow cX4_follow 3 (some Jvm.ClassFile.FieldType.int) 0 Ω [zR Ω t0, zI x1, zI x2] μ (some (zI r)) (Rg r) μ := by
  refine XMet.ofI (by decide) (Nat.le_of_ble_eq_true rfl) ?_
  intro p e s m args below meth c ls Q C rt X hl
  have C : zC p s m args c cX4_follow RX4 3 Ω := C
  have hl : lv_has ls 3 [(0, zR Ω t0), (1, zI x1), (2, zI x2)] := hl
  unfold f_X4_follow at h
  skip
  refine lv_aload_n C.1 C.2.1 dX4_follow_0 rfl (lv_at hl 0 rfl) ?_
  refine z_get C X zk4 (zob.self o_t0) (zo4 o_t0) 3 (by decide) kw_376 (zR Ω (t0 + 2)) (zfvF (off := 2) X.2.2.2 (zob.self o_t0) o_t0.2.2 (zo4 o_t0) rfl (by rw [zo4_2 o_t0]; decide)) dX4_follow_1 ?_
  refine lv_iload_n C.1 C.2.1 dX4_follow_4 rfl (lv_at hl 1 rfl) ?_
  refine lv_aload_n C.1 C.2.1 dX4_follow_5 rfl (lv_at hl 0 rfl) ?_
  have g_6 : Rg (μ t0 1) := zrgf0 (ci := 4) X.2.2.2 (zob.self o_t0) (zo4 o_t0) 1 rfl
  refine z_get C X zk4 (zob.self o_t0) (zo4 o_t0) 1 (by decide) kw_373 (zI (μ t0 1)) rfl dX4_follow_6 ?_
  refine z_imul C dX4_follow_9 ?_
  refine lv_iload_n C.1 C.2.1 dX4_follow_10 rfl (lv_at hl 2 rfl) ?_
  refine z_iadd C dX4_follow_11 ?_
  obtain ⟨hc12, h⟩ := chk_some h
  have g_12 : Rg (μ (t0 + 2) (zw ((zw (x1 * (μ t0 1))) + x2))) := zrg1 X.2.2.2 (o_t0.2.1 2 (by decide) (by decide)) (zo4_2 o_t0)
  refine z_iald C X (o_t0.2.1 2 (by decide) (by decide)) (zo4_2 o_t0) hc12 dX4_follow_12 ?_
  obtain rfl := Option.some.inj h
  exact rt X g_12 dX4_follow_13
theorem zc_X4_follow : zcal yX4_follow cX4_follow 3 (some Jvm.ClassFile.FieldType.int) RX4 2 := ⟨⟨kw_739, kw_737, kw_738, kw_11⟩, rfl, by decide, by decide, by decide +kernel⟩

def f_X4_renumber (t0 : Int) (x1 : Int) (x2 : Int) (μ : zMem) : Option Int :=
  bnd (f_X4_back t0 x2 μ) fun x_1 =>
  bnd (f_X4_follow t0 x_1 x1 μ) fun x_2 =>
  bnd (f_X4_follow t0 x_2 x2 μ) fun x_3 =>
  some x_3
set_option maxHeartbeats 4000000 in
set_option maxRecDepth 100000 in
theorem M_X4_renumber {l : Launch} {Ω : zO} (μ : zMem) (t0 : Int) (x1 : Int) (x2 : Int) {r : Int} (o_t0 : zob Ω.2.2.1 4 t0) (gx1 : Rg x1) (gx2 : Rg x2) (h : f_X4_renumber t0 x1 x2 μ = some r) : XMet l yX4_renumber cX4_renumber 3 (some Jvm.ClassFile.FieldType.int) 1 Ω [zR Ω t0, zI x1, zI x2] μ (some (zI r)) (Rg r) μ := by
  refine XMet.ofI (by decide) (Nat.le_of_ble_eq_true rfl) ?_
  intro p e s m args below meth c ls Q C rt X hl
  have C : zC p s m args c cX4_renumber RX4 3 Ω := C
  have hl : lv_has ls 3 [(0, zR Ω t0), (1, zI x1), (2, zI x2)] := hl
  unfold f_X4_renumber at h
  skip
  refine lv_aload_n C.1 C.2.1 dX4_renumber_0 rfl (lv_at hl 0 rfl) ?_
  refine lv_aload_n C.1 C.2.1 dX4_renumber_1 rfl (lv_at hl 0 rfl) ?_
  refine lv_aload_n C.1 C.2.1 dX4_renumber_2 rfl (lv_at hl 0 rfl) ?_
  refine lv_iload_n C.1 C.2.1 dX4_renumber_3 rfl (lv_at hl 2 rfl) ?_
  obtain ⟨x_1, hq4, h⟩ := bnd_some h
  refine z_callV1 C X zk4 (zob.self o_t0) (zo4 o_t0) (As := [zI x2]) (M_X4_back μ t0 x2 o_t0 gx2 hq4) zc_X4_back kw_748 (zroom (by decide) (by decide)) rfl hl.1 rfl (Nat.le_of_ble_eq_true rfl) dX4_renumber_4 ⟨Nat.zero_le _, Nat.zero_le _⟩ (fun H locs g_4 X => ?_)
  refine lv_iload_n C.1 C.2.1 dX4_renumber_7 rfl (lv_at hl 1 rfl) ?_
  obtain ⟨x_2, hq8, h⟩ := bnd_some h
  refine z_callV1 C X zk4 (zob.self o_t0) (zo4 o_t0) (As := [zI x_1, zI x1]) (M_X4_follow μ t0 x_1 x1 o_t0 g_4 gx1 hq8) zc_X4_follow kw_749 (zroom (by decide) (by decide)) rfl hl.1 rfl (Nat.le_of_ble_eq_true rfl) dX4_renumber_8 ⟨Nat.zero_le _, Nat.zero_le _⟩ (fun H locs g_8 X => ?_)
  refine lv_iload_n C.1 C.2.1 dX4_renumber_11 rfl (lv_at hl 2 rfl) ?_
  obtain ⟨x_3, hq12, h⟩ := bnd_some h
  refine z_callV1 C X zk4 (zob.self o_t0) (zo4 o_t0) (As := [zI x_2, zI x2]) (M_X4_follow μ t0 x_2 x2 o_t0 g_8 gx2 hq12) zc_X4_follow kw_749 (zroom (by decide) (by decide)) rfl hl.1 rfl (Nat.le_of_ble_eq_true rfl) dX4_renumber_12 ⟨Nat.zero_le _, Nat.zero_le _⟩ (fun H locs g_12 X => ?_)
  obtain rfl := Option.some.inj h
  exact rt X g_12 dX4_renumber_15
theorem zc_X4_renumber : zcal yX4_renumber cX4_renumber 3 (some Jvm.ClassFile.FieldType.int) RX4 2 := ⟨⟨kw_747, kw_745, kw_746, kw_11⟩, rfl, by decide, by decide, by decide +kernel⟩

def f_X5_hasCorner (t0 : Int) (x1 : Int) (μ : zMem) : Int :=
  if x1 < 0 then
    0
  else
    if x1 < (μ t0 6) then
      1
    else
      0
set_option maxHeartbeats 4000000 in
set_option maxRecDepth 100000 in
theorem M_X5_hasCorner {l : Launch} {Ω : zO} (μ : zMem) (t0 : Int) (x1 : Int) (o_t0 : zob Ω.2.2.1 5 t0) (gx1 : Rg x1) : XMet l yX5_hasCorner cX5_hasCorner 2 (some Jvm.ClassFile.FieldType.boolean) 0 Ω [zR Ω t0, zI x1] μ (some (zI (f_X5_hasCorner t0 x1 μ))) (0 ≤ (f_X5_hasCorner t0 x1 μ) ∧ (f_X5_hasCorner t0 x1 μ) ≤ 1) μ := by
  obtain ⟨r, h⟩ : ∃ r, f_X5_hasCorner t0 x1 μ = r := ⟨_, rfl⟩
  rw [h]
  refine XMet.ofZ (by decide) (Nat.le_of_ble_eq_true rfl) ?_
  intro p e s m args below meth c ls Q C rt X hl
  have C : zC p s m args c cX5_hasCorner RX5 2 Ω := C
  have hl : lv_has ls 2 [(0, zR Ω t0), (1, zI x1)] := hl
  unfold f_X5_hasCorner at h
  skip
  refine lv_iload_n C.1 C.2.1 dX5_hasCorner_0 rfl (lv_at hl 1 rfl) ?_
  refine z_iflt C gx1 (tgt := 16) dX5_hasCorner_1 (by decide) (fun hc1 => ?_) (fun hc1 => ?_)
  · rw [if_pos hc1] at h
    refine z_iconst C dX5_hasCorner_16 ?_
    subst h
    exact rt X ⟨by decide, by decide⟩ dX5_hasCorner_17
  · rw [if_neg hc1] at h
    refine lv_iload_n C.1 C.2.1 dX5_hasCorner_4 rfl (lv_at hl 1 rfl) ?_
    refine lv_aload_n C.1 C.2.1 dX5_hasCorner_5 rfl (lv_at hl 0 rfl) ?_
    have g_6 : Rg (μ t0 6) := zrgf0 (ci := 5) X.2.2.2 (zob.self o_t0) (zo5 o_t0) 6 rfl
    refine z_get C X zk5 (zob.self o_t0) (zo5 o_t0) 6 (by decide) kw_78 (zI (μ t0 6)) rfl dX5_hasCorner_6 ?_
    refine z_icmpge C gx1 g_6 (tgt := 16) dX5_hasCorner_9 (by decide) (fun hc9 => ?_) (fun hc9 => ?_)
    · rw [if_neg hc9] at h
      refine z_iconst C dX5_hasCorner_16 ?_
      subst h
      exact rt X ⟨by decide, by decide⟩ dX5_hasCorner_17
    · rw [if_pos hc9] at h
      refine z_iconst C dX5_hasCorner_12 ?_
      refine lv_goto (tgt := 17) C.1 C.2.1 dX5_hasCorner_13 (by decide) ?_
      subst h
      exact rt X ⟨by decide, by decide⟩ dX5_hasCorner_17
theorem zc_X5_hasCorner : zcal yX5_hasCorner cX5_hasCorner 2 (some Jvm.ClassFile.FieldType.boolean) RX5 1 := ⟨⟨kw_443, kw_441, kw_442, kw_3⟩, rfl, by decide, by decide, by decide +kernel⟩

def f_X5_isClass_K48 (x_1 : Int) (g2 : Int → Option Int) (x_2 : Int) : Option Int :=
  if x_2 = 1 then
    some 0
  else
    zlet (zw (x_1 + 1)) fun x_3 =>
    g2 x_3
def f_X5_isClass_L15 (t0 : Int) (x1 : Int) (μ : zMem) (x_1 : Int) (g48 : Int → Option Int) : Nat → Int → Int → Option Int
  | 0, _, _ => none
  | n + 1, x_4, x_5 =>
    chk ((0 : Int) ≤ x_1 ∧ x_1 < zlen (t0 + 6)) <|
    if x_5 < (μ (t0 + 6) x_1) then
      bnd (f_X5_rimStep t0 x_1 x_5 μ) fun x_6 =>
      zlet ((zxor x_4 (zand (zshr x1 (zshr x_6 1)) 1))) fun x_7 =>
      zlet (zw (x_5 + 1)) fun x_8 =>
      (f_X5_isClass_L15 t0 x1 μ x_1 g48 n) x_7 x_8
    else
      g48 x_4
def f_X5_isClass_L2 (t0 : Int) (x1 : Int) (μ : zMem) : Nat → Int → Option Int
  | 0, _ => none
  | n + 1, x_1 =>
    if x_1 < (μ t0 8) then
      (f_X5_isClass_L15 t0 x1 μ x_1 (f_X5_isClass_K48 x_1 (f_X5_isClass_L2 t0 x1 μ n))) zfu 0 0
    else
      some 1
def f_X5_isClass (t0 : Int) (x1 : Int) (μ : zMem) : Option Int :=
  (f_X5_isClass_L2 t0 x1 μ) zfu 0
set_option maxHeartbeats 4000000 in
set_option maxRecDepth 100000 in
theorem M_X5_isClass {l : Launch} {Ω : zO} (μ : zMem) (t0 : Int) (x1 : Int) {r : Int} (o_t0 : zob Ω.2.2.1 5 t0) (gx1 : Rg x1) (h : f_X5_isClass t0 x1 μ = some r) : XMet l yX5_isClass cX5_isClass 5 (some Jvm.ClassFile.FieldType.boolean) 1 Ω [zR Ω t0, zI x1] μ (some (zI r)) (0 ≤ r ∧ r ≤ 1) μ := by
  refine XMet.ofZ (by decide) (Nat.le_of_ble_eq_true rfl) ?_
  intro p e s m args below meth c ls Q C rt X hl
  have C : zC p s m args c cX5_isClass RX5 5 Ω := C
  have hl : lv_has ls 5 [(0, zR Ω t0), (1, zI x1)] := hl
  unfold f_X5_isClass at h
  skip
  refine z_iconst C dX5_isClass_0 ?_
  refine lv_istore_n C.1 C.2.1 (lv' := [(2, zI 0), (0, zR Ω t0), (1, zI x1)]) dX5_isClass_1 rfl hl (by decide) rfl (fun ls hl => ?_)
  have L2 : ∀ (n2 : Nat) (x_1 : Int) (H : Heap) (locs : List Loc) (ls : Array Slot), Rg x_1 → zX Ω μ (zfree Ω) s.heap H locs → lv_has ls 5 [(0, zR Ω t0), (1, zI x1), (2, zI x_1)] → (f_X5_isClass_L2 t0 x1 μ n2 x_1) = some r → W p l e (zrm 1) s m args below meth c H locs 0 0 Q (F0 m 2 ls []) := by
    intro n2
    induction n2 with
    | zero =>
      intro x_1 H locs ls _ _ _ h
      cases h
    | succ n2 ih2 =>
      intro x_1 H locs ls gx_1 X hl h
      unfold f_X5_isClass_L2 at h
      refine lv_iload_n C.1 C.2.1 dX5_isClass_2 rfl (lv_at hl 2 rfl) ?_
      refine lv_aload_n C.1 C.2.1 dX5_isClass_3 rfl (lv_at hl 0 rfl) ?_
      have g_4 : Rg (μ t0 8) := zrgf0 (ci := 5) X.2.2.2 (zob.self o_t0) (zo5 o_t0) 8 rfl
      refine z_get C X zk5 (zob.self o_t0) (zo5 o_t0) 8 (by decide) kw_87 (zI (μ t0 8)) rfl dX5_isClass_4 ?_
      refine z_icmpge C gx_1 g_4 (tgt := 61) dX5_isClass_7 (by decide) (fun hc7 => ?_) (fun hc7 => ?_)
      · rw [if_neg hc7] at h
        refine z_iconst C dX5_isClass_61 ?_
        obtain rfl := Option.some.inj h
        exact rt X ⟨by decide, by decide⟩ dX5_isClass_62
      · rw [if_pos hc7] at h
        refine z_iconst C dX5_isClass_10 ?_
        refine lv_istore_n C.1 C.2.1 (lv' := [(3, zI 0), (0, zR Ω t0), (1, zI x1), (2, zI x_1)]) dX5_isClass_11 rfl hl (by decide) rfl (fun ls hl => ?_)
        refine z_iconst C dX5_isClass_12 ?_
        refine lv_istore C.1 C.2.1 (lv' := [(4, zI 0), (3, zI 0), (0, zR Ω t0), (1, zI x1), (2, zI x_1)]) dX5_isClass_13 hl (by decide) rfl (fun ls hl => ?_)
        have K48 : ∀ (x_2 : Int) (H : Heap) (locs : List Loc) (ls : Array Slot), Rg x_2 → zX Ω μ (zfree Ω) s.heap H locs → lv_has ls 5 [(0, zR Ω t0), (1, zI x1), (2, zI x_1), (3, zI x_2)] → (f_X5_isClass_K48 x_1 (f_X5_isClass_L2 t0 x1 μ n2)) x_2 = some r → W p l e (zrm 1) s m args below meth c H locs 0 0 Q (F0 m 48 ls []) := by
          intro x_2 H locs ls gx_2 X hl h
          unfold f_X5_isClass_K48 at h
          refine lv_iload_n C.1 C.2.1 dX5_isClass_48 rfl (lv_at hl 3 rfl) ?_
          refine z_iconst C dX5_isClass_49 ?_
          refine z_icmpne C gx_2 ⟨by decide, by decide⟩ (tgt := 55) dX5_isClass_50 (by decide) (fun hc50 => ?_) (fun hc50 => ?_)
          · rw [if_neg hc50] at h
            refine zlet_elim h (fun x_3 ex_3 h => ?_)
            have gx_3 : Rg x_3 := by rw [ex_3]; exact Rg.w _
            refine z_iinc C ex_3 dX5_isClass_55 hl (k := 2) rfl (by decide) (lv' := [(2, zI x_3), (0, zR Ω t0), (1, zI x1), (3, zI x_2)]) rfl (fun ls hl => ?_)
            clear ex_3
            refine lv_goto (tgt := 2) C.1 C.2.1 dX5_isClass_58 (by decide) ?_
            exact ih2 x_3 _ _ _ gx_3 X (lv_sub hl [1, 2, 0] rfl) h
          · rw [if_pos hc50] at h
            refine z_iconst C dX5_isClass_53 ?_
            obtain rfl := Option.some.inj h
            exact rt X ⟨by decide, by decide⟩ dX5_isClass_54
        have L15 : ∀ (n15 : Nat) (x_4 : Int) (x_5 : Int) (H : Heap) (locs : List Loc) (ls : Array Slot), Rg x_4 → Rg x_5 → zX Ω μ (zfree Ω) s.heap H locs → lv_has ls 5 [(0, zR Ω t0), (1, zI x1), (2, zI x_1), (3, zI x_4), (4, zI x_5)] → (f_X5_isClass_L15 t0 x1 μ x_1 (f_X5_isClass_K48 x_1 (f_X5_isClass_L2 t0 x1 μ n2)) n15 x_4 x_5) = some r → W p l e (zrm 1) s m args below meth c H locs 0 0 Q (F0 m 15 ls []) := by
          intro n15
          induction n15 with
          | zero =>
            intro x_4 x_5 H locs ls _ _ _ _ h
            cases h
          | succ n15 ih15 =>
            intro x_4 x_5 H locs ls gx_4 gx_5 X hl h
            unfold f_X5_isClass_L15 at h
            refine lv_iload C.1 C.2.1 dX5_isClass_15 (lv_at hl 4 rfl) ?_
            refine lv_aload_n C.1 C.2.1 dX5_isClass_17 rfl (lv_at hl 0 rfl) ?_
            refine z_get C X zk5 (zob.self o_t0) (zo5 o_t0) 5 (by decide) kw_71 (zR Ω (t0 + 6)) (zfvF (off := 6) X.2.2.2 (zob.self o_t0) o_t0.2.2 (zo5 o_t0) rfl (by rw [zo5_6 o_t0]; decide)) dX5_isClass_18 ?_
            refine lv_iload_n C.1 C.2.1 dX5_isClass_21 rfl (lv_at hl 2 rfl) ?_
            obtain ⟨hc22, h⟩ := chk_some h
            have g_22 : Rg (μ (t0 + 6) x_1) := zrg1 X.2.2.2 (o_t0.2.1 6 (by decide) (by decide)) (zo5_6 o_t0)
            refine z_iald C X (o_t0.2.1 6 (by decide) (by decide)) (zo5_6 o_t0) hc22 dX5_isClass_22 ?_
            refine z_icmpge C gx_5 g_22 (tgt := 48) dX5_isClass_23 (by decide) (fun hc23 => ?_) (fun hc23 => ?_)
            · rw [if_neg hc23] at h
              exact K48 x_4 _ _ _ gx_4 X (lv_sub hl [0, 1, 2, 3] rfl) h
            · rw [if_pos hc23] at h
              refine lv_iload_n C.1 C.2.1 dX5_isClass_26 rfl (lv_at hl 3 rfl) ?_
              refine lv_iload_n C.1 C.2.1 dX5_isClass_27 rfl (lv_at hl 1 rfl) ?_
              refine lv_aload_n C.1 C.2.1 dX5_isClass_28 rfl (lv_at hl 0 rfl) ?_
              refine lv_iload_n C.1 C.2.1 dX5_isClass_29 rfl (lv_at hl 2 rfl) ?_
              refine lv_iload C.1 C.2.1 dX5_isClass_30 (lv_at hl 4 rfl) ?_
              obtain ⟨x_6, hq32, h⟩ := bnd_some h
              refine z_callV1 C X zk5 (zob.self o_t0) (zo5 o_t0) (As := [zI x_1, zI x_5]) (M_X5_rimStep μ t0 x_1 x_5 o_t0 gx_1 gx_5 hq32) zc_X5_rimStep kw_709 (zroom (by decide) (by decide)) rfl hl.1 rfl (Nat.le_of_ble_eq_true rfl) dX5_isClass_32 ⟨Nat.zero_le _, Nat.zero_le _⟩ (fun H locs g_32 X => ?_)
              refine z_iconst C dX5_isClass_35 ?_
              refine z_ishr C dX5_isClass_36 ?_
              refine z_ishr C dX5_isClass_37 ?_
              refine z_iconst C dX5_isClass_38 ?_
              refine z_iand C dX5_isClass_39 ?_
              refine z_ixor C dX5_isClass_40 ?_
              refine zlet_elim h (fun x_7 ex_7 h => ?_)
              have gx_7 : Rg x_7 := by rw [ex_7]; exact (Rg.t _)
              refine z_istore_n C ex_7 dX5_isClass_41 rfl hl (by decide) (lv' := [(3, zI x_7), (0, zR Ω t0), (1, zI x1), (2, zI x_1), (4, zI x_5)]) rfl (fun ls hl => ?_)
              clear ex_7
              refine zlet_elim h (fun x_8 ex_8 h => ?_)
              have gx_8 : Rg x_8 := by rw [ex_8]; exact Rg.w _
              refine z_iinc C ex_8 dX5_isClass_42 hl (k := 4) rfl (by decide) (lv' := [(4, zI x_8), (3, zI x_7), (0, zR Ω t0), (1, zI x1), (2, zI x_1)]) rfl (fun ls hl => ?_)
              clear ex_8
              refine lv_goto (tgt := 15) C.1 C.2.1 dX5_isClass_45 (by decide) ?_
              exact ih15 x_7 x_8 _ _ _ gx_7 gx_8 X (lv_sub hl [2, 3, 4, 1, 0] rfl) h
        exact L15 zfu 0 0 _ _ _ ⟨by decide, by decide⟩ ⟨by decide, by decide⟩ X (lv_sub hl [2, 3, 4, 1, 0] rfl) h
  exact L2 zfu 0 _ _ _ ⟨by decide, by decide⟩ X (lv_sub hl [1, 2, 0] rfl) h
theorem zc_X5_isClass : zcal yX5_isClass cX5_isClass 5 (some Jvm.ClassFile.FieldType.boolean) RX5 1 := ⟨⟨kw_939, kw_937, kw_938, kw_3⟩, rfl, by decide, by decide, by decide +kernel⟩

def f_X5_multiply_L9 (t0 : Int) (x1 : Int) (x2 : Int) (x3 : Int) (μ : zMem) : Nat → Int → Int → Int → Option Int
  | 0, _, _, _ => none
  | n + 1, x_1, x_2, x_3 =>
    chk ((0 : Int) ≤ x1 ∧ x1 < zlen (t0 + 6)) <|
    if x_3 < (μ (t0 + 6) x1) then
      bnd (f_X5_rimStep t0 x1 x_3 μ) fun x_4 =>
      zlet ((zand (zshr x2 (zshr x_4 1)) 1)) fun x_5 =>
      zlet ((zand (zshr x3 (zshr x_4 1)) 1)) fun x_6 =>
      zlet ((zxor x_2 (zxor (zand x_1 x_6) (zand (zand x_4 x_5) x_6)))) fun x_7 =>
      zlet ((zxor x_1 x_5)) fun x_8 =>
      zlet (zw (x_3 + 1)) fun x_9 =>
      (f_X5_multiply_L9 t0 x1 x2 x3 μ n) x_8 x_7 x_9
    else
      some x_2
def f_X5_multiply (t0 : Int) (x1 : Int) (x2 : Int) (x3 : Int) (μ : zMem) : Option Int :=
  (f_X5_multiply_L9 t0 x1 x2 x3 μ) zfu 0 0 0
set_option maxHeartbeats 4000000 in
set_option maxRecDepth 100000 in
theorem M_X5_multiply {l : Launch} {Ω : zO} (μ : zMem) (t0 : Int) (x1 : Int) (x2 : Int) (x3 : Int) {r : Int} (o_t0 : zob Ω.2.2.1 5 t0) (gx1 : Rg x1) (gx2 : Rg x2) (gx3 : Rg x3) (h : f_X5_multiply t0 x1 x2 x3 μ = some r) : XMet l yX5_multiply cX5_multiply 10 (some Jvm.ClassFile.FieldType.int) 1 Ω [zR Ω t0, zI x1, zI x2, zI x3] μ (some (zI r)) (Rg r) μ := by
  refine XMet.ofI (by decide) (Nat.le_of_ble_eq_true rfl) ?_
  intro p e s m args below meth c ls Q C rt X hl
  have C : zC p s m args c cX5_multiply RX5 10 Ω := C
  have hl : lv_has ls 10 [(0, zR Ω t0), (1, zI x1), (2, zI x2), (3, zI x3)] := hl
  unfold f_X5_multiply at h
  skip
  refine z_iconst C dX5_multiply_0 ?_
  refine lv_istore C.1 C.2.1 (lv' := [(4, zI 0), (0, zR Ω t0), (1, zI x1), (2, zI x2), (3, zI x3)]) dX5_multiply_1 hl (by decide) rfl (fun ls hl => ?_)
  refine z_iconst C dX5_multiply_3 ?_
  refine lv_istore C.1 C.2.1 (lv' := [(5, zI 0), (4, zI 0), (0, zR Ω t0), (1, zI x1), (2, zI x2), (3, zI x3)]) dX5_multiply_4 hl (by decide) rfl (fun ls hl => ?_)
  refine z_iconst C dX5_multiply_6 ?_
  refine lv_istore C.1 C.2.1 (lv' := [(6, zI 0), (5, zI 0), (4, zI 0), (0, zR Ω t0), (1, zI x1), (2, zI x2), (3, zI x3)]) dX5_multiply_7 hl (by decide) rfl (fun ls hl => ?_)
  have L9 : ∀ (n9 : Nat) (x_1 : Int) (x_2 : Int) (x_3 : Int) (H : Heap) (locs : List Loc) (ls : Array Slot), Rg x_1 → Rg x_2 → Rg x_3 → zX Ω μ (zfree Ω) s.heap H locs → lv_has ls 10 [(0, zR Ω t0), (1, zI x1), (2, zI x2), (3, zI x3), (4, zI x_1), (5, zI x_2), (6, zI x_3)] → (f_X5_multiply_L9 t0 x1 x2 x3 μ n9 x_1 x_2 x_3) = some r → W p l e (zrm 1) s m args below meth c H locs 0 0 Q (F0 m 9 ls []) := by
    intro n9
    induction n9 with
    | zero =>
      intro x_1 x_2 x_3 H locs ls _ _ _ _ _ h
      cases h
    | succ n9 ih9 =>
      intro x_1 x_2 x_3 H locs ls gx_1 gx_2 gx_3 X hl h
      unfold f_X5_multiply_L9 at h
      refine lv_iload C.1 C.2.1 dX5_multiply_9 (lv_at hl 6 rfl) ?_
      refine lv_aload_n C.1 C.2.1 dX5_multiply_11 rfl (lv_at hl 0 rfl) ?_
      refine z_get C X zk5 (zob.self o_t0) (zo5 o_t0) 5 (by decide) kw_71 (zR Ω (t0 + 6)) (zfvF (off := 6) X.2.2.2 (zob.self o_t0) o_t0.2.2 (zo5 o_t0) rfl (by rw [zo5_6 o_t0]; decide)) dX5_multiply_12 ?_
      refine lv_iload_n C.1 C.2.1 dX5_multiply_15 rfl (lv_at hl 1 rfl) ?_
      obtain ⟨hc16, h⟩ := chk_some h
      have g_16 : Rg (μ (t0 + 6) x1) := zrg1 X.2.2.2 (o_t0.2.1 6 (by decide) (by decide)) (zo5_6 o_t0)
      refine z_iald C X (o_t0.2.1 6 (by decide) (by decide)) (zo5_6 o_t0) hc16 dX5_multiply_16 ?_
      refine z_icmpge C gx_3 g_16 (tgt := 81) dX5_multiply_17 (by decide) (fun hc17 => ?_) (fun hc17 => ?_)
      · rw [if_neg hc17] at h
        refine lv_iload C.1 C.2.1 dX5_multiply_81 (lv_at hl 5 rfl) ?_
        obtain rfl := Option.some.inj h
        exact rt X gx_2 dX5_multiply_83
      · rw [if_pos hc17] at h
        refine lv_aload_n C.1 C.2.1 dX5_multiply_20 rfl (lv_at hl 0 rfl) ?_
        refine lv_iload_n C.1 C.2.1 dX5_multiply_21 rfl (lv_at hl 1 rfl) ?_
        refine lv_iload C.1 C.2.1 dX5_multiply_22 (lv_at hl 6 rfl) ?_
        obtain ⟨x_4, hq24, h⟩ := bnd_some h
        refine z_callV1 C X zk5 (zob.self o_t0) (zo5 o_t0) (As := [zI x1, zI x_3]) (M_X5_rimStep μ t0 x1 x_3 o_t0 gx1 gx_3 hq24) zc_X5_rimStep kw_709 (zroom (by decide) (by decide)) rfl hl.1 rfl (Nat.le_of_ble_eq_true rfl) dX5_multiply_24 ⟨Nat.zero_le _, Nat.zero_le _⟩ (fun H locs g_24 X => ?_)
        refine lv_istore C.1 C.2.1 (lv' := [(7, zI x_4), (0, zR Ω t0), (1, zI x1), (2, zI x2), (3, zI x3), (4, zI x_1), (5, zI x_2), (6, zI x_3)]) dX5_multiply_27 hl (by decide) rfl (fun ls hl => ?_)
        refine lv_iload_n C.1 C.2.1 dX5_multiply_29 rfl (lv_at hl 3 rfl) ?_
        refine lv_iload C.1 C.2.1 dX5_multiply_30 (lv_at hl 0 rfl) ?_
        refine z_iconst C dX5_multiply_32 ?_
        refine z_ishr C dX5_multiply_33 ?_
        refine z_ishr C dX5_multiply_34 ?_
        refine z_iconst C dX5_multiply_35 ?_
        refine z_iand C dX5_multiply_36 ?_
        refine zlet_elim h (fun x_5 ex_5 h => ?_)
        have gx_5 : Rg x_5 := by rw [ex_5]; exact (Rg.t _)
        refine z_istore C ex_5 dX5_multiply_37 hl (by decide) (lv' := [(8, zI x_5), (7, zI x_4), (0, zR Ω t0), (1, zI x1), (2, zI x2), (3, zI x3), (4, zI x_1), (5, zI x_2), (6, zI x_3)]) rfl (fun ls hl => ?_)
        clear ex_5
        refine lv_iload_n C.1 C.2.1 dX5_multiply_39 rfl (lv_at hl 5 rfl) ?_
        refine lv_iload C.1 C.2.1 dX5_multiply_40 (lv_at hl 1 rfl) ?_
        refine z_iconst C dX5_multiply_42 ?_
        refine z_ishr C dX5_multiply_43 ?_
        refine z_ishr C dX5_multiply_44 ?_
        refine z_iconst C dX5_multiply_45 ?_
        refine z_iand C dX5_multiply_46 ?_
        refine zlet_elim h (fun x_6 ex_6 h => ?_)
        have gx_6 : Rg x_6 := by rw [ex_6]; exact (Rg.t _)
        refine z_istore C ex_6 dX5_multiply_47 hl (by decide) (lv' := [(9, zI x_6), (8, zI x_5), (7, zI x_4), (0, zR Ω t0), (1, zI x1), (2, zI x2), (3, zI x3), (4, zI x_1), (5, zI x_2), (6, zI x_3)]) rfl (fun ls hl => ?_)
        clear ex_6
        refine lv_iload C.1 C.2.1 dX5_multiply_49 (lv_at hl 8 rfl) ?_
        refine lv_iload C.1 C.2.1 dX5_multiply_51 (lv_at hl 7 rfl) ?_
        refine lv_iload C.1 C.2.1 dX5_multiply_53 (lv_at hl 0 rfl) ?_
        refine z_iand C dX5_multiply_55 ?_
        refine lv_iload C.1 C.2.1 dX5_multiply_56 (lv_at hl 2 rfl) ?_
        refine lv_iload C.1 C.2.1 dX5_multiply_58 (lv_at hl 1 rfl) ?_
        refine z_iand C dX5_multiply_60 ?_
        refine lv_iload C.1 C.2.1 dX5_multiply_61 (lv_at hl 0 rfl) ?_
        refine z_iand C dX5_multiply_63 ?_
        refine z_ixor C dX5_multiply_64 ?_
        refine z_ixor C dX5_multiply_65 ?_
        refine zlet_elim h (fun x_7 ex_7 h => ?_)
        have gx_7 : Rg x_7 := by rw [ex_7]; exact (Rg.t _)
        refine z_istore C ex_7 dX5_multiply_66 hl (by decide) (lv' := [(5, zI x_7), (9, zI x_6), (8, zI x_5), (7, zI x_4), (0, zR Ω t0), (1, zI x1), (2, zI x2), (3, zI x3), (4, zI x_1), (6, zI x_3)]) rfl (fun ls hl => ?_)
        clear ex_7
        refine lv_iload C.1 C.2.1 dX5_multiply_68 (lv_at hl 8 rfl) ?_
        refine lv_iload C.1 C.2.1 dX5_multiply_70 (lv_at hl 2 rfl) ?_
        refine z_ixor C dX5_multiply_72 ?_
        refine zlet_elim h (fun x_8 ex_8 h => ?_)
        have gx_8 : Rg x_8 := by rw [ex_8]; exact (Rg.t _)
        refine z_istore C ex_8 dX5_multiply_73 hl (by decide) (lv' := [(4, zI x_8), (5, zI x_7), (9, zI x_6), (8, zI x_5), (7, zI x_4), (0, zR Ω t0), (1, zI x1), (2, zI x2), (3, zI x3), (6, zI x_3)]) rfl (fun ls hl => ?_)
        clear ex_8
        refine zlet_elim h (fun x_9 ex_9 h => ?_)
        have gx_9 : Rg x_9 := by rw [ex_9]; exact Rg.w _
        refine z_iinc C ex_9 dX5_multiply_75 hl (k := 9) rfl (by decide) (lv' := [(6, zI x_9), (4, zI x_8), (5, zI x_7), (9, zI x_6), (8, zI x_5), (7, zI x_4), (0, zR Ω t0), (1, zI x1), (2, zI x2), (3, zI x3)]) rfl (fun ls hl => ?_)
        clear ex_9
        refine lv_goto (tgt := 9) C.1 C.2.1 dX5_multiply_78 (by decide) ?_
        exact ih9 x_8 x_7 x_9 _ _ _ gx_8 gx_7 gx_9 X (lv_sub hl [6, 7, 8, 9, 1, 2, 0] rfl) h
  exact L9 zfu 0 0 0 _ _ _ ⟨by decide, by decide⟩ ⟨by decide, by decide⟩ ⟨by decide, by decide⟩ X (lv_sub hl [3, 4, 5, 6, 2, 1, 0] rfl) h
theorem zc_X5_multiply : zcal yX5_multiply cX5_multiply 10 (some Jvm.ClassFile.FieldType.int) RX5 3 := ⟨⟨kw_943, kw_941, kw_942, kw_3⟩, rfl, by decide, by decide, by decide +kernel⟩

def f_X5_leastFreeEdge_K37 (x_1 : Int) (g2 : Int → Option Int) (x_2 : Int) : Option Int :=
  if x_2 = 1 then
    some x_1
  else
    zlet (zw (x_1 + 1)) fun x_3 =>
    g2 x_3
def f_X5_leastFreeEdge_L14 (t0 : Int) (μ : zMem) (x_1 : Int) (g37 : Int → Option Int) : Nat → Int → Int → Option Int
  | 0, _, _ => none
  | n + 1, x_4, x_5 =>
    if x_5 < (μ t0 8) then
      bnd (f_X5_stepsBy t0 x_5 x_1 μ) fun x_6 =>
      zlet ((zw (x_4 + x_6))) fun x_7 =>
      zlet (zw (x_5 + 1)) fun x_8 =>
      (f_X5_leastFreeEdge_L14 t0 μ x_1 g37 n) x_7 x_8
    else
      g37 x_4
def f_X5_leastFreeEdge_L2 (t0 : Int) (μ : zMem) : Nat → Int → Option Int
  | 0, _ => none
  | n + 1, x_1 =>
    if x_1 < (μ t0 7) then
      (f_X5_leastFreeEdge_L14 t0 μ x_1 (f_X5_leastFreeEdge_K37 x_1 (f_X5_leastFreeEdge_L2 t0 μ n))) zfu 0 0
    else
      some (-1)
def f_X5_leastFreeEdge (t0 : Int) (μ : zMem) : Option Int :=
  (f_X5_leastFreeEdge_L2 t0 μ) zfu 0
set_option maxHeartbeats 4000000 in
set_option maxRecDepth 100000 in
theorem M_X5_leastFreeEdge {l : Launch} {Ω : zO} (μ : zMem) (t0 : Int) {r : Int} (o_t0 : zob Ω.2.2.1 5 t0) (h : f_X5_leastFreeEdge t0 μ = some r) : XMet l yX5_leastFreeEdge cX5_leastFreeEdge 4 (some Jvm.ClassFile.FieldType.int) 2 Ω [zR Ω t0] μ (some (zI r)) (Rg r) μ := by
  refine XMet.ofI (by decide) (Nat.le_of_ble_eq_true rfl) ?_
  intro p e s m args below meth c ls Q C rt X hl
  have C : zC p s m args c cX5_leastFreeEdge RX5 4 Ω := C
  have hl : lv_has ls 4 [(0, zR Ω t0)] := hl
  unfold f_X5_leastFreeEdge at h
  skip
  refine z_iconst C dX5_leastFreeEdge_0 ?_
  refine lv_istore_n C.1 C.2.1 (lv' := [(1, zI 0), (0, zR Ω t0)]) dX5_leastFreeEdge_1 rfl hl (by decide) rfl (fun ls hl => ?_)
  have L2 : ∀ (n2 : Nat) (x_1 : Int) (H : Heap) (locs : List Loc) (ls : Array Slot), Rg x_1 → zX Ω μ (zfree Ω) s.heap H locs → lv_has ls 4 [(0, zR Ω t0), (1, zI x_1)] → (f_X5_leastFreeEdge_L2 t0 μ n2 x_1) = some r → W p l e (zrm 2) s m args below meth c H locs 0 0 Q (F0 m 2 ls []) := by
    intro n2
    induction n2 with
    | zero =>
      intro x_1 H locs ls _ _ _ h
      cases h
    | succ n2 ih2 =>
      intro x_1 H locs ls gx_1 X hl h
      unfold f_X5_leastFreeEdge_L2 at h
      refine lv_iload_n C.1 C.2.1 dX5_leastFreeEdge_2 rfl (lv_at hl 1 rfl) ?_
      refine lv_aload_n C.1 C.2.1 dX5_leastFreeEdge_3 rfl (lv_at hl 0 rfl) ?_
      have g_4 : Rg (μ t0 7) := zrgf0 (ci := 5) X.2.2.2 (zob.self o_t0) (zo5 o_t0) 7 rfl
      refine z_get C X zk5 (zob.self o_t0) (zo5 o_t0) 7 (by decide) kw_83 (zI (μ t0 7)) rfl dX5_leastFreeEdge_4 ?_
      refine z_icmpge C gx_1 g_4 (tgt := 50) dX5_leastFreeEdge_7 (by decide) (fun hc7 => ?_) (fun hc7 => ?_)
      · rw [if_neg hc7] at h
        refine z_iconst C dX5_leastFreeEdge_50 ?_
        obtain rfl := Option.some.inj h
        exact rt X ⟨by decide, by decide⟩ dX5_leastFreeEdge_51
      · rw [if_pos hc7] at h
        refine z_iconst C dX5_leastFreeEdge_10 ?_
        refine lv_istore_n C.1 C.2.1 (lv' := [(2, zI 0), (0, zR Ω t0), (1, zI x_1)]) dX5_leastFreeEdge_11 rfl hl (by decide) rfl (fun ls hl => ?_)
        refine z_iconst C dX5_leastFreeEdge_12 ?_
        refine lv_istore_n C.1 C.2.1 (lv' := [(3, zI 0), (2, zI 0), (0, zR Ω t0), (1, zI x_1)]) dX5_leastFreeEdge_13 rfl hl (by decide) rfl (fun ls hl => ?_)
        have K37 : ∀ (x_2 : Int) (H : Heap) (locs : List Loc) (ls : Array Slot), Rg x_2 → zX Ω μ (zfree Ω) s.heap H locs → lv_has ls 4 [(0, zR Ω t0), (1, zI x_1), (2, zI x_2)] → (f_X5_leastFreeEdge_K37 x_1 (f_X5_leastFreeEdge_L2 t0 μ n2)) x_2 = some r → W p l e (zrm 2) s m args below meth c H locs 0 0 Q (F0 m 37 ls []) := by
          intro x_2 H locs ls gx_2 X hl h
          unfold f_X5_leastFreeEdge_K37 at h
          refine lv_iload_n C.1 C.2.1 dX5_leastFreeEdge_37 rfl (lv_at hl 2 rfl) ?_
          refine z_iconst C dX5_leastFreeEdge_38 ?_
          refine z_icmpne C gx_2 ⟨by decide, by decide⟩ (tgt := 44) dX5_leastFreeEdge_39 (by decide) (fun hc39 => ?_) (fun hc39 => ?_)
          · rw [if_neg hc39] at h
            refine zlet_elim h (fun x_3 ex_3 h => ?_)
            have gx_3 : Rg x_3 := by rw [ex_3]; exact Rg.w _
            refine z_iinc C ex_3 dX5_leastFreeEdge_44 hl (k := 1) rfl (by decide) (lv' := [(1, zI x_3), (0, zR Ω t0), (2, zI x_2)]) rfl (fun ls hl => ?_)
            clear ex_3
            refine lv_goto (tgt := 2) C.1 C.2.1 dX5_leastFreeEdge_47 (by decide) ?_
            exact ih2 x_3 _ _ _ gx_3 X (lv_sub hl [1, 0] rfl) h
          · rw [if_pos hc39] at h
            refine lv_iload_n C.1 C.2.1 dX5_leastFreeEdge_42 rfl (lv_at hl 1 rfl) ?_
            obtain rfl := Option.some.inj h
            exact rt X gx_1 dX5_leastFreeEdge_43
        have L14 : ∀ (n14 : Nat) (x_4 : Int) (x_5 : Int) (H : Heap) (locs : List Loc) (ls : Array Slot), Rg x_4 → Rg x_5 → zX Ω μ (zfree Ω) s.heap H locs → lv_has ls 4 [(0, zR Ω t0), (1, zI x_1), (2, zI x_4), (3, zI x_5)] → (f_X5_leastFreeEdge_L14 t0 μ x_1 (f_X5_leastFreeEdge_K37 x_1 (f_X5_leastFreeEdge_L2 t0 μ n2)) n14 x_4 x_5) = some r → W p l e (zrm 2) s m args below meth c H locs 0 0 Q (F0 m 14 ls []) := by
          intro n14
          induction n14 with
          | zero =>
            intro x_4 x_5 H locs ls _ _ _ _ h
            cases h
          | succ n14 ih14 =>
            intro x_4 x_5 H locs ls gx_4 gx_5 X hl h
            unfold f_X5_leastFreeEdge_L14 at h
            refine lv_iload_n C.1 C.2.1 dX5_leastFreeEdge_14 rfl (lv_at hl 3 rfl) ?_
            refine lv_aload_n C.1 C.2.1 dX5_leastFreeEdge_15 rfl (lv_at hl 0 rfl) ?_
            have g_16 : Rg (μ t0 8) := zrgf0 (ci := 5) X.2.2.2 (zob.self o_t0) (zo5 o_t0) 8 rfl
            refine z_get C X zk5 (zob.self o_t0) (zo5 o_t0) 8 (by decide) kw_87 (zI (μ t0 8)) rfl dX5_leastFreeEdge_16 ?_
            refine z_icmpge C gx_5 g_16 (tgt := 37) dX5_leastFreeEdge_19 (by decide) (fun hc19 => ?_) (fun hc19 => ?_)
            · rw [if_neg hc19] at h
              exact K37 x_4 _ _ _ gx_4 X (lv_sub hl [0, 1, 2] rfl) h
            · rw [if_pos hc19] at h
              refine lv_iload_n C.1 C.2.1 dX5_leastFreeEdge_22 rfl (lv_at hl 2 rfl) ?_
              refine lv_aload_n C.1 C.2.1 dX5_leastFreeEdge_23 rfl (lv_at hl 0 rfl) ?_
              refine lv_iload_n C.1 C.2.1 dX5_leastFreeEdge_24 rfl (lv_at hl 3 rfl) ?_
              refine lv_iload_n C.1 C.2.1 dX5_leastFreeEdge_25 rfl (lv_at hl 1 rfl) ?_
              obtain ⟨x_6, hq26, h⟩ := bnd_some h
              refine z_callV1 C X zk5 (zob.self o_t0) (zo5 o_t0) (As := [zI x_5, zI x_1]) (M_X5_stepsBy μ t0 x_5 x_1 o_t0 gx_5 gx_1 hq26) zc_X5_stepsBy kw_957 (zroom (by decide) (by decide)) rfl hl.1 rfl (Nat.le_of_ble_eq_true rfl) dX5_leastFreeEdge_26 ⟨Nat.zero_le _, Nat.zero_le _⟩ (fun H locs g_26 X => ?_)
              refine z_iadd C dX5_leastFreeEdge_29 ?_
              refine zlet_elim h (fun x_7 ex_7 h => ?_)
              have gx_7 : Rg x_7 := by rw [ex_7]; exact (Rg.w _)
              refine z_istore_n C ex_7 dX5_leastFreeEdge_30 rfl hl (by decide) (lv' := [(2, zI x_7), (0, zR Ω t0), (1, zI x_1), (3, zI x_5)]) rfl (fun ls hl => ?_)
              clear ex_7
              refine zlet_elim h (fun x_8 ex_8 h => ?_)
              have gx_8 : Rg x_8 := by rw [ex_8]; exact Rg.w _
              refine z_iinc C ex_8 dX5_leastFreeEdge_31 hl (k := 3) rfl (by decide) (lv' := [(3, zI x_8), (2, zI x_7), (0, zR Ω t0), (1, zI x_1)]) rfl (fun ls hl => ?_)
              clear ex_8
              refine lv_goto (tgt := 14) C.1 C.2.1 dX5_leastFreeEdge_34 (by decide) ?_
              exact ih14 x_7 x_8 _ _ _ gx_7 gx_8 X (lv_sub hl [2, 3, 1, 0] rfl) h
        exact L14 zfu 0 0 _ _ _ ⟨by decide, by decide⟩ ⟨by decide, by decide⟩ X (lv_sub hl [2, 3, 1, 0] rfl) h
  exact L2 zfu 0 _ _ _ ⟨by decide, by decide⟩ X (lv_sub hl [1, 0] rfl) h
theorem zc_X5_leastFreeEdge : zcal yX5_leastFreeEdge cX5_leastFreeEdge 4 (some Jvm.ClassFile.FieldType.int) RX5 0 := ⟨⟨kw_979, kw_978, kp_48, kw_3⟩, rfl, by decide, by decide, by decide +kernel⟩

