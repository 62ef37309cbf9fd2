def f_X5_addEdge (t0 : Int) (x1 : Int) (x2 : Int) (μ : zMem) : Option zMem :=
  if (μ t0 7) < (zlen (t0 + 1)) then
    chk ((0 : Int) ≤ (μ t0 7) ∧ (μ t0 7) < zlen (t0 + 1)) <|
    zlet (zup μ (t0 + 1) (μ t0 7) x1) fun μ_1 =>
    chk ((0 : Int) ≤ (μ_1 t0 7) ∧ (μ_1 t0 7) < zlen (t0 + 2)) <|
    zlet (zup μ_1 (t0 + 2) (μ_1 t0 7) x2) fun μ_2 =>
    zlet (zup μ_2 t0 7 (zw ((μ_2 t0 7) + 1))) fun μ_3 =>
    some μ_3
  else
    some μ
set_option maxHeartbeats 4000000 in
set_option maxRecDepth 100000 in
theorem M_X5_addEdge {l : Launch} {Ω : zO} (μ : zMem) (t0 : Int) (x1 : Int) (x2 : Int) {μ' : zMem} (o_t0 : zob Ω.2.2.1 5 t0) (gx1 : Rg x1) (gx2 : Rg x2) (h : f_X5_addEdge t0 x1 x2 μ = some μ') : XMet l yX5_addEdge cX5_addEdge 3 none 0 Ω [zR Ω t0, zI x1, zI x2] μ none True μ' := by
  refine XMet.ofV (by decide) (Nat.le_of_ble_eq_true rfl) ?_
  intro p e s m args below meth c ls Q C rt X hl
  have C : zC p s m args c cX5_addEdge RX5 3 Ω := C
  have hl : lv_has ls 3 [(0, zR Ω t0), (1, zI x1), (2, zI x2)] := hl
  unfold f_X5_addEdge at h
  skip
  refine lv_aload_n C.1 C.2.1 dX5_addEdge_0 rfl (lv_at hl 0 rfl) ?_
  have g_1 : Rg (μ t0 7) := zrgf0 (ci := 5) X.2.2.2 (zob.self o_t0) (zo5 o_t0) 7 rfl
  refine z_get C X zk5 (zob.self o_t0) (zo5 o_t0) 7 (by decide) kw_83 (zI (μ t0 7)) rfl dX5_addEdge_1 ?_
  refine lv_aload_n C.1 C.2.1 dX5_addEdge_4 rfl (lv_at hl 0 rfl) ?_
  refine z_get C X zk5 (zob.self o_t0) (zo5 o_t0) 0 (by decide) kw_56 (zR Ω (t0 + 1)) (zfvF (off := 1) X.2.2.2 (zob.self o_t0) o_t0.2.2 (zo5 o_t0) rfl (by rw [zo5_1 o_t0]; decide)) dX5_addEdge_5 ?_
  have g_8 : Rg (zlen (t0 + 1)) := zlen_rg (t0 + 1)
  refine z_alen C X (o_t0.2.1 1 (by decide) (by decide)) (a := 1) (zo5_1 o_t0) (by decide) (zlen (t0 + 1)) rfl dX5_addEdge_8 ?_
  refine z_icmpge C g_1 g_8 (tgt := 42) dX5_addEdge_9 (by decide) (fun hc9 => ?_) (fun hc9 => ?_)
  · rw [if_neg hc9] at h
    obtain rfl := Option.some.inj h
    exact rt X dX5_addEdge_42
  · rw [if_pos hc9] at h
    refine lv_aload_n C.1 C.2.1 dX5_addEdge_12 rfl (lv_at hl 0 rfl) ?_
    refine z_get C X zk5 (zob.self o_t0) (zo5 o_t0) 0 (by decide) kw_56 (zR Ω (t0 + 1)) (zfvF (off := 1) X.2.2.2 (zob.self o_t0) o_t0.2.2 (zo5 o_t0) rfl (by rw [zo5_1 o_t0]; decide)) dX5_addEdge_13 ?_
    refine lv_aload_n C.1 C.2.1 dX5_addEdge_16 rfl (lv_at hl 0 rfl) ?_
    have g_17 : Rg (μ t0 7) := zrgf0 (ci := 5) X.2.2.2 (zob.self o_t0) (zo5 o_t0) 7 rfl
    refine z_get C X zk5 (zob.self o_t0) (zo5 o_t0) 7 (by decide) kw_83 (zI (μ t0 7)) rfl dX5_addEdge_17 ?_
    refine lv_iload_n C.1 C.2.1 dX5_addEdge_20 rfl (lv_at hl 1 rfl) ?_
    obtain ⟨hc21, h⟩ := chk_some h
    refine zlet_elim h (fun μ_1 em h => ?_)
    refine z_iast C X (o_t0.2.1 1 (by decide) (by decide)) (zo5_1 o_t0) hc21 (zok1 (zo5_1 o_t0) gx1) em dX5_addEdge_21 (fun H locs X => ?_)
    clear em
    refine lv_aload_n C.1 C.2.1 dX5_addEdge_22 rfl (lv_at hl 0 rfl) ?_
    refine z_get C X zk5 (zob.self o_t0) (zo5 o_t0) 1 (by decide) kw_60 (zR Ω (t0 + 2)) (zfvF (off := 2) X.2.2.2 (zob.self o_t0) o_t0.2.2 (zo5 o_t0) rfl (by rw [zo5_2 o_t0]; decide)) dX5_addEdge_23 ?_
    refine lv_aload_n C.1 C.2.1 dX5_addEdge_26 rfl (lv_at hl 0 rfl) ?_
    have g_27 : Rg (μ_1 t0 7) := zrgf0 (ci := 5) X.2.2.2 (zob.self o_t0) (zo5 o_t0) 7 rfl
    refine z_get C X zk5 (zob.self o_t0) (zo5 o_t0) 7 (by decide) kw_83 (zI (μ_1 t0 7)) rfl dX5_addEdge_27 ?_
    refine lv_iload_n C.1 C.2.1 dX5_addEdge_30 rfl (lv_at hl 2 rfl) ?_
    obtain ⟨hc31, h⟩ := chk_some h
    refine zlet_elim h (fun μ_2 em h => ?_)
    refine z_iast C X (o_t0.2.1 2 (by decide) (by decide)) (zo5_2 o_t0) hc31 (zok1 (zo5_2 o_t0) gx2) em dX5_addEdge_31 (fun H locs X => ?_)
    clear em
    refine lv_aload_n C.1 C.2.1 dX5_addEdge_32 rfl (lv_at hl 0 rfl) ?_
    refine lv_dup C.1 C.2.1 dX5_addEdge_33 rfl ?_
    have g_34 : Rg (μ_2 t0 7) := zrgf0 (ci := 5) X.2.2.2 (zob.self o_t0) (zo5 o_t0) 7 rfl
    refine z_get C X zk5 (zob.self o_t0) (zo5 o_t0) 7 (by decide) kw_83 (zI (μ_2 t0 7)) rfl dX5_addEdge_34 ?_
    refine z_iconst C dX5_addEdge_37 ?_
    refine z_iadd C dX5_addEdge_38 ?_
    refine zlet_elim h (fun μ_3 em h => ?_)
    refine z_putI C X zk5 (zob.self o_t0) (zo5 o_t0) 7 (by decide) kw_83 rfl rfl rfl rfl (Rg.w _) em dX5_addEdge_39 (fun H locs X => ?_)
    clear em
    obtain rfl := Option.some.inj h
    exact rt X dX5_addEdge_42
theorem zc_X5_addEdge : zcal yX5_addEdge cX5_addEdge 3 none RX5 2 := ⟨⟨kw_447, kw_445, kw_446, kw_3⟩, rfl, by decide, by decide, by decide +kernel⟩

def f_X1_addEdges_K98 (x_3 : Int) (x_4 : Int) (g13 : Int → Int → zMem → Option zMem) (μ_7 : zMem) : Option zMem :=
  chk ((0 : Int) ≤ x_4 ∧ x_4 < 12) <|
  zlet (zup μ_7 14 x_4 x_3) fun μ_8 =>
  zlet (zw (x_3 + 1)) fun x_9 =>
  zlet (zw (x_4 + 1)) fun x_10 =>
  g13 x_9 x_10 μ_8
def f_X1_addEdges_L37 (x1 : Int) (x_2 : Int) (x_4 : Int) (g98 : zMem → Option zMem) : Nat → Int → zMem → Option zMem
  | 0, _, _ => none
  | n + 1, x_11, μ_12 =>
    if x_11 < x_2 then
      chk ((0 : Int) ≤ x_4 ∧ x_4 < zlen (x1 + 1)) <|
      chk ((0 : Int) ≤ (μ_12 (x1 + 1) x_4) ∧ (μ_12 (x1 + 1) x_4) < 8) <|
      chk ((0 : Int) ≤ x_4 ∧ x_4 < zlen (x1 + 2)) <|
      chk ((0 : Int) ≤ (μ_12 (x1 + 2) x_4) ∧ (μ_12 (x1 + 2) x_4) < 8) <|
      bnd (f_X1_moveByStep (zw (2 * x_4)) x_11 μ_12) fun x_13 =>
      bnd (f_X5_addEdge 4 (zw ((zw (x_2 * (μ_12 13 (μ_12 (x1 + 1) x_4)))) + x_11)) (zw ((zw (x_2 * (μ_12 13 (μ_12 (x1 + 2) x_4)))) + x_13)) μ_12) fun μ_14 =>
      zlet (zw (x_11 + 1)) fun x_15 =>
      (f_X1_addEdges_L37 x1 x_2 x_4 g98 n) x_15 μ_14
    else
      g98 μ_12
def f_X1_addEdges_L13 (x1 : Int) (x_2 : Int) : Nat → Int → Int → zMem → Option zMem
  | 0, _, _, _ => none
  | n + 1, x_3, x_4, μ_5 =>
    if x_4 < (μ_5 x1 7) then
      chk ((0 : Int) ≤ x_4 ∧ x_4 < 12) <|
      if (μ_5 12 x_4) = (-2) then
        zlet (zw (x_4 + 1)) fun x_6 =>
        (f_X1_addEdges_L13 x1 x_2 n) x_3 x_6 μ_5
      else
        (f_X1_addEdges_L37 x1 x_2 x_4 (f_X1_addEdges_K98 x_3 x_4 (f_X1_addEdges_L13 x1 x_2 n))) zfu 0 μ_5
    else
      some μ_5
def f_X1_addEdges (x1 : Int) (μ : zMem) : Option zMem :=
  chk ((μ 3 8) ≠ 0) <|
  zlet (μ 3 8) fun x_1 =>
  zlet ((μ x_1 0)) fun x_2 =>
  (f_X1_addEdges_L13 x1 x_2) zfu 0 0 μ
set_option maxHeartbeats 4000000 in
set_option maxRecDepth 100000 in
theorem M_X1_addEdges {l : Launch} {Ω : zO} (hI : zIc Ω) (μ : zMem) (x1 : Int) {μ' : zMem} (o_x1 : zob Ω.2.2.1 5 x1) (h : f_X1_addEdges x1 μ = some μ') : XMet l yX1_addEdges cX1_addEdges 6 none 2 Ω [zR Ω 3, zR Ω x1] μ none True μ' := by
  refine XMet.ofV (by decide) (Nat.le_of_ble_eq_true rfl) ?_
  intro p e s m args below meth c ls Q C rt X hl
  have C : zC p s m args c cX1_addEdges RX1 6 Ω := C
  have hl : lv_has ls 6 [(0, zR Ω 3), (1, zR Ω x1)] := hl
  unfold f_X1_addEdges at h
  skip
  refine lv_aload_n C.1 C.2.1 dX1_addEdges_0 rfl (lv_at hl 0 rfl) ?_
  obtain ⟨hn1, h⟩ := chk_some h
  have o_1 : zob Ω.2.2.1 4 (μ 3 8) := (zrgf4 (ci := 1) X.2.2.2 (hI.1 3 (by decide)) rfl 8 4 rfl rfl).resolve_left hn1
  refine z_get C X zk1 (hI.1 3 (by decide)) rfl 8 (by decide) kw_137 (zQ Ω (μ 3 8)) rfl dX1_addEdges_1 ?_
  rw [zQ_pos Ω hn1]
  refine zlet_elim h (fun x_1 ex_1 h => ?_)
  rw [← ex_1] at o_1 ⊢
  clear hn1 ex_1
  have g_4 : Rg (μ x_1 0) := zrgf0 (ci := 4) X.2.2.2 (zob.self o_1) (zo4 o_1) 0 rfl
  refine z_get C X zk4 (zob.self o_1) (zo4 o_1) 0 (by decide) kw_370 (zI (μ x_1 0)) rfl dX1_addEdges_4 ?_
  refine zlet_elim h (fun x_2 ex_2 h => ?_)
  have gx_2 : Rg x_2 := by rw [ex_2]; exact g_4
  refine z_istore_n C ex_2 dX1_addEdges_7 rfl hl (by decide) (lv' := [(2, zI x_2), (0, zR Ω 3), (1, zR Ω x1)]) rfl (fun ls hl => ?_)
  clear ex_2
  refine z_iconst C dX1_addEdges_8 ?_
  refine lv_istore_n C.1 C.2.1 (lv' := [(3, zI 0), (2, zI x_2), (0, zR Ω 3), (1, zR Ω x1)]) dX1_addEdges_9 rfl hl (by decide) rfl (fun ls hl => ?_)
  refine z_iconst C dX1_addEdges_10 ?_
  refine lv_istore C.1 C.2.1 (lv' := [(4, zI 0), (3, zI 0), (2, zI x_2), (0, zR Ω 3), (1, zR Ω x1)]) dX1_addEdges_11 hl (by decide) rfl (fun ls hl => ?_)
  have L13 : ∀ (n13 : Nat) (x_3 : Int) (x_4 : Int) (μ_5 : zMem) (H : Heap) (locs : List Loc) (ls : Array Slot), Rg x_3 → Rg x_4 → zX Ω μ_5 (zfree Ω) s.heap H locs → lv_has ls 6 [(0, zR Ω 3), (1, zR Ω x1), (2, zI x_2), (3, zI x_3), (4, zI x_4)] → (f_X1_addEdges_L13 x1 x_2 n13 x_3 x_4 μ_5) = some μ' → W p l e (zrm 2) s m args below meth c H locs 0 0 Q (F0 m 13 ls []) := by
    intro n13
    induction n13 with
    | zero =>
      intro x_3 x_4 μ_5 H locs ls _ _ _ _ h
      cases h
    | succ n13 ih13 =>
      intro x_3 x_4 μ_5 H locs ls gx_3 gx_4 X hl h
      unfold f_X1_addEdges_L13 at h
      refine lv_iload C.1 C.2.1 dX1_addEdges_13 (lv_at hl 4 rfl) ?_
      refine lv_aload_n C.1 C.2.1 dX1_addEdges_15 rfl (lv_at hl 1 rfl) ?_
      have g_16 : Rg (μ_5 x1 7) := zrgf0 (ci := 5) X.2.2.2 (zob.self o_x1) (zo5 o_x1) 7 rfl
      refine z_get C X zk5 (zob.self o_x1) (zo5 o_x1) 7 (by decide) kw_85 (zI (μ_5 x1 7)) rfl dX1_addEdges_16 ?_
      refine z_icmpge C gx_4 g_16 (tgt := 115) dX1_addEdges_19 (by decide) (fun hc19 => ?_) (fun hc19 => ?_)
      · rw [if_neg hc19] at h
        obtain rfl := Option.some.inj h
        exact rt X dX1_addEdges_115
      · rw [if_pos hc19] at h
        refine lv_aload_n C.1 C.2.1 dX1_addEdges_22 rfl (lv_at hl 0 rfl) ?_
        refine z_get C X zk1 (hI.1 3 (by decide)) rfl 2 (by decide) kw_129 (zR Ω 12) (zfvF (off := 9) X.2.2.2 (hI.1 3 (by decide)) (hI.2 3 (by decide)) rfl rfl (by decide)) dX1_addEdges_23 ?_
        refine lv_iload C.1 C.2.1 dX1_addEdges_26 (lv_at hl 4 rfl) ?_
        obtain ⟨hc28, h⟩ := chk_some h
        have g_28 : Rg (μ_5 12 x_4) := zrg1 X.2.2.2 (hI.1 12 (by decide)) rfl
        refine z_iald C X (hI.1 12 (by decide)) rfl hc28 dX1_addEdges_28 ?_
        refine z_bipush C dX1_addEdges_29 (by decide) ?_
        refine z_icmpeq C g_28 ⟨by decide, by decide⟩ (tgt := 109) dX1_addEdges_31 (by decide) (fun hc31 => ?_) (fun hc31 => ?_)
        · rw [if_pos hc31] at h
          refine zlet_elim h (fun x_6 ex_6 h => ?_)
          have gx_6 : Rg x_6 := by rw [ex_6]; exact Rg.w _
          refine z_iinc C ex_6 dX1_addEdges_109 hl (k := 4) rfl (by decide) (lv' := [(4, zI x_6), (0, zR Ω 3), (1, zR Ω x1), (2, zI x_2), (3, zI x_3)]) rfl (fun ls hl => ?_)
          clear ex_6
          refine lv_goto (tgt := 13) C.1 C.2.1 dX1_addEdges_112 (by decide) ?_
          exact ih13 x_3 x_6 μ_5 _ _ _ gx_3 gx_6 X (lv_sub hl [1, 2, 3, 4, 0] rfl) h
        · rw [if_neg hc31] at h
          refine z_iconst C dX1_addEdges_34 ?_
          refine lv_istore C.1 C.2.1 (lv' := [(5, zI 0), (0, zR Ω 3), (1, zR Ω x1), (2, zI x_2), (3, zI x_3), (4, zI x_4)]) dX1_addEdges_35 hl (by decide) rfl (fun ls hl => ?_)
          have K98 : ∀ (μ_7 : zMem) (H : Heap) (locs : List Loc) (ls : Array Slot), zX Ω μ_7 (zfree Ω) s.heap H locs → lv_has ls 6 [(0, zR Ω 3), (1, zR Ω x1), (2, zI x_2), (3, zI x_3), (4, zI x_4)] → (f_X1_addEdges_K98 x_3 x_4 (f_X1_addEdges_L13 x1 x_2 n13)) μ_7 = some μ' → W p l e (zrm 2) s m args below meth c H locs 0 0 Q (F0 m 98 ls []) := by
            intro μ_7 H locs ls  X hl h
            unfold f_X1_addEdges_K98 at h
            refine lv_aload_n C.1 C.2.1 dX1_addEdges_98 rfl (lv_at hl 0 rfl) ?_
            refine z_get C X zk1 (hI.1 3 (by decide)) rfl 4 (by decide) kw_131 (zR Ω 14) (zfvF (off := 11) X.2.2.2 (hI.1 3 (by decide)) (hI.2 3 (by decide)) rfl rfl (by decide)) dX1_addEdges_99 ?_
            refine lv_iload C.1 C.2.1 dX1_addEdges_102 (lv_at hl 4 rfl) ?_
            refine lv_iload_n C.1 C.2.1 dX1_addEdges_104 rfl (lv_at hl 3 rfl) ?_
            obtain ⟨hc105, h⟩ := chk_some h
            refine zlet_elim h (fun μ_8 em h => ?_)
            refine z_iast C X (hI.1 14 (by decide)) rfl hc105 (zok1 rfl gx_3) em dX1_addEdges_105 (fun H locs X => ?_)
            clear em
            refine zlet_elim h (fun x_9 ex_9 h => ?_)
            have gx_9 : Rg x_9 := by rw [ex_9]; exact Rg.w _
            refine z_iinc C ex_9 dX1_addEdges_106 hl (k := 3) rfl (by decide) (lv' := [(3, zI x_9), (0, zR Ω 3), (1, zR Ω x1), (2, zI x_2), (4, zI x_4)]) rfl (fun ls hl => ?_)
            clear ex_9
            refine zlet_elim h (fun x_10 ex_10 h => ?_)
            have gx_10 : Rg x_10 := by rw [ex_10]; exact Rg.w _
            refine z_iinc C ex_10 dX1_addEdges_109 hl (k := 4) rfl (by decide) (lv' := [(4, zI x_10), (3, zI x_9), (0, zR Ω 3), (1, zR Ω x1), (2, zI x_2)]) rfl (fun ls hl => ?_)
            clear ex_10
            refine lv_goto (tgt := 13) C.1 C.2.1 dX1_addEdges_112 (by decide) ?_
            exact ih13 x_9 x_10 μ_8 _ _ _ gx_9 gx_10 X (lv_sub hl [2, 3, 4, 1, 0] rfl) h
          have L37 : ∀ (n37 : Nat) (x_11 : Int) (μ_12 : zMem) (H : Heap) (locs : List Loc) (ls : Array Slot), Rg x_11 → zX Ω μ_12 (zfree Ω) s.heap H locs → lv_has ls 6 [(0, zR Ω 3), (1, zR Ω x1), (2, zI x_2), (3, zI x_3), (4, zI x_4), (5, zI x_11)] → (f_X1_addEdges_L37 x1 x_2 x_4 (f_X1_addEdges_K98 x_3 x_4 (f_X1_addEdges_L13 x1 x_2 n13)) n37 x_11 μ_12) = some μ' → W p l e (zrm 2) s m args below meth c H locs 0 0 Q (F0 m 37 ls []) := by
            intro n37
            induction n37 with
            | zero =>
              intro x_11 μ_12 H locs ls _ _ _ h
              cases h
            | succ n37 ih37 =>
              intro x_11 μ_12 H locs ls gx_11 X hl h
              unfold f_X1_addEdges_L37 at h
              refine lv_iload C.1 C.2.1 dX1_addEdges_37 (lv_at hl 5 rfl) ?_
              refine lv_iload_n C.1 C.2.1 dX1_addEdges_39 rfl (lv_at hl 2 rfl) ?_
              refine z_icmpge C gx_11 gx_2 (tgt := 98) dX1_addEdges_40 (by decide) (fun hc40 => ?_) (fun hc40 => ?_)
              · rw [if_neg hc40] at h
                exact K98 μ_12 _ _ _ X (lv_sub hl [0, 1, 2, 3, 4] rfl) h
              · rw [if_pos hc40] at h
                refine lv_aload_n C.1 C.2.1 dX1_addEdges_43 rfl (lv_at hl 0 rfl) ?_
                refine z_get C X zk1 (hI.1 3 (by decide)) rfl 0 (by decide) kw_125 (zR Ω 4) (zfvF (off := 1) X.2.2.2 (hI.1 3 (by decide)) (hI.2 3 (by decide)) rfl rfl (by decide)) dX1_addEdges_44 ?_
                refine lv_iload_n C.1 C.2.1 dX1_addEdges_47 rfl (lv_at hl 2 rfl) ?_
                refine lv_aload_n C.1 C.2.1 dX1_addEdges_48 rfl (lv_at hl 0 rfl) ?_
                refine z_get C X zk1 (hI.1 3 (by decide)) rfl 3 (by decide) kw_130 (zR Ω 13) (zfvF (off := 10) X.2.2.2 (hI.1 3 (by decide)) (hI.2 3 (by decide)) rfl rfl (by decide)) dX1_addEdges_49 ?_
                refine lv_aload_n C.1 C.2.1 dX1_addEdges_52 rfl (lv_at hl 1 rfl) ?_
                refine z_get C X zk5 (zob.self o_x1) (zo5 o_x1) 0 (by decide) kw_58 (zR Ω (x1 + 1)) (zfvF (off := 1) X.2.2.2 (zob.self o_x1) o_x1.2.2 (zo5 o_x1) rfl (by rw [zo5_1 o_x1]; decide)) dX1_addEdges_53 ?_
                refine lv_iload C.1 C.2.1 dX1_addEdges_56 (lv_at hl 4 rfl) ?_
                obtain ⟨hc58, h⟩ := chk_some h
                have g_58 : Rg (μ_12 (x1 + 1) x_4) := zrg1 X.2.2.2 (o_x1.2.1 1 (by decide) (by decide)) (zo5_1 o_x1)
                refine z_iald C X (o_x1.2.1 1 (by decide) (by decide)) (zo5_1 o_x1) hc58 dX1_addEdges_58 ?_
                obtain ⟨hc59, h⟩ := chk_some h
                have g_59 : Rg (μ_12 13 (μ_12 (x1 + 1) x_4)) := zrg1 X.2.2.2 (hI.1 13 (by decide)) rfl
                refine z_iald C X (hI.1 13 (by decide)) rfl hc59 dX1_addEdges_59 ?_
                refine z_imul C dX1_addEdges_60 ?_
                refine lv_iload C.1 C.2.1 dX1_addEdges_61 (lv_at hl 5 rfl) ?_
                refine z_iadd C dX1_addEdges_63 ?_
                refine lv_iload_n C.1 C.2.1 dX1_addEdges_64 rfl (lv_at hl 2 rfl) ?_
                refine lv_aload_n C.1 C.2.1 dX1_addEdges_65 rfl (lv_at hl 0 rfl) ?_
                refine z_get C X zk1 (hI.1 3 (by decide)) rfl 3 (by decide) kw_130 (zR Ω 13) (zfvF (off := 10) X.2.2.2 (hI.1 3 (by decide)) (hI.2 3 (by decide)) rfl rfl (by decide)) dX1_addEdges_66 ?_
                refine lv_aload_n C.1 C.2.1 dX1_addEdges_69 rfl (lv_at hl 1 rfl) ?_
                refine z_get C X zk5 (zob.self o_x1) (zo5 o_x1) 1 (by decide) kw_63 (zR Ω (x1 + 2)) (zfvF (off := 2) X.2.2.2 (zob.self o_x1) o_x1.2.2 (zo5 o_x1) rfl (by rw [zo5_2 o_x1]; decide)) dX1_addEdges_70 ?_
                refine lv_iload C.1 C.2.1 dX1_addEdges_73 (lv_at hl 4 rfl) ?_
                obtain ⟨hc75, h⟩ := chk_some h
                have g_75 : Rg (μ_12 (x1 + 2) x_4) := zrg1 X.2.2.2 (o_x1.2.1 2 (by decide) (by decide)) (zo5_2 o_x1)
                refine z_iald C X (o_x1.2.1 2 (by decide) (by decide)) (zo5_2 o_x1) hc75 dX1_addEdges_75 ?_
                obtain ⟨hc76, h⟩ := chk_some h
                have g_76 : Rg (μ_12 13 (μ_12 (x1 + 2) x_4)) := zrg1 X.2.2.2 (hI.1 13 (by decide)) rfl
                refine z_iald C X (hI.1 13 (by decide)) rfl hc76 dX1_addEdges_76 ?_
                refine z_imul C dX1_addEdges_77 ?_
                refine lv_aload_n C.1 C.2.1 dX1_addEdges_78 rfl (lv_at hl 0 rfl) ?_
                refine z_iconst C dX1_addEdges_79 ?_
                refine lv_iload C.1 C.2.1 dX1_addEdges_80 (lv_at hl 4 rfl) ?_
                refine z_imul C dX1_addEdges_82 ?_
                refine lv_iload C.1 C.2.1 dX1_addEdges_83 (lv_at hl 5 rfl) ?_
                obtain ⟨x_13, hq85, h⟩ := bnd_some h
                refine z_callV1 C X zk1 (hI.1 3 (by decide)) rfl (As := [zI (zw (2 * x_4)), zI x_11]) (M_X1_moveByStep hI μ_12 (zw (2 * x_4)) x_11 (Rg.w _) gx_11 hq85) zc_X1_moveByStep kw_790 (zroom (by decide) (by decide)) rfl hl.1 rfl (Nat.le_of_ble_eq_true rfl) dX1_addEdges_85 ⟨Nat.zero_le _, Nat.zero_le _⟩ (fun H locs g_85 X => ?_)
                refine z_iadd C dX1_addEdges_88 ?_
                obtain ⟨μ_14, hq89, h⟩ := bnd_some h
                refine z_callV0 C X zk5 (hI.1 4 (by decide)) rfl (As := [zI (zw ((zw (x_2 * (μ_12 13 (μ_12 (x1 + 1) x_4)))) + x_11)), zI (zw ((zw (x_2 * (μ_12 13 (μ_12 (x1 + 2) x_4)))) + x_13))]) (M_X5_addEdge μ_12 4 (zw ((zw (x_2 * (μ_12 13 (μ_12 (x1 + 1) x_4)))) + x_11)) (zw ((zw (x_2 * (μ_12 13 (μ_12 (x1 + 2) x_4)))) + x_13)) (zoc5 hI 4 rfl (by decide)) (Rg.w _) (Rg.w _) hq89) zc_X5_addEdge kw_796 (zroom (by decide) (by decide)) rfl hl.1 rfl (Nat.le_of_ble_eq_true rfl) dX1_addEdges_89 ⟨Nat.zero_le _, Nat.zero_le _⟩ (fun H locs g_89 X => ?_)
                refine zlet_elim h (fun x_15 ex_15 h => ?_)
                have gx_15 : Rg x_15 := by rw [ex_15]; exact Rg.w _
                refine z_iinc C ex_15 dX1_addEdges_92 hl (k := 5) rfl (by decide) (lv' := [(5, zI x_15), (0, zR Ω 3), (1, zR Ω x1), (2, zI x_2), (3, zI x_3), (4, zI x_4)]) rfl (fun ls hl => ?_)
                clear ex_15
                refine lv_goto (tgt := 37) C.1 C.2.1 dX1_addEdges_95 (by decide) ?_
                exact ih37 x_15 μ_14 _ _ _ gx_15 X (lv_sub hl [1, 2, 3, 4, 5, 0] rfl) h
          exact L37 zfu 0 μ_5 _ _ _ ⟨by decide, by decide⟩ X (lv_sub hl [1, 2, 3, 4, 5, 0] rfl) h
  exact L13 zfu 0 0 μ _ _ _ ⟨by decide, by decide⟩ ⟨by decide, by decide⟩ X (lv_sub hl [3, 4, 2, 1, 0] rfl) h
theorem zc_X1_addEdges : zcal yX1_addEdges cX1_addEdges 6 none RX1 1 := ⟨⟨kw_789, kw_788, kp_33, kw_2⟩, rfl, by decide, by decide, by decide +kernel⟩

def f_X5_addPane (t0 : Int) (x1 : Int) (x2 : Int) (μ : zMem) : Option zMem :=
  if (μ t0 8) < (zlen (t0 + 6)) then
    if x2 ≤ 8 then
      chk ((0 : Int) ≤ 0 ∧ (0 : Int) ≤ (zw ((μ t0 8) * 8)) ∧ (0 : Int) ≤ x2 ∧ 0 + x2 ≤ zlen x1 ∧ (zw ((μ t0 8) * 8)) + x2 ≤ zlen (t0 + 5)) <|
      zlet (zcpy μ x1 0 (t0 + 5) (zw ((μ t0 8) * 8)) x2) fun μ_1 =>
      chk ((0 : Int) ≤ (μ_1 t0 8) ∧ (μ_1 t0 8) < zlen (t0 + 6)) <|
      zlet (zup μ_1 (t0 + 6) (μ_1 t0 8) x2) fun μ_2 =>
      zlet (zup μ_2 t0 8 (zw ((μ_2 t0 8) + 1))) fun μ_3 =>
      some μ_3
    else
      some μ
  else
    some μ
set_option maxHeartbeats 4000000 in
set_option maxRecDepth 100000 in
theorem M_X5_addPane {l : Launch} {Ω : zO} (μ : zMem) (t0 : Int) (x1 : Int) (x2 : Int) {μ' : zMem} (o_t0 : zob Ω.2.2.1 5 t0) (mx1 : x1 ∈ Ω.2.2.1.1) (sx1 : (zsh x1).1 = 1) (gx2 : Rg x2) (h : f_X5_addPane t0 x1 x2 μ = some μ') : XMet l yX5_addPane cX5_addPane 3 none 0 Ω [zR Ω t0, zR Ω x1, zI x2] μ none True μ' := by
  refine XMet.ofV (by decide) (Nat.le_of_ble_eq_true rfl) ?_
  intro p e s m args below meth c ls Q C rt X hl
  have C : zC p s m args c cX5_addPane RX5 3 Ω := C
  have hl : lv_has ls 3 [(0, zR Ω t0), (1, zR Ω x1), (2, zI x2)] := hl
  unfold f_X5_addPane at h
  skip
  refine lv_aload_n C.1 C.2.1 dX5_addPane_0 rfl (lv_at hl 0 rfl) ?_
  have g_1 : Rg (μ t0 8) := zrgf0 (ci := 5) X.2.2.2 (zob.self o_t0) (zo5 o_t0) 8 rfl
  refine z_get C X zk5 (zob.self o_t0) (zo5 o_t0) 8 (by decide) kw_87 (zI (μ t0 8)) rfl dX5_addPane_1 ?_
  refine lv_aload_n C.1 C.2.1 dX5_addPane_4 rfl (lv_at hl 0 rfl) ?_
  refine z_get C X zk5 (zob.self o_t0) (zo5 o_t0) 5 (by decide) kw_71 (zR Ω (t0 + 6)) (zfvF (off := 6) X.2.2.2 (zob.self o_t0) o_t0.2.2 (zo5 o_t0) rfl (by rw [zo5_6 o_t0]; decide)) dX5_addPane_5 ?_
  have g_8 : Rg (zlen (t0 + 6)) := zlen_rg (t0 + 6)
  refine z_alen C X (o_t0.2.1 6 (by decide) (by decide)) (a := 1) (zo5_6 o_t0) (by decide) (zlen (t0 + 6)) rfl dX5_addPane_8 ?_
  refine z_icmpge C g_1 g_8 (tgt := 55) dX5_addPane_9 (by decide) (fun hc9 => ?_) (fun hc9 => ?_)
  · rw [if_neg hc9] at h
    obtain rfl := Option.some.inj h
    exact rt X dX5_addPane_55
  · rw [if_pos hc9] at h
    refine lv_iload_n C.1 C.2.1 dX5_addPane_12 rfl (lv_at hl 2 rfl) ?_
    refine z_bipush C dX5_addPane_13 (by decide) ?_
    refine z_icmpgt C gx2 ⟨by decide, by decide⟩ (tgt := 55) dX5_addPane_15 (by decide) (fun hc15 => ?_) (fun hc15 => ?_)
    · rw [if_neg hc15] at h
      obtain rfl := Option.some.inj h
      exact rt X dX5_addPane_55
    · rw [if_pos hc15] at h
      refine lv_aload_n C.1 C.2.1 dX5_addPane_18 rfl (lv_at hl 1 rfl) ?_
      refine z_iconst C dX5_addPane_19 ?_
      refine lv_aload_n C.1 C.2.1 dX5_addPane_20 rfl (lv_at hl 0 rfl) ?_
      refine z_get C X zk5 (zob.self o_t0) (zo5 o_t0) 4 (by decide) kw_70 (zR Ω (t0 + 5)) (zfvF (off := 5) X.2.2.2 (zob.self o_t0) o_t0.2.2 (zo5 o_t0) rfl (by rw [zo5_5 o_t0]; decide)) dX5_addPane_21 ?_
      refine lv_aload_n C.1 C.2.1 dX5_addPane_24 rfl (lv_at hl 0 rfl) ?_
      have g_25 : Rg (μ t0 8) := zrgf0 (ci := 5) X.2.2.2 (zob.self o_t0) (zo5 o_t0) 8 rfl
      refine z_get C X zk5 (zob.self o_t0) (zo5 o_t0) 8 (by decide) kw_87 (zI (μ t0 8)) rfl dX5_addPane_25 ?_
      refine z_bipush C dX5_addPane_28 (by decide) ?_
      refine z_imul C dX5_addPane_30 ?_
      refine lv_iload_n C.1 C.2.1 dX5_addPane_31 rfl (lv_at hl 2 rfl) ?_
      obtain ⟨hc32, h⟩ := chk_some h
      refine zlet_elim h (fun μ_1 em h => ?_)
      refine z_copy C X hl.1 mx1 sx1 (o_t0.2.1 5 (by decide) (by decide)) (zo5_5 o_t0) hc32 kw_521 em (by decide) (by decide) dX5_addPane_32 (fun H locs X => ?_)
      clear em
      refine lv_aload_n C.1 C.2.1 dX5_addPane_35 rfl (lv_at hl 0 rfl) ?_
      refine z_get C X zk5 (zob.self o_t0) (zo5 o_t0) 5 (by decide) kw_71 (zR Ω (t0 + 6)) (zfvF (off := 6) X.2.2.2 (zob.self o_t0) o_t0.2.2 (zo5 o_t0) rfl (by rw [zo5_6 o_t0]; decide)) dX5_addPane_36 ?_
      refine lv_aload_n C.1 C.2.1 dX5_addPane_39 rfl (lv_at hl 0 rfl) ?_
      have g_40 : Rg (μ_1 t0 8) := zrgf0 (ci := 5) X.2.2.2 (zob.self o_t0) (zo5 o_t0) 8 rfl
      refine z_get C X zk5 (zob.self o_t0) (zo5 o_t0) 8 (by decide) kw_87 (zI (μ_1 t0 8)) rfl dX5_addPane_40 ?_
      refine lv_iload_n C.1 C.2.1 dX5_addPane_43 rfl (lv_at hl 2 rfl) ?_
      obtain ⟨hc44, h⟩ := chk_some h
      refine zlet_elim h (fun μ_2 em h => ?_)
      refine z_iast C X (o_t0.2.1 6 (by decide) (by decide)) (zo5_6 o_t0) hc44 (zok1 (zo5_6 o_t0) gx2) em dX5_addPane_44 (fun H locs X => ?_)
      clear em
      refine lv_aload_n C.1 C.2.1 dX5_addPane_45 rfl (lv_at hl 0 rfl) ?_
      refine lv_dup C.1 C.2.1 dX5_addPane_46 rfl ?_
      have g_47 : Rg (μ_2 t0 8) := zrgf0 (ci := 5) X.2.2.2 (zob.self o_t0) (zo5 o_t0) 8 rfl
      refine z_get C X zk5 (zob.self o_t0) (zo5 o_t0) 8 (by decide) kw_87 (zI (μ_2 t0 8)) rfl dX5_addPane_47 ?_
      refine z_iconst C dX5_addPane_50 ?_
      refine z_iadd C dX5_addPane_51 ?_
      refine zlet_elim h (fun μ_3 em h => ?_)
      refine z_putI C X zk5 (zob.self o_t0) (zo5 o_t0) 8 (by decide) kw_87 rfl rfl rfl rfl (Rg.w _) em dX5_addPane_52 (fun H locs X => ?_)
      clear em
      obtain rfl := Option.some.inj h
      exact rt X dX5_addPane_55
theorem zc_X5_addPane : zcal yX5_addPane cX5_addPane 3 none RX5 2 := ⟨⟨kw_520, kw_518, kw_519, kw_3⟩, rfl, by decide, by decide, by decide +kernel⟩

def f_X1_addPane_K96 (x1 : Int) (x2 : Int) (μ_1 : zMem) : Option zMem :=
  chk ((0 : Int) ≤ x2 ∧ x2 < zlen (x1 + 6)) <|
  bnd (f_X5_addPane 4 15 (μ_1 (x1 + 6) x2) μ_1) fun μ_2 =>
  some μ_2
def f_X1_addPane_J50 (x_4 : Int) (x_6 : Int) (x_7 : Int) (g6 : Int → Int → zMem → Option zMem) (x_8 : Int) (μ_9 : zMem) : Option zMem :=
  chk ((μ_9 3 8) ≠ 0) <|
  zlet (μ_9 3 8) fun x_10 =>
  chk ((0 : Int) ≤ (zshr x_6 1) ∧ (zshr x_6 1) < 12) <|
  chk ((0 : Int) ≤ x_4 ∧ x_4 < 8) <|
  zlet (zup μ_9 15 x_4 (zw ((zw (2 * (zw ((zw ((μ_9 x_10 0) * (μ_9 14 (zshr x_6 1)))) + x_8)))) + (zand x_6 1)))) fun μ_11 =>
  zlet (zw (x_4 + 1)) fun x_12 =>
  g6 x_7 x_12 μ_11
def f_X1_addPane_L6 (x1 : Int) (x2 : Int) (g96 : zMem → Option zMem) : Nat → Int → Int → zMem → Option zMem
  | 0, _, _, _ => none
  | n + 1, x_3, x_4, μ_5 =>
    chk ((0 : Int) ≤ x2 ∧ x2 < zlen (x1 + 6)) <|
    if x_4 < (μ_5 (x1 + 6) x2) then
      bnd (f_X5_rimStep x1 x2 x_4 μ_5) fun x_6 =>
      bnd (f_X1_moveByStep x_6 x_3 μ_5) fun x_7 =>
      (f_X1_addPane_J50 x_4 x_6 x_7 (f_X1_addPane_L6 x1 x2 g96 n)) (if (zand x_6 1) = 0 then x_3 else x_7) μ_5
    else
      g96 μ_5
def f_X1_addPane (x1 : Int) (x2 : Int) (x3 : Int) (μ : zMem) : Option zMem :=
  (f_X1_addPane_L6 x1 x2 (f_X1_addPane_K96 x1 x2)) zfu x3 0 μ
set_option maxHeartbeats 4000000 in
set_option maxRecDepth 100000 in
theorem M_X1_addPane {l : Launch} {Ω : zO} (hI : zIc Ω) (μ : zMem) (x1 : Int) (x2 : Int) (x3 : Int) {μ' : zMem} (o_x1 : zob Ω.2.2.1 5 x1) (gx2 : Rg x2) (gx3 : Rg x3) (h : f_X1_addPane x1 x2 x3 μ = some μ') : XMet l yX1_addPane cX1_addPane 9 none 2 Ω [zR Ω 3, zR Ω x1, zI x2, zI x3] μ none True μ' := by
  refine XMet.ofV (by decide) (Nat.le_of_ble_eq_true rfl) ?_
  intro p e s m args below meth c ls Q C rt X hl
  have C : zC p s m args c cX1_addPane RX1 9 Ω := C
  have hl : lv_has ls 9 [(0, zR Ω 3), (1, zR Ω x1), (2, zI x2), (3, zI x3)] := hl
  unfold f_X1_addPane at h
  skip
  refine lv_iload_n C.1 C.2.1 dX1_addPane_0 rfl (lv_at hl 3 rfl) ?_
  refine lv_istore C.1 C.2.1 (lv' := [(4, zI x3), (0, zR Ω 3), (1, zR Ω x1), (2, zI x2), (3, zI x3)]) dX1_addPane_1 hl (by decide) rfl (fun ls hl => ?_)
  refine z_iconst C dX1_addPane_3 ?_
  refine lv_istore C.1 C.2.1 (lv' := [(5, zI 0), (4, zI x3), (0, zR Ω 3), (1, zR Ω x1), (2, zI x2), (3, zI x3)]) dX1_addPane_4 hl (by decide) rfl (fun ls hl => ?_)
  have K96 : ∀ (μ_1 : zMem) (H : Heap) (locs : List Loc) (ls : Array Slot), zX Ω μ_1 (zfree Ω) s.heap H locs → lv_has ls 9 [(0, zR Ω 3), (1, zR Ω x1), (2, zI x2)] → (f_X1_addPane_K96 x1 x2) μ_1 = some μ' → W p l e (zrm 2) s m args below meth c H locs 0 0 Q (F0 m 96 ls []) := by
    intro μ_1 H locs ls  X hl h
    unfold f_X1_addPane_K96 at h
    refine lv_aload_n C.1 C.2.1 dX1_addPane_96 rfl (lv_at hl 0 rfl) ?_
    refine z_get C X zk1 (hI.1 3 (by decide)) rfl 0 (by decide) kw_125 (zR Ω 4) (zfvF (off := 1) X.2.2.2 (hI.1 3 (by decide)) (hI.2 3 (by decide)) rfl rfl (by decide)) dX1_addPane_97 ?_
    refine lv_aload_n C.1 C.2.1 dX1_addPane_100 rfl (lv_at hl 0 rfl) ?_
    refine z_get C X zk1 (hI.1 3 (by decide)) rfl 5 (by decide) kw_132 (zR Ω 15) (zfvF (off := 12) X.2.2.2 (hI.1 3 (by decide)) (hI.2 3 (by decide)) rfl rfl (by decide)) dX1_addPane_101 ?_
    refine lv_aload_n C.1 C.2.1 dX1_addPane_104 rfl (lv_at hl 1 rfl) ?_
    refine z_get C X zk5 (zob.self o_x1) (zo5 o_x1) 5 (by decide) kw_76 (zR Ω (x1 + 6)) (zfvF (off := 6) X.2.2.2 (zob.self o_x1) o_x1.2.2 (zo5 o_x1) rfl (by rw [zo5_6 o_x1]; decide)) dX1_addPane_105 ?_
    refine lv_iload_n C.1 C.2.1 dX1_addPane_108 rfl (lv_at hl 2 rfl) ?_
    obtain ⟨hc109, h⟩ := chk_some h
    have g_109 : Rg (μ_1 (x1 + 6) x2) := zrg1 X.2.2.2 (o_x1.2.1 6 (by decide) (by decide)) (zo5_6 o_x1)
    refine z_iald C X (o_x1.2.1 6 (by decide) (by decide)) (zo5_6 o_x1) hc109 dX1_addPane_109 ?_
    obtain ⟨μ_2, hq110, h⟩ := bnd_some h
    refine z_callV0 C X zk5 (hI.1 4 (by decide)) rfl (As := [zR Ω 15, zI (μ_1 (x1 + 6) x2)]) (M_X5_addPane μ_1 4 15 (μ_1 (x1 + 6) x2) (zoc5 hI 4 rfl (by decide)) (hI.1 15 (by decide)) rfl g_109 hq110) zc_X5_addPane kw_807 (zroom (by decide) (by decide)) rfl hl.1 rfl (Nat.le_of_ble_eq_true rfl) dX1_addPane_110 ⟨Nat.zero_le _, Nat.zero_le _⟩ (fun H locs g_110 X => ?_)
    obtain rfl := Option.some.inj h
    exact rt X dX1_addPane_113
  have L6 : ∀ (n6 : Nat) (x_3 : Int) (x_4 : Int) (μ_5 : zMem) (H : Heap) (locs : List Loc) (ls : Array Slot), Rg x_3 → Rg x_4 → zX Ω μ_5 (zfree Ω) s.heap H locs → lv_has ls 9 [(0, zR Ω 3), (1, zR Ω x1), (2, zI x2), (4, zI x_3), (5, zI x_4)] → (f_X1_addPane_L6 x1 x2 (f_X1_addPane_K96 x1 x2) n6 x_3 x_4 μ_5) = some μ' → W p l e (zrm 2) s m args below meth c H locs 0 0 Q (F0 m 6 ls []) := by
    intro n6
    induction n6 with
    | zero =>
      intro x_3 x_4 μ_5 H locs ls _ _ _ _ h
      cases h
    | succ n6 ih6 =>
      intro x_3 x_4 μ_5 H locs ls gx_3 gx_4 X hl h
      unfold f_X1_addPane_L6 at h
      refine lv_iload C.1 C.2.1 dX1_addPane_6 (lv_at hl 4 rfl) ?_
      refine lv_aload_n C.1 C.2.1 dX1_addPane_8 rfl (lv_at hl 1 rfl) ?_
      refine z_get C X zk5 (zob.self o_x1) (zo5 o_x1) 5 (by decide) kw_76 (zR Ω (x1 + 6)) (zfvF (off := 6) X.2.2.2 (zob.self o_x1) o_x1.2.2 (zo5 o_x1) rfl (by rw [zo5_6 o_x1]; decide)) dX1_addPane_9 ?_
      refine lv_iload_n C.1 C.2.1 dX1_addPane_12 rfl (lv_at hl 2 rfl) ?_
      obtain ⟨hc13, h⟩ := chk_some h
      have g_13 : Rg (μ_5 (x1 + 6) x2) := zrg1 X.2.2.2 (o_x1.2.1 6 (by decide) (by decide)) (zo5_6 o_x1)
      refine z_iald C X (o_x1.2.1 6 (by decide) (by decide)) (zo5_6 o_x1) hc13 dX1_addPane_13 ?_
      refine z_icmpge C gx_4 g_13 (tgt := 96) dX1_addPane_14 (by decide) (fun hc14 => ?_) (fun hc14 => ?_)
      · rw [if_neg hc14] at h
        exact K96 μ_5 _ _ _ X (lv_sub hl [0, 1, 2] rfl) h
      · rw [if_pos hc14] at h
        refine lv_aload_n C.1 C.2.1 dX1_addPane_17 rfl (lv_at hl 1 rfl) ?_
        refine lv_iload_n C.1 C.2.1 dX1_addPane_18 rfl (lv_at hl 2 rfl) ?_
        refine lv_iload C.1 C.2.1 dX1_addPane_19 (lv_at hl 4 rfl) ?_
        obtain ⟨x_6, hq21, h⟩ := bnd_some h
        refine z_callV1 C X zk5 (zob.self o_x1) (zo5 o_x1) (As := [zI x2, zI x_4]) (M_X5_rimStep μ_5 x1 x2 x_4 o_x1 gx2 gx_4 hq21) zc_X5_rimStep kw_806 (zroom (by decide) (by decide)) rfl hl.1 rfl (Nat.le_of_ble_eq_true rfl) dX1_addPane_21 ⟨Nat.zero_le _, Nat.zero_le _⟩ (fun H locs g_21 X => ?_)
        refine lv_istore C.1 C.2.1 (lv' := [(6, zI x_6), (0, zR Ω 3), (1, zR Ω x1), (2, zI x2), (4, zI x_3), (5, zI x_4)]) dX1_addPane_24 hl (by decide) rfl (fun ls hl => ?_)
        refine lv_aload_n C.1 C.2.1 dX1_addPane_26 rfl (lv_at hl 1 rfl) ?_
        refine lv_iload C.1 C.2.1 dX1_addPane_27 (lv_at hl 0 rfl) ?_
        refine lv_iload C.1 C.2.1 dX1_addPane_29 (lv_at hl 4 rfl) ?_
        obtain ⟨x_7, hq31, h⟩ := bnd_some h
        refine z_callV1 C X zk1 (hI.1 3 (by decide)) rfl (As := [zI x_6, zI x_3]) (M_X1_moveByStep hI μ_5 x_6 x_3 g_21 gx_3 hq31) zc_X1_moveByStep kw_790 (zroom (by decide) (by decide)) rfl hl.1 rfl (Nat.le_of_ble_eq_true rfl) dX1_addPane_31 ⟨Nat.zero_le _, Nat.zero_le _⟩ (fun H locs g_31 X => ?_)
        refine lv_istore C.1 C.2.1 (lv' := [(7, zI x_7), (6, zI x_6), (0, zR Ω 3), (1, zR Ω x1), (2, zI x2), (4, zI x_3), (5, zI x_4)]) dX1_addPane_34 hl (by decide) rfl (fun ls hl => ?_)
        refine lv_iload C.1 C.2.1 dX1_addPane_36 (lv_at hl 1 rfl) ?_
        refine z_iconst C dX1_addPane_38 ?_
        refine z_iand C dX1_addPane_39 ?_
        have K50 : ∀ (x_8 : Int) (μ_9 : zMem) (H : Heap) (locs : List Loc) (ls : Array Slot), Rg x_8 → zX Ω μ_9 (zfree Ω) s.heap H locs → lv_has ls 9 [(0, zR Ω 3), (1, zR Ω x1), (2, zI x2), (5, zI x_4), (6, zI x_6), (7, zI x_7)] → (f_X1_addPane_J50 x_4 x_6 x_7 (f_X1_addPane_L6 x1 x2 (f_X1_addPane_K96 x1 x2) n6)) x_8 μ_9 = some μ' → W p l e (zrm 2) s m args below meth c H locs 0 0 Q (F0 m 50 ls [zI x_8]) := by
          intro x_8 μ_9 H locs ls gx_8 X hl h
          unfold f_X1_addPane_J50 at h
          refine lv_istore C.1 C.2.1 (lv' := [(8, zI x_8), (0, zR Ω 3), (1, zR Ω x1), (2, zI x2), (5, zI x_4), (6, zI x_6), (7, zI x_7)]) dX1_addPane_50 hl (by decide) rfl (fun ls hl => ?_)
          refine lv_aload_n C.1 C.2.1 dX1_addPane_52 rfl (lv_at hl 1 rfl) ?_
          refine z_get C X zk1 (hI.1 3 (by decide)) rfl 5 (by decide) kw_132 (zR Ω 15) (zfvF (off := 12) X.2.2.2 (hI.1 3 (by decide)) (hI.2 3 (by decide)) rfl rfl (by decide)) dX1_addPane_53 ?_
          refine lv_iload C.1 C.2.1 dX1_addPane_56 (lv_at hl 4 rfl) ?_
          refine z_iconst C dX1_addPane_58 ?_
          refine lv_aload_n C.1 C.2.1 dX1_addPane_59 rfl (lv_at hl 1 rfl) ?_
          obtain ⟨hn60, h⟩ := chk_some h
          have o_60 : zob Ω.2.2.1 4 (μ_9 3 8) := (zrgf4 (ci := 1) X.2.2.2 (hI.1 3 (by decide)) rfl 8 4 rfl rfl).resolve_left hn60
          refine z_get C X zk1 (hI.1 3 (by decide)) rfl 8 (by decide) kw_137 (zQ Ω (μ_9 3 8)) rfl dX1_addPane_60 ?_
          rw [zQ_pos Ω hn60]
          refine zlet_elim h (fun x_10 ex_10 h => ?_)
          rw [← ex_10] at o_60 ⊢
          clear hn60 ex_10
          have g_63 : Rg (μ_9 x_10 0) := zrgf0 (ci := 4) X.2.2.2 (zob.self o_60) (zo4 o_60) 0 rfl
          refine z_get C X zk4 (zob.self o_60) (zo4 o_60) 0 (by decide) kw_370 (zI (μ_9 x_10 0)) rfl dX1_addPane_63 ?_
          refine lv_aload_n C.1 C.2.1 dX1_addPane_66 rfl (lv_at hl 1 rfl) ?_
          refine z_get C X zk1 (hI.1 3 (by decide)) rfl 4 (by decide) kw_131 (zR Ω 14) (zfvF (off := 11) X.2.2.2 (hI.1 3 (by decide)) (hI.2 3 (by decide)) rfl rfl (by decide)) dX1_addPane_67 ?_
          refine lv_iload C.1 C.2.1 dX1_addPane_70 (lv_at hl 5 rfl) ?_
          refine z_iconst C dX1_addPane_72 ?_
          refine z_ishr C dX1_addPane_73 ?_
          obtain ⟨hc74, h⟩ := chk_some h
          have g_74 : Rg (μ_9 14 (zshr x_6 1)) := zrg1 X.2.2.2 (hI.1 14 (by decide)) rfl
          refine z_iald C X (hI.1 14 (by decide)) rfl hc74 dX1_addPane_74 ?_
          refine z_imul C dX1_addPane_75 ?_
          refine lv_iload C.1 C.2.1 dX1_addPane_76 (lv_at hl 0 rfl) ?_
          refine z_iadd C dX1_addPane_78 ?_
          refine z_imul C dX1_addPane_79 ?_
          refine lv_iload C.1 C.2.1 dX1_addPane_80 (lv_at hl 5 rfl) ?_
          refine z_iconst C dX1_addPane_82 ?_
          refine z_iand C dX1_addPane_83 ?_
          refine z_iadd C dX1_addPane_84 ?_
          obtain ⟨hc85, h⟩ := chk_some h
          refine zlet_elim h (fun μ_11 em h => ?_)
          refine z_iast C X (hI.1 15 (by decide)) rfl hc85 (zok1 rfl (Rg.w _)) em dX1_addPane_85 (fun H locs X => ?_)
          clear em
          refine lv_iload C.1 C.2.1 dX1_addPane_86 (lv_at hl 6 rfl) ?_
          refine lv_istore C.1 C.2.1 (lv' := [(4, zI x_7), (8, zI x_8), (0, zR Ω 3), (1, zR Ω x1), (2, zI x2), (5, zI x_4), (6, zI x_6), (7, zI x_7)]) dX1_addPane_88 hl (by decide) rfl (fun ls hl => ?_)
          refine zlet_elim h (fun x_12 ex_12 h => ?_)
          have gx_12 : Rg x_12 := by rw [ex_12]; exact Rg.w _
          refine z_iinc C ex_12 dX1_addPane_90 hl (k := 5) rfl (by decide) (lv' := [(5, zI x_12), (4, zI x_7), (8, zI x_8), (0, zR Ω 3), (1, zR Ω x1), (2, zI x2), (6, zI x_6), (7, zI x_7)]) rfl (fun ls hl => ?_)
          clear ex_12
          refine lv_goto (tgt := 6) C.1 C.2.1 dX1_addPane_93 (by decide) ?_
          exact ih6 x_7 x_12 μ_11 _ _ _ g_31 gx_12 X (lv_sub hl [3, 4, 5, 1, 0] rfl) h
        refine z_ifne C (Rg.t _) (tgt := 48) dX1_addPane_40 (by decide) (fun hc40 => ?_) (fun hc40 => ?_)
        · rw [if_neg hc40] at h
          refine lv_iload C.1 C.2.1 dX1_addPane_48 (lv_at hl 0 rfl) ?_
          exact K50 x_7 μ_5 _ _ _ g_31 X (lv_sub hl [2, 3, 4, 6, 1, 0] rfl) h
        · rw [if_pos hc40] at h
          refine lv_iload C.1 C.2.1 dX1_addPane_43 (lv_at hl 5 rfl) ?_
          refine lv_goto (tgt := 50) C.1 C.2.1 dX1_addPane_45 (by decide) ?_
          exact K50 x_3 μ_5 _ _ _ gx_3 X (lv_sub hl [2, 3, 4, 6, 1, 0] rfl) h
  exact L6 zfu x3 0 μ _ _ _ gx3 ⟨by decide, by decide⟩ X (lv_sub hl [2, 3, 4, 1, 0] rfl) h
theorem zc_X1_addPane : zcal yX1_addPane cX1_addPane 9 none RX1 3 := ⟨⟨kw_805, kw_804, kp_35, kw_2⟩, rfl, by decide, by decide, by decide +kernel⟩

def f_X5_isPaneOfPart (t0 : Int) (x1 : Int) (μ : zMem) : Option Int :=
  bnd (f_X5_rimStep t0 x1 0 μ) fun x_1 =>
  bnd (f_X5_startOf t0 x_1 μ) fun x_2 =>
  chk ((0 : Int) ≤ x_2 ∧ x_2 < zlen (t0 + 4)) <|
  some (μ (t0 + 4) x_2)
set_option maxHeartbeats 4000000 in
set_option maxRecDepth 100000 in
theorem M_X5_isPaneOfPart {l : Launch} {Ω : zO} (μ : zMem) (t0 : Int) (x1 : Int) {r : Int} (o_t0 : zob Ω.2.2.1 5 t0) (gx1 : Rg x1) (h : f_X5_isPaneOfPart t0 x1 μ = some r) : XMet l yX5_isPaneOfPart cX5_isPaneOfPart 2 (some Jvm.ClassFile.FieldType.boolean) 1 Ω [zR Ω t0, zI x1] μ (some (zI r)) (0 ≤ r ∧ r ≤ 1) μ := by
  refine XMet.ofZ (by decide) (Nat.le_of_ble_eq_true rfl) ?_
  intro p e s m args below meth c ls Q C rt X hl
  have C : zC p s m args c cX5_isPaneOfPart RX5 2 Ω := C
  have hl : lv_has ls 2 [(0, zR Ω t0), (1, zI x1)] := hl
  unfold f_X5_isPaneOfPart at h
  skip
  refine lv_aload_n C.1 C.2.1 dX5_isPaneOfPart_0 rfl (lv_at hl 0 rfl) ?_
  refine z_get C X zk5 (zob.self o_t0) (zo5 o_t0) 3 (by decide) kw_68 (zR Ω (t0 + 4)) (zfvF (off := 4) X.2.2.2 (zob.self o_t0) o_t0.2.2 (zo5 o_t0) rfl (by rw [zo5_4 o_t0]; decide)) dX5_isPaneOfPart_1 ?_
  refine lv_aload_n C.1 C.2.1 dX5_isPaneOfPart_4 rfl (lv_at hl 0 rfl) ?_
  refine lv_aload_n C.1 C.2.1 dX5_isPaneOfPart_5 rfl (lv_at hl 0 rfl) ?_
  refine lv_iload_n C.1 C.2.1 dX5_isPaneOfPart_6 rfl (lv_at hl 1 rfl) ?_
  refine z_iconst C dX5_isPaneOfPart_7 ?_
  obtain ⟨x_1, hq8, h⟩ := bnd_some h
  refine z_callV1 C X zk5 (zob.self o_t0) (zo5 o_t0) (As := [zI x1, zI 0]) (M_X5_rimStep μ t0 x1 0 o_t0 gx1 ⟨by decide, by decide⟩ hq8) zc_X5_rimStep kw_709 (zroom (by decide) (by decide)) rfl hl.1 rfl (Nat.le_of_ble_eq_true rfl) dX5_isPaneOfPart_8 ⟨Nat.zero_le _, Nat.zero_le _⟩ (fun H locs g_8 X => ?_)
  obtain ⟨x_2, hq11, h⟩ := bnd_some h
  refine z_callV1 C X zk5 (zob.self o_t0) (zo5 o_t0) (As := [zI x_1]) (M_X5_startOf μ t0 x_1 o_t0 g_8 hq11) zc_X5_startOf kw_710 (zroom (by decide) (by decide)) rfl hl.1 rfl (Nat.le_of_ble_eq_true rfl) dX5_isPaneOfPart_11 ⟨Nat.zero_le _, Nat.zero_le _⟩ (fun H locs g_11 X => ?_)
  obtain ⟨hc14, h⟩ := chk_some h
  have g_14 : 0 ≤ (μ (t0 + 4) x_2) ∧ (μ (t0 + 4) x_2) ≤ 1 := zrg3 X.2.2.2 (o_t0.2.1 4 (by decide) (by decide)) (zo5_4 o_t0)
  refine z_zald C X (o_t0.2.1 4 (by decide) (by decide)) (zo5_4 o_t0) hc14 dX5_isPaneOfPart_14 ?_
  obtain rfl := Option.some.inj h
  exact rt X g_14 dX5_isPaneOfPart_15
theorem zc_X5_isPaneOfPart : zcal yX5_isPaneOfPart cX5_isPaneOfPart 2 (some Jvm.ClassFile.FieldType.boolean) RX5 1 := ⟨⟨kw_708, kw_706, kw_707, kw_3⟩, rfl, by decide, by decide, by decide +kernel⟩

def f_X1_addPanes_K44 (x_1 : Int) (g2 : Int → zMem → Option zMem) (μ_3 : zMem) : Option zMem :=
  zlet (zw (x_1 + 1)) fun x_4 =>
  g2 x_4 μ_3
def f_X1_addPanes_L12 (x1 : Int) (x_1 : Int) (g44 : zMem → Option zMem) : Nat → Int → zMem → Option zMem
  | 0, _, _ => none
  | n + 1, x_5, μ_6 =>
    chk ((μ_6 3 8) ≠ 0) <|
    zlet (μ_6 3 8) fun x_7 =>
    if x_5 < (μ_6 x_7 0) then
      bnd (f_X5_isPaneOfPart x1 x_1 μ_6) fun x_8 =>
      if x_8 = 0 then
        g44 μ_6
      else
        bnd (f_X1_addPane x1 x_1 x_5 μ_6) fun μ_9 =>
        zlet (zw (x_5 + 1)) fun x_10 =>
        (f_X1_addPanes_L12 x1 x_1 g44 n) x_10 μ_9
    else
      g44 μ_6
def f_X1_addPanes_L2 (x1 : Int) : Nat → Int → zMem → Option zMem
  | 0, _, _ => none
  | n + 1, x_1, μ_2 =>
    if x_1 < (μ_2 x1 8) then
      (f_X1_addPanes_L12 x1 x_1 (f_X1_addPanes_K44 x_1 (f_X1_addPanes_L2 x1 n))) zfu 0 μ_2
    else
      some μ_2
def f_X1_addPanes (x1 : Int) (μ : zMem) : Option zMem :=
  (f_X1_addPanes_L2 x1) zfu 0 μ
set_option maxHeartbeats 4000000 in
set_option maxRecDepth 100000 in
theorem M_X1_addPanes {l : Launch} {Ω : zO} (hI : zIc Ω) (μ : zMem) (x1 : Int) {μ' : zMem} (o_x1 : zob Ω.2.2.1 5 x1) (h : f_X1_addPanes x1 μ = some μ') : XMet l yX1_addPanes cX1_addPanes 4 none 3 Ω [zR Ω 3, zR Ω x1] μ none True μ' := by
  refine XMet.ofV (by decide) (Nat.le_of_ble_eq_true rfl) ?_
  intro p e s m args below meth c ls Q C rt X hl
  have C : zC p s m args c cX1_addPanes RX1 4 Ω := C
  have hl : lv_has ls 4 [(0, zR Ω 3), (1, zR Ω x1)] := hl
  unfold f_X1_addPanes at h
  skip
  refine z_iconst C dX1_addPanes_0 ?_
  refine lv_istore_n C.1 C.2.1 (lv' := [(2, zI 0), (0, zR Ω 3), (1, zR Ω x1)]) dX1_addPanes_1 rfl hl (by decide) rfl (fun ls hl => ?_)
  have L2 : ∀ (n2 : Nat) (x_1 : Int) (μ_2 : zMem) (H : Heap) (locs : List Loc) (ls : Array Slot), Rg x_1 → zX Ω μ_2 (zfree Ω) s.heap H locs → lv_has ls 4 [(0, zR Ω 3), (1, zR Ω x1), (2, zI x_1)] → (f_X1_addPanes_L2 x1 n2 x_1 μ_2) = some μ' → W p l e (zrm 3) s m args below meth c H locs 0 0 Q (F0 m 2 ls []) := by
    intro n2
    induction n2 with
    | zero =>
      intro x_1 μ_2 H locs ls _ _ _ h
      cases h
    | succ n2 ih2 =>
      intro x_1 μ_2 H locs ls gx_1 X hl h
      unfold f_X1_addPanes_L2 at h
      refine lv_iload_n C.1 C.2.1 dX1_addPanes_2 rfl (lv_at hl 2 rfl) ?_
      refine lv_aload_n C.1 C.2.1 dX1_addPanes_3 rfl (lv_at hl 1 rfl) ?_
      have g_4 : Rg (μ_2 x1 8) := zrgf0 (ci := 5) X.2.2.2 (zob.self o_x1) (zo5 o_x1) 8 rfl
      refine z_get C X zk5 (zob.self o_x1) (zo5 o_x1) 8 (by decide) kw_92 (zI (μ_2 x1 8)) rfl dX1_addPanes_4 ?_
      refine z_icmpge C gx_1 g_4 (tgt := 50) dX1_addPanes_7 (by decide) (fun hc7 => ?_) (fun hc7 => ?_)
      · rw [if_neg hc7] at h
        obtain rfl := Option.some.inj h
        exact rt X dX1_addPanes_50
      · rw [if_pos hc7] at h
        refine z_iconst C dX1_addPanes_10 ?_
        refine lv_istore_n C.1 C.2.1 (lv' := [(3, zI 0), (0, zR Ω 3), (1, zR Ω x1), (2, zI x_1)]) dX1_addPanes_11 rfl hl (by decide) rfl (fun ls hl => ?_)
        have K44 : ∀ (μ_3 : zMem) (H : Heap) (locs : List Loc) (ls : Array Slot), zX Ω μ_3 (zfree Ω) s.heap H locs → lv_has ls 4 [(0, zR Ω 3), (1, zR Ω x1), (2, zI x_1)] → (f_X1_addPanes_K44 x_1 (f_X1_addPanes_L2 x1 n2)) μ_3 = some μ' → W p l e (zrm 3) s m args below meth c H locs 0 0 Q (F0 m 44 ls []) := by
          intro μ_3 H locs ls  X hl h
          unfold f_X1_addPanes_K44 at h
          refine zlet_elim h (fun x_4 ex_4 h => ?_)
          have gx_4 : Rg x_4 := by rw [ex_4]; exact Rg.w _
          refine z_iinc C ex_4 dX1_addPanes_44 hl (k := 2) rfl (by decide) (lv' := [(2, zI x_4), (0, zR Ω 3), (1, zR Ω x1)]) rfl (fun ls hl => ?_)
          clear ex_4
          refine lv_goto (tgt := 2) C.1 C.2.1 dX1_addPanes_47 (by decide) ?_
          exact ih2 x_4 μ_3 _ _ _ gx_4 X (lv_sub hl [1, 2, 0] rfl) h
        have L12 : ∀ (n12 : Nat) (x_5 : Int) (μ_6 : zMem) (H : Heap) (locs : List Loc) (ls : Array Slot), Rg x_5 → zX Ω μ_6 (zfree Ω) s.heap H locs → lv_has ls 4 [(0, zR Ω 3), (1, zR Ω x1), (2, zI x_1), (3, zI x_5)] → (f_X1_addPanes_L12 x1 x_1 (f_X1_addPanes_K44 x_1 (f_X1_addPanes_L2 x1 n2)) n12 x_5 μ_6) = some μ' → W p l e (zrm 3) s m args below meth c H locs 0 0 Q (F0 m 12 ls []) := by
          intro n12
          induction n12 with
          | zero =>
            intro x_5 μ_6 H locs ls _ _ _ h
            cases h
          | succ n12 ih12 =>
            intro x_5 μ_6 H locs ls gx_5 X hl h
            unfold f_X1_addPanes_L12 at h
            refine lv_iload_n C.1 C.2.1 dX1_addPanes_12 rfl (lv_at hl 3 rfl) ?_
            refine lv_aload_n C.1 C.2.1 dX1_addPanes_13 rfl (lv_at hl 0 rfl) ?_
            obtain ⟨hn14, h⟩ := chk_some h
            have o_14 : zob Ω.2.2.1 4 (μ_6 3 8) := (zrgf4 (ci := 1) X.2.2.2 (hI.1 3 (by decide)) rfl 8 4 rfl rfl).resolve_left hn14
            refine z_get C X zk1 (hI.1 3 (by decide)) rfl 8 (by decide) kw_137 (zQ Ω (μ_6 3 8)) rfl dX1_addPanes_14 ?_
            rw [zQ_pos Ω hn14]
            refine zlet_elim h (fun x_7 ex_7 h => ?_)
            rw [← ex_7] at o_14 ⊢
            clear hn14 ex_7
            have g_17 : Rg (μ_6 x_7 0) := zrgf0 (ci := 4) X.2.2.2 (zob.self o_14) (zo4 o_14) 0 rfl
            refine z_get C X zk4 (zob.self o_14) (zo4 o_14) 0 (by decide) kw_370 (zI (μ_6 x_7 0)) rfl dX1_addPanes_17 ?_
            refine z_icmpge C gx_5 g_17 (tgt := 44) dX1_addPanes_20 (by decide) (fun hc20 => ?_) (fun hc20 => ?_)
            · rw [if_neg hc20] at h
              exact K44 μ_6 _ _ _ X (lv_sub hl [0, 1, 2] rfl) h
            · rw [if_pos hc20] at h
              refine lv_aload_n C.1 C.2.1 dX1_addPanes_23 rfl (lv_at hl 1 rfl) ?_
              refine lv_iload_n C.1 C.2.1 dX1_addPanes_24 rfl (lv_at hl 2 rfl) ?_
              obtain ⟨x_8, hq25, h⟩ := bnd_some h
              refine z_callV1 C X zk5 (zob.self o_x1) (zo5 o_x1) (As := [zI x_1]) (M_X5_isPaneOfPart μ_6 x1 x_1 o_x1 gx_1 hq25) zc_X5_isPaneOfPart kw_801 (zroom (by decide) (by decide)) rfl hl.1 rfl (Nat.le_of_ble_eq_true rfl) dX1_addPanes_25 ⟨Nat.zero_le _, Nat.zero_le _⟩ (fun H locs g_25 X => ?_)
              refine z_ifeq C (rgz g_25) (tgt := 44) dX1_addPanes_28 (by decide) (fun hc28 => ?_) (fun hc28 => ?_)
              · rw [if_pos hc28] at h
                exact K44 μ_6 _ _ _ X (lv_sub hl [0, 1, 2] rfl) h
              · rw [if_neg hc28] at h
                refine lv_aload_n C.1 C.2.1 dX1_addPanes_31 rfl (lv_at hl 0 rfl) ?_
                refine lv_aload_n C.1 C.2.1 dX1_addPanes_32 rfl (lv_at hl 1 rfl) ?_
                refine lv_iload_n C.1 C.2.1 dX1_addPanes_33 rfl (lv_at hl 2 rfl) ?_
                refine lv_iload_n C.1 C.2.1 dX1_addPanes_34 rfl (lv_at hl 3 rfl) ?_
                obtain ⟨μ_9, hq35, h⟩ := bnd_some h
                refine z_callV0 C X zk1 (hI.1 3 (by decide)) rfl (As := [zR Ω x1, zI x_1, zI x_5]) (M_X1_addPane hI μ_6 x1 x_1 x_5 o_x1 gx_1 gx_5 hq35) zc_X1_addPane kw_802 (zroom (by decide) (by decide)) rfl hl.1 rfl (Nat.le_of_ble_eq_true rfl) dX1_addPanes_35 ⟨Nat.zero_le _, Nat.zero_le _⟩ (fun H locs g_35 X => ?_)
                refine zlet_elim h (fun x_10 ex_10 h => ?_)
                have gx_10 : Rg x_10 := by rw [ex_10]; exact Rg.w _
                refine z_iinc C ex_10 dX1_addPanes_38 hl (k := 3) rfl (by decide) (lv' := [(3, zI x_10), (0, zR Ω 3), (1, zR Ω x1), (2, zI x_1)]) rfl (fun ls hl => ?_)
                clear ex_10
                refine lv_goto (tgt := 12) C.1 C.2.1 dX1_addPanes_41 (by decide) ?_
                exact ih12 x_10 μ_9 _ _ _ gx_10 X (lv_sub hl [1, 2, 3, 0] rfl) h
        exact L12 zfu 0 μ_2 _ _ _ ⟨by decide, by decide⟩ X (lv_sub hl [1, 2, 3, 0] rfl) h
  exact L2 zfu 0 μ _ _ _ ⟨by decide, by decide⟩ X (lv_sub hl [1, 2, 0] rfl) h
theorem zc_X1_addPanes : zcal yX1_addPanes cX1_addPanes 4 none RX1 1 := ⟨⟨kw_800, kw_799, kp_34, kw_2⟩, rfl, by decide, by decide, by decide +kernel⟩

def f_X1_placeCorners_L4 (x1 : Int) : Nat → Int → Int → zMem → Option zMem
  | 0, _, _, _ => none
  | n + 1, x_1, x_2, μ_3 =>
    if x_2 < (μ_3 x1 6) then
      chk ((0 : Int) ≤ x_2 ∧ x_2 < zlen (x1 + 4)) <|
      if (μ_3 (x1 + 4) x_2) = 0 then
        zlet (zw (x_2 + 1)) fun x_4 =>
        (f_X1_placeCorners_L4 x1 n) x_1 x_4 μ_3
      else
        chk ((0 : Int) ≤ x_2 ∧ x_2 < 8) <|
        zlet (zup μ_3 13 x_2 x_1) fun μ_5 =>
        zlet (zw (x_1 + 1)) fun x_6 =>
        zlet (zw (x_2 + 1)) fun x_7 =>
        (f_X1_placeCorners_L4 x1 n) x_6 x_7 μ_5
    else
      some μ_3
def f_X1_placeCorners (x1 : Int) (μ : zMem) : Option zMem :=
  (f_X1_placeCorners_L4 x1) zfu 0 0 μ
set_option maxHeartbeats 4000000 in
set_option maxRecDepth 100000 in
theorem M_X1_placeCorners {l : Launch} {Ω : zO} (hI : zIc Ω) (μ : zMem) (x1 : Int) {μ' : zMem} (o_x1 : zob Ω.2.2.1 5 x1) (h : f_X1_placeCorners x1 μ = some μ') : XMet l yX1_placeCorners cX1_placeCorners 4 none 0 Ω [zR Ω 3, zR Ω x1] μ none True μ' := by
  refine XMet.ofV (by decide) (Nat.le_of_ble_eq_true rfl) ?_
  intro p e s m args below meth c ls Q C rt X hl
  have C : zC p s m args c cX1_placeCorners RX1 4 Ω := C
  have hl : lv_has ls 4 [(0, zR Ω 3), (1, zR Ω x1)] := hl
  unfold f_X1_placeCorners at h
  skip
  refine z_iconst C dX1_placeCorners_0 ?_
  refine lv_istore_n C.1 C.2.1 (lv' := [(2, zI 0), (0, zR Ω 3), (1, zR Ω x1)]) dX1_placeCorners_1 rfl hl (by decide) rfl (fun ls hl => ?_)
  refine z_iconst C dX1_placeCorners_2 ?_
  refine lv_istore_n C.1 C.2.1 (lv' := [(3, zI 0), (2, zI 0), (0, zR Ω 3), (1, zR Ω x1)]) dX1_placeCorners_3 rfl hl (by decide) rfl (fun ls hl => ?_)
  have L4 : ∀ (n4 : Nat) (x_1 : Int) (x_2 : Int) (μ_3 : zMem) (H : Heap) (locs : List Loc) (ls : Array Slot), Rg x_1 → Rg x_2 → zX Ω μ_3 (zfree Ω) s.heap H locs → lv_has ls 4 [(0, zR Ω 3), (1, zR Ω x1), (2, zI x_1), (3, zI x_2)] → (f_X1_placeCorners_L4 x1 n4 x_1 x_2 μ_3) = some μ' → W p l e (zrm 0) s m args below meth c H locs 0 0 Q (F0 m 4 ls []) := by
    intro n4
    induction n4 with
    | zero =>
      intro x_1 x_2 μ_3 H locs ls _ _ _ _ h
      cases h
    | succ n4 ih4 =>
      intro x_1 x_2 μ_3 H locs ls gx_1 gx_2 X hl h
      unfold f_X1_placeCorners_L4 at h
      refine lv_iload_n C.1 C.2.1 dX1_placeCorners_4 rfl (lv_at hl 3 rfl) ?_
      refine lv_aload_n C.1 C.2.1 dX1_placeCorners_5 rfl (lv_at hl 1 rfl) ?_
      have g_6 : Rg (μ_3 x1 6) := zrgf0 (ci := 5) X.2.2.2 (zob.self o_x1) (zo5 o_x1) 6 rfl
      refine z_get C X zk5 (zob.self o_x1) (zo5 o_x1) 6 (by decide) kw_80 (zI (μ_3 x1 6)) rfl dX1_placeCorners_6 ?_
      refine z_icmpge C gx_2 g_6 (tgt := 37) dX1_placeCorners_9 (by decide) (fun hc9 => ?_) (fun hc9 => ?_)
      · rw [if_neg hc9] at h
        obtain rfl := Option.some.inj h
        exact rt X dX1_placeCorners_37
      · rw [if_pos hc9] at h
        refine lv_aload_n C.1 C.2.1 dX1_placeCorners_12 rfl (lv_at hl 1 rfl) ?_
        refine z_get C X zk5 (zob.self o_x1) (zo5 o_x1) 3 (by decide) kw_69 (zR Ω (x1 + 4)) (zfvF (off := 4) X.2.2.2 (zob.self o_x1) o_x1.2.2 (zo5 o_x1) rfl (by rw [zo5_4 o_x1]; decide)) dX1_placeCorners_13 ?_
        refine lv_iload_n C.1 C.2.1 dX1_placeCorners_16 rfl (lv_at hl 3 rfl) ?_
        obtain ⟨hc17, h⟩ := chk_some h
        have g_17 : 0 ≤ (μ_3 (x1 + 4) x_2) ∧ (μ_3 (x1 + 4) x_2) ≤ 1 := zrg3 X.2.2.2 (o_x1.2.1 4 (by decide) (by decide)) (zo5_4 o_x1)
        refine z_zald C X (o_x1.2.1 4 (by decide) (by decide)) (zo5_4 o_x1) hc17 dX1_placeCorners_17 ?_
        refine z_ifeq C (rgz g_17) (tgt := 31) dX1_placeCorners_18 (by decide) (fun hc18 => ?_) (fun hc18 => ?_)
        · rw [if_pos hc18] at h
          refine zlet_elim h (fun x_4 ex_4 h => ?_)
          have gx_4 : Rg x_4 := by rw [ex_4]; exact Rg.w _
          refine z_iinc C ex_4 dX1_placeCorners_31 hl (k := 3) rfl (by decide) (lv' := [(3, zI x_4), (0, zR Ω 3), (1, zR Ω x1), (2, zI x_1)]) rfl (fun ls hl => ?_)
          clear ex_4
          refine lv_goto (tgt := 4) C.1 C.2.1 dX1_placeCorners_34 (by decide) ?_
          exact ih4 x_1 x_4 μ_3 _ _ _ gx_1 gx_4 X (lv_sub hl [1, 2, 3, 0] rfl) h
        · rw [if_neg hc18] at h
          refine lv_aload_n C.1 C.2.1 dX1_placeCorners_21 rfl (lv_at hl 0 rfl) ?_
          refine z_get C X zk1 (hI.1 3 (by decide)) rfl 3 (by decide) kw_130 (zR Ω 13) (zfvF (off := 10) X.2.2.2 (hI.1 3 (by decide)) (hI.2 3 (by decide)) rfl rfl (by decide)) dX1_placeCorners_22 ?_
          refine lv_iload_n C.1 C.2.1 dX1_placeCorners_25 rfl (lv_at hl 3 rfl) ?_
          refine lv_iload_n C.1 C.2.1 dX1_placeCorners_26 rfl (lv_at hl 2 rfl) ?_
          obtain ⟨hc27, h⟩ := chk_some h
          refine zlet_elim h (fun μ_5 em h => ?_)
          refine z_iast C X (hI.1 13 (by decide)) rfl hc27 (zok1 rfl gx_1) em dX1_placeCorners_27 (fun H locs X => ?_)
          clear em
          refine zlet_elim h (fun x_6 ex_6 h => ?_)
          have gx_6 : Rg x_6 := by rw [ex_6]; exact Rg.w _
          refine z_iinc C ex_6 dX1_placeCorners_28 hl (k := 2) rfl (by decide) (lv' := [(2, zI x_6), (0, zR Ω 3), (1, zR Ω x1), (3, zI x_2)]) rfl (fun ls hl => ?_)
          clear ex_6
          refine zlet_elim h (fun x_7 ex_7 h => ?_)
          have gx_7 : Rg x_7 := by rw [ex_7]; exact Rg.w _
          refine z_iinc C ex_7 dX1_placeCorners_31 hl (k := 3) rfl (by decide) (lv' := [(3, zI x_7), (2, zI x_6), (0, zR Ω 3), (1, zR Ω x1)]) rfl (fun ls hl => ?_)
          clear ex_7
          refine lv_goto (tgt := 4) C.1 C.2.1 dX1_placeCorners_34 (by decide) ?_
          exact ih4 x_6 x_7 μ_5 _ _ _ gx_6 gx_7 X (lv_sub hl [2, 3, 1, 0] rfl) h
  exact L4 zfu 0 0 μ _ _ _ ⟨by decide, by decide⟩ ⟨by decide, by decide⟩ X (lv_sub hl [2, 3, 1, 0] rfl) h
theorem zc_X1_placeCorners : zcal yX1_placeCorners cX1_placeCorners 4 none RX1 1 := ⟨⟨kw_784, kw_783, kp_32, kw_2⟩, rfl, by decide, by decide, by decide +kernel⟩

def f_X5_clear (t0 : Int) (x1 : Int) (μ : zMem) : Option zMem :=
  zlet (zup μ t0 6 (zmin x1 (zlen (t0 + 4)))) fun μ_1 =>
  zlet (zup μ_1 t0 7 0) fun μ_2 =>
  zlet (zup μ_2 t0 8 0) fun μ_3 =>
  some μ_3
set_option maxHeartbeats 4000000 in
set_option maxRecDepth 100000 in
theorem M_X5_clear {l : Launch} {Ω : zO} (μ : zMem) (t0 : Int) (x1 : Int) {μ' : zMem} (o_t0 : zob Ω.2.2.1 5 t0) (gx1 : Rg x1) (h : f_X5_clear t0 x1 μ = some μ') : XMet l yX5_clear cX5_clear 2 none 0 Ω [zR Ω t0, zI x1] μ none True μ' := by
  refine XMet.ofV (by decide) (Nat.le_of_ble_eq_true rfl) ?_
  intro p e s m args below meth c ls Q C rt X hl
  have C : zC p s m args c cX5_clear RX5 2 Ω := C
  have hl : lv_has ls 2 [(0, zR Ω t0), (1, zI x1)] := hl
  unfold f_X5_clear at h
  skip
  refine lv_aload_n C.1 C.2.1 dX5_clear_0 rfl (lv_at hl 0 rfl) ?_
  refine lv_iload_n C.1 C.2.1 dX5_clear_1 rfl (lv_at hl 1 rfl) ?_
  refine lv_aload_n C.1 C.2.1 dX5_clear_2 rfl (lv_at hl 0 rfl) ?_
  refine z_get C X zk5 (zob.self o_t0) (zo5 o_t0) 3 (by decide) kw_68 (zR Ω (t0 + 4)) (zfvF (off := 4) X.2.2.2 (zob.self o_t0) o_t0.2.2 (zo5 o_t0) rfl (by rw [zo5_4 o_t0]; decide)) dX5_clear_3 ?_
  have g_6 : Rg (zlen (t0 + 4)) := zlen_rg (t0 + 4)
  refine z_alen C X (o_t0.2.1 4 (by decide) (by decide)) (a := 3) (zo5_4 o_t0) (by decide) (zlen (t0 + 4)) rfl dX5_clear_6 ?_
  refine z_mmin C gx1 g_6 hl.1 kw_41 kw_42 kw_4 kw_43 (by decide) (Nat.le_of_ble_eq_true rfl) (Nat.zero_le _) (Nat.zero_le _) dX5_clear_7 ?_
  refine zlet_elim h (fun μ_1 em h => ?_)
  refine z_putI C X zk5 (zob.self o_t0) (zo5 o_t0) 6 (by decide) kw_78 rfl rfl rfl rfl (zmin_rg gx1 g_6) em dX5_clear_10 (fun H locs X => ?_)
  clear em
  refine lv_aload_n C.1 C.2.1 dX5_clear_13 rfl (lv_at hl 0 rfl) ?_
  refine z_iconst C dX5_clear_14 ?_
  refine zlet_elim h (fun μ_2 em h => ?_)
  refine z_putI C X zk5 (zob.self o_t0) (zo5 o_t0) 7 (by decide) kw_83 rfl rfl rfl rfl ⟨by decide, by decide⟩ em dX5_clear_15 (fun H locs X => ?_)
  clear em
  refine lv_aload_n C.1 C.2.1 dX5_clear_18 rfl (lv_at hl 0 rfl) ?_
  refine z_iconst C dX5_clear_19 ?_
  refine zlet_elim h (fun μ_3 em h => ?_)
  refine z_putI C X zk5 (zob.self o_t0) (zo5 o_t0) 8 (by decide) kw_87 rfl rfl rfl rfl ⟨by decide, by decide⟩ em dX5_clear_20 (fun H locs X => ?_)
  clear em
  obtain rfl := Option.some.inj h
  exact rt X dX5_clear_23
theorem zc_X5_clear : zcal yX5_clear cX5_clear 2 none RX5 1 := ⟨⟨kw_40, kw_38, kw_39, kw_3⟩, rfl, by decide, by decide, by decide +kernel⟩

def f_X5_leastLeadingOut_L2 (t0 : Int) (μ : zMem) : Nat → Int → Option Int
  | 0, _ => none
  | n + 1, x_1 =>
    if x_1 < (μ t0 7) then
      chk ((0 : Int) ≤ x_1 ∧ x_1 < zlen (t0 + 1)) <|
      chk ((0 : Int) ≤ (μ (t0 + 1) x_1) ∧ (μ (t0 + 1) x_1) < zlen (t0 + 4)) <|
      chk ((0 : Int) ≤ x_1 ∧ x_1 < zlen (t0 + 2)) <|
      chk ((0 : Int) ≤ (μ (t0 + 2) x_1) ∧ (μ (t0 + 2) x_1) < zlen (t0 + 4)) <|
      if (μ (t0 + 4) (μ (t0 + 1) x_1)) = (μ (t0 + 4) (μ (t0 + 2) x_1)) then
        zlet (zw (x_1 + 1)) fun x_2 =>
        (f_X5_leastLeadingOut_L2 t0 μ n) x_2
      else
        some x_1
    else
      some (-1)
def f_X5_leastLeadingOut (t0 : Int) (μ : zMem) : Option Int :=
  (f_X5_leastLeadingOut_L2 t0 μ) zfu 0
set_option maxHeartbeats 4000000 in
set_option maxRecDepth 100000 in
theorem M_X5_leastLeadingOut {l : Launch} {Ω : zO} (μ : zMem) (t0 : Int) {r : Int} (o_t0 : zob Ω.2.2.1 5 t0) (h : f_X5_leastLeadingOut t0 μ = some r) : XMet l yX5_leastLeadingOut cX5_leastLeadingOut 2 (some Jvm.ClassFile.FieldType.int) 0 Ω [zR Ω t0] μ (some (zI r)) (Rg r) μ := by
  refine XMet.ofI (by decide) (Nat.le_of_ble_eq_true rfl) ?_
  intro p e s m args below meth c ls Q C rt X hl
  have C : zC p s m args c cX5_leastLeadingOut RX5 2 Ω := C
  have hl : lv_has ls 2 [(0, zR Ω t0)] := hl
  unfold f_X5_leastLeadingOut at h
  skip
  refine z_iconst C dX5_leastLeadingOut_0 ?_
  refine lv_istore_n C.1 C.2.1 (lv' := [(1, zI 0), (0, zR Ω t0)]) dX5_leastLeadingOut_1 rfl hl (by decide) rfl (fun ls hl => ?_)
  have L2 : ∀ (n2 : Nat) (x_1 : Int) (H : Heap) (locs : List Loc) (ls : Array Slot), Rg x_1 → zX Ω μ (zfree Ω) s.heap H locs → lv_has ls 2 [(0, zR Ω t0), (1, zI x_1)] → (f_X5_leastLeadingOut_L2 t0 μ n2 x_1) = some r → W p l e (zrm 0) s m args below meth c H locs 0 0 Q (F0 m 2 ls []) := by
    intro n2
    induction n2 with
    | zero =>
      intro x_1 H locs ls _ _ _ h
      cases h
    | succ n2 ih2 =>
      intro x_1 H locs ls gx_1 X hl h
      unfold f_X5_leastLeadingOut_L2 at h
      refine lv_iload_n C.1 C.2.1 dX5_leastLeadingOut_2 rfl (lv_at hl 1 rfl) ?_
      refine lv_aload_n C.1 C.2.1 dX5_leastLeadingOut_3 rfl (lv_at hl 0 rfl) ?_
      have g_4 : Rg (μ t0 7) := zrgf0 (ci := 5) X.2.2.2 (zob.self o_t0) (zo5 o_t0) 7 rfl
      refine z_get C X zk5 (zob.self o_t0) (zo5 o_t0) 7 (by decide) kw_83 (zI (μ t0 7)) rfl dX5_leastLeadingOut_4 ?_
      refine z_icmpge C gx_1 g_4 (tgt := 43) dX5_leastLeadingOut_7 (by decide) (fun hc7 => ?_) (fun hc7 => ?_)
      · rw [if_neg hc7] at h
        refine z_iconst C dX5_leastLeadingOut_43 ?_
        obtain rfl := Option.some.inj h
        exact rt X ⟨by decide, by decide⟩ dX5_leastLeadingOut_44
      · rw [if_pos hc7] at h
        refine lv_aload_n C.1 C.2.1 dX5_leastLeadingOut_10 rfl (lv_at hl 0 rfl) ?_
        refine z_get C X zk5 (zob.self o_t0) (zo5 o_t0) 3 (by decide) kw_68 (zR Ω (t0 + 4)) (zfvF (off := 4) X.2.2.2 (zob.self o_t0) o_t0.2.2 (zo5 o_t0) rfl (by rw [zo5_4 o_t0]; decide)) dX5_leastLeadingOut_11 ?_
        refine lv_aload_n C.1 C.2.1 dX5_leastLeadingOut_14 rfl (lv_at hl 0 rfl) ?_
        refine z_get C X zk5 (zob.self o_t0) (zo5 o_t0) 0 (by decide) kw_56 (zR Ω (t0 + 1)) (zfvF (off := 1) X.2.2.2 (zob.self o_t0) o_t0.2.2 (zo5 o_t0) rfl (by rw [zo5_1 o_t0]; decide)) dX5_leastLeadingOut_15 ?_
        refine lv_iload_n C.1 C.2.1 dX5_leastLeadingOut_18 rfl (lv_at hl 1 rfl) ?_
        obtain ⟨hc19, h⟩ := chk_some h
        have g_19 : Rg (μ (t0 + 1) x_1) := zrg1 X.2.2.2 (o_t0.2.1 1 (by decide) (by decide)) (zo5_1 o_t0)
        refine z_iald C X (o_t0.2.1 1 (by decide) (by decide)) (zo5_1 o_t0) hc19 dX5_leastLeadingOut_19 ?_
        obtain ⟨hc20, h⟩ := chk_some h
        have g_20 : 0 ≤ (μ (t0 + 4) (μ (t0 + 1) x_1)) ∧ (μ (t0 + 4) (μ (t0 + 1) x_1)) ≤ 1 := zrg3 X.2.2.2 (o_t0.2.1 4 (by decide) (by decide)) (zo5_4 o_t0)
        refine z_zald C X (o_t0.2.1 4 (by decide) (by decide)) (zo5_4 o_t0) hc20 dX5_leastLeadingOut_20 ?_
        refine lv_aload_n C.1 C.2.1 dX5_leastLeadingOut_21 rfl (lv_at hl 0 rfl) ?_
        refine z_get C X zk5 (zob.self o_t0) (zo5 o_t0) 3 (by decide) kw_68 (zR Ω (t0 + 4)) (zfvF (off := 4) X.2.2.2 (zob.self o_t0) o_t0.2.2 (zo5 o_t0) rfl (by rw [zo5_4 o_t0]; decide)) dX5_leastLeadingOut_22 ?_
        refine lv_aload_n C.1 C.2.1 dX5_leastLeadingOut_25 rfl (lv_at hl 0 rfl) ?_
        refine z_get C X zk5 (zob.self o_t0) (zo5 o_t0) 1 (by decide) kw_60 (zR Ω (t0 + 2)) (zfvF (off := 2) X.2.2.2 (zob.self o_t0) o_t0.2.2 (zo5 o_t0) rfl (by rw [zo5_2 o_t0]; decide)) dX5_leastLeadingOut_26 ?_
        refine lv_iload_n C.1 C.2.1 dX5_leastLeadingOut_29 rfl (lv_at hl 1 rfl) ?_
        obtain ⟨hc30, h⟩ := chk_some h
        have g_30 : Rg (μ (t0 + 2) x_1) := zrg1 X.2.2.2 (o_t0.2.1 2 (by decide) (by decide)) (zo5_2 o_t0)
        refine z_iald C X (o_t0.2.1 2 (by decide) (by decide)) (zo5_2 o_t0) hc30 dX5_leastLeadingOut_30 ?_
        obtain ⟨hc31, h⟩ := chk_some h
        have g_31 : 0 ≤ (μ (t0 + 4) (μ (t0 + 2) x_1)) ∧ (μ (t0 + 4) (μ (t0 + 2) x_1)) ≤ 1 := zrg3 X.2.2.2 (o_t0.2.1 4 (by decide) (by decide)) (zo5_4 o_t0)
        refine z_zald C X (o_t0.2.1 4 (by decide) (by decide)) (zo5_4 o_t0) hc31 dX5_leastLeadingOut_31 ?_
        refine z_icmpeq C (rgz g_20) (rgz g_31) (tgt := 37) dX5_leastLeadingOut_32 (by decide) (fun hc32 => ?_) (fun hc32 => ?_)
        · rw [if_pos hc32] at h
          refine zlet_elim h (fun x_2 ex_2 h => ?_)
          have gx_2 : Rg x_2 := by rw [ex_2]; exact Rg.w _
          refine z_iinc C ex_2 dX5_leastLeadingOut_37 hl (k := 1) rfl (by decide) (lv' := [(1, zI x_2), (0, zR Ω t0)]) rfl (fun ls hl => ?_)
          clear ex_2
          refine lv_goto (tgt := 2) C.1 C.2.1 dX5_leastLeadingOut_40 (by decide) ?_
          exact ih2 x_2 _ _ _ gx_2 X (lv_sub hl [1, 0] rfl) h
        · rw [if_neg hc32] at h
          refine lv_iload_n C.1 C.2.1 dX5_leastLeadingOut_35 rfl (lv_at hl 1 rfl) ?_
          obtain rfl := Option.some.inj h
          exact rt X gx_1 dX5_leastLeadingOut_36
  exact L2 zfu 0 _ _ _ ⟨by decide, by decide⟩ X (lv_sub hl [1, 0] rfl) h
theorem zc_X5_leastLeadingOut : zcal yX5_leastLeadingOut cX5_leastLeadingOut 2 (some Jvm.ClassFile.FieldType.int) RX5 0 := ⟨⟨kw_51, kw_50, kp_0, kw_3⟩, rfl, by decide, by decide, by decide +kernel⟩

