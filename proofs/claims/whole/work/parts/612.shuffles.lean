/-! the loops of the constructor of Shuffles -/
section Z4
variable {p : Program} {l : Launch} {e : Env} {R : Room} {s : State} {m : MethodId} {args : Array Value} {below : List Frame} {meth : Method} {c : Code} {H : Heap} {locs : List Loc} {cells slots : Nat} {Q : State → Prop}
variable {cc : ByteArray} {pc : Nat} {ls : Array Slot} {rest : List Value} {own : String} {nL : Nat} {Ω : zO} {μ μ' : zMem} {k : Int} {A : Nat → Prop}
theorem z_callV0G (C : zC p s m args c cc own nL Ω) (X : zX Ω μ A s.heap H locs) {C0 : String} {T : u_T} {N ci index n maxL d : Nat} {ty : Nat → FieldType} (K : zCl ci C0 T N ty) (hk : k ∈ Ω.2.2.1.1) (hs : zsh k = (10 + ci, N)) {y : MethodName} {bytes : ByteArray} {ret : Option FieldType} {As : List Value} {φ : Prop} {st : List Value}
    (hM : XMet l y bytes maxL ret d Ω (zR Ω k :: As) μ none φ μ')
    (hw : zcal y bytes maxL ret C0 n) (hml : Cond.methodLink own index y ∈ lw_tbl) (hR : d + 1 + 1 ≤ R.frames ∧ 8 + (maxL + 11) + (60 * d + 60) ≤ R.locals)
    (hn : As.length = n) (hsize : ls.size = nL) (hstack : st = As.reverse ++ zR Ω k :: rest) (hroom : (rest.map fun v => v.category).sum ≤ 8) (hdg : decode cc pc = .ok (.invokevirtual index, 3)) (hc : cells ≤ R.cells ∧ slots ≤ R.slots)
    (kk : ∀ (H1 : Heap) (locs1 : List Loc), φ → zX Ω μ' A s.heap H1 locs1 → W p l e R s m args below meth c H1 locs1 cells slots Q (F0 m (pc + 3) ls rest)) : W p l e R s m args below meth c H locs cells slots Q (F0 m pc ls st) := z_callVG (rv := none) C X K hk hs hM hw hml hR hn hsize hstack hroom hdg hc kk
theorem z_callS1G (C : zC p s m args c cc own nL Ω) (X : zX Ω μ A s.heap H locs) {index n maxL d : Nat} {y : MethodName} {bytes : ByteArray} {ret : Option FieldType} {As : List Value} {rv : Value} {φ : Prop} {st : List Value}
    (hM : XMet l y bytes maxL ret d Ω As μ (some rv) φ μ')
    (hw : zcas y bytes maxL ret n) (hml : Cond.methodLink own index y ∈ lw_tbl) (hR : d + 1 + 1 ≤ R.frames ∧ 8 + (maxL + 11) + (60 * d + 60) ≤ R.locals)
    (hn : As.length = n) (hsize : ls.size = nL) (hstack : st = As.reverse ++ rest) (hroom : (rest.map fun v => v.category).sum ≤ 8) (hdg : decode cc pc = .ok (.invokestatic index, 3)) (hc : cells ≤ R.cells ∧ slots ≤ R.slots)
    (kk : ∀ (H1 : Heap) (locs1 : List Loc), φ → zX Ω μ' A s.heap H1 locs1 → W p l e R s m args below meth c H1 locs1 cells slots Q (F0 m (pc + 3) ls (rv :: rest))) : W p l e R s m args below meth c H locs cells slots Q (F0 m pc ls st) := z_callSG (rv := some rv) C X hM hw hml hR hn hsize hstack hroom hdg hc kk
end Z4
def f_X4_init_K125 (t0 : Int) (μ_1 : zMem) : Option zMem :=
  bnd (f_X4_multiplyAll t0 μ_1) fun μ_2 =>
  some μ_2
def f_X4_init_K116 (x_3 : Int) (x_4 : Int) (g58 : Int → Int → zMem → Option zMem) (μ_8 : zMem) : Option zMem :=
  zlet (zw (x_3 + 1)) fun x_9 =>
  zlet (zw (x_4 + 1)) fun x_10 =>
  g58 x_9 x_10 μ_8
def f_X4_init_L86 (t0 : Int) (x1 : Int) (x_3 : Int) (x_4 : Int) (g116 : zMem → Option zMem) : Nat → Int → zMem → Option zMem
  | 0, _, _ => none
  | n + 1, x_11, μ_12 =>
    if x_11 < x1 then
      chk ((0 : Int) ≤ (zw ((zw (x_3 * x1)) + x_11)) ∧ (zw ((zw (x_3 * x1)) + x_11)) < zlen (t0 + 1)) <|
      zlet (zup μ_12 (t0 + 1) (zw ((zw (x_3 * x1)) + x_11)) (f_X4_goal x_4 x_11 x1)) fun μ_13 =>
      zlet (zw (x_11 + 1)) fun x_14 =>
      (f_X4_init_L86 t0 x1 x_3 x_4 g116 n) x_14 μ_13
    else
      g116 μ_12
def f_X4_init_L58 (t0 : Int) (x1 : Int) (g125 : zMem → Option zMem) : Nat → Int → Int → zMem → Option zMem
  | 0, _, _, _ => none
  | n + 1, x_3, x_4, μ_5 =>
    if x_4 < (zshl 1 (zw (2 * x1))) then
      if x_3 < (μ_5 t0 1) then
        bnd (f_X4_isShuffle x_4 x1) fun x_6 =>
        if x_6 = 0 then
          zlet (zw (x_4 + 1)) fun x_7 =>
          (f_X4_init_L58 t0 x1 g125 n) x_3 x_7 μ_5
        else
          (f_X4_init_L86 t0 x1 x_3 x_4 (f_X4_init_K116 x_3 x_4 (f_X4_init_L58 t0 x1 g125 n))) zfu 0 μ_5
      else
        g125 μ_5
    else
      g125 μ_5
def f_X4_init (t0 : Int) (x1 : Int) (μ : zMem) : Option zMem :=
  (f_X4_init_L58 t0 x1 (f_X4_init_K125 t0)) zfu 0 0 μ
set_option maxHeartbeats 4000000 in
set_option maxRecDepth 100000 in
theorem F_X4_init {p : Program} {l : Launch} {e : Env} {s : State} {m : MethodId} {args : Array Value} {below : List Frame} {meth : Method} {c : Code} {H : Heap} {locs : List Loc} {cells slots mc ms : Nat} {Q : State → Prop} {ls : Array Slot} {Ω : zO} {A : Nat → Prop} (μ : zMem) (t0 x1 : Int) {μ' : zMem} (o_t0 : zob Ω.2.2.1 4 t0) (gx1 : Rg x1) (h : f_X4_init t0 x1 μ = some μ') (C : zC p s m args c cX4_init RX4 5 Ω) (hcs : cells ≤ mc ∧ slots ≤ ms) (rt : ∀ {H : Heap} {locs : List Loc} {pc : Nat} {ls : Array Slot}, zX Ω μ' A s.heap H locs → decode cX4_init pc = .ok (.return_, 1) → W p l e (zrmN 3 mc ms) s m args below meth c H locs cells slots Q (F0 m pc ls [])) (X : zX Ω μ A s.heap H locs) (hl : lv_has ls 5 [(0, zR Ω t0), (1, zI x1)]) : W p l e (zrmN 3 mc ms) s m args below meth c H locs cells slots Q (F0 m 54 ls []) := by
  unfold f_X4_init at h
  refine z_iconst C dX4_init_54 ?_
  refine lv_istore_n C.1 C.2.1 (lv' := [(2, zI 0), (0, zR Ω t0), (1, zI x1)]) dX4_init_55 rfl hl (by decide) rfl (fun ls hl => ?_)
  refine z_iconst C dX4_init_56 ?_
  refine lv_istore_n C.1 C.2.1 (lv' := [(3, zI 0), (2, zI 0), (0, zR Ω t0), (1, zI x1)]) dX4_init_57 rfl hl (by decide) rfl (fun ls hl => ?_)
  have K125 : ∀ (μ_1 : zMem) (H : Heap) (locs : List Loc) (ls : Array Slot), zX Ω μ_1 A s.heap H locs → lv_has ls 5 [(0, zR Ω t0)] → (f_X4_init_K125 t0) μ_1 = some μ' → W p l e (zrmN 3 mc ms) s m args below meth c H locs cells slots Q (F0 m 125 ls []) := by
    intro μ_1 H locs ls  X hl h
    unfold f_X4_init_K125 at h
    refine lv_aload_n C.1 C.2.1 dX4_init_125 rfl (lv_at hl 0 rfl) ?_
    obtain ⟨μ_2, hq126, h⟩ := bnd_some h
    refine z_callV0G C X zk4 (zob.self o_t0) (zo4 o_t0) (As := []) (M_X4_multiplyAll μ_1 t0 o_t0 hq126) zc_X4_multiplyAll kw_357 ⟨Nat.le_of_ble_eq_true rfl, Nat.le_of_ble_eq_true rfl⟩ rfl hl.1 rfl (Nat.le_of_ble_eq_true rfl) dX4_init_126 hcs (fun H locs g_126 X => ?_)
    obtain rfl := Option.some.inj h
    exact rt X dX4_init_129
  have L58 : ∀ (n58 : Nat) (x_3 : Int) (x_4 : Int) (μ_5 : zMem) (H : Heap) (locs : List Loc) (ls : Array Slot), Rg x_3 → Rg x_4 → zX Ω μ_5 A s.heap H locs → lv_has ls 5 [(0, zR Ω t0), (1, zI x1), (2, zI x_3), (3, zI x_4)] → (f_X4_init_L58 t0 x1 (f_X4_init_K125 t0) n58 x_3 x_4 μ_5) = some μ' → W p l e (zrmN 3 mc ms) s m args below meth c H locs cells slots Q (F0 m 58 ls []) := by
    intro n58
    induction n58 with
    | zero =>
      intro x_3 x_4 μ_5 H locs ls _ _ _ _ h
      cases h
    | succ n58 ih58 =>
      intro x_3 x_4 μ_5 H locs ls gx_3 gx_4 X hl h
      unfold f_X4_init_L58 at h
      refine lv_iload_n C.1 C.2.1 dX4_init_58 rfl (lv_at hl 3 rfl) ?_
      refine z_iconst C dX4_init_59 ?_
      refine z_iconst C dX4_init_60 ?_
      refine lv_iload_n C.1 C.2.1 dX4_init_61 rfl (lv_at hl 1 rfl) ?_
      refine z_imul C dX4_init_62 ?_
      refine z_ishl C dX4_init_63 ?_
      refine z_icmpge C gx_4 (Rg.t _) (tgt := 125) dX4_init_64 (by decide) (fun hc64 => ?_) (fun hc64 => ?_)
      · rw [if_neg hc64] at h
        exact K125 μ_5 _ _ _ X (lv_sub hl [0] rfl) h
      · rw [if_pos hc64] at h
        refine lv_iload_n C.1 C.2.1 dX4_init_67 rfl (lv_at hl 2 rfl) ?_
        refine lv_aload_n C.1 C.2.1 dX4_init_68 rfl (lv_at hl 0 rfl) ?_
        have g_69 : Rg (μ_5 t0 1) := zrgf0 (ci := 4) X.2.2.2 (zob.self o_t0) (zo4 o_t0) 1 rfl
        refine z_get C X zk4 (zob.self o_t0) (zo4 o_t0) 1 (by decide) kw_373 (zI (μ_5 t0 1)) rfl dX4_init_69 ?_
        refine z_icmpge C gx_3 g_69 (tgt := 125) dX4_init_72 (by decide) (fun hc72 => ?_) (fun hc72 => ?_)
        · rw [if_neg hc72] at h
          exact K125 μ_5 _ _ _ X (lv_sub hl [0] rfl) h
        · rw [if_pos hc72] at h
          refine lv_iload_n C.1 C.2.1 dX4_init_75 rfl (lv_at hl 3 rfl) ?_
          refine lv_iload_n C.1 C.2.1 dX4_init_76 rfl (lv_at hl 1 rfl) ?_
          obtain ⟨x_6, hq77, h⟩ := bnd_some h
          refine z_callS1G C X (As := [zI x_4, zI x1]) (M_X4_isShuffle μ_5 x_4 x1 gx_4 gx1 hq77) zc_X4_isShuffle kw_351 ⟨Nat.le_of_ble_eq_true rfl, Nat.le_of_ble_eq_true rfl⟩ rfl hl.1 rfl (Nat.le_of_ble_eq_true rfl) dX4_init_77 hcs (fun H locs g_77 X => ?_)
          refine z_ifeq C (rgz g_77) (tgt := 119) dX4_init_80 (by decide) (fun hc80 => ?_) (fun hc80 => ?_)
          · rw [if_pos hc80] at h
            refine zlet_elim h (fun x_7 ex_7 h => ?_)
            have gx_7 : Rg x_7 := by rw [ex_7]; exact Rg.w _
            refine z_iinc C ex_7 dX4_init_119 hl (k := 3) rfl (by decide) (lv' := [(3, zI x_7), (0, zR Ω t0), (1, zI x1), (2, zI x_3)]) rfl (fun ls hl => ?_)
            clear ex_7
            refine lv_goto (tgt := 58) C.1 C.2.1 dX4_init_122 (by decide) ?_
            exact ih58 x_3 x_7 μ_5 _ _ _ gx_3 gx_7 X (lv_sub hl [1, 2, 3, 0] rfl) h
          · rw [if_neg hc80] at h
            refine z_iconst C dX4_init_83 ?_
            refine lv_istore C.1 C.2.1 (lv' := [(4, zI 0), (0, zR Ω t0), (1, zI x1), (2, zI x_3), (3, zI x_4)]) dX4_init_84 hl (by decide) rfl (fun ls hl => ?_)
            have K116 : ∀ (μ_8 : zMem) (H : Heap) (locs : List Loc) (ls : Array Slot), zX Ω μ_8 A s.heap H locs → lv_has ls 5 [(0, zR Ω t0), (1, zI x1), (2, zI x_3), (3, zI x_4)] → (f_X4_init_K116 x_3 x_4 (f_X4_init_L58 t0 x1 (f_X4_init_K125 t0) n58)) μ_8 = some μ' → W p l e (zrmN 3 mc ms) s m args below meth c H locs cells slots Q (F0 m 116 ls []) := by
              intro μ_8 H locs ls  X hl h
              unfold f_X4_init_K116 at h
              refine zlet_elim h (fun x_9 ex_9 h => ?_)
              have gx_9 : Rg x_9 := by rw [ex_9]; exact Rg.w _
              refine z_iinc C ex_9 dX4_init_116 hl (k := 2) rfl (by decide) (lv' := [(2, zI x_9), (0, zR Ω t0), (1, zI x1), (3, zI x_4)]) rfl (fun ls hl => ?_)
              clear ex_9
              refine zlet_elim h (fun x_10 ex_10 h => ?_)
              have gx_10 : Rg x_10 := by rw [ex_10]; exact Rg.w _
              refine z_iinc C ex_10 dX4_init_119 hl (k := 3) rfl (by decide) (lv' := [(3, zI x_10), (2, zI x_9), (0, zR Ω t0), (1, zI x1)]) rfl (fun ls hl => ?_)
              clear ex_10
              refine lv_goto (tgt := 58) C.1 C.2.1 dX4_init_122 (by decide) ?_
              exact ih58 x_9 x_10 μ_8 _ _ _ gx_9 gx_10 X (lv_sub hl [2, 3, 1, 0] rfl) h
            have L86 : ∀ (n86 : Nat) (x_11 : Int) (μ_12 : zMem) (H : Heap) (locs : List Loc) (ls : Array Slot), Rg x_11 → zX Ω μ_12 A s.heap H locs → lv_has ls 5 [(0, zR Ω t0), (1, zI x1), (2, zI x_3), (3, zI x_4), (4, zI x_11)] → (f_X4_init_L86 t0 x1 x_3 x_4 (f_X4_init_K116 x_3 x_4 (f_X4_init_L58 t0 x1 (f_X4_init_K125 t0) n58)) n86 x_11 μ_12) = some μ' → W p l e (zrmN 3 mc ms) s m args below meth c H locs cells slots Q (F0 m 86 ls []) := by
              intro n86
              induction n86 with
              | zero =>
                intro x_11 μ_12 H locs ls _ _ _ h
                cases h
              | succ n86 ih86 =>
                intro x_11 μ_12 H locs ls gx_11 X hl h
                unfold f_X4_init_L86 at h
                refine lv_iload C.1 C.2.1 dX4_init_86 (lv_at hl 4 rfl) ?_
                refine lv_iload_n C.1 C.2.1 dX4_init_88 rfl (lv_at hl 1 rfl) ?_
                refine z_icmpge C gx_11 gx1 (tgt := 116) dX4_init_89 (by decide) (fun hc89 => ?_) (fun hc89 => ?_)
                · rw [if_neg hc89] at h
                  exact K116 μ_12 _ _ _ X (lv_sub hl [0, 1, 2, 3] rfl) h
                · rw [if_pos hc89] at h
                  refine lv_aload_n C.1 C.2.1 dX4_init_92 rfl (lv_at hl 0 rfl) ?_
                  refine z_get C X zk4 (zob.self o_t0) (zo4 o_t0) 2 (by decide) kw_375 (zR Ω (t0 + 1)) (zfvF (off := 1) X.2.2.2 (zob.self o_t0) o_t0.2.2 (zo4 o_t0) rfl (by rw [zo4_1 o_t0]; decide)) dX4_init_93 ?_
                  refine lv_iload_n C.1 C.2.1 dX4_init_96 rfl (lv_at hl 2 rfl) ?_
                  refine lv_iload_n C.1 C.2.1 dX4_init_97 rfl (lv_at hl 1 rfl) ?_
                  refine z_imul C dX4_init_98 ?_
                  refine lv_iload C.1 C.2.1 dX4_init_99 (lv_at hl 4 rfl) ?_
                  refine z_iadd C dX4_init_101 ?_
                  refine lv_iload_n C.1 C.2.1 dX4_init_102 rfl (lv_at hl 3 rfl) ?_
                  refine lv_iload C.1 C.2.1 dX4_init_103 (lv_at hl 4 rfl) ?_
                  refine lv_iload_n C.1 C.2.1 dX4_init_105 rfl (lv_at hl 1 rfl) ?_
                  refine z_callS1G C X (As := [zI x_4, zI x_11, zI x1]) (M_X4_goal μ_12 x_4 x_11 x1 gx_4 gx_11 gx1) zc_X4_goal kw_354 ⟨Nat.le_of_ble_eq_true rfl, Nat.le_of_ble_eq_true rfl⟩ rfl hl.1 rfl (Nat.le_of_ble_eq_true rfl) dX4_init_106 hcs (fun H locs g_106 X => ?_)
                  obtain ⟨hc109, h⟩ := chk_some h
                  refine zlet_elim h (fun μ_13 em h => ?_)
                  refine z_iast C X (o_t0.2.1 1 (by decide) (by decide)) (zo4_1 o_t0) hc109 (zok1 (zo4_1 o_t0) g_106) em dX4_init_109 (fun H locs X => ?_)
                  clear em
                  refine zlet_elim h (fun x_14 ex_14 h => ?_)
                  have gx_14 : Rg x_14 := by rw [ex_14]; exact Rg.w _
                  refine z_iinc C ex_14 dX4_init_110 hl (k := 4) rfl (by decide) (lv' := [(4, zI x_14), (0, zR Ω t0), (1, zI x1), (2, zI x_3), (3, zI x_4)]) rfl (fun ls hl => ?_)
                  clear ex_14
                  refine lv_goto (tgt := 86) C.1 C.2.1 dX4_init_113 (by decide) ?_
                  exact ih86 x_14 μ_13 _ _ _ gx_14 X (lv_sub hl [1, 2, 3, 4, 0] rfl) h
            exact L86 zfu 0 μ_5 _ _ _ ⟨by decide, by decide⟩ X (lv_sub hl [1, 2, 3, 4, 0] rfl) h
  exact L58 zfu 0 0 μ _ _ _ ⟨by decide, by decide⟩ ⟨by decide, by decide⟩ X (lv_sub hl [2, 3, 1, 0] rfl) h

