/-! the law's loop -/
theorem zand31 (x : Int) : 0 ≤ zand x 31 ∧ zand x 31 < 32 := by
  unfold zand
  rw [pk_and (Int32.ofInt x) (m := Int32.ofInt 31) 5 (by decide)]
  have h1 : (Int32.ofInt x).toBitVec.toNat % 2 ^ 5 < 32 := Nat.mod_lt _ (by decide)
  rw [nI_toInt (by omega)]
  omega
theorem rg31 {y : Int} (h : 0 ≤ y ∧ y < 32) : (Int32.ofInt y).toInt = y := Rg.v ⟨by omega, by omega⟩
set_option maxHeartbeats 4000000 in
set_option maxRecDepth 100000 in
theorem law_loop {p : Program} {l : Launch} {e : Env} {s : State} {m : MethodId} {below : List Frame} {meth : Method} {c : Code} {b L : Nat} {xs : Nat → Int32} {Ω : zO} (hr : meth.sig.returnType = ret) (hlocks : meth.locks = false) (D : lwD p s m c b L xs Ω) :
    ∀ (n : Nat) (i : Int) (μ : zMem) (H : Heap) (locs : List Loc) (ls : Array Slot), 0 ≤ i → i ≤ (L : Int) → (L : Int) - i < n → zX Ω μ (lA s) s.heap H locs → Rel μ → lv_has ls 4 [(0, Value.ref b), (1, zR Ω 1), (2, zR Ω 101), (3, zI i)] → W p l e room_1 s m #[Value.ref b] below meth c H locs 126 70000 (lw_Z below #[Value.ref b] s) (F0 m 18 ls []) := by
  obtain ⟨C, hI, hM, hX, hbl, hL⟩ := id D
  intro n
  induction n with
  | zero =>
    intro i μ H locs ls h1 h2 h3
    exact absurd h3 (by omega)
  | succ n ih =>
    intro i μ H locs ls i0 i1 i2 X R hl
    refine lv_iload_n C.1 C.2.1 dL_law_18 rfl (lv_at hl 3 rfl) ?_
    refine lv_aload_n C.1 C.2.1 dL_law_19 rfl (lv_at hl 0 rfl) ?_
    refine va_slen C.1 C.2.1 hX hbl (Nat.not_le.mpr hbl) X.2.2.1 dL_law_20 ?_
    have hv : Int32.ofNat L = Int32.ofInt (L : Int) := (Int32.ofInt_eq_ofNat).symm
    rw [hv]
    refine z_bipush C dL_law_21 (by decide) ?_
    refine z_isub C (x := (L : Int)) dL_law_23 ?_
    rw [zw_eq (x := (L : Int) - 7) (by omega) (by omega)]
    refine z_icmpgt C (x := i) (y := (L : Int) - 7) ⟨by omega, by omega⟩ ⟨by omega, by omega⟩ (tgt := 1210) dL_law_24 (by decide) (fun h => ?_) (fun h => ?_)
    · refine lv_iconst (v := 1) C.1 C.2.1 dL_law_1210 (by decide) ?_
      refine va_forget (fun q hq => X.2.2.1.2.2 q hq) ?_
      refine W.widen (k := 600000) (n := 7302250) (by decide) (by decide) ?_
      exact lw_ret C.1 C.2.1 hr hlocks dL_law_1211
    · have hi : 0 ≤ i ∧ i + 7 ≤ (L : Int) := by omega
      have kk : ∀ (μ : zMem) (H : Heap) (locs : List Loc), zX Ω μ (lA s) s.heap H locs → Rel μ → W p l e room_1 s m #[Value.ref b] below meth c H locs 126 70000 (lw_Z below #[Value.ref b] s) (F0 m 1204 ls []) := by
        intro μ H locs X R
        refine z_iinc C (y := i + 7) (zw_eq (by omega) (by omega)).symm dL_law_1204 hl (k := 3) rfl (by decide) (lv' := [(3, zI (i + 7)), (0, Value.ref b), (1, zR Ω 1), (2, zR Ω 101)]) rfl (fun ls hl => ?_)
        refine lv_goto (tgt := 18) C.1 C.2.1 dL_law_1207 (by decide) ?_
        exact ih (i + 7) μ H locs ls (by omega) (by omega) (by omega) X R (lv_sub hl [1, 2, 3, 0] rfl)
      refine lv_aload_n C.1 C.2.1 dL_law_27 rfl (lv_at hl 0 rfl) ?_
      refine lv_iload_n C.1 C.2.1 dL_law_28 rfl (lv_at hl 3 rfl) ?_
      refine y_sld D X (by omega) dL_law_29 ?_
      refine z_bipush C dL_law_30 (by decide) ?_
      refine z_iand C dL_law_32 ?_
      have hz := zand31 (lsc xs i)
      generalize zand (lsc xs i) 31 = y at hz ⊢
      have hq := rg31 hz
      have hy : y = 0 ∨ y = 1 ∨ y = 2 ∨ y = 3 ∨ y = 4 ∨ y = 5 ∨ y = 6 ∨ y = 7 ∨ y = 8 ∨ y = 9 ∨ y = 10 ∨ y = 11 ∨ y = 12 ∨ y = 13 ∨ y = 14 ∨ y = 15 ∨ y = 16 ∨ y = 17 ∨ y = 18 ∨ y = 19 ∨ y = 20 ∨ y = 21 ∨ y = 22 ∨ y = 23 ∨ y = 24 ∨ y = 25 ∨ y = 26 ∨ y = 27 ∨ y = 28 ∨ 28 < y := by omega
      rcases hy with h | h | h | h | h | h | h | h | h | h | h | h | h | h | h | h | h | h | h | h | h | h | h | h | h | h | h | h | h | h
      · subst h
        exact lv_tableIn C.1 C.2.1 (tgt := 164) (off := 131) dL_law_33 (by decide) (by decide) (by decide) (by decide) (law_corners D X R hi hl kk)
      · subst h
        exact lv_tableIn C.1 C.2.1 (tgt := 197) (off := 164) dL_law_33 (by decide) (by decide) (by decide) (by decide) (law_edge D X R hi hl kk)
      · subst h
        exact lv_tableIn C.1 C.2.1 (tgt := 240) (off := 207) dL_law_33 (by decide) (by decide) (by decide) (by decide) (law_type D X R hi hl kk)
      · subst h
        exact lv_tableIn C.1 C.2.1 (tgt := 303) (off := 270) dL_law_33 (by decide) (by decide) (by decide) (by decide) (law_face D X R hi hl kk)
      · subst h
        exact lv_tableIn C.1 C.2.1 (tgt := 326) (off := 293) dL_law_33 (by decide) (by decide) (by decide) (by decide) (law_text D X R hi hl kk)
      · subst h
        exact lv_tableIn C.1 C.2.1 (tgt := 349) (off := 316) dL_law_33 (by decide) (by decide) (by decide) (by decide) (law_count D X R hi hl kk)
      · subst h
        exact lv_tableIn C.1 C.2.1 (tgt := 382) (off := 349) dL_law_33 (by decide) (by decide) (by decide) (by decide) (law_told D X R hi hl kk)
      · subst h
        exact lv_tableIn C.1 C.2.1 (tgt := 425) (off := 392) dL_law_33 (by decide) (by decide) (by decide) (by decide) (law_rim D X R hi hl kk)
      · subst h
        exact lv_tableIn C.1 C.2.1 (tgt := 468) (off := 435) dL_law_33 (by decide) (by decide) (by decide) (by decide) (law_holes D X R hi hl kk)
      · subst h
        exact lv_tableIn C.1 C.2.1 (tgt := 511) (off := 478) dL_law_33 (by decide) (by decide) (by decide) (by decide) (law_bend D X R hi hl kk)
      · subst h
        exact lv_tableIn C.1 C.2.1 (tgt := 545) (off := 512) dL_law_33 (by decide) (by decide) (by decide) (by decide) (law_tables D X R hi hl kk)
      · subst h
        exact lv_tableIn C.1 C.2.1 (tgt := 578) (off := 545) dL_law_33 (by decide) (by decide) (by decide) (by decide) (law_layers D X R hi hl kk)
      · subst h
        exact lv_tableIn C.1 C.2.1 (tgt := 611) (off := 578) dL_law_33 (by decide) (by decide) (by decide) (by decide) (law_layer D X R hi hl kk)
      · subst h
        exact lv_tableIn C.1 C.2.1 (tgt := 654) (off := 621) dL_law_33 (by decide) (by decide) (by decide) (by decide) (law_storeys D X R hi hl kk)
      · subst h
        exact lv_tableIn C.1 C.2.1 (tgt := 677) (off := 644) dL_law_33 (by decide) (by decide) (by decide) (by decide) (law_moves D X R hi hl kk)
      · subst h
        exact lv_tableIn C.1 C.2.1 (tgt := 710) (off := 677) dL_law_33 (by decide) (by decide) (by decide) (by decide) (law_lift D X R hi hl kk)
      · subst h
        exact lv_tableIn C.1 C.2.1 (tgt := 743) (off := 710) dL_law_33 (by decide) (by decide) (by decide) (by decide) (law_moved D X R hi hl kk)
      · subst h
        exact lv_tableIn C.1 C.2.1 (tgt := 766) (off := 733) dL_law_33 (by decide) (by decide) (by decide) (by decide) (law_word D X R hi hl kk)
      · subst h
        exact lv_tableIn C.1 C.2.1 (tgt := 799) (off := 766) dL_law_33 (by decide) (by decide) (by decide) (by decide) (law_walk D X R hi hl kk)
      · subst h
        exact lv_tableIn C.1 C.2.1 (tgt := 874) (off := 841) dL_law_33 (by decide) (by decide) (by decide) (by decide) (law_about D X R hi hl kk)
      · subst h
        exact lv_tableIn C.1 C.2.1 (tgt := 907) (off := 874) dL_law_33 (by decide) (by decide) (by decide) (by decide) (law_step D X R hi hl kk)
      · subst h
        exact lv_tableIn C.1 C.2.1 (tgt := 940) (off := 907) dL_law_33 (by decide) (by decide) (by decide) (by decide) (law_drawn D X R hi hl kk)
      · subst h
        exact lv_tableIn C.1 C.2.1 (tgt := 973) (off := 940) dL_law_33 (by decide) (by decide) (by decide) (by decide) (law_product D X R hi hl kk)
      · subst h
        exact lv_tableIn C.1 C.2.1 (tgt := 1016) (off := 983) dL_law_33 (by decide) (by decide) (by decide) (by decide) (law_nought D X R hi hl kk)
      · subst h
        exact lv_tableIn C.1 C.2.1 (tgt := 1049) (off := 1016) dL_law_33 (by decide) (by decide) (by decide) (by decide) (law_fold D X R hi hl kk)
      · subst h
        exact lv_tableIn C.1 C.2.1 (tgt := 1072) (off := 1039) dL_law_33 (by decide) (by decide) (by decide) (by decide) (law_join D X R hi hl kk)
      · subst h
        exact lv_tableIn C.1 C.2.1 (tgt := 1085) (off := 1052) dL_law_33 (by decide) (by decide) (by decide) (by decide) (law_sheet D X R hi hl kk)
      · subst h
        exact lv_tableIn C.1 C.2.1 (tgt := 1128) (off := 1095) dL_law_33 (by decide) (by decide) (by decide) (by decide) (law_drop D X R hi hl kk)
      · subst h
        exact lv_tableIn C.1 C.2.1 (tgt := 1151) (off := 1118) dL_law_33 (by decide) (by decide) (by decide) (by decide) (law_item D X R hi hl kk)
      · exact lv_tableOut C.1 C.2.1 (tgt := 1204) dL_law_33 (Or.inr (by rw [hq]; exact h)) (by decide) (kk μ H locs X R)
