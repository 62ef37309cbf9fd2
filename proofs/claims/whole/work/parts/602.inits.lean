/-! plain constructors, at each place -/
theorem nm_app {L : List Int} {a b : Int} (h : a ∉ L) (hb : a ≠ b) : a ∉ L ++ [b] := fun z => by
  rcases List.mem_append.mp z with y | y
  · exact h y
  · exact hb (List.mem_singleton.mp y)
theorem zz_up {μ : zMem} {k a j v : Int} (h : a ≠ k) (hz : ∀ i, μ a i = 0) : ∀ i, zup μ k j v a i = 0 := fun i => by
  unfold zup
  rw [if_neg (fun z => h z.1)]
  exact hz i
theorem ag_add {Ω0 Ω : zO} {a : Int} {q : Nat} (h : ∀ k ∈ Ω0.2.2.1.1, Ω.2.2.2 k = Ω0.2.2.2 k) (ha : a ∉ Ω0.2.2.1.1) : ∀ k ∈ Ω0.2.2.1.1, (zadd Ω a q).2.2.2 k = Ω0.2.2.2 k := fun k hk => by
  show (if k = a then q else Ω.2.2.2 k) = _
  rw [if_neg (fun (z : k = a) => ha (z ▸ hk))]
  exact h k hk
theorem zX_eq {Ω1 Ω2 : zO} {μ : zMem} {A : Nat → Prop} {H0 H : Heap} {locs : List Loc} (e : Ω1 = Ω2) (X : zX Ω1 μ A H0 H locs) : zX Ω2 μ A H0 H locs := e ▸ X
theorem I_X8_21 {l : Launch} {Ω : zO} (μ : zMem) (sz : Nat) (hk : (21 : Int) ∈ Ω.2.2.1.1) (hkf : (21 : Int) ∉ Ω.2.2.1.2) (hn : ∀ j ∈ ([22] : List Int), j ∉ Ω.2.2.1.1 ∧ j ∉ Ω.2.2.1.2 ∧ ∀ i, μ j i = 0) : XCon l yX8_init cX8_init 1 0 Ω [zR Ω 21] μ [22] [21, 22] (zup (zup μ 21 0 22) 21 1 (-1)) sz 1 16 := by
  refine XCon.of (by decide) rfl (Nat.le_of_ble_eq_true rfl) ?_
  intro p e s m args below meth c ls A Q C hin hA X hl rt
  have C : zC p s m args c cX8_init RX8 1 Ω := C
  have hl : lv_has ls 1 [(0, zR Ω 21)] := hl
  refine lv_aload_n C.1 C.2.1 dX8_init_0 rfl (lv_at hl 0 rfl) ?_
  refine z_objI C kw_186 hl.1 dX8_init_1 ⟨Nat.le_of_ble_eq_true rfl, Nat.le_of_ble_eq_true rfl⟩ (Nat.le_of_ble_eq_true rfl) ?_
  refine lv_aload_n C.1 C.2.1 dX8_init_4 rfl (lv_at hl 0 rfl) ?_
  refine z_bipush C dX8_init_5 rfl ?_
  refine z_newI C X hA (atype := .int) 1 (Or.inl rfl) rfl rfl kw_123 rfl 22 (hn 22 (by decide)).1 (hn 22 (by decide)).2.1 rfl (hn 22 (by decide)).2.2 (by decide) (by decide) (Nat.le_of_ble_eq_true rfl) (Nat.le_of_ble_eq_true rfl) dX8_init_7 (fun q22 H X => ?_)
  have C : zC p s m args c cX8_init RX8 1 (zadd Ω 22 q22) := C
  refine z_putFR C X (v := 22) (k := 21) (Ω := (zadd Ω 22 q22)) zk8 (List.mem_append_left _ hk) rfl 0 (by decide) kw_187 rfl hin rfl rfl (fun _ => rfl) (fun _ => rfl) rfl (by decide) (List.mem_append_right _ (List.mem_singleton_self _)) hkf (i := 0) (μ1 := zup μ 21 0 22) rfl dX8_init_9 (fun H locs X => ?_)
  refine lv_aload_n C.1 C.2.1 dX8_init_12 rfl (lv_at hl 0 rfl) ?_
  refine z_iconst C dX8_init_13 ?_
  refine z_putI C X (v := (-1)) (k := 21) (Ω := (zadd Ω 22 q22)) zk8 (List.mem_append_left _ hk) rfl 1 (by decide) kw_193 rfl rfl rfl (i := 1) (μ1 := zup (zup μ 21 0 22) 21 1 (-1)) rfl ⟨by decide, by decide⟩ rfl dX8_init_14 (fun H locs X => ?_)
  have X := zX_fin (cm := [21, 22]) X (fun k hkm i i0 h9 hq => by
    simp only [List.mem_cons, List.not_mem_nil, or_false] at hkm
    rcases hkm with rfl | rfl
    · obtain ⟨n, rfl⟩ := Int.eq_ofNat_of_zero_le i0
      match n, hq with
      | 0, _ => rfl
      | 1, hq => exact absurd hq (by decide)
      | 2, hq => exact absurd hq (by decide)
      | 3, hq => exact absurd hq (by decide)
      | 4, hq => exact absurd hq (by decide)
      | n + 5, hq => exact absurd (show (0 : Nat) = 3 from hq) (by decide)
    · exact absurd h9 (by decide))
  have ag : ∀ k ∈ Ω.2.2.1.1, (zadd Ω 22 q22).2.2.2 k = Ω.2.2.2 k := (ag_add (fun _ _ => rfl) (hn 22 (by decide)).1)
  have X : zX (zgr Ω [22] [21, 22] (zadd Ω 22 q22).2.2.2) (zup (zup μ 21 0 22) 21 1 (-1)) A s.heap _ _ := zX_eq (by exact Prod.ext rfl (Prod.ext rfl (Prod.ext (Prod.ext (by simp only [zadd, zgr, List.append_assoc, List.cons_append, List.nil_append]) rfl) rfl))) X
  exact rt (ad := (zadd Ω 22 q22).2.2.2) ag X (Nat.le_of_ble_eq_true rfl) (Nat.le_of_ble_eq_true rfl) dX8_init_17
theorem I_X8_58 {l : Launch} {Ω : zO} (μ : zMem) (sz : Nat) (hk : (58 : Int) ∈ Ω.2.2.1.1) (hkf : (58 : Int) ∉ Ω.2.2.1.2) (hn : ∀ j ∈ ([59] : List Int), j ∉ Ω.2.2.1.1 ∧ j ∉ Ω.2.2.1.2 ∧ ∀ i, μ j i = 0) : XCon l yX8_init cX8_init 1 0 Ω [zR Ω 58] μ [59] [58, 59] (zup (zup μ 58 0 59) 58 1 (-1)) sz 1 16 := by
  refine XCon.of (by decide) rfl (Nat.le_of_ble_eq_true rfl) ?_
  intro p e s m args below meth c ls A Q C hin hA X hl rt
  have C : zC p s m args c cX8_init RX8 1 Ω := C
  have hl : lv_has ls 1 [(0, zR Ω 58)] := hl
  refine lv_aload_n C.1 C.2.1 dX8_init_0 rfl (lv_at hl 0 rfl) ?_
  refine z_objI C kw_186 hl.1 dX8_init_1 ⟨Nat.le_of_ble_eq_true rfl, Nat.le_of_ble_eq_true rfl⟩ (Nat.le_of_ble_eq_true rfl) ?_
  refine lv_aload_n C.1 C.2.1 dX8_init_4 rfl (lv_at hl 0 rfl) ?_
  refine z_bipush C dX8_init_5 rfl ?_
  refine z_newI C X hA (atype := .int) 1 (Or.inl rfl) rfl rfl kw_123 rfl 59 (hn 59 (by decide)).1 (hn 59 (by decide)).2.1 rfl (hn 59 (by decide)).2.2 (by decide) (by decide) (Nat.le_of_ble_eq_true rfl) (Nat.le_of_ble_eq_true rfl) dX8_init_7 (fun q59 H X => ?_)
  have C : zC p s m args c cX8_init RX8 1 (zadd Ω 59 q59) := C
  refine z_putFR C X (v := 59) (k := 58) (Ω := (zadd Ω 59 q59)) zk8 (List.mem_append_left _ hk) rfl 0 (by decide) kw_187 rfl hin rfl rfl (fun _ => rfl) (fun _ => rfl) rfl (by decide) (List.mem_append_right _ (List.mem_singleton_self _)) hkf (i := 0) (μ1 := zup μ 58 0 59) rfl dX8_init_9 (fun H locs X => ?_)
  refine lv_aload_n C.1 C.2.1 dX8_init_12 rfl (lv_at hl 0 rfl) ?_
  refine z_iconst C dX8_init_13 ?_
  refine z_putI C X (v := (-1)) (k := 58) (Ω := (zadd Ω 59 q59)) zk8 (List.mem_append_left _ hk) rfl 1 (by decide) kw_193 rfl rfl rfl (i := 1) (μ1 := zup (zup μ 58 0 59) 58 1 (-1)) rfl ⟨by decide, by decide⟩ rfl dX8_init_14 (fun H locs X => ?_)
  have X := zX_fin (cm := [58, 59]) X (fun k hkm i i0 h9 hq => by
    simp only [List.mem_cons, List.not_mem_nil, or_false] at hkm
    rcases hkm with rfl | rfl
    · obtain ⟨n, rfl⟩ := Int.eq_ofNat_of_zero_le i0
      match n, hq with
      | 0, _ => rfl
      | 1, hq => exact absurd hq (by decide)
      | 2, hq => exact absurd hq (by decide)
      | 3, hq => exact absurd hq (by decide)
      | 4, hq => exact absurd hq (by decide)
      | n + 5, hq => exact absurd (show (0 : Nat) = 3 from hq) (by decide)
    · exact absurd h9 (by decide))
  have ag : ∀ k ∈ Ω.2.2.1.1, (zadd Ω 59 q59).2.2.2 k = Ω.2.2.2 k := (ag_add (fun _ _ => rfl) (hn 59 (by decide)).1)
  have X : zX (zgr Ω [59] [58, 59] (zadd Ω 59 q59).2.2.2) (zup (zup μ 58 0 59) 58 1 (-1)) A s.heap _ _ := zX_eq (by exact Prod.ext rfl (Prod.ext rfl (Prod.ext (Prod.ext (by simp only [zadd, zgr, List.append_assoc, List.cons_append, List.nil_append]) rfl) rfl))) X
  exact rt (ad := (zadd Ω 59 q59).2.2.2) ag X (Nat.le_of_ble_eq_true rfl) (Nat.le_of_ble_eq_true rfl) dX8_init_17
theorem I_X8_60 {l : Launch} {Ω : zO} (μ : zMem) (sz : Nat) (hk : (60 : Int) ∈ Ω.2.2.1.1) (hkf : (60 : Int) ∉ Ω.2.2.1.2) (hn : ∀ j ∈ ([61] : List Int), j ∉ Ω.2.2.1.1 ∧ j ∉ Ω.2.2.1.2 ∧ ∀ i, μ j i = 0) : XCon l yX8_init cX8_init 1 0 Ω [zR Ω 60] μ [61] [60, 61] (zup (zup μ 60 0 61) 60 1 (-1)) sz 1 16 := by
  refine XCon.of (by decide) rfl (Nat.le_of_ble_eq_true rfl) ?_
  intro p e s m args below meth c ls A Q C hin hA X hl rt
  have C : zC p s m args c cX8_init RX8 1 Ω := C
  have hl : lv_has ls 1 [(0, zR Ω 60)] := hl
  refine lv_aload_n C.1 C.2.1 dX8_init_0 rfl (lv_at hl 0 rfl) ?_
  refine z_objI C kw_186 hl.1 dX8_init_1 ⟨Nat.le_of_ble_eq_true rfl, Nat.le_of_ble_eq_true rfl⟩ (Nat.le_of_ble_eq_true rfl) ?_
  refine lv_aload_n C.1 C.2.1 dX8_init_4 rfl (lv_at hl 0 rfl) ?_
  refine z_bipush C dX8_init_5 rfl ?_
  refine z_newI C X hA (atype := .int) 1 (Or.inl rfl) rfl rfl kw_123 rfl 61 (hn 61 (by decide)).1 (hn 61 (by decide)).2.1 rfl (hn 61 (by decide)).2.2 (by decide) (by decide) (Nat.le_of_ble_eq_true rfl) (Nat.le_of_ble_eq_true rfl) dX8_init_7 (fun q61 H X => ?_)
  have C : zC p s m args c cX8_init RX8 1 (zadd Ω 61 q61) := C
  refine z_putFR C X (v := 61) (k := 60) (Ω := (zadd Ω 61 q61)) zk8 (List.mem_append_left _ hk) rfl 0 (by decide) kw_187 rfl hin rfl rfl (fun _ => rfl) (fun _ => rfl) rfl (by decide) (List.mem_append_right _ (List.mem_singleton_self _)) hkf (i := 0) (μ1 := zup μ 60 0 61) rfl dX8_init_9 (fun H locs X => ?_)
  refine lv_aload_n C.1 C.2.1 dX8_init_12 rfl (lv_at hl 0 rfl) ?_
  refine z_iconst C dX8_init_13 ?_
  refine z_putI C X (v := (-1)) (k := 60) (Ω := (zadd Ω 61 q61)) zk8 (List.mem_append_left _ hk) rfl 1 (by decide) kw_193 rfl rfl rfl (i := 1) (μ1 := zup (zup μ 60 0 61) 60 1 (-1)) rfl ⟨by decide, by decide⟩ rfl dX8_init_14 (fun H locs X => ?_)
  have X := zX_fin (cm := [60, 61]) X (fun k hkm i i0 h9 hq => by
    simp only [List.mem_cons, List.not_mem_nil, or_false] at hkm
    rcases hkm with rfl | rfl
    · obtain ⟨n, rfl⟩ := Int.eq_ofNat_of_zero_le i0
      match n, hq with
      | 0, _ => rfl
      | 1, hq => exact absurd hq (by decide)
      | 2, hq => exact absurd hq (by decide)
      | 3, hq => exact absurd hq (by decide)
      | 4, hq => exact absurd hq (by decide)
      | n + 5, hq => exact absurd (show (0 : Nat) = 3 from hq) (by decide)
    · exact absurd h9 (by decide))
  have ag : ∀ k ∈ Ω.2.2.1.1, (zadd Ω 61 q61).2.2.2 k = Ω.2.2.2 k := (ag_add (fun _ _ => rfl) (hn 61 (by decide)).1)
  have X : zX (zgr Ω [61] [60, 61] (zadd Ω 61 q61).2.2.2) (zup (zup μ 60 0 61) 60 1 (-1)) A s.heap _ _ := zX_eq (by exact Prod.ext rfl (Prod.ext rfl (Prod.ext (Prod.ext (by simp only [zadd, zgr, List.append_assoc, List.cons_append, List.nil_append]) rfl) rfl))) X
  exact rt (ad := (zadd Ω 61 q61).2.2.2) ag X (Nat.le_of_ble_eq_true rfl) (Nat.le_of_ble_eq_true rfl) dX8_init_17
theorem I_X8_62 {l : Launch} {Ω : zO} (μ : zMem) (sz : Nat) (hk : (62 : Int) ∈ Ω.2.2.1.1) (hkf : (62 : Int) ∉ Ω.2.2.1.2) (hn : ∀ j ∈ ([63] : List Int), j ∉ Ω.2.2.1.1 ∧ j ∉ Ω.2.2.1.2 ∧ ∀ i, μ j i = 0) : XCon l yX8_init cX8_init 1 0 Ω [zR Ω 62] μ [63] [62, 63] (zup (zup μ 62 0 63) 62 1 (-1)) sz 1 16 := by
  refine XCon.of (by decide) rfl (Nat.le_of_ble_eq_true rfl) ?_
  intro p e s m args below meth c ls A Q C hin hA X hl rt
  have C : zC p s m args c cX8_init RX8 1 Ω := C
  have hl : lv_has ls 1 [(0, zR Ω 62)] := hl
  refine lv_aload_n C.1 C.2.1 dX8_init_0 rfl (lv_at hl 0 rfl) ?_
  refine z_objI C kw_186 hl.1 dX8_init_1 ⟨Nat.le_of_ble_eq_true rfl, Nat.le_of_ble_eq_true rfl⟩ (Nat.le_of_ble_eq_true rfl) ?_
  refine lv_aload_n C.1 C.2.1 dX8_init_4 rfl (lv_at hl 0 rfl) ?_
  refine z_bipush C dX8_init_5 rfl ?_
  refine z_newI C X hA (atype := .int) 1 (Or.inl rfl) rfl rfl kw_123 rfl 63 (hn 63 (by decide)).1 (hn 63 (by decide)).2.1 rfl (hn 63 (by decide)).2.2 (by decide) (by decide) (Nat.le_of_ble_eq_true rfl) (Nat.le_of_ble_eq_true rfl) dX8_init_7 (fun q63 H X => ?_)
  have C : zC p s m args c cX8_init RX8 1 (zadd Ω 63 q63) := C
  refine z_putFR C X (v := 63) (k := 62) (Ω := (zadd Ω 63 q63)) zk8 (List.mem_append_left _ hk) rfl 0 (by decide) kw_187 rfl hin rfl rfl (fun _ => rfl) (fun _ => rfl) rfl (by decide) (List.mem_append_right _ (List.mem_singleton_self _)) hkf (i := 0) (μ1 := zup μ 62 0 63) rfl dX8_init_9 (fun H locs X => ?_)
  refine lv_aload_n C.1 C.2.1 dX8_init_12 rfl (lv_at hl 0 rfl) ?_
  refine z_iconst C dX8_init_13 ?_
  refine z_putI C X (v := (-1)) (k := 62) (Ω := (zadd Ω 63 q63)) zk8 (List.mem_append_left _ hk) rfl 1 (by decide) kw_193 rfl rfl rfl (i := 1) (μ1 := zup (zup μ 62 0 63) 62 1 (-1)) rfl ⟨by decide, by decide⟩ rfl dX8_init_14 (fun H locs X => ?_)
  have X := zX_fin (cm := [62, 63]) X (fun k hkm i i0 h9 hq => by
    simp only [List.mem_cons, List.not_mem_nil, or_false] at hkm
    rcases hkm with rfl | rfl
    · obtain ⟨n, rfl⟩ := Int.eq_ofNat_of_zero_le i0
      match n, hq with
      | 0, _ => rfl
      | 1, hq => exact absurd hq (by decide)
      | 2, hq => exact absurd hq (by decide)
      | 3, hq => exact absurd hq (by decide)
      | 4, hq => exact absurd hq (by decide)
      | n + 5, hq => exact absurd (show (0 : Nat) = 3 from hq) (by decide)
    · exact absurd h9 (by decide))
  have ag : ∀ k ∈ Ω.2.2.1.1, (zadd Ω 63 q63).2.2.2 k = Ω.2.2.2 k := (ag_add (fun _ _ => rfl) (hn 63 (by decide)).1)
  have X : zX (zgr Ω [63] [62, 63] (zadd Ω 63 q63).2.2.2) (zup (zup μ 62 0 63) 62 1 (-1)) A s.heap _ _ := zX_eq (by exact Prod.ext rfl (Prod.ext rfl (Prod.ext (Prod.ext (by simp only [zadd, zgr, List.append_assoc, List.cons_append, List.nil_append]) rfl) rfl))) X
  exact rt (ad := (zadd Ω 63 q63).2.2.2) ag X (Nat.le_of_ble_eq_true rfl) (Nat.le_of_ble_eq_true rfl) dX8_init_17
theorem I_X8_64 {l : Launch} {Ω : zO} (μ : zMem) (sz : Nat) (hk : (64 : Int) ∈ Ω.2.2.1.1) (hkf : (64 : Int) ∉ Ω.2.2.1.2) (hn : ∀ j ∈ ([65] : List Int), j ∉ Ω.2.2.1.1 ∧ j ∉ Ω.2.2.1.2 ∧ ∀ i, μ j i = 0) : XCon l yX8_init cX8_init 1 0 Ω [zR Ω 64] μ [65] [64, 65] (zup (zup μ 64 0 65) 64 1 (-1)) sz 1 16 := by
  refine XCon.of (by decide) rfl (Nat.le_of_ble_eq_true rfl) ?_
  intro p e s m args below meth c ls A Q C hin hA X hl rt
  have C : zC p s m args c cX8_init RX8 1 Ω := C
  have hl : lv_has ls 1 [(0, zR Ω 64)] := hl
  refine lv_aload_n C.1 C.2.1 dX8_init_0 rfl (lv_at hl 0 rfl) ?_
  refine z_objI C kw_186 hl.1 dX8_init_1 ⟨Nat.le_of_ble_eq_true rfl, Nat.le_of_ble_eq_true rfl⟩ (Nat.le_of_ble_eq_true rfl) ?_
  refine lv_aload_n C.1 C.2.1 dX8_init_4 rfl (lv_at hl 0 rfl) ?_
  refine z_bipush C dX8_init_5 rfl ?_
  refine z_newI C X hA (atype := .int) 1 (Or.inl rfl) rfl rfl kw_123 rfl 65 (hn 65 (by decide)).1 (hn 65 (by decide)).2.1 rfl (hn 65 (by decide)).2.2 (by decide) (by decide) (Nat.le_of_ble_eq_true rfl) (Nat.le_of_ble_eq_true rfl) dX8_init_7 (fun q65 H X => ?_)
  have C : zC p s m args c cX8_init RX8 1 (zadd Ω 65 q65) := C
  refine z_putFR C X (v := 65) (k := 64) (Ω := (zadd Ω 65 q65)) zk8 (List.mem_append_left _ hk) rfl 0 (by decide) kw_187 rfl hin rfl rfl (fun _ => rfl) (fun _ => rfl) rfl (by decide) (List.mem_append_right _ (List.mem_singleton_self _)) hkf (i := 0) (μ1 := zup μ 64 0 65) rfl dX8_init_9 (fun H locs X => ?_)
  refine lv_aload_n C.1 C.2.1 dX8_init_12 rfl (lv_at hl 0 rfl) ?_
  refine z_iconst C dX8_init_13 ?_
  refine z_putI C X (v := (-1)) (k := 64) (Ω := (zadd Ω 65 q65)) zk8 (List.mem_append_left _ hk) rfl 1 (by decide) kw_193 rfl rfl rfl (i := 1) (μ1 := zup (zup μ 64 0 65) 64 1 (-1)) rfl ⟨by decide, by decide⟩ rfl dX8_init_14 (fun H locs X => ?_)
  have X := zX_fin (cm := [64, 65]) X (fun k hkm i i0 h9 hq => by
    simp only [List.mem_cons, List.not_mem_nil, or_false] at hkm
    rcases hkm with rfl | rfl
    · obtain ⟨n, rfl⟩ := Int.eq_ofNat_of_zero_le i0
      match n, hq with
      | 0, _ => rfl
      | 1, hq => exact absurd hq (by decide)
      | 2, hq => exact absurd hq (by decide)
      | 3, hq => exact absurd hq (by decide)
      | 4, hq => exact absurd hq (by decide)
      | n + 5, hq => exact absurd (show (0 : Nat) = 3 from hq) (by decide)
    · exact absurd h9 (by decide))
  have ag : ∀ k ∈ Ω.2.2.1.1, (zadd Ω 65 q65).2.2.2 k = Ω.2.2.2 k := (ag_add (fun _ _ => rfl) (hn 65 (by decide)).1)
  have X : zX (zgr Ω [65] [64, 65] (zadd Ω 65 q65).2.2.2) (zup (zup μ 64 0 65) 64 1 (-1)) A s.heap _ _ := zX_eq (by exact Prod.ext rfl (Prod.ext rfl (Prod.ext (Prod.ext (by simp only [zadd, zgr, List.append_assoc, List.cons_append, List.nil_append]) rfl) rfl))) X
  exact rt (ad := (zadd Ω 65 q65).2.2.2) ag X (Nat.le_of_ble_eq_true rfl) (Nat.le_of_ble_eq_true rfl) dX8_init_17
theorem I_X3_66 {l : Launch} {Ω : zO} (μ : zMem) (sz : Nat) (hk : (66 : Int) ∈ Ω.2.2.1.1) (hkf : (66 : Int) ∉ Ω.2.2.1.2) (hn : ∀ j ∈ ([67] : List Int), j ∉ Ω.2.2.1.1 ∧ j ∉ Ω.2.2.1.2 ∧ ∀ i, μ j i = 0) : XCon l yX3_init cX3_init 1 0 Ω [zR Ω 66] μ [67] [66, 67] (zup (zup μ 66 0 67) 66 1 (-1)) sz 1 20 := by
  refine XCon.of (by decide) rfl (Nat.le_of_ble_eq_true rfl) ?_
  intro p e s m args below meth c ls A Q C hin hA X hl rt
  have C : zC p s m args c cX3_init RX3 1 Ω := C
  have hl : lv_has ls 1 [(0, zR Ω 66)] := hl
  refine lv_aload_n C.1 C.2.1 dX3_init_0 rfl (lv_at hl 0 rfl) ?_
  refine z_objI C kw_329 hl.1 dX3_init_1 ⟨Nat.le_of_ble_eq_true rfl, Nat.le_of_ble_eq_true rfl⟩ (Nat.le_of_ble_eq_true rfl) ?_
  refine lv_aload_n C.1 C.2.1 dX3_init_4 rfl (lv_at hl 0 rfl) ?_
  refine z_bipush C dX3_init_5 rfl ?_
  refine z_newI C X hA (atype := .int) 1 (Or.inl rfl) rfl rfl kw_123 rfl 67 (hn 67 (by decide)).1 (hn 67 (by decide)).2.1 rfl (hn 67 (by decide)).2.2 (by decide) (by decide) (Nat.le_of_ble_eq_true rfl) (Nat.le_of_ble_eq_true rfl) dX3_init_7 (fun q67 H X => ?_)
  have C : zC p s m args c cX3_init RX3 1 (zadd Ω 67 q67) := C
  refine z_putFR C X (v := 67) (k := 66) (Ω := (zadd Ω 67 q67)) zk3 (List.mem_append_left _ hk) rfl 0 (by decide) kw_330 rfl hin rfl rfl (fun _ => rfl) (fun _ => rfl) rfl (by decide) (List.mem_append_right _ (List.mem_singleton_self _)) hkf (i := 0) (μ1 := zup μ 66 0 67) rfl dX3_init_9 (fun H locs X => ?_)
  refine lv_aload_n C.1 C.2.1 dX3_init_12 rfl (lv_at hl 0 rfl) ?_
  refine z_iconst C dX3_init_13 ?_
  refine z_putI C X (v := (-1)) (k := 66) (Ω := (zadd Ω 67 q67)) zk3 (List.mem_append_left _ hk) rfl 1 (by decide) kw_332 rfl rfl rfl (i := 1) (μ1 := zup (zup μ 66 0 67) 66 1 (-1)) rfl ⟨by decide, by decide⟩ rfl dX3_init_14 (fun H locs X => ?_)
  have X := zX_fin (cm := [66, 67]) X (fun k hkm i i0 h9 hq => by
    simp only [List.mem_cons, List.not_mem_nil, or_false] at hkm
    rcases hkm with rfl | rfl
    · obtain ⟨n, rfl⟩ := Int.eq_ofNat_of_zero_le i0
      match n, hq with
      | 0, _ => rfl
      | 1, hq => exact absurd hq (by decide)
      | 2, hq => exact absurd hq (by decide)
      | n + 3, hq => exact absurd (show (0 : Nat) = 3 from hq) (by decide)
    · exact absurd h9 (by decide))
  have ag : ∀ k ∈ Ω.2.2.1.1, (zadd Ω 67 q67).2.2.2 k = Ω.2.2.2 k := (ag_add (fun _ _ => rfl) (hn 67 (by decide)).1)
  have X : zX (zgr Ω [67] [66, 67] (zadd Ω 67 q67).2.2.2) (zup (zup μ 66 0 67) 66 1 (-1)) A s.heap _ _ := zX_eq (by exact Prod.ext rfl (Prod.ext rfl (Prod.ext (Prod.ext (by simp only [zadd, zgr, List.append_assoc, List.cons_append, List.nil_append]) rfl) rfl))) X
  exact rt (ad := (zadd Ω 67 q67).2.2.2) ag X (Nat.le_of_ble_eq_true rfl) (Nat.le_of_ble_eq_true rfl) dX3_init_17
theorem I_X3_68 {l : Launch} {Ω : zO} (μ : zMem) (sz : Nat) (hk : (68 : Int) ∈ Ω.2.2.1.1) (hkf : (68 : Int) ∉ Ω.2.2.1.2) (hn : ∀ j ∈ ([69] : List Int), j ∉ Ω.2.2.1.1 ∧ j ∉ Ω.2.2.1.2 ∧ ∀ i, μ j i = 0) : XCon l yX3_init cX3_init 1 0 Ω [zR Ω 68] μ [69] [68, 69] (zup (zup μ 68 0 69) 68 1 (-1)) sz 1 20 := by
  refine XCon.of (by decide) rfl (Nat.le_of_ble_eq_true rfl) ?_
  intro p e s m args below meth c ls A Q C hin hA X hl rt
  have C : zC p s m args c cX3_init RX3 1 Ω := C
  have hl : lv_has ls 1 [(0, zR Ω 68)] := hl
  refine lv_aload_n C.1 C.2.1 dX3_init_0 rfl (lv_at hl 0 rfl) ?_
  refine z_objI C kw_329 hl.1 dX3_init_1 ⟨Nat.le_of_ble_eq_true rfl, Nat.le_of_ble_eq_true rfl⟩ (Nat.le_of_ble_eq_true rfl) ?_
  refine lv_aload_n C.1 C.2.1 dX3_init_4 rfl (lv_at hl 0 rfl) ?_
  refine z_bipush C dX3_init_5 rfl ?_
  refine z_newI C X hA (atype := .int) 1 (Or.inl rfl) rfl rfl kw_123 rfl 69 (hn 69 (by decide)).1 (hn 69 (by decide)).2.1 rfl (hn 69 (by decide)).2.2 (by decide) (by decide) (Nat.le_of_ble_eq_true rfl) (Nat.le_of_ble_eq_true rfl) dX3_init_7 (fun q69 H X => ?_)
  have C : zC p s m args c cX3_init RX3 1 (zadd Ω 69 q69) := C
  refine z_putFR C X (v := 69) (k := 68) (Ω := (zadd Ω 69 q69)) zk3 (List.mem_append_left _ hk) rfl 0 (by decide) kw_330 rfl hin rfl rfl (fun _ => rfl) (fun _ => rfl) rfl (by decide) (List.mem_append_right _ (List.mem_singleton_self _)) hkf (i := 0) (μ1 := zup μ 68 0 69) rfl dX3_init_9 (fun H locs X => ?_)
  refine lv_aload_n C.1 C.2.1 dX3_init_12 rfl (lv_at hl 0 rfl) ?_
  refine z_iconst C dX3_init_13 ?_
  refine z_putI C X (v := (-1)) (k := 68) (Ω := (zadd Ω 69 q69)) zk3 (List.mem_append_left _ hk) rfl 1 (by decide) kw_332 rfl rfl rfl (i := 1) (μ1 := zup (zup μ 68 0 69) 68 1 (-1)) rfl ⟨by decide, by decide⟩ rfl dX3_init_14 (fun H locs X => ?_)
  have X := zX_fin (cm := [68, 69]) X (fun k hkm i i0 h9 hq => by
    simp only [List.mem_cons, List.not_mem_nil, or_false] at hkm
    rcases hkm with rfl | rfl
    · obtain ⟨n, rfl⟩ := Int.eq_ofNat_of_zero_le i0
      match n, hq with
      | 0, _ => rfl
      | 1, hq => exact absurd hq (by decide)
      | 2, hq => exact absurd hq (by decide)
      | n + 3, hq => exact absurd (show (0 : Nat) = 3 from hq) (by decide)
    · exact absurd h9 (by decide))
  have ag : ∀ k ∈ Ω.2.2.1.1, (zadd Ω 69 q69).2.2.2 k = Ω.2.2.2 k := (ag_add (fun _ _ => rfl) (hn 69 (by decide)).1)
  have X : zX (zgr Ω [69] [68, 69] (zadd Ω 69 q69).2.2.2) (zup (zup μ 68 0 69) 68 1 (-1)) A s.heap _ _ := zX_eq (by exact Prod.ext rfl (Prod.ext rfl (Prod.ext (Prod.ext (by simp only [zadd, zgr, List.append_assoc, List.cons_append, List.nil_append]) rfl) rfl))) X
  exact rt (ad := (zadd Ω 69 q69).2.2.2) ag X (Nat.le_of_ble_eq_true rfl) (Nat.le_of_ble_eq_true rfl) dX3_init_17
theorem I_X3_70 {l : Launch} {Ω : zO} (μ : zMem) (sz : Nat) (hk : (70 : Int) ∈ Ω.2.2.1.1) (hkf : (70 : Int) ∉ Ω.2.2.1.2) (hn : ∀ j ∈ ([71] : List Int), j ∉ Ω.2.2.1.1 ∧ j ∉ Ω.2.2.1.2 ∧ ∀ i, μ j i = 0) : XCon l yX3_init cX3_init 1 0 Ω [zR Ω 70] μ [71] [70, 71] (zup (zup μ 70 0 71) 70 1 (-1)) sz 1 20 := by
  refine XCon.of (by decide) rfl (Nat.le_of_ble_eq_true rfl) ?_
  intro p e s m args below meth c ls A Q C hin hA X hl rt
  have C : zC p s m args c cX3_init RX3 1 Ω := C
  have hl : lv_has ls 1 [(0, zR Ω 70)] := hl
  refine lv_aload_n C.1 C.2.1 dX3_init_0 rfl (lv_at hl 0 rfl) ?_
  refine z_objI C kw_329 hl.1 dX3_init_1 ⟨Nat.le_of_ble_eq_true rfl, Nat.le_of_ble_eq_true rfl⟩ (Nat.le_of_ble_eq_true rfl) ?_
  refine lv_aload_n C.1 C.2.1 dX3_init_4 rfl (lv_at hl 0 rfl) ?_
  refine z_bipush C dX3_init_5 rfl ?_
  refine z_newI C X hA (atype := .int) 1 (Or.inl rfl) rfl rfl kw_123 rfl 71 (hn 71 (by decide)).1 (hn 71 (by decide)).2.1 rfl (hn 71 (by decide)).2.2 (by decide) (by decide) (Nat.le_of_ble_eq_true rfl) (Nat.le_of_ble_eq_true rfl) dX3_init_7 (fun q71 H X => ?_)
  have C : zC p s m args c cX3_init RX3 1 (zadd Ω 71 q71) := C
  refine z_putFR C X (v := 71) (k := 70) (Ω := (zadd Ω 71 q71)) zk3 (List.mem_append_left _ hk) rfl 0 (by decide) kw_330 rfl hin rfl rfl (fun _ => rfl) (fun _ => rfl) rfl (by decide) (List.mem_append_right _ (List.mem_singleton_self _)) hkf (i := 0) (μ1 := zup μ 70 0 71) rfl dX3_init_9 (fun H locs X => ?_)
  refine lv_aload_n C.1 C.2.1 dX3_init_12 rfl (lv_at hl 0 rfl) ?_
  refine z_iconst C dX3_init_13 ?_
  refine z_putI C X (v := (-1)) (k := 70) (Ω := (zadd Ω 71 q71)) zk3 (List.mem_append_left _ hk) rfl 1 (by decide) kw_332 rfl rfl rfl (i := 1) (μ1 := zup (zup μ 70 0 71) 70 1 (-1)) rfl ⟨by decide, by decide⟩ rfl dX3_init_14 (fun H locs X => ?_)
  have X := zX_fin (cm := [70, 71]) X (fun k hkm i i0 h9 hq => by
    simp only [List.mem_cons, List.not_mem_nil, or_false] at hkm
    rcases hkm with rfl | rfl
    · obtain ⟨n, rfl⟩ := Int.eq_ofNat_of_zero_le i0
      match n, hq with
      | 0, _ => rfl
      | 1, hq => exact absurd hq (by decide)
      | 2, hq => exact absurd hq (by decide)
      | n + 3, hq => exact absurd (show (0 : Nat) = 3 from hq) (by decide)
    · exact absurd h9 (by decide))
  have ag : ∀ k ∈ Ω.2.2.1.1, (zadd Ω 71 q71).2.2.2 k = Ω.2.2.2 k := (ag_add (fun _ _ => rfl) (hn 71 (by decide)).1)
  have X : zX (zgr Ω [71] [70, 71] (zadd Ω 71 q71).2.2.2) (zup (zup μ 70 0 71) 70 1 (-1)) A s.heap _ _ := zX_eq (by exact Prod.ext rfl (Prod.ext rfl (Prod.ext (Prod.ext (by simp only [zadd, zgr, List.append_assoc, List.cons_append, List.nil_append]) rfl) rfl))) X
  exact rt (ad := (zadd Ω 71 q71).2.2.2) ag X (Nat.le_of_ble_eq_true rfl) (Nat.le_of_ble_eq_true rfl) dX3_init_17
theorem I_X3_72 {l : Launch} {Ω : zO} (μ : zMem) (sz : Nat) (hk : (72 : Int) ∈ Ω.2.2.1.1) (hkf : (72 : Int) ∉ Ω.2.2.1.2) (hn : ∀ j ∈ ([73] : List Int), j ∉ Ω.2.2.1.1 ∧ j ∉ Ω.2.2.1.2 ∧ ∀ i, μ j i = 0) : XCon l yX3_init cX3_init 1 0 Ω [zR Ω 72] μ [73] [72, 73] (zup (zup μ 72 0 73) 72 1 (-1)) sz 1 20 := by
  refine XCon.of (by decide) rfl (Nat.le_of_ble_eq_true rfl) ?_
  intro p e s m args below meth c ls A Q C hin hA X hl rt
  have C : zC p s m args c cX3_init RX3 1 Ω := C
  have hl : lv_has ls 1 [(0, zR Ω 72)] := hl
  refine lv_aload_n C.1 C.2.1 dX3_init_0 rfl (lv_at hl 0 rfl) ?_
  refine z_objI C kw_329 hl.1 dX3_init_1 ⟨Nat.le_of_ble_eq_true rfl, Nat.le_of_ble_eq_true rfl⟩ (Nat.le_of_ble_eq_true rfl) ?_
  refine lv_aload_n C.1 C.2.1 dX3_init_4 rfl (lv_at hl 0 rfl) ?_
  refine z_bipush C dX3_init_5 rfl ?_
  refine z_newI C X hA (atype := .int) 1 (Or.inl rfl) rfl rfl kw_123 rfl 73 (hn 73 (by decide)).1 (hn 73 (by decide)).2.1 rfl (hn 73 (by decide)).2.2 (by decide) (by decide) (Nat.le_of_ble_eq_true rfl) (Nat.le_of_ble_eq_true rfl) dX3_init_7 (fun q73 H X => ?_)
  have C : zC p s m args c cX3_init RX3 1 (zadd Ω 73 q73) := C
  refine z_putFR C X (v := 73) (k := 72) (Ω := (zadd Ω 73 q73)) zk3 (List.mem_append_left _ hk) rfl 0 (by decide) kw_330 rfl hin rfl rfl (fun _ => rfl) (fun _ => rfl) rfl (by decide) (List.mem_append_right _ (List.mem_singleton_self _)) hkf (i := 0) (μ1 := zup μ 72 0 73) rfl dX3_init_9 (fun H locs X => ?_)
  refine lv_aload_n C.1 C.2.1 dX3_init_12 rfl (lv_at hl 0 rfl) ?_
  refine z_iconst C dX3_init_13 ?_
  refine z_putI C X (v := (-1)) (k := 72) (Ω := (zadd Ω 73 q73)) zk3 (List.mem_append_left _ hk) rfl 1 (by decide) kw_332 rfl rfl rfl (i := 1) (μ1 := zup (zup μ 72 0 73) 72 1 (-1)) rfl ⟨by decide, by decide⟩ rfl dX3_init_14 (fun H locs X => ?_)
  have X := zX_fin (cm := [72, 73]) X (fun k hkm i i0 h9 hq => by
    simp only [List.mem_cons, List.not_mem_nil, or_false] at hkm
    rcases hkm with rfl | rfl
    · obtain ⟨n, rfl⟩ := Int.eq_ofNat_of_zero_le i0
      match n, hq with
      | 0, _ => rfl
      | 1, hq => exact absurd hq (by decide)
      | 2, hq => exact absurd hq (by decide)
      | n + 3, hq => exact absurd (show (0 : Nat) = 3 from hq) (by decide)
    · exact absurd h9 (by decide))
  have ag : ∀ k ∈ Ω.2.2.1.1, (zadd Ω 73 q73).2.2.2 k = Ω.2.2.2 k := (ag_add (fun _ _ => rfl) (hn 73 (by decide)).1)
  have X : zX (zgr Ω [73] [72, 73] (zadd Ω 73 q73).2.2.2) (zup (zup μ 72 0 73) 72 1 (-1)) A s.heap _ _ := zX_eq (by exact Prod.ext rfl (Prod.ext rfl (Prod.ext (Prod.ext (by simp only [zadd, zgr, List.append_assoc, List.cons_append, List.nil_append]) rfl) rfl))) X
  exact rt (ad := (zadd Ω 73 q73).2.2.2) ag X (Nat.le_of_ble_eq_true rfl) (Nat.le_of_ble_eq_true rfl) dX3_init_17
theorem I_X7_19 {l : Launch} {Ω : zO} (μ : zMem) (sz : Nat) (hk : (19 : Int) ∈ Ω.2.2.1.1) (hkf : (19 : Int) ∉ Ω.2.2.1.2) (hn : ∀ j ∈ ([20] : List Int), j ∉ Ω.2.2.1.1 ∧ j ∉ Ω.2.2.1.2 ∧ ∀ i, μ j i = 0) : XCon l yX7_init cX7_init 1 0 Ω [zR Ω 19] μ [20] [19, 20] (zup μ 19 0 20) sz 1 120 := by
  refine XCon.of (by decide) rfl (Nat.le_of_ble_eq_true rfl) ?_
  intro p e s m args below meth c ls A Q C hin hA X hl rt
  have C : zC p s m args c cX7_init RX7 1 Ω := C
  have hl : lv_has ls 1 [(0, zR Ω 19)] := hl
  refine lv_aload_n C.1 C.2.1 dX7_init_0 rfl (lv_at hl 0 rfl) ?_
  refine z_objI C kw_169 hl.1 dX7_init_1 ⟨Nat.le_of_ble_eq_true rfl, Nat.le_of_ble_eq_true rfl⟩ (Nat.le_of_ble_eq_true rfl) ?_
  refine lv_aload_n C.1 C.2.1 dX7_init_4 rfl (lv_at hl 0 rfl) ?_
  refine z_bipush C dX7_init_5 rfl ?_
  refine z_newI C X hA (atype := .char) 4 (Or.inr (Or.inr rfl)) rfl rfl kw_181 rfl 20 (hn 20 (by decide)).1 (hn 20 (by decide)).2.1 rfl (hn 20 (by decide)).2.2 (by decide) (by decide) (Nat.le_of_ble_eq_true rfl) (Nat.le_of_ble_eq_true rfl) dX7_init_7 (fun q20 H X => ?_)
  have C : zC p s m args c cX7_init RX7 1 (zadd Ω 20 q20) := C
  refine z_putFR C X (v := 20) (k := 19) (Ω := (zadd Ω 20 q20)) zk7 (List.mem_append_left _ hk) rfl 0 (by decide) kw_170 rfl hin rfl rfl (fun _ => rfl) (fun _ => rfl) rfl (by decide) (List.mem_append_right _ (List.mem_singleton_self _)) hkf (i := 0) (μ1 := zup μ 19 0 20) rfl dX7_init_9 (fun H locs X => ?_)
  have X := zX_fin (cm := [19, 20]) X (fun k hkm i i0 h9 hq => by
    simp only [List.mem_cons, List.not_mem_nil, or_false] at hkm
    rcases hkm with rfl | rfl
    · obtain ⟨n, rfl⟩ := Int.eq_ofNat_of_zero_le i0
      match n, hq with
      | 0, _ => rfl
      | 1, hq => exact absurd hq (by decide)
      | 2, hq => exact absurd hq (by decide)
      | n + 3, hq => exact absurd (show (0 : Nat) = 3 from hq) (by decide)
    · exact absurd h9 (by decide))
  have ag : ∀ k ∈ Ω.2.2.1.1, (zadd Ω 20 q20).2.2.2 k = Ω.2.2.2 k := (ag_add (fun _ _ => rfl) (hn 20 (by decide)).1)
  have X : zX (zgr Ω [20] [19, 20] (zadd Ω 20 q20).2.2.2) (zup μ 19 0 20) A s.heap _ _ := zX_eq (by exact Prod.ext rfl (Prod.ext rfl (Prod.ext (Prod.ext (by simp only [zadd, zgr, List.append_assoc, List.cons_append, List.nil_append]) rfl) rfl))) X
  exact rt (ad := (zadd Ω 20 q20).2.2.2) ag X (Nat.le_of_ble_eq_true rfl) (Nat.le_of_ble_eq_true rfl) dX7_init_12
theorem I_X2_23 {l : Launch} {Ω : zO} (μ : zMem) (sz : Nat) (hk : (23 : Int) ∈ Ω.2.2.1.1) (hkf : (23 : Int) ∉ Ω.2.2.1.2) (hn : ∀ j ∈ ([24, 25, 26] : List Int), j ∉ Ω.2.2.1.1 ∧ j ∉ Ω.2.2.1.2 ∧ ∀ i, μ j i = 0) : XCon l yX2_init cX2_init 1 0 Ω [zR Ω 23] μ [24, 25, 26] [23, 24, 25, 26] (zup (zup (zup μ 23 0 24) 23 1 25) 23 2 26) sz 3 1552 := by
  refine XCon.of (by decide) rfl (Nat.le_of_ble_eq_true rfl) ?_
  intro p e s m args below meth c ls A Q C hin hA X hl rt
  have C : zC p s m args c cX2_init RX2 1 Ω := C
  have hl : lv_has ls 1 [(0, zR Ω 23)] := hl
  refine lv_aload_n C.1 C.2.1 dX2_init_0 rfl (lv_at hl 0 rfl) ?_
  refine z_objI C kw_222 hl.1 dX2_init_1 ⟨Nat.le_of_ble_eq_true rfl, Nat.le_of_ble_eq_true rfl⟩ (Nat.le_of_ble_eq_true rfl) ?_
  refine lv_aload_n C.1 C.2.1 dX2_init_4 rfl (lv_at hl 0 rfl) ?_
  refine z_sipush C dX2_init_5 rfl ?_
  refine z_newL C X hA (atype := .long) 2 (rfl) rfl rfl kw_246 rfl 24 (hn 24 (by decide)).1 (hn 24 (by decide)).2.1 rfl (hn 24 (by decide)).2.2 (by decide) (by decide) (Nat.le_of_ble_eq_true rfl) (Nat.le_of_ble_eq_true rfl) dX2_init_8 (fun q24 H X => ?_)
  have C : zC p s m args c cX2_init RX2 1 (zadd Ω 24 q24) := C
  refine z_putFR C X (v := 24) (k := 23) (Ω := (zadd Ω 24 q24)) zk2 (List.mem_append_left _ hk) rfl 0 (by decide) kw_223 rfl hin rfl rfl (fun _ => rfl) (fun _ => rfl) rfl (by decide) (List.mem_append_right _ (List.mem_singleton_self _)) hkf (i := 0) (μ1 := zup μ 23 0 24) rfl dX2_init_10 (fun H locs X => ?_)
  refine lv_aload_n C.1 C.2.1 dX2_init_13 rfl (lv_at hl 0 rfl) ?_
  refine z_bipush C dX2_init_14 rfl ?_
  refine z_newL C X hA (atype := .long) 2 (rfl) rfl rfl kw_246 rfl 25 (nm_app (hn 25 (by decide)).1 (by decide)) (hn 25 (by decide)).2.1 rfl (zz_up (by decide) (hn 25 (by decide)).2.2) (by decide) (by decide) (Nat.le_of_ble_eq_true rfl) (Nat.le_of_ble_eq_true rfl) dX2_init_16 (fun q25 H X => ?_)
  have C : zC p s m args c cX2_init RX2 1 (zadd (zadd Ω 24 q24) 25 q25) := C
  refine z_putFR C X (v := 25) (k := 23) (Ω := (zadd (zadd Ω 24 q24) 25 q25)) zk2 (List.mem_append_left _ (List.mem_append_left _ hk)) rfl 1 (by decide) kw_224 rfl hin rfl rfl (fun _ => rfl) (fun _ => rfl) rfl (by decide) (List.mem_append_right _ (List.mem_singleton_self _)) hkf (i := 1) (μ1 := zup (zup μ 23 0 24) 23 1 25) rfl dX2_init_18 (fun H locs X => ?_)
  refine lv_aload_n C.1 C.2.1 dX2_init_21 rfl (lv_at hl 0 rfl) ?_
  refine z_bipush C dX2_init_22 rfl ?_
  refine z_newI C X hA (atype := .int) 1 (Or.inl rfl) rfl rfl kw_123 rfl 26 (nm_app (nm_app (hn 26 (by decide)).1 (by decide)) (by decide)) (hn 26 (by decide)).2.1 rfl (zz_up (by decide) (zz_up (by decide) (hn 26 (by decide)).2.2)) (by decide) (by decide) (Nat.le_of_ble_eq_true rfl) (Nat.le_of_ble_eq_true rfl) dX2_init_24 (fun q26 H X => ?_)
  have C : zC p s m args c cX2_init RX2 1 (zadd (zadd (zadd Ω 24 q24) 25 q25) 26 q26) := C
  refine z_putFR C X (v := 26) (k := 23) (Ω := (zadd (zadd (zadd Ω 24 q24) 25 q25) 26 q26)) zk2 (List.mem_append_left _ (List.mem_append_left _ (List.mem_append_left _ hk))) rfl 2 (by decide) kw_226 rfl hin rfl rfl (fun _ => rfl) (fun _ => rfl) rfl (by decide) (List.mem_append_right _ (List.mem_singleton_self _)) hkf (i := 2) (μ1 := zup (zup (zup μ 23 0 24) 23 1 25) 23 2 26) rfl dX2_init_26 (fun H locs X => ?_)
  have X := zX_fin (cm := [23, 24, 25, 26]) X (fun k hkm i i0 h9 hq => by
    simp only [List.mem_cons, List.not_mem_nil, or_false] at hkm
    rcases hkm with rfl | rfl | rfl | rfl
    · obtain ⟨n, rfl⟩ := Int.eq_ofNat_of_zero_le i0
      match n, hq with
      | 0, _ => rfl
      | 1, _ => rfl
      | 2, _ => rfl
      | 3, hq => exact absurd hq (by decide)
      | 4, hq => exact absurd hq (by decide)
      | 5, hq => exact absurd hq (by decide)
      | 6, hq => exact absurd hq (by decide)
      | n + 7, hq => exact absurd (show (0 : Nat) = 3 from hq) (by decide)
    · exact absurd h9 (by decide)
    · exact absurd h9 (by decide)
    · exact absurd h9 (by decide))
  have ag : ∀ k ∈ Ω.2.2.1.1, (zadd (zadd (zadd Ω 24 q24) 25 q25) 26 q26).2.2.2 k = Ω.2.2.2 k := (ag_add (ag_add (ag_add (fun _ _ => rfl) (hn 24 (by decide)).1) (hn 25 (by decide)).1) (hn 26 (by decide)).1)
  have X : zX (zgr Ω [24, 25, 26] [23, 24, 25, 26] (zadd (zadd (zadd Ω 24 q24) 25 q25) 26 q26).2.2.2) (zup (zup (zup μ 23 0 24) 23 1 25) 23 2 26) A s.heap _ _ := zX_eq (by exact Prod.ext rfl (Prod.ext rfl (Prod.ext (Prod.ext (by simp only [zadd, zgr, List.append_assoc, List.cons_append, List.nil_append]) rfl) rfl))) X
  exact rt (ad := (zadd (zadd (zadd Ω 24 q24) 25 q25) 26 q26).2.2.2) ag X (Nat.le_of_ble_eq_true rfl) (Nat.le_of_ble_eq_true rfl) dX2_init_29
theorem I_X6_27 {l : Launch} {Ω : zO} (μ : zMem) (sz : Nat) (hk : (27 : Int) ∈ Ω.2.2.1.1) (hkf : (27 : Int) ∉ Ω.2.2.1.2) (hn : ∀ j ∈ ([28, 29, 30, 31, 32] : List Int), j ∉ Ω.2.2.1.1 ∧ j ∉ Ω.2.2.1.2 ∧ ∀ i, μ j i = 0) : XCon l yX6_init cX6_init 1 0 Ω [zR Ω 27] μ [28, 29, 30, 31, 32] [27, 28, 29, 30, 31, 32] (zup (zup (zup (zup (zup μ 27 0 28) 27 1 29) 27 2 30) 27 3 31) 27 4 32) sz 5 108 := by
  refine XCon.of (by decide) rfl (Nat.le_of_ble_eq_true rfl) ?_
  intro p e s m args below meth c ls A Q C hin hA X hl rt
  have C : zC p s m args c cX6_init RX6 1 Ω := C
  have hl : lv_has ls 1 [(0, zR Ω 27)] := hl
  refine lv_aload_n C.1 C.2.1 dX6_init_0 rfl (lv_at hl 0 rfl) ?_
  refine z_objI C kw_252 hl.1 dX6_init_1 ⟨Nat.le_of_ble_eq_true rfl, Nat.le_of_ble_eq_true rfl⟩ (Nat.le_of_ble_eq_true rfl) ?_
  refine lv_aload_n C.1 C.2.1 dX6_init_4 rfl (lv_at hl 0 rfl) ?_
  refine z_bipush C dX6_init_5 rfl ?_
  refine z_newI C X hA (atype := .int) 1 (Or.inl rfl) rfl rfl kw_123 rfl 28 (hn 28 (by decide)).1 (hn 28 (by decide)).2.1 rfl (hn 28 (by decide)).2.2 (by decide) (by decide) (Nat.le_of_ble_eq_true rfl) (Nat.le_of_ble_eq_true rfl) dX6_init_7 (fun q28 H X => ?_)
  have C : zC p s m args c cX6_init RX6 1 (zadd Ω 28 q28) := C
  refine z_putFR C X (v := 28) (k := 27) (Ω := (zadd Ω 28 q28)) zk6 (List.mem_append_left _ hk) rfl 0 (by decide) kw_253 rfl hin rfl rfl (fun _ => rfl) (fun _ => rfl) rfl (by decide) (List.mem_append_right _ (List.mem_singleton_self _)) hkf (i := 0) (μ1 := zup μ 27 0 28) rfl dX6_init_9 (fun H locs X => ?_)
  refine lv_aload_n C.1 C.2.1 dX6_init_12 rfl (lv_at hl 0 rfl) ?_
  refine z_bipush C dX6_init_13 rfl ?_
  refine z_newI C X hA (atype := .int) 1 (Or.inl rfl) rfl rfl kw_123 rfl 29 (nm_app (hn 29 (by decide)).1 (by decide)) (hn 29 (by decide)).2.1 rfl (zz_up (by decide) (hn 29 (by decide)).2.2) (by decide) (by decide) (Nat.le_of_ble_eq_true rfl) (Nat.le_of_ble_eq_true rfl) dX6_init_15 (fun q29 H X => ?_)
  have C : zC p s m args c cX6_init RX6 1 (zadd (zadd Ω 28 q28) 29 q29) := C
  refine z_putFR C X (v := 29) (k := 27) (Ω := (zadd (zadd Ω 28 q28) 29 q29)) zk6 (List.mem_append_left _ (List.mem_append_left _ hk)) rfl 1 (by decide) kw_255 rfl hin rfl rfl (fun _ => rfl) (fun _ => rfl) rfl (by decide) (List.mem_append_right _ (List.mem_singleton_self _)) hkf (i := 1) (μ1 := zup (zup μ 27 0 28) 27 1 29) rfl dX6_init_17 (fun H locs X => ?_)
  refine lv_aload_n C.1 C.2.1 dX6_init_20 rfl (lv_at hl 0 rfl) ?_
  refine z_bipush C dX6_init_21 rfl ?_
  refine z_newI C X hA (atype := .int) 1 (Or.inl rfl) rfl rfl kw_123 rfl 30 (nm_app (nm_app (hn 30 (by decide)).1 (by decide)) (by decide)) (hn 30 (by decide)).2.1 rfl (zz_up (by decide) (zz_up (by decide) (hn 30 (by decide)).2.2)) (by decide) (by decide) (Nat.le_of_ble_eq_true rfl) (Nat.le_of_ble_eq_true rfl) dX6_init_23 (fun q30 H X => ?_)
  have C : zC p s m args c cX6_init RX6 1 (zadd (zadd (zadd Ω 28 q28) 29 q29) 30 q30) := C
  refine z_putFR C X (v := 30) (k := 27) (Ω := (zadd (zadd (zadd Ω 28 q28) 29 q29) 30 q30)) zk6 (List.mem_append_left _ (List.mem_append_left _ (List.mem_append_left _ hk))) rfl 2 (by decide) kw_256 rfl hin rfl rfl (fun _ => rfl) (fun _ => rfl) rfl (by decide) (List.mem_append_right _ (List.mem_singleton_self _)) hkf (i := 2) (μ1 := zup (zup (zup μ 27 0 28) 27 1 29) 27 2 30) rfl dX6_init_25 (fun H locs X => ?_)
  refine lv_aload_n C.1 C.2.1 dX6_init_28 rfl (lv_at hl 0 rfl) ?_
  refine z_bipush C dX6_init_29 rfl ?_
  refine z_newI C X hA (atype := .int) 1 (Or.inl rfl) rfl rfl kw_123 rfl 31 (nm_app (nm_app (nm_app (hn 31 (by decide)).1 (by decide)) (by decide)) (by decide)) (hn 31 (by decide)).2.1 rfl (zz_up (by decide) (zz_up (by decide) (zz_up (by decide) (hn 31 (by decide)).2.2))) (by decide) (by decide) (Nat.le_of_ble_eq_true rfl) (Nat.le_of_ble_eq_true rfl) dX6_init_31 (fun q31 H X => ?_)
  have C : zC p s m args c cX6_init RX6 1 (zadd (zadd (zadd (zadd Ω 28 q28) 29 q29) 30 q30) 31 q31) := C
  refine z_putFR C X (v := 31) (k := 27) (Ω := (zadd (zadd (zadd (zadd Ω 28 q28) 29 q29) 30 q30) 31 q31)) zk6 (List.mem_append_left _ (List.mem_append_left _ (List.mem_append_left _ (List.mem_append_left _ hk)))) rfl 3 (by decide) kw_257 rfl hin rfl rfl (fun _ => rfl) (fun _ => rfl) rfl (by decide) (List.mem_append_right _ (List.mem_singleton_self _)) hkf (i := 3) (μ1 := zup (zup (zup (zup μ 27 0 28) 27 1 29) 27 2 30) 27 3 31) rfl dX6_init_33 (fun H locs X => ?_)
  refine lv_aload_n C.1 C.2.1 dX6_init_36 rfl (lv_at hl 0 rfl) ?_
  refine z_bipush C dX6_init_37 rfl ?_
  refine z_newI C X hA (atype := .int) 1 (Or.inl rfl) rfl rfl kw_123 rfl 32 (nm_app (nm_app (nm_app (nm_app (hn 32 (by decide)).1 (by decide)) (by decide)) (by decide)) (by decide)) (hn 32 (by decide)).2.1 rfl (zz_up (by decide) (zz_up (by decide) (zz_up (by decide) (zz_up (by decide) (hn 32 (by decide)).2.2)))) (by decide) (by decide) (Nat.le_of_ble_eq_true rfl) (Nat.le_of_ble_eq_true rfl) dX6_init_39 (fun q32 H X => ?_)
  have C : zC p s m args c cX6_init RX6 1 (zadd (zadd (zadd (zadd (zadd Ω 28 q28) 29 q29) 30 q30) 31 q31) 32 q32) := C
  refine z_putFR C X (v := 32) (k := 27) (Ω := (zadd (zadd (zadd (zadd (zadd Ω 28 q28) 29 q29) 30 q30) 31 q31) 32 q32)) zk6 (List.mem_append_left _ (List.mem_append_left _ (List.mem_append_left _ (List.mem_append_left _ (List.mem_append_left _ hk))))) rfl 4 (by decide) kw_258 rfl hin rfl rfl (fun _ => rfl) (fun _ => rfl) rfl (by decide) (List.mem_append_right _ (List.mem_singleton_self _)) hkf (i := 4) (μ1 := zup (zup (zup (zup (zup μ 27 0 28) 27 1 29) 27 2 30) 27 3 31) 27 4 32) rfl dX6_init_41 (fun H locs X => ?_)
  have X := zX_fin (cm := [27, 28, 29, 30, 31, 32]) X (fun k hkm i i0 h9 hq => by
    simp only [List.mem_cons, List.not_mem_nil, or_false] at hkm
    rcases hkm with rfl | rfl | rfl | rfl | rfl | rfl
    · obtain ⟨n, rfl⟩ := Int.eq_ofNat_of_zero_le i0
      match n, hq with
      | 0, _ => rfl
      | 1, _ => rfl
      | 2, _ => rfl
      | 3, _ => rfl
      | 4, _ => rfl
      | 5, hq => exact absurd hq (by decide)
      | 6, hq => exact absurd hq (by decide)
      | 7, hq => exact absurd hq (by decide)
      | 8, hq => exact absurd hq (by decide)
      | 9, hq => exact absurd hq (by decide)
      | n + 10, hq => exact absurd (show (0 : Nat) = 3 from hq) (by decide)
    · exact absurd h9 (by decide)
    · exact absurd h9 (by decide)
    · exact absurd h9 (by decide)
    · exact absurd h9 (by decide)
    · exact absurd h9 (by decide))
  have ag : ∀ k ∈ Ω.2.2.1.1, (zadd (zadd (zadd (zadd (zadd Ω 28 q28) 29 q29) 30 q30) 31 q31) 32 q32).2.2.2 k = Ω.2.2.2 k := (ag_add (ag_add (ag_add (ag_add (ag_add (fun _ _ => rfl) (hn 28 (by decide)).1) (hn 29 (by decide)).1) (hn 30 (by decide)).1) (hn 31 (by decide)).1) (hn 32 (by decide)).1)
  have X : zX (zgr Ω [28, 29, 30, 31, 32] [27, 28, 29, 30, 31, 32] (zadd (zadd (zadd (zadd (zadd Ω 28 q28) 29 q29) 30 q30) 31 q31) 32 q32).2.2.2) (zup (zup (zup (zup (zup μ 27 0 28) 27 1 29) 27 2 30) 27 3 31) 27 4 32) A s.heap _ _ := zX_eq (by exact Prod.ext rfl (Prod.ext rfl (Prod.ext (Prod.ext (by simp only [zadd, zgr, List.append_assoc, List.cons_append, List.nil_append]) rfl) rfl))) X
  exact rt (ad := (zadd (zadd (zadd (zadd (zadd Ω 28 q28) 29 q29) 30 q30) 31 q31) 32 q32).2.2.2) ag X (Nat.le_of_ble_eq_true rfl) (Nat.le_of_ble_eq_true rfl) dX6_init_44
theorem I_X0_33 {l : Launch} {Ω : zO} (μ : zMem) (sz : Nat) (hk : (33 : Int) ∈ Ω.2.2.1.1) (hkf : (33 : Int) ∉ Ω.2.2.1.2) (hn : ∀ j ∈ ([34, 35, 36] : List Int), j ∉ Ω.2.2.1.1 ∧ j ∉ Ω.2.2.1.2 ∧ ∀ i, μ j i = 0) : XCon l yX0_init cX0_init 1 0 Ω [zR Ω 33] μ [34, 35, 36] [33, 34, 35, 36] (zup (zup (zup μ 33 0 34) 33 1 35) 33 2 36) sz 3 8216 := by
  refine XCon.of (by decide) rfl (Nat.le_of_ble_eq_true rfl) ?_
  intro p e s m args below meth c ls A Q C hin hA X hl rt
  have C : zC p s m args c cX0_init RX0 1 Ω := C
  have hl : lv_has ls 1 [(0, zR Ω 33)] := hl
  refine lv_aload_n C.1 C.2.1 dX0_init_0 rfl (lv_at hl 0 rfl) ?_
  refine z_objI C kw_292 hl.1 dX0_init_1 ⟨Nat.le_of_ble_eq_true rfl, Nat.le_of_ble_eq_true rfl⟩ (Nat.le_of_ble_eq_true rfl) ?_
  refine lv_aload_n C.1 C.2.1 dX0_init_4 rfl (lv_at hl 0 rfl) ?_
  refine z_sipush C dX0_init_5 rfl ?_
  refine z_newL C X hA (atype := .long) 2 (rfl) rfl rfl kw_246 rfl 34 (hn 34 (by decide)).1 (hn 34 (by decide)).2.1 rfl (hn 34 (by decide)).2.2 (by decide) (by decide) (Nat.le_of_ble_eq_true rfl) (Nat.le_of_ble_eq_true rfl) dX0_init_8 (fun q34 H X => ?_)
  have C : zC p s m args c cX0_init RX0 1 (zadd Ω 34 q34) := C
  refine z_putFR C X (v := 34) (k := 33) (Ω := (zadd Ω 34 q34)) zk0 (List.mem_append_left _ hk) rfl 0 (by decide) kw_293 rfl hin rfl rfl (fun _ => rfl) (fun _ => rfl) rfl (by decide) (List.mem_append_right _ (List.mem_singleton_self _)) hkf (i := 0) (μ1 := zup μ 33 0 34) rfl dX0_init_10 (fun H locs X => ?_)
  refine lv_aload_n C.1 C.2.1 dX0_init_13 rfl (lv_at hl 0 rfl) ?_
  refine z_sipush C dX0_init_14 rfl ?_
  refine z_newL C X hA (atype := .long) 2 (rfl) rfl rfl kw_246 rfl 35 (nm_app (hn 35 (by decide)).1 (by decide)) (hn 35 (by decide)).2.1 rfl (zz_up (by decide) (hn 35 (by decide)).2.2) (by decide) (by decide) (Nat.le_of_ble_eq_true rfl) (Nat.le_of_ble_eq_true rfl) dX0_init_17 (fun q35 H X => ?_)
  have C : zC p s m args c cX0_init RX0 1 (zadd (zadd Ω 34 q34) 35 q35) := C
  refine z_putFR C X (v := 35) (k := 33) (Ω := (zadd (zadd Ω 34 q34) 35 q35)) zk0 (List.mem_append_left _ (List.mem_append_left _ hk)) rfl 1 (by decide) kw_294 rfl hin rfl rfl (fun _ => rfl) (fun _ => rfl) rfl (by decide) (List.mem_append_right _ (List.mem_singleton_self _)) hkf (i := 1) (μ1 := zup (zup μ 33 0 34) 33 1 35) rfl dX0_init_19 (fun H locs X => ?_)
  refine lv_aload_n C.1 C.2.1 dX0_init_22 rfl (lv_at hl 0 rfl) ?_
  refine z_bipush C dX0_init_23 rfl ?_
  refine z_newI C X hA (atype := .int) 1 (Or.inl rfl) rfl rfl kw_123 rfl 36 (nm_app (nm_app (hn 36 (by decide)).1 (by decide)) (by decide)) (hn 36 (by decide)).2.1 rfl (zz_up (by decide) (zz_up (by decide) (hn 36 (by decide)).2.2)) (by decide) (by decide) (Nat.le_of_ble_eq_true rfl) (Nat.le_of_ble_eq_true rfl) dX0_init_25 (fun q36 H X => ?_)
  have C : zC p s m args c cX0_init RX0 1 (zadd (zadd (zadd Ω 34 q34) 35 q35) 36 q36) := C
  refine z_putFR C X (v := 36) (k := 33) (Ω := (zadd (zadd (zadd Ω 34 q34) 35 q35) 36 q36)) zk0 (List.mem_append_left _ (List.mem_append_left _ (List.mem_append_left _ hk))) rfl 2 (by decide) kw_295 rfl hin rfl rfl (fun _ => rfl) (fun _ => rfl) rfl (by decide) (List.mem_append_right _ (List.mem_singleton_self _)) hkf (i := 2) (μ1 := zup (zup (zup μ 33 0 34) 33 1 35) 33 2 36) rfl dX0_init_27 (fun H locs X => ?_)
  have X := zX_fin (cm := [33, 34, 35, 36]) X (fun k hkm i i0 h9 hq => by
    simp only [List.mem_cons, List.not_mem_nil, or_false] at hkm
    rcases hkm with rfl | rfl | rfl | rfl
    · obtain ⟨n, rfl⟩ := Int.eq_ofNat_of_zero_le i0
      match n, hq with
      | 0, _ => rfl
      | 1, _ => rfl
      | 2, _ => rfl
      | 3, hq => exact absurd hq (by decide)
      | 4, hq => exact absurd hq (by decide)
      | 5, hq => exact absurd hq (by decide)
      | 6, hq => exact absurd hq (by decide)
      | 7, hq => exact absurd hq (by decide)
      | 8, hq => exact absurd hq (by decide)
      | 9, hq => exact absurd hq (by decide)
      | n + 10, hq => exact absurd (show (0 : Nat) = 3 from hq) (by decide)
    · exact absurd h9 (by decide)
    · exact absurd h9 (by decide)
    · exact absurd h9 (by decide))
  have ag : ∀ k ∈ Ω.2.2.1.1, (zadd (zadd (zadd Ω 34 q34) 35 q35) 36 q36).2.2.2 k = Ω.2.2.2 k := (ag_add (ag_add (ag_add (fun _ _ => rfl) (hn 34 (by decide)).1) (hn 35 (by decide)).1) (hn 36 (by decide)).1)
  have X : zX (zgr Ω [34, 35, 36] [33, 34, 35, 36] (zadd (zadd (zadd Ω 34 q34) 35 q35) 36 q36).2.2.2) (zup (zup (zup μ 33 0 34) 33 1 35) 33 2 36) A s.heap _ _ := zX_eq (by exact Prod.ext rfl (Prod.ext rfl (Prod.ext (Prod.ext (by simp only [zadd, zgr, List.append_assoc, List.cons_append, List.nil_append]) rfl) rfl))) X
  exact rt (ad := (zadd (zadd (zadd Ω 34 q34) 35 q35) 36 q36).2.2.2) ag X (Nat.le_of_ble_eq_true rfl) (Nat.le_of_ble_eq_true rfl) dX0_init_30
