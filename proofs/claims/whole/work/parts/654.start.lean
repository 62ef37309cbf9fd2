/-! the law's start -/
theorem arr_of {s : State} {args : Array Value} {ty : FieldType} (h : (Cond.arrayClass ty).before args s = true) : ∃ cA : ClassId, ArrOfT s cA ty ∧ s.vm.findClass ("[" ++ ty.toString) = some cA := by
  obtain ⟨cA, kA, comp, h1, h2, h3⟩ := Cond.arrayClass_spec h
  exact ⟨cA, fun n z => ⟨fun k h => (by cases h), kA, h2, comp, h3⟩, h1⟩
theorem arr_ofQ {s : State} {args : Array Value} {C : String} (h : (Cond.arrayOver (.object C)).before args s = true) : ∃ cA : ClassId, ArrOfT s cA (.object C) ∧ va_RA s cA (.object C) := by
  obtain ⟨comp, cA, kA, h1, h2, h3, h4, h5⟩ := Cond.arrayOver_spec h
  exact ⟨cA, fun n z => ⟨fun k h => (by cases h), kA, h3, comp, h4⟩, kA, comp, h3, h4, h1, h5⟩
/-- the classes' numbers at the start -/
theorem first_world {s : State} {args : Array Value} (hts : ∀ w ∈ lw_tbl, w.before args s = true) : ∃ Ω : zO, va_K Ω.1 vwCl (ztys Ω) s ∧ Ω.2.2.1 = ([], []) := by
  obtain ⟨c0, i0, k0⟩ := u_known (C := RX0) (T := TX0) (N := 10) (n := 10) hts inX0 (hts _ kw_288)
  obtain ⟨c1, i1, k1⟩ := u_known (C := RX1) (T := TX1) (N := 9) (n := 9) hts inX1 (hts _ kw_26)
  obtain ⟨c2, i2, k2⟩ := u_known (C := RX2) (T := TX2) (N := 7) (n := 7) hts inX2 (hts _ kw_218)
  obtain ⟨c3, i3, k3⟩ := u_known (C := RX3) (T := TX3) (N := 3) (n := 3) hts inX3 (hts _ kw_325)
  obtain ⟨c4, i4, k4⟩ := u_known (C := RX4) (T := TX4) (N := 5) (n := 5) hts inX4 (hts _ kw_343)
  obtain ⟨c5, i5, k5⟩ := u_known (C := RX5) (T := TX5) (N := 11) (n := 11) hts inX5 (hts _ kw_32)
  obtain ⟨c6, i6, k6⟩ := u_known (C := RX6) (T := TX6) (N := 10) (n := 10) hts inX6 (hts _ kw_248)
  obtain ⟨c7, i7, k7⟩ := u_known (C := RX7) (T := TX7) (N := 3) (n := 3) hts inX7 (hts _ kw_165)
  obtain ⟨c8, i8, k8⟩ := u_known (C := RX8) (T := TX8) (N := 5) (n := 5) hts inX8 (hts _ kw_182)
  obtain ⟨c9, i9, k9⟩ := u_known (C := RX9) (T := TX9) (N := 11) (n := 11) hts inX9 (hts _ kw_16)
  obtain ⟨c10, i10, k10⟩ := u_known (C := RX10) (T := TX10) (N := 59) (n := 59) hts inX10 (hts _ kw_1026)
  have hall : ∀ k : Nat, ∃ q : ClassId × (Nat → Nat), ∀ r : vw_C, vwCl[k]? = some r → u_Kn s r.1 r.2.1 r.2.2 q.1 q.2 := by
    intro k
    match k with
    | 0 => exact ⟨(c0, i0), fun r h => by cases h; exact k0⟩
    | 1 => exact ⟨(c1, i1), fun r h => by cases h; exact k1⟩
    | 2 => exact ⟨(c2, i2), fun r h => by cases h; exact k2⟩
    | 3 => exact ⟨(c3, i3), fun r h => by cases h; exact k3⟩
    | 4 => exact ⟨(c4, i4), fun r h => by cases h; exact k4⟩
    | 5 => exact ⟨(c5, i5), fun r h => by cases h; exact k5⟩
    | 6 => exact ⟨(c6, i6), fun r h => by cases h; exact k6⟩
    | 7 => exact ⟨(c7, i7), fun r h => by cases h; exact k7⟩
    | 8 => exact ⟨(c8, i8), fun r h => by cases h; exact k8⟩
    | 9 => exact ⟨(c9, i9), fun r h => by cases h; exact k9⟩
    | 10 => exact ⟨(c10, i10), fun r h => by cases h; exact k10⟩
    | k + 11 => exact ⟨(c0, i0), fun r h => by simp [vwCl] at h⟩
  obtain ⟨aI, hI1, hI2⟩ := arr_of (hts _ kw_123)
  obtain ⟨aZ, hZ1, hZ2⟩ := arr_of (hts _ kw_124)
  obtain ⟨aC, hC1, hC2⟩ := arr_of (hts _ kw_181)
  obtain ⟨aJ, hJ1, hJ2⟩ := arr_of (hts _ kw_246)
  obtain ⟨a5, h51, h52⟩ := arr_ofQ (hts _ kw_24)
  obtain ⟨a6, h61, h62⟩ := arr_ofQ (hts _ kw_159)
  obtain ⟨a7, h71, h72⟩ := arr_ofQ (hts _ kw_161)
  obtain ⟨a8, h81, h82⟩ := arr_ofQ (hts _ kw_163)
  refine ⟨((fun k => (hall k).choose.1, fun k => (hall k).choose.2), (fun k => match k with | 0 => aI | 1 => aI | 2 => aJ | 3 => aZ | 4 => aC | 5 => a5 | 6 => a6 | 7 => a7 | _ => a8), ([], []), fun _ => 0), ⟨fun k q h => (hall k).choose_spec q h, fun k q h => ?_⟩, rfl⟩
  match k, h with
  | 0, h => cases h; exact ⟨hI1, hI2⟩
  | 1, h => cases h; exact ⟨hI1, hI2⟩
  | 2, h => cases h; exact ⟨hJ1, hJ2⟩
  | 3, h => cases h; exact ⟨hZ1, hZ2⟩
  | 4, h => cases h; exact ⟨hC1, hC2⟩
  | 5, h => cases h; exact ⟨h51, h52⟩
  | 6, h => cases h; exact ⟨h61, h62⟩
  | 7, h => cases h; exact ⟨h71, h72⟩
  | 8, h => cases h; exact ⟨h81, h82⟩
  | k + 9, h => simp [ztys] at h
theorem first_zSd {s : State} {args : Array Value} (hts : ∀ w ∈ lw_tbl, w.before args s = true) : zSd s :=
  ⟨⟨va_Nw.of rfl (hts _ kw_27), va_Nw.of rfl (hts _ kw_166), va_Nw.of rfl (hts _ kw_183), va_Nw.of rfl (hts _ kw_219), va_Nw.of rfl (hts _ kw_249), va_Nw.of rfl (hts _ kw_289), va_Nw.of rfl (hts _ kw_326)⟩, va_AO.of (hts _ kw_24), va_AO.of (hts _ kw_159), va_AO.of (hts _ kw_161), va_AO.of (hts _ kw_163)⟩
set_option maxHeartbeats 4000000 in
set_option maxRecDepth 100000 in
theorem whole_start {p : Program} {e : Env} {s : State} {m : MethodId} {below : List Frame} {meth : Method} {c : Code} (l : Launch) {b L : Nat} {xs : Nat → Int32} (hL : L ≤ 3584) (C0 : lw_At p s m meth c b L xs) : W p l e room_1 s m #[Value.ref b] below meth c s.heap [] 0 0 (lw_Z below #[Value.ref b] s) (entryFrame m ([Value.ref b] : List Value).toArray 4) := by
  obtain ⟨hx, hb, hr, hml, hown, hts, hX, hbl, hlocks, hgv⟩ := C0
  have hA : ∀ q : Nat, s.heap.size ≤ q → lA s q := fun _ h => h
  have hsd : zSd s := first_zSd hts
  obtain ⟨Ω, hK, hids⟩ := first_world hts
  obtain ⟨ν, hF, hcon⟩ := first_ex
  have far := hF.1.1
  have C : zC p s m #[Value.ref b] c cL_law RL 4 Ω := ⟨hx, hb, hml, hown, fun w hw => hts w (List.mem_filter.mp hw).1, hK⟩
  have hws : ∀ μ, zws Ω μ = [] := fun μ => by unfold zws; rw [hids]; rfl
  have X : zX Ω μ00 (lA s) s.heap s.heap [] := ⟨by rw [hws]; exact fun k q h => by simp at h, by rw [hws]; exact ⟨fun i j p q h => by simp at h, fun k q h => by simp at h⟩, va_S.rf, by rw [hids]; exact fun k h => absurd h List.not_mem_nil⟩
  have n0 : ∀ j : Int, j ∉ Ω.2.2.1.1 := fun j => by rw [hids]; exact List.not_mem_nil
  have f0 : ∀ j : Int, j ∉ Ω.2.2.1.2 := fun j => by rw [hids]; exact List.not_mem_nil
  have hl := lv_entry ([.ref b]) (n := 4) (Nat.le_of_ble_eq_true rfl)
  rw [lg_entry_eq]
  generalize (lg_sl ([.ref b]) ++ List.replicate (4 - (lg_sl ([.ref b])).length) Slot.unset).toArray = ls at hl ⊢
  have hl : lv_has ls 4 [(0, Value.ref b)] := hl
  have G := Grw.rf Ω
  refine y_newO C X hA zk9 kw_15 kw_16 kw_1 (by decide) 1 (n0 1) (f0 1) rfl (fun _ => rfl) (Nat.le_of_ble_eq_true rfl) (Nat.le_of_ble_eq_true rfl) dL_law_0 (fun w1 H g C X => ?_)
  have G : Grw Ω w1 [1] [] := G.tr g rfl rfl
  refine lv_dup C.1 C.2.1 dL_law_3 rfl ?_
  refine y_callIB hsd C X hA (k := 1) (As := []) (y := yX9_init) (bytes := cX9_init) (maxL := 2) (d := 4) (μ' := ν) (hcon _ (G.mem (by decide)) (G.nf (f0 1) (by decide)) (fun j hj => ⟨G.nm (n0 j) (fun z => by rw [List.mem_singleton.mp z] at hj; exact absurd hj (by decide)), G.nf (f0 j) List.not_mem_nil⟩) ⟨fun _ _ _ => rfl, fun q hq => absurd hq List.not_mem_nil⟩) kw_19 kw_1 kw_18 kw_17 rfl (by decide +kernel) ⟨Nat.le_of_ble_eq_true rfl, Nat.le_of_ble_eq_true rfl⟩ rfl hl.1 rfl (Nat.le_of_ble_eq_true rfl) dL_law_4 ⟨Nat.le_of_ble_eq_true rfl, Nat.le_of_ble_eq_true rfl⟩ (fun w2 H locs g C X => ?_)
  refine W.st (st' := [zR w2 1]) (cons2 (g.ref (k := 1) (G.mem (by decide))) rfl) ?_
  have G : Grw Ω w2 [1, 2, 3, 4, 5, 6, 7, 8, 9, 10, 11, 12, 13, 14, 15, 16, 17, 18, 19, 20, 21, 22, 23, 24, 25, 26, 27, 28, 29, 30, 31, 32, 33, 34, 35, 36, 51, 52, 53, 54, 55, 56, 57, 37, 38, 39, 40, 41, 42, 43, 44, 45, 46, 47, 48, 49, 50, 58, 59, 60, 61, 62, 63, 64, 65, 66, 67, 68, 69, 70, 71, 72, 73, 74, 75, 76, 77, 78, 79, 80, 81, 82, 83, 84, 85] [4, 5, 6, 7, 8, 9, 10, 3, 11, 12, 13, 14, 15, 19, 20, 21, 22, 23, 24, 25, 26, 27, 28, 29, 30, 31, 32, 33, 34, 35, 36, 51, 52, 53, 54, 55, 56, 57, 37, 38, 39, 40, 41, 42, 43, 44, 45, 46, 47, 48, 49, 50, 58, 59, 60, 61, 62, 63, 64, 65, 66, 67, 68, 69, 70, 71, 72, 73, 74, 75, 76, 77, 78, 79, 80, 81, 82, 83, 84, 85, 1, 2, 16, 17, 18] := G.tr g rfl rfl
  refine lv_astore_n C.1 C.2.1 (lv' := [(1, zR w2 1), (0, Value.ref b)]) dL_law_7 rfl hl (by decide) rfl (fun ls hl => ?_)
  refine y_newO C X hA zk10 kw_1025 kw_1026 kw_12 (by decide) 101 (G.nm (n0 101) (by decide)) (G.nf (f0 101) (by decide)) rfl (fun i => far 101 (by decide) i) (Nat.le_of_ble_eq_true rfl) (Nat.le_of_ble_eq_true rfl) dL_law_8 (fun w3 H g C X => ?_)
  have hl : lv_has ls 4 [(1, zR w3 1), (0, Value.ref b)] := Eq.mp (congrArg (fun v => lv_has ls 4 [(1, v), (0, Value.ref b)]) (g.ref (k := 1) (G.mem (by decide)))) hl
  have G : Grw Ω w3 [1, 2, 3, 4, 5, 6, 7, 8, 9, 10, 11, 12, 13, 14, 15, 16, 17, 18, 19, 20, 21, 22, 23, 24, 25, 26, 27, 28, 29, 30, 31, 32, 33, 34, 35, 36, 51, 52, 53, 54, 55, 56, 57, 37, 38, 39, 40, 41, 42, 43, 44, 45, 46, 47, 48, 49, 50, 58, 59, 60, 61, 62, 63, 64, 65, 66, 67, 68, 69, 70, 71, 72, 73, 74, 75, 76, 77, 78, 79, 80, 81, 82, 83, 84, 85, 101] [4, 5, 6, 7, 8, 9, 10, 3, 11, 12, 13, 14, 15, 19, 20, 21, 22, 23, 24, 25, 26, 27, 28, 29, 30, 31, 32, 33, 34, 35, 36, 51, 52, 53, 54, 55, 56, 57, 37, 38, 39, 40, 41, 42, 43, 44, 45, 46, 47, 48, 49, 50, 58, 59, 60, 61, 62, 63, 64, 65, 66, 67, 68, 69, 70, 71, 72, 73, 74, 75, 76, 77, 78, 79, 80, 81, 82, 83, 84, 85, 1, 2, 16, 17, 18] := G.tr g rfl rfl
  refine lv_dup C.1 C.2.1 dL_law_11 rfl ?_
  obtain ⟨κ, hκ⟩ : ∃ κ : zMem, κ = (zup (zup (zup (zup (zup (zup (zup (zup (zup (zup (zup (zup (zup (zup (zup (zup (zup (zup (zup (zup (zup (zup (zup (zup (zup (zup (zup (zup (zup (zup (zup (zup (zup (zup (zup (zup (zup (zup (zup (zup (zup (zup (zup (zup (zup (zup (zup (zup (zup (zup ν 101 0 102) 101 1 103) 101 2 104) 101 3 105) 101 4 106) 101 5 107) 101 6 108) 101 8 110) 101 14 116) 101 15 117) 101 16 118) 101 17 119) 101 18 120) 101 19 121) 101 21 123) 101 22 124) 101 23 125) 101 24 126) 101 25 127) 101 26 128) 101 27 129) 101 31 133) 101 32 134) 101 40 142) 101 41 143) 101 42 144) 101 43 145) 101 44 146) 101 45 147) 101 46 148) 101 47 149) 101 48 150) 101 49 151) 101 50 152) 101 52 154) 101 54 156) 101 55 157) 101 56 158) 101 57 159) 101 58 160) 102 0 1) 102 1 1) 148 0 (-4)) 158 0 (-4)) 148 1 (-4)) 158 1 (-4)) 148 2 (-4)) 158 2 (-4)) 148 3 (-4)) 158 3 (-4)) := ⟨_, rfl⟩
  have hR : Rel κ := by rw [hκ]; exact first_rel hF
  refine y_callI C X hA (k := 101) (As := []) (y := yX10_init) (bytes := cX10_init) (maxL := 2) (d := 0) (μ' := κ) (by rw [hκ]; exact I_X10_101 ν _ (G.mem (by decide)) (G.nf (f0 101) (by decide)) (fun j hj => ⟨G.nm (n0 j) (fun z => (by decide : ∀ j ∈ ([102, 103, 104, 105, 106, 107, 108, 110, 116, 117, 118, 119, 120, 121, 123, 124, 125, 126, 127, 128, 129, 133, 134, 142, 143, 144, 145, 146, 147, 148, 149, 150, 151, 152, 154, 156, 157, 158, 159, 160] : List Int), j ∉ ([1, 2, 3, 4, 5, 6, 7, 8, 9, 10, 11, 12, 13, 14, 15, 16, 17, 18, 19, 20, 21, 22, 23, 24, 25, 26, 27, 28, 29, 30, 31, 32, 33, 34, 35, 36, 51, 52, 53, 54, 55, 56, 57, 37, 38, 39, 40, 41, 42, 43, 44, 45, 46, 47, 48, 49, 50, 58, 59, 60, 61, 62, 63, 64, 65, 66, 67, 68, 69, 70, 71, 72, 73, 74, 75, 76, 77, 78, 79, 80, 81, 82, 83, 84, 85, 101] : List Int)) j hj z), G.nf (f0 j) (fun z => (by decide : ∀ j ∈ ([102, 103, 104, 105, 106, 107, 108, 110, 116, 117, 118, 119, 120, 121, 123, 124, 125, 126, 127, 128, 129, 133, 134, 142, 143, 144, 145, 146, 147, 148, 149, 150, 151, 152, 154, 156, 157, 158, 159, 160] : List Int), j ∉ ([4, 5, 6, 7, 8, 9, 10, 3, 11, 12, 13, 14, 15, 19, 20, 21, 22, 23, 24, 25, 26, 27, 28, 29, 30, 31, 32, 33, 34, 35, 36, 51, 52, 53, 54, 55, 56, 57, 37, 38, 39, 40, 41, 42, 43, 44, 45, 46, 47, 48, 49, 50, 58, 59, 60, 61, 62, 63, 64, 65, 66, 67, 68, 69, 70, 71, 72, 73, 74, 75, 76, 77, 78, 79, 80, 81, 82, 83, 84, 85, 1, 2, 16, 17, 18] : List Int)) j hj z), far j ((by decide : ∀ j ∈ ([102, 103, 104, 105, 106, 107, 108, 110, 116, 117, 118, 119, 120, 121, 123, 124, 125, 126, 127, 128, 129, 133, 134, 142, 143, 144, 145, 146, 147, 148, 149, 150, 151, 152, 154, 156, 157, 158, 159, 160] : List Int), (85 : Int) < j) j hj)⟩)) kw_1029 kw_12 kw_1028 kw_1027 rfl (by decide +kernel) ⟨Nat.le_of_ble_eq_true rfl, Nat.le_of_ble_eq_true rfl⟩ rfl hl.1 rfl (Nat.le_of_ble_eq_true rfl) dL_law_12 ⟨Nat.le_of_ble_eq_true rfl, Nat.le_of_ble_eq_true rfl⟩ (fun w4 H locs g C X => ?_)
  refine W.st (st' := [zR w4 101]) (cons2 (g.ref (k := 101) (G.mem (by decide))) rfl) ?_
  have hl : lv_has ls 4 [(1, zR w4 1), (0, Value.ref b)] := Eq.mp (congrArg (fun v => lv_has ls 4 [(1, v), (0, Value.ref b)]) (g.ref (k := 1) (G.mem (by decide)))) hl
  have G : Grw Ω w4 [1, 2, 3, 4, 5, 6, 7, 8, 9, 10, 11, 12, 13, 14, 15, 16, 17, 18, 19, 20, 21, 22, 23, 24, 25, 26, 27, 28, 29, 30, 31, 32, 33, 34, 35, 36, 51, 52, 53, 54, 55, 56, 57, 37, 38, 39, 40, 41, 42, 43, 44, 45, 46, 47, 48, 49, 50, 58, 59, 60, 61, 62, 63, 64, 65, 66, 67, 68, 69, 70, 71, 72, 73, 74, 75, 76, 77, 78, 79, 80, 81, 82, 83, 84, 85, 101, 102, 103, 104, 105, 106, 107, 108, 110, 116, 117, 118, 119, 120, 121, 123, 124, 125, 126, 127, 128, 129, 133, 134, 142, 143, 144, 145, 146, 147, 148, 149, 150, 151, 152, 154, 156, 157, 158, 159, 160] [4, 5, 6, 7, 8, 9, 10, 3, 11, 12, 13, 14, 15, 19, 20, 21, 22, 23, 24, 25, 26, 27, 28, 29, 30, 31, 32, 33, 34, 35, 36, 51, 52, 53, 54, 55, 56, 57, 37, 38, 39, 40, 41, 42, 43, 44, 45, 46, 47, 48, 49, 50, 58, 59, 60, 61, 62, 63, 64, 65, 66, 67, 68, 69, 70, 71, 72, 73, 74, 75, 76, 77, 78, 79, 80, 81, 82, 83, 84, 85, 1, 2, 16, 17, 18, 101, 102, 103, 104, 105, 106, 107, 108, 110, 116, 117, 118, 119, 120, 121, 123, 124, 125, 126, 127, 128, 129, 133, 134, 142, 143, 144, 145, 146, 147, 148, 149, 150, 151, 152, 154, 156, 157, 158, 159, 160] := G.tr g rfl rfl
  refine lv_astore_n C.1 C.2.1 (lv' := [(2, zR w4 101), (1, zR w4 1), (0, Value.ref b)]) dL_law_15 rfl hl (by decide) rfl (fun ls hl => ?_)
  refine z_iconst C dL_law_16 ?_
  refine lv_istore_n C.1 C.2.1 (lv' := [(3, zI 0), (2, zR w4 101), (1, zR w4 1), (0, Value.ref b)]) dL_law_17 rfl hl (by decide) rfl (fun ls hl => ?_)
  have hIc : zIc w4 := ⟨fun k hk => G.mem (fin_all (N := 86) (P := fun k => 1 ≤ k → k ∈ ([1, 2, 3, 4, 5, 6, 7, 8, 9, 10, 11, 12, 13, 14, 15, 16, 17, 18, 19, 20, 21, 22, 23, 24, 25, 26, 27, 28, 29, 30, 31, 32, 33, 34, 35, 36, 51, 52, 53, 54, 55, 56, 57, 37, 38, 39, 40, 41, 42, 43, 44, 45, 46, 47, 48, 49, 50, 58, 59, 60, 61, 62, 63, 64, 65, 66, 67, 68, 69, 70, 71, 72, 73, 74, 75, 76, 77, 78, 79, 80, 81, 82, 83, 84, 85, 101, 102, 103, 104, 105, 106, 107, 108, 110, 116, 117, 118, 119, 120, 121, 123, 124, 125, 126, 127, 128, 129, 133, 134, 142, 143, 144, 145, 146, 147, 148, 149, 150, 151, 152, 154, 156, 157, 158, 159, 160] : List Int)) (by decide +kernel) k (by omega) (by omega) hk.1), fun k hk => G.fin (fin_all (N := 86) (P := fun k => 1 ≤ k → k ∈ ([4, 5, 6, 7, 8, 9, 10, 3, 11, 12, 13, 14, 15, 19, 20, 21, 22, 23, 24, 25, 26, 27, 28, 29, 30, 31, 32, 33, 34, 35, 36, 51, 52, 53, 54, 55, 56, 57, 37, 38, 39, 40, 41, 42, 43, 44, 45, 46, 47, 48, 49, 50, 58, 59, 60, 61, 62, 63, 64, 65, 66, 67, 68, 69, 70, 71, 72, 73, 74, 75, 76, 77, 78, 79, 80, 81, 82, 83, 84, 85, 1, 2, 16, 17, 18, 101, 102, 103, 104, 105, 106, 107, 108, 110, 116, 117, 118, 119, 120, 121, 123, 124, 125, 126, 127, 128, 129, 133, 134, 142, 143, 144, 145, 146, 147, 148, 149, 150, 151, 152, 154, 156, 157, 158, 159, 160] : List Int)) (by decide +kernel) k (by omega) (by omega) hk.1)⟩
  have hIm : zIm w4 := ⟨fun k hk => G.mem (fin_all (N := 161) (P := fun k => 101 ≤ k ∧ k ≤ 160 ∧ (zsh k).1 ≠ 0 → k ∈ ([1, 2, 3, 4, 5, 6, 7, 8, 9, 10, 11, 12, 13, 14, 15, 16, 17, 18, 19, 20, 21, 22, 23, 24, 25, 26, 27, 28, 29, 30, 31, 32, 33, 34, 35, 36, 51, 52, 53, 54, 55, 56, 57, 37, 38, 39, 40, 41, 42, 43, 44, 45, 46, 47, 48, 49, 50, 58, 59, 60, 61, 62, 63, 64, 65, 66, 67, 68, 69, 70, 71, 72, 73, 74, 75, 76, 77, 78, 79, 80, 81, 82, 83, 84, 85, 101, 102, 103, 104, 105, 106, 107, 108, 110, 116, 117, 118, 119, 120, 121, 123, 124, 125, 126, 127, 128, 129, 133, 134, 142, 143, 144, 145, 146, 147, 148, 149, 150, 151, 152, 154, 156, 157, 158, 159, 160] : List Int)) (by decide +kernel) k (by omega) (by omega) hk), G.fin (by decide)⟩
  refine W.widen (k := 126) (n := 70000) (Nat.le_of_ble_eq_true rfl) (Nat.le_of_ble_eq_true rfl) ?_
  exact law_loop hr hlocks ⟨C, hIc, hIm, hX, hbl, hL⟩ (L + 1) 0 κ H locs ls (by omega) (by omega) (by omega) X hR (lv_sub hl [3, 2, 1, 0] rfl)
