/-! the cases of the law, 20 to 28 -/
set_option maxHeartbeats 4000000 in
set_option maxRecDepth 100000 in
theorem law_step {p : Program} {l : Launch} {e : Env} {s : State} {m : MethodId} {below : List Frame} {meth : Method} {c : Code} {Q : State → Prop} {b L : Nat} {xs : Nat → Int32} {Ω : zO} {μ : zMem} {H : Heap} {locs : List Loc} {ls : Array Slot} {i : Int} (D : lwD p s m c b L xs Ω) (X : zX Ω μ (lA s) s.heap H locs) (R : Rel μ) (hi : 0 ≤ i ∧ i + 7 ≤ (L : Int)) (hl : lv_has ls 4 [(0, Value.ref b), (1, zR Ω 1), (2, zR Ω 101), (3, zI i)]) (kk : ∀ (μ : zMem) (H : Heap) (locs : List Loc), zX Ω μ (lA s) s.heap H locs → Rel μ → W p l e room_1 s m #[Value.ref b] below meth c H locs 126 70000 Q (F0 m 1204 ls [])) : W p l e room_1 s m #[Value.ref b] below meth c H locs 126 70000 Q (F0 m 907 ls []) := by
  obtain ⟨C, hI, hM, _⟩ := id D
  refine lv_aload_n C.1 C.2.1 dL_law_907 rfl (lv_at hl 1 rfl) ?_
  refine y_arg D X hl hi (k := 1) ⟨by decide, by decide⟩ dL_law_908 dL_law_909 dL_law_910 dL_law_911 dL_law_912 ?_
  refine y_arg D X hl hi (k := 2) ⟨by decide, by decide⟩ dL_law_913 dL_law_914 dL_law_915 dL_law_916 dL_law_917 ?_
  obtain ⟨r, e1, e2⟩ := sim_step (a := (lsc xs (i + 1))) (b := (lsc xs (i + 2))) R
  refine z_callVG C X zk9 (hI.1 1 (by decide)) rfl (As := [zI (lsc xs (i + 1)), zI (lsc xs (i + 2))]) (M_X9_step hI μ (lsc xs (i + 1)) (lsc xs (i + 2)) (lsc_rg _ _) (lsc_rg _ _) e1) zc_X9_step kw_879 ⟨Nat.le_of_ble_eq_true rfl, Nat.le_of_ble_eq_true rfl⟩ rfl hl.1 rfl (Nat.le_of_ble_eq_true rfl) dL_law_918 ⟨Nat.le_of_ble_eq_true rfl, Nat.le_of_ble_eq_true rfl⟩ (fun H locs g1 X => ?_)
  refine lv_aload_n C.1 C.2.1 dL_law_921 rfl (lv_at hl 2 rfl) ?_
  refine y_arg D X hl hi (k := 1) ⟨by decide, by decide⟩ dL_law_922 dL_law_923 dL_law_924 dL_law_925 dL_law_926 ?_
  refine y_arg D X hl hi (k := 2) ⟨by decide, by decide⟩ dL_law_927 dL_law_928 dL_law_929 dL_law_930 dL_law_931 ?_
  refine z_callVG C X zk10 (hM.1 101 (by decide)) rfl (As := [zI (lsc xs (i + 1)), zI (lsc xs (i + 2))]) (M_X10_step hM μ (lsc xs (i + 1)) (lsc xs (i + 2)) (lsc_rg _ _) (lsc_rg _ _) e2) zc_X10_step kw_1485 ⟨Nat.le_of_ble_eq_true rfl, Nat.le_of_ble_eq_true rfl⟩ rfl hl.1 rfl (Nat.le_of_ble_eq_true rfl) dL_law_932 ⟨Nat.le_of_ble_eq_true rfl, Nat.le_of_ble_eq_true rfl⟩ (fun H locs g2 X => ?_)
  exact z_icmpeq C g1 g2 (tgt := 1204) dL_law_935 (by decide) (fun _ => kk μ _ _ X R) (fun hn => absurd rfl hn)
set_option maxHeartbeats 4000000 in
set_option maxRecDepth 100000 in
theorem law_drawn {p : Program} {l : Launch} {e : Env} {s : State} {m : MethodId} {below : List Frame} {meth : Method} {c : Code} {Q : State → Prop} {b L : Nat} {xs : Nat → Int32} {Ω : zO} {μ : zMem} {H : Heap} {locs : List Loc} {ls : Array Slot} {i : Int} (D : lwD p s m c b L xs Ω) (X : zX Ω μ (lA s) s.heap H locs) (R : Rel μ) (hi : 0 ≤ i ∧ i + 7 ≤ (L : Int)) (hl : lv_has ls 4 [(0, Value.ref b), (1, zR Ω 1), (2, zR Ω 101), (3, zI i)]) (kk : ∀ (μ : zMem) (H : Heap) (locs : List Loc), zX Ω μ (lA s) s.heap H locs → Rel μ → W p l e room_1 s m #[Value.ref b] below meth c H locs 126 70000 Q (F0 m 1204 ls [])) : W p l e room_1 s m #[Value.ref b] below meth c H locs 126 70000 Q (F0 m 940 ls []) := by
  obtain ⟨C, hI, hM, _⟩ := id D
  refine lv_aload_n C.1 C.2.1 dL_law_940 rfl (lv_at hl 1 rfl) ?_
  refine y_arg D X hl hi (k := 1) ⟨by decide, by decide⟩ dL_law_941 dL_law_942 dL_law_943 dL_law_944 dL_law_945 ?_
  refine y_arg D X hl hi (k := 2) ⟨by decide, by decide⟩ dL_law_946 dL_law_947 dL_law_948 dL_law_949 dL_law_950 ?_
  obtain ⟨⟨r, μ1⟩, e1, ⟨q, μ2⟩, e2, e3, R2⟩ := sim_drawn (a := (lsc xs (i + 1))) (b := (lsc xs (i + 2))) R
  refine z_callVG C X zk9 (hI.1 1 (by decide)) rfl (As := [zI (lsc xs (i + 1)), zI (lsc xs (i + 2))]) (M_X9_drawn hI μ (lsc xs (i + 1)) (lsc xs (i + 2)) (lsc_rg _ _) (lsc_rg _ _) e1) zc_X9_drawn kw_883 ⟨Nat.le_of_ble_eq_true rfl, Nat.le_of_ble_eq_true rfl⟩ rfl hl.1 rfl (Nat.le_of_ble_eq_true rfl) dL_law_951 ⟨Nat.le_of_ble_eq_true rfl, Nat.le_of_ble_eq_true rfl⟩ (fun H locs g1 X => ?_)
  refine lv_aload_n C.1 C.2.1 dL_law_954 rfl (lv_at hl 2 rfl) ?_
  refine y_arg D X hl hi (k := 1) ⟨by decide, by decide⟩ dL_law_955 dL_law_956 dL_law_957 dL_law_958 dL_law_959 ?_
  refine y_arg D X hl hi (k := 2) ⟨by decide, by decide⟩ dL_law_960 dL_law_961 dL_law_962 dL_law_963 dL_law_964 ?_
  refine z_callVG C X zk10 (hM.1 101 (by decide)) rfl (As := [zI (lsc xs (i + 1)), zI (lsc xs (i + 2))]) (M_X10_drawn hM μ1 (lsc xs (i + 1)) (lsc xs (i + 2)) (lsc_rg _ _) (lsc_rg _ _) e2) zc_X10_drawn kw_1489 ⟨Nat.le_of_ble_eq_true rfl, Nat.le_of_ble_eq_true rfl⟩ rfl hl.1 rfl (Nat.le_of_ble_eq_true rfl) dL_law_965 ⟨Nat.le_of_ble_eq_true rfl, Nat.le_of_ble_eq_true rfl⟩ (fun H locs g2 X => ?_)
  exact z_icmpeq C g1 g2 (tgt := 1204) dL_law_968 (by decide) (fun _ => kk μ2 _ _ X R2) (fun hn => absurd e3.symm hn)
set_option maxHeartbeats 4000000 in
set_option maxRecDepth 100000 in
theorem law_product {p : Program} {l : Launch} {e : Env} {s : State} {m : MethodId} {below : List Frame} {meth : Method} {c : Code} {Q : State → Prop} {b L : Nat} {xs : Nat → Int32} {Ω : zO} {μ : zMem} {H : Heap} {locs : List Loc} {ls : Array Slot} {i : Int} (D : lwD p s m c b L xs Ω) (X : zX Ω μ (lA s) s.heap H locs) (R : Rel μ) (hi : 0 ≤ i ∧ i + 7 ≤ (L : Int)) (hl : lv_has ls 4 [(0, Value.ref b), (1, zR Ω 1), (2, zR Ω 101), (3, zI i)]) (kk : ∀ (μ : zMem) (H : Heap) (locs : List Loc), zX Ω μ (lA s) s.heap H locs → Rel μ → W p l e room_1 s m #[Value.ref b] below meth c H locs 126 70000 Q (F0 m 1204 ls [])) : W p l e room_1 s m #[Value.ref b] below meth c H locs 126 70000 Q (F0 m 973 ls []) := by
  obtain ⟨C, hI, hM, _⟩ := id D
  refine lv_aload_n C.1 C.2.1 dL_law_973 rfl (lv_at hl 1 rfl) ?_
  refine y_arg D X hl hi (k := 1) ⟨by decide, by decide⟩ dL_law_974 dL_law_975 dL_law_976 dL_law_977 dL_law_978 ?_
  refine y_arg D X hl hi (k := 2) ⟨by decide, by decide⟩ dL_law_979 dL_law_980 dL_law_981 dL_law_982 dL_law_983 ?_
  refine y_arg D X hl hi (k := 3) ⟨by decide, by decide⟩ dL_law_984 dL_law_985 dL_law_986 dL_law_987 dL_law_988 ?_
  obtain ⟨r, e1, e2⟩ := sim_product (a := (lsc xs (i + 1))) (b := (lsc xs (i + 2))) (c := (lsc xs (i + 3))) R
  refine z_callVG C X zk9 (hI.1 1 (by decide)) rfl (As := [zI (lsc xs (i + 1)), zI (lsc xs (i + 2)), zI (lsc xs (i + 3))]) (M_X9_product hI μ (lsc xs (i + 1)) (lsc xs (i + 2)) (lsc xs (i + 3)) (lsc_rg _ _) (lsc_rg _ _) (lsc_rg _ _) e1) zc_X9_product kw_929 ⟨Nat.le_of_ble_eq_true rfl, Nat.le_of_ble_eq_true rfl⟩ rfl hl.1 rfl (Nat.le_of_ble_eq_true rfl) dL_law_989 ⟨Nat.le_of_ble_eq_true rfl, Nat.le_of_ble_eq_true rfl⟩ (fun H locs g1 X => ?_)
  refine lv_aload_n C.1 C.2.1 dL_law_992 rfl (lv_at hl 2 rfl) ?_
  refine y_arg D X hl hi (k := 1) ⟨by decide, by decide⟩ dL_law_993 dL_law_994 dL_law_995 dL_law_996 dL_law_997 ?_
  refine y_arg D X hl hi (k := 2) ⟨by decide, by decide⟩ dL_law_998 dL_law_999 dL_law_1000 dL_law_1001 dL_law_1002 ?_
  refine y_arg D X hl hi (k := 3) ⟨by decide, by decide⟩ dL_law_1003 dL_law_1004 dL_law_1005 dL_law_1006 dL_law_1007 ?_
  refine z_callVG C X zk10 (hM.1 101 (by decide)) rfl (As := [zI (lsc xs (i + 1)), zI (lsc xs (i + 2)), zI (lsc xs (i + 3))]) (M_X10_product hM μ (lsc xs (i + 1)) (lsc xs (i + 2)) (lsc xs (i + 3)) (lsc_rg _ _) (lsc_rg _ _) (lsc_rg _ _) e2) zc_X10_product kw_1519 ⟨Nat.le_of_ble_eq_true rfl, Nat.le_of_ble_eq_true rfl⟩ rfl hl.1 rfl (Nat.le_of_ble_eq_true rfl) dL_law_1008 ⟨Nat.le_of_ble_eq_true rfl, Nat.le_of_ble_eq_true rfl⟩ (fun H locs g2 X => ?_)
  exact z_icmpeq C g1 g2 (tgt := 1204) dL_law_1011 (by decide) (fun _ => kk μ _ _ X R) (fun hn => absurd rfl hn)
set_option maxHeartbeats 4000000 in
set_option maxRecDepth 100000 in
theorem law_nought {p : Program} {l : Launch} {e : Env} {s : State} {m : MethodId} {below : List Frame} {meth : Method} {c : Code} {Q : State → Prop} {b L : Nat} {xs : Nat → Int32} {Ω : zO} {μ : zMem} {H : Heap} {locs : List Loc} {ls : Array Slot} {i : Int} (D : lwD p s m c b L xs Ω) (X : zX Ω μ (lA s) s.heap H locs) (R : Rel μ) (hi : 0 ≤ i ∧ i + 7 ≤ (L : Int)) (hl : lv_has ls 4 [(0, Value.ref b), (1, zR Ω 1), (2, zR Ω 101), (3, zI i)]) (kk : ∀ (μ : zMem) (H : Heap) (locs : List Loc), zX Ω μ (lA s) s.heap H locs → Rel μ → W p l e room_1 s m #[Value.ref b] below meth c H locs 126 70000 Q (F0 m 1204 ls [])) : W p l e room_1 s m #[Value.ref b] below meth c H locs 126 70000 Q (F0 m 1016 ls []) := by
  obtain ⟨C, hI, hM, _⟩ := id D
  refine lv_aload_n C.1 C.2.1 dL_law_1016 rfl (lv_at hl 1 rfl) ?_
  refine y_arg D X hl hi (k := 1) ⟨by decide, by decide⟩ dL_law_1017 dL_law_1018 dL_law_1019 dL_law_1020 dL_law_1021 ?_
  refine y_arg D X hl hi (k := 2) ⟨by decide, by decide⟩ dL_law_1022 dL_law_1023 dL_law_1024 dL_law_1025 dL_law_1026 ?_
  obtain ⟨⟨r, μ1⟩, e1, e2, R2⟩ := sim_nought (a := (lsc xs (i + 1))) (b := (lsc xs (i + 2))) R
  refine z_callVG C X zk9 (hI.1 1 (by decide)) rfl (As := [zI (lsc xs (i + 1)), zI (lsc xs (i + 2))]) (M_X9_nought hI μ (lsc xs (i + 1)) (lsc xs (i + 2)) (lsc_rg _ _) (lsc_rg _ _) e1) zc_X9_nought kw_944 ⟨Nat.le_of_ble_eq_true rfl, Nat.le_of_ble_eq_true rfl⟩ rfl hl.1 rfl (Nat.le_of_ble_eq_true rfl) dL_law_1027 ⟨Nat.le_of_ble_eq_true rfl, Nat.le_of_ble_eq_true rfl⟩ (fun H locs g1 X => ?_)
  refine lv_aload_n C.1 C.2.1 dL_law_1030 rfl (lv_at hl 2 rfl) ?_
  refine y_arg D X hl hi (k := 1) ⟨by decide, by decide⟩ dL_law_1031 dL_law_1032 dL_law_1033 dL_law_1034 dL_law_1035 ?_
  refine y_arg D X hl hi (k := 2) ⟨by decide, by decide⟩ dL_law_1036 dL_law_1037 dL_law_1038 dL_law_1039 dL_law_1040 ?_
  refine z_callVG C X zk10 (hM.1 101 (by decide)) rfl (As := [zI (lsc xs (i + 1)), zI (lsc xs (i + 2))]) (M_X10_nought hM μ1 (lsc xs (i + 1)) (lsc xs (i + 2)) (lsc_rg _ _) (lsc_rg _ _) e2) zc_X10_nought kw_1533 ⟨Nat.le_of_ble_eq_true rfl, Nat.le_of_ble_eq_true rfl⟩ rfl hl.1 rfl (Nat.le_of_ble_eq_true rfl) dL_law_1041 ⟨Nat.le_of_ble_eq_true rfl, Nat.le_of_ble_eq_true rfl⟩ (fun H locs g2 X => ?_)
  exact z_icmpeq C g1 g2 (tgt := 1204) dL_law_1044 (by decide) (fun _ => kk μ1 _ _ X R2) (fun hn => absurd rfl hn)
set_option maxHeartbeats 4000000 in
set_option maxRecDepth 100000 in
theorem law_fold {p : Program} {l : Launch} {e : Env} {s : State} {m : MethodId} {below : List Frame} {meth : Method} {c : Code} {Q : State → Prop} {b L : Nat} {xs : Nat → Int32} {Ω : zO} {μ : zMem} {H : Heap} {locs : List Loc} {ls : Array Slot} {i : Int} (D : lwD p s m c b L xs Ω) (X : zX Ω μ (lA s) s.heap H locs) (R : Rel μ) (hi : 0 ≤ i ∧ i + 7 ≤ (L : Int)) (hl : lv_has ls 4 [(0, Value.ref b), (1, zR Ω 1), (2, zR Ω 101), (3, zI i)]) (kk : ∀ (μ : zMem) (H : Heap) (locs : List Loc), zX Ω μ (lA s) s.heap H locs → Rel μ → W p l e room_1 s m #[Value.ref b] below meth c H locs 126 70000 Q (F0 m 1204 ls [])) : W p l e room_1 s m #[Value.ref b] below meth c H locs 126 70000 Q (F0 m 1049 ls []) := by
  obtain ⟨C, hI, hM, _⟩ := id D
  refine lv_aload_n C.1 C.2.1 dL_law_1049 rfl (lv_at hl 1 rfl) ?_
  refine y_arg D X hl hi (k := 1) ⟨by decide, by decide⟩ dL_law_1050 dL_law_1051 dL_law_1052 dL_law_1053 dL_law_1054 ?_
  obtain ⟨⟨r, μ1⟩, e1, ⟨q, μ2⟩, e2, e3, R2⟩ := sim_fold (a := (lsc xs (i + 1))) R
  refine z_callVG C X zk9 (hI.1 1 (by decide)) rfl (As := [zI (lsc xs (i + 1))]) (M_X9_fold hI μ (lsc xs (i + 1)) (lsc_rg _ _) e1) zc_X9_fold kw_968 ⟨Nat.le_of_ble_eq_true rfl, Nat.le_of_ble_eq_true rfl⟩ rfl hl.1 rfl (Nat.le_of_ble_eq_true rfl) dL_law_1055 ⟨Nat.le_of_ble_eq_true rfl, Nat.le_of_ble_eq_true rfl⟩ (fun H locs g1 X => ?_)
  refine lv_aload_n C.1 C.2.1 dL_law_1058 rfl (lv_at hl 2 rfl) ?_
  refine y_arg D X hl hi (k := 1) ⟨by decide, by decide⟩ dL_law_1059 dL_law_1060 dL_law_1061 dL_law_1062 dL_law_1063 ?_
  refine z_callVG C X zk10 (hM.1 101 (by decide)) rfl (As := [zI (lsc xs (i + 1))]) (M_X10_fold hM μ1 (lsc xs (i + 1)) (lsc_rg _ _) e2) zc_X10_fold kw_1537 ⟨Nat.le_of_ble_eq_true rfl, Nat.le_of_ble_eq_true rfl⟩ rfl hl.1 rfl (Nat.le_of_ble_eq_true rfl) dL_law_1064 ⟨Nat.le_of_ble_eq_true rfl, Nat.le_of_ble_eq_true rfl⟩ (fun H locs g2 X => ?_)
  exact z_icmpeq C g1 g2 (tgt := 1204) dL_law_1067 (by decide) (fun _ => kk μ2 _ _ X R2) (fun hn => absurd e3.symm hn)
set_option maxHeartbeats 4000000 in
set_option maxRecDepth 100000 in
theorem law_join {p : Program} {l : Launch} {e : Env} {s : State} {m : MethodId} {below : List Frame} {meth : Method} {c : Code} {Q : State → Prop} {b L : Nat} {xs : Nat → Int32} {Ω : zO} {μ : zMem} {H : Heap} {locs : List Loc} {ls : Array Slot} {i : Int} (D : lwD p s m c b L xs Ω) (X : zX Ω μ (lA s) s.heap H locs) (R : Rel μ) (hi : 0 ≤ i ∧ i + 7 ≤ (L : Int)) (hl : lv_has ls 4 [(0, Value.ref b), (1, zR Ω 1), (2, zR Ω 101), (3, zI i)]) (kk : ∀ (μ : zMem) (H : Heap) (locs : List Loc), zX Ω μ (lA s) s.heap H locs → Rel μ → W p l e room_1 s m #[Value.ref b] below meth c H locs 126 70000 Q (F0 m 1204 ls [])) : W p l e room_1 s m #[Value.ref b] below meth c H locs 126 70000 Q (F0 m 1072 ls []) := by
  obtain ⟨C, hI, hM, _⟩ := id D
  refine lv_aload_n C.1 C.2.1 dL_law_1072 rfl (lv_at hl 1 rfl) ?_
  obtain ⟨⟨r, μ1⟩, e1, ⟨q, μ2⟩, e2, e3, R2⟩ := sim_join  R
  refine z_callVG C X zk9 (hI.1 1 (by decide)) rfl (As := []) (M_X9_join hI μ   e1) zc_X9_join kw_992 ⟨Nat.le_of_ble_eq_true rfl, Nat.le_of_ble_eq_true rfl⟩ rfl hl.1 rfl (Nat.le_of_ble_eq_true rfl) dL_law_1073 ⟨Nat.le_of_ble_eq_true rfl, Nat.le_of_ble_eq_true rfl⟩ (fun H locs g1 X => ?_)
  refine lv_aload_n C.1 C.2.1 dL_law_1076 rfl (lv_at hl 2 rfl) ?_
  refine z_callVG C X zk10 (hM.1 101 (by decide)) rfl (As := []) (M_X10_join hM μ1   e2) zc_X10_join kw_1549 ⟨Nat.le_of_ble_eq_true rfl, Nat.le_of_ble_eq_true rfl⟩ rfl hl.1 rfl (Nat.le_of_ble_eq_true rfl) dL_law_1077 ⟨Nat.le_of_ble_eq_true rfl, Nat.le_of_ble_eq_true rfl⟩ (fun H locs g2 X => ?_)
  exact z_icmpeq C g1 g2 (tgt := 1204) dL_law_1080 (by decide) (fun _ => kk μ2 _ _ X R2) (fun hn => absurd e3.symm hn)
set_option maxHeartbeats 4000000 in
set_option maxRecDepth 100000 in
theorem law_sheet {p : Program} {l : Launch} {e : Env} {s : State} {m : MethodId} {below : List Frame} {meth : Method} {c : Code} {Q : State → Prop} {b L : Nat} {xs : Nat → Int32} {Ω : zO} {μ : zMem} {H : Heap} {locs : List Loc} {ls : Array Slot} {i : Int} (D : lwD p s m c b L xs Ω) (X : zX Ω μ (lA s) s.heap H locs) (R : Rel μ) (hi : 0 ≤ i ∧ i + 7 ≤ (L : Int)) (hl : lv_has ls 4 [(0, Value.ref b), (1, zR Ω 1), (2, zR Ω 101), (3, zI i)]) (kk : ∀ (μ : zMem) (H : Heap) (locs : List Loc), zX Ω μ (lA s) s.heap H locs → Rel μ → W p l e room_1 s m #[Value.ref b] below meth c H locs 126 70000 Q (F0 m 1204 ls [])) : W p l e room_1 s m #[Value.ref b] below meth c H locs 126 70000 Q (F0 m 1085 ls []) := by
  obtain ⟨C, hI, hM, _⟩ := id D
  refine lv_aload_n C.1 C.2.1 dL_law_1085 rfl (lv_at hl 1 rfl) ?_
  refine y_arg D X hl hi (k := 1) ⟨by decide, by decide⟩ dL_law_1086 dL_law_1087 dL_law_1088 dL_law_1089 dL_law_1090 ?_
  refine y_arg D X hl hi (k := 2) ⟨by decide, by decide⟩ dL_law_1091 dL_law_1092 dL_law_1093 dL_law_1094 dL_law_1095 ?_
  refine y_arg D X hl hi (k := 3) ⟨by decide, by decide⟩ dL_law_1096 dL_law_1097 dL_law_1098 dL_law_1099 dL_law_1100 ?_
  obtain ⟨⟨r, μ1⟩, e1, ⟨q, μ2⟩, e2, e3, R2⟩ := sim_sheet (a := (lsc xs (i + 1))) (b := (lsc xs (i + 2))) (c := (lsc xs (i + 3))) R
  refine z_callVG C X zk9 (hI.1 1 (by decide)) rfl (As := [zI (lsc xs (i + 1)), zI (lsc xs (i + 2)), zI (lsc xs (i + 3))]) (M_X9_sheet hI μ (lsc xs (i + 1)) (lsc xs (i + 2)) (lsc xs (i + 3)) (lsc_rg _ _) (lsc_rg _ _) (lsc_rg _ _) e1) zc_X9_sheet kw_1004 ⟨Nat.le_of_ble_eq_true rfl, Nat.le_of_ble_eq_true rfl⟩ rfl hl.1 rfl (Nat.le_of_ble_eq_true rfl) dL_law_1101 ⟨Nat.le_of_ble_eq_true rfl, Nat.le_of_ble_eq_true rfl⟩ (fun H locs g1 X => ?_)
  refine lv_aload_n C.1 C.2.1 dL_law_1104 rfl (lv_at hl 2 rfl) ?_
  refine y_arg D X hl hi (k := 1) ⟨by decide, by decide⟩ dL_law_1105 dL_law_1106 dL_law_1107 dL_law_1108 dL_law_1109 ?_
  refine y_arg D X hl hi (k := 2) ⟨by decide, by decide⟩ dL_law_1110 dL_law_1111 dL_law_1112 dL_law_1113 dL_law_1114 ?_
  refine y_arg D X hl hi (k := 3) ⟨by decide, by decide⟩ dL_law_1115 dL_law_1116 dL_law_1117 dL_law_1118 dL_law_1119 ?_
  refine z_callVG C X zk10 (hM.1 101 (by decide)) rfl (As := [zI (lsc xs (i + 1)), zI (lsc xs (i + 2)), zI (lsc xs (i + 3))]) (M_X10_sheet hM μ1 (lsc xs (i + 1)) (lsc xs (i + 2)) (lsc xs (i + 3)) (lsc_rg _ _) (lsc_rg _ _) (lsc_rg _ _) e2) zc_X10_sheet kw_1557 ⟨Nat.le_of_ble_eq_true rfl, Nat.le_of_ble_eq_true rfl⟩ rfl hl.1 rfl (Nat.le_of_ble_eq_true rfl) dL_law_1120 ⟨Nat.le_of_ble_eq_true rfl, Nat.le_of_ble_eq_true rfl⟩ (fun H locs g2 X => ?_)
  exact z_icmpeq C g1 g2 (tgt := 1204) dL_law_1123 (by decide) (fun _ => kk μ2 _ _ X R2) (fun hn => absurd e3.symm hn)
set_option maxHeartbeats 4000000 in
set_option maxRecDepth 100000 in
theorem law_drop {p : Program} {l : Launch} {e : Env} {s : State} {m : MethodId} {below : List Frame} {meth : Method} {c : Code} {Q : State → Prop} {b L : Nat} {xs : Nat → Int32} {Ω : zO} {μ : zMem} {H : Heap} {locs : List Loc} {ls : Array Slot} {i : Int} (D : lwD p s m c b L xs Ω) (X : zX Ω μ (lA s) s.heap H locs) (R : Rel μ) (hi : 0 ≤ i ∧ i + 7 ≤ (L : Int)) (hl : lv_has ls 4 [(0, Value.ref b), (1, zR Ω 1), (2, zR Ω 101), (3, zI i)]) (kk : ∀ (μ : zMem) (H : Heap) (locs : List Loc), zX Ω μ (lA s) s.heap H locs → Rel μ → W p l e room_1 s m #[Value.ref b] below meth c H locs 126 70000 Q (F0 m 1204 ls [])) : W p l e room_1 s m #[Value.ref b] below meth c H locs 126 70000 Q (F0 m 1128 ls []) := by
  obtain ⟨C, hI, hM, _⟩ := id D
  refine lv_aload_n C.1 C.2.1 dL_law_1128 rfl (lv_at hl 1 rfl) ?_
  refine y_arg D X hl hi (k := 1) ⟨by decide, by decide⟩ dL_law_1129 dL_law_1130 dL_law_1131 dL_law_1132 dL_law_1133 ?_
  obtain ⟨⟨r, μ1⟩, e1, ⟨q, μ2⟩, e2, e3, R2⟩ := sim_drop (a := (lsc xs (i + 1))) R
  refine z_callVG C X zk9 (hI.1 1 (by decide)) rfl (As := [zI (lsc xs (i + 1))]) (M_X9_drop hI μ (lsc xs (i + 1)) (lsc_rg _ _) e1) zc_X9_drop kw_1013 ⟨Nat.le_of_ble_eq_true rfl, Nat.le_of_ble_eq_true rfl⟩ rfl hl.1 rfl (Nat.le_of_ble_eq_true rfl) dL_law_1134 ⟨Nat.le_of_ble_eq_true rfl, Nat.le_of_ble_eq_true rfl⟩ (fun H locs g1 X => ?_)
  refine lv_aload_n C.1 C.2.1 dL_law_1137 rfl (lv_at hl 2 rfl) ?_
  refine y_arg D X hl hi (k := 1) ⟨by decide, by decide⟩ dL_law_1138 dL_law_1139 dL_law_1140 dL_law_1141 dL_law_1142 ?_
  refine z_callVG C X zk10 (hM.1 101 (by decide)) rfl (As := [zI (lsc xs (i + 1))]) (M_X10_drop hM μ1 (lsc xs (i + 1)) (lsc_rg _ _) e2) zc_X10_drop kw_1561 ⟨Nat.le_of_ble_eq_true rfl, Nat.le_of_ble_eq_true rfl⟩ rfl hl.1 rfl (Nat.le_of_ble_eq_true rfl) dL_law_1143 ⟨Nat.le_of_ble_eq_true rfl, Nat.le_of_ble_eq_true rfl⟩ (fun H locs g2 X => ?_)
  exact z_icmpeq C g1 g2 (tgt := 1204) dL_law_1146 (by decide) (fun _ => kk μ2 _ _ X R2) (fun hn => absurd e3.symm hn)
set_option maxHeartbeats 4000000 in
set_option maxRecDepth 100000 in
theorem law_item {p : Program} {l : Launch} {e : Env} {s : State} {m : MethodId} {below : List Frame} {meth : Method} {c : Code} {Q : State → Prop} {b L : Nat} {xs : Nat → Int32} {Ω : zO} {μ : zMem} {H : Heap} {locs : List Loc} {ls : Array Slot} {i : Int} (D : lwD p s m c b L xs Ω) (X : zX Ω μ (lA s) s.heap H locs) (R : Rel μ) (hi : 0 ≤ i ∧ i + 7 ≤ (L : Int)) (hl : lv_has ls 4 [(0, Value.ref b), (1, zR Ω 1), (2, zR Ω 101), (3, zI i)]) (kk : ∀ (μ : zMem) (H : Heap) (locs : List Loc), zX Ω μ (lA s) s.heap H locs → Rel μ → W p l e room_1 s m #[Value.ref b] below meth c H locs 126 70000 Q (F0 m 1204 ls [])) : W p l e room_1 s m #[Value.ref b] below meth c H locs 126 70000 Q (F0 m 1151 ls []) := by
  obtain ⟨C, hI, hM, _⟩ := id D
  refine lv_aload_n C.1 C.2.1 dL_law_1151 rfl (lv_at hl 1 rfl) ?_
  refine y_arg D X hl hi (k := 1) ⟨by decide, by decide⟩ dL_law_1152 dL_law_1153 dL_law_1154 dL_law_1155 dL_law_1156 ?_
  refine y_arg D X hl hi (k := 2) ⟨by decide, by decide⟩ dL_law_1157 dL_law_1158 dL_law_1159 dL_law_1160 dL_law_1161 ?_
  refine y_arg D X hl hi (k := 3) ⟨by decide, by decide⟩ dL_law_1162 dL_law_1163 dL_law_1164 dL_law_1165 dL_law_1166 ?_
  refine y_arg D X hl hi (k := 4) ⟨by decide, by decide⟩ dL_law_1167 dL_law_1168 dL_law_1169 dL_law_1170 dL_law_1171 ?_
  obtain ⟨⟨r, μ1⟩, e1, ⟨q, μ2⟩, e2, e3, R2⟩ := sim_item (a := (lsc xs (i + 1))) (b := (lsc xs (i + 2))) (c := (lsc xs (i + 3))) (d := (lsc xs (i + 4))) (lsc_rg _ _) R
  refine z_callVG C X zk9 (hI.1 1 (by decide)) rfl (As := [zI (lsc xs (i + 1)), zI (lsc xs (i + 2)), zI (lsc xs (i + 3)), zI (lsc xs (i + 4))]) (M_X9_item hI μ (lsc xs (i + 1)) (lsc xs (i + 2)) (lsc xs (i + 3)) (lsc xs (i + 4)) (lsc_rg _ _) (lsc_rg _ _) (lsc_rg _ _) (lsc_rg _ _) e1) zc_X9_item kw_1017 ⟨Nat.le_of_ble_eq_true rfl, Nat.le_of_ble_eq_true rfl⟩ rfl hl.1 rfl (Nat.le_of_ble_eq_true rfl) dL_law_1172 ⟨Nat.le_of_ble_eq_true rfl, Nat.le_of_ble_eq_true rfl⟩ (fun H locs g1 X => ?_)
  refine lv_aload_n C.1 C.2.1 dL_law_1175 rfl (lv_at hl 2 rfl) ?_
  refine y_arg D X hl hi (k := 1) ⟨by decide, by decide⟩ dL_law_1176 dL_law_1177 dL_law_1178 dL_law_1179 dL_law_1180 ?_
  refine y_arg D X hl hi (k := 2) ⟨by decide, by decide⟩ dL_law_1181 dL_law_1182 dL_law_1183 dL_law_1184 dL_law_1185 ?_
  refine y_arg D X hl hi (k := 3) ⟨by decide, by decide⟩ dL_law_1186 dL_law_1187 dL_law_1188 dL_law_1189 dL_law_1190 ?_
  refine y_arg D X hl hi (k := 4) ⟨by decide, by decide⟩ dL_law_1191 dL_law_1192 dL_law_1193 dL_law_1194 dL_law_1195 ?_
  refine z_callVG C X zk10 (hM.1 101 (by decide)) rfl (As := [zI (lsc xs (i + 1)), zI (lsc xs (i + 2)), zI (lsc xs (i + 3)), zI (lsc xs (i + 4))]) (M_X10_item hM μ1 (lsc xs (i + 1)) (lsc xs (i + 2)) (lsc xs (i + 3)) (lsc xs (i + 4)) (lsc_rg _ _) (lsc_rg _ _) (lsc_rg _ _) (lsc_rg _ _) e2) zc_X10_item kw_1565 ⟨Nat.le_of_ble_eq_true rfl, Nat.le_of_ble_eq_true rfl⟩ rfl hl.1 rfl (Nat.le_of_ble_eq_true rfl) dL_law_1196 ⟨Nat.le_of_ble_eq_true rfl, Nat.le_of_ble_eq_true rfl⟩ (fun H locs g2 X => ?_)
  exact z_icmpeq C g1 g2 (tgt := 1204) dL_law_1199 (by decide) (fun _ => kk μ2 _ _ X R2) (fun hn => absurd e3.symm hn)
