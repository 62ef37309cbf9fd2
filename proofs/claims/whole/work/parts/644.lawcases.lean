/-! the cases of the law, 10 to 19 -/
set_option maxHeartbeats 4000000 in
set_option maxRecDepth 100000 in
theorem law_tables {p : Program} {l : Launch} {e : Env} {s : State} {m : MethodId} {below : List Frame} {meth : Method} {c : Code} {Q : State → Prop} {b L : Nat} {xs : Nat → Int32} {Ω : zO} {μ : zMem} {H : Heap} {locs : List Loc} {ls : Array Slot} {i : Int} (D : lwD p s m c b L xs Ω) (X : zX Ω μ (lA s) s.heap H locs) (R : Rel μ) (hi : 0 ≤ i ∧ i + 7 ≤ (L : Int)) (hl : lv_has ls 4 [(0, Value.ref b), (1, zR Ω 1), (2, zR Ω 101), (3, zI i)]) (kk : ∀ (μ : zMem) (H : Heap) (locs : List Loc), zX Ω μ (lA s) s.heap H locs → Rel μ → W p l e room_1 s m #[Value.ref b] below meth c H locs 126 70000 Q (F0 m 1204 ls [])) : W p l e room_1 s m #[Value.ref b] below meth c H locs 126 70000 Q (F0 m 545 ls []) := by
  obtain ⟨C, hI, hM, _⟩ := id D
  refine lv_aload_n C.1 C.2.1 dL_law_545 rfl (lv_at hl 1 rfl) ?_
  refine y_arg D X hl hi (k := 1) ⟨by decide, by decide⟩ dL_law_546 dL_law_547 dL_law_548 dL_law_549 dL_law_550 ?_
  refine y_arg D X hl hi (k := 2) ⟨by decide, by decide⟩ dL_law_551 dL_law_552 dL_law_553 dL_law_554 dL_law_555 ?_
  obtain ⟨⟨r, μ1⟩, e1, ⟨q, μ2⟩, e2, e3, R2⟩ := sim_tables (a := (lsc xs (i + 1))) (b := (lsc xs (i + 2))) R
  refine z_callVG C X zk9 (hI.1 1 (by decide)) rfl (As := [zI (lsc xs (i + 1)), zI (lsc xs (i + 2))]) (M_X9_tables hI μ (lsc xs (i + 1)) (lsc xs (i + 2)) (lsc_rg _ _) (lsc_rg _ _) e1) zc_X9_tables kw_690 ⟨Nat.le_of_ble_eq_true rfl, Nat.le_of_ble_eq_true rfl⟩ rfl hl.1 rfl (Nat.le_of_ble_eq_true rfl) dL_law_556 ⟨Nat.le_of_ble_eq_true rfl, Nat.le_of_ble_eq_true rfl⟩ (fun H locs g1 X => ?_)
  refine lv_aload_n C.1 C.2.1 dL_law_559 rfl (lv_at hl 2 rfl) ?_
  refine y_arg D X hl hi (k := 1) ⟨by decide, by decide⟩ dL_law_560 dL_law_561 dL_law_562 dL_law_563 dL_law_564 ?_
  refine y_arg D X hl hi (k := 2) ⟨by decide, by decide⟩ dL_law_565 dL_law_566 dL_law_567 dL_law_568 dL_law_569 ?_
  refine z_callVG C X zk10 (hM.1 101 (by decide)) rfl (As := [zI (lsc xs (i + 1)), zI (lsc xs (i + 2))]) (M_X10_tables hM μ1 (lsc xs (i + 1)) (lsc xs (i + 2)) (lsc_rg _ _) (lsc_rg _ _) e2) zc_X10_tables kw_1376 ⟨Nat.le_of_ble_eq_true rfl, Nat.le_of_ble_eq_true rfl⟩ rfl hl.1 rfl (Nat.le_of_ble_eq_true rfl) dL_law_570 ⟨Nat.le_of_ble_eq_true rfl, Nat.le_of_ble_eq_true rfl⟩ (fun H locs g2 X => ?_)
  exact z_icmpeq C g1 g2 (tgt := 1204) dL_law_573 (by decide) (fun _ => kk μ2 _ _ X R2) (fun hn => absurd e3.symm hn)
set_option maxHeartbeats 4000000 in
set_option maxRecDepth 100000 in
theorem law_layers {p : Program} {l : Launch} {e : Env} {s : State} {m : MethodId} {below : List Frame} {meth : Method} {c : Code} {Q : State → Prop} {b L : Nat} {xs : Nat → Int32} {Ω : zO} {μ : zMem} {H : Heap} {locs : List Loc} {ls : Array Slot} {i : Int} (D : lwD p s m c b L xs Ω) (X : zX Ω μ (lA s) s.heap H locs) (R : Rel μ) (hi : 0 ≤ i ∧ i + 7 ≤ (L : Int)) (hl : lv_has ls 4 [(0, Value.ref b), (1, zR Ω 1), (2, zR Ω 101), (3, zI i)]) (kk : ∀ (μ : zMem) (H : Heap) (locs : List Loc), zX Ω μ (lA s) s.heap H locs → Rel μ → W p l e room_1 s m #[Value.ref b] below meth c H locs 126 70000 Q (F0 m 1204 ls [])) : W p l e room_1 s m #[Value.ref b] below meth c H locs 126 70000 Q (F0 m 578 ls []) := by
  obtain ⟨C, hI, hM, _⟩ := id D
  refine lv_aload_n C.1 C.2.1 dL_law_578 rfl (lv_at hl 1 rfl) ?_
  refine y_arg D X hl hi (k := 1) ⟨by decide, by decide⟩ dL_law_579 dL_law_580 dL_law_581 dL_law_582 dL_law_583 ?_
  refine y_arg D X hl hi (k := 2) ⟨by decide, by decide⟩ dL_law_584 dL_law_585 dL_law_586 dL_law_587 dL_law_588 ?_
  obtain ⟨⟨r, μ1⟩, e1, ⟨q, μ2⟩, e2, e3, R2⟩ := sim_layers (a := (lsc xs (i + 1))) (b := (lsc xs (i + 2))) R
  refine z_callVG C X zk9 (hI.1 1 (by decide)) rfl (As := [zI (lsc xs (i + 1)), zI (lsc xs (i + 2))]) (M_X9_layers hI μ (lsc xs (i + 1)) (lsc xs (i + 2)) (lsc_rg _ _) (lsc_rg _ _) e1) zc_X9_layers kw_750 ⟨Nat.le_of_ble_eq_true rfl, Nat.le_of_ble_eq_true rfl⟩ rfl hl.1 rfl (Nat.le_of_ble_eq_true rfl) dL_law_589 ⟨Nat.le_of_ble_eq_true rfl, Nat.le_of_ble_eq_true rfl⟩ (fun H locs g1 X => ?_)
  refine lv_aload_n C.1 C.2.1 dL_law_592 rfl (lv_at hl 2 rfl) ?_
  refine y_arg D X hl hi (k := 1) ⟨by decide, by decide⟩ dL_law_593 dL_law_594 dL_law_595 dL_law_596 dL_law_597 ?_
  refine y_arg D X hl hi (k := 2) ⟨by decide, by decide⟩ dL_law_598 dL_law_599 dL_law_600 dL_law_601 dL_law_602 ?_
  refine z_callVG C X zk10 (hM.1 101 (by decide)) rfl (As := [zI (lsc xs (i + 1)), zI (lsc xs (i + 2))]) (M_X10_layers hM μ1 (lsc xs (i + 1)) (lsc xs (i + 2)) (lsc_rg _ _) (lsc_rg _ _) e2) zc_X10_layers kw_1427 ⟨Nat.le_of_ble_eq_true rfl, Nat.le_of_ble_eq_true rfl⟩ rfl hl.1 rfl (Nat.le_of_ble_eq_true rfl) dL_law_603 ⟨Nat.le_of_ble_eq_true rfl, Nat.le_of_ble_eq_true rfl⟩ (fun H locs g2 X => ?_)
  exact z_icmpeq C g1 g2 (tgt := 1204) dL_law_606 (by decide) (fun _ => kk μ2 _ _ X R2) (fun hn => absurd e3.symm hn)
set_option maxHeartbeats 4000000 in
set_option maxRecDepth 100000 in
theorem law_layer {p : Program} {l : Launch} {e : Env} {s : State} {m : MethodId} {below : List Frame} {meth : Method} {c : Code} {Q : State → Prop} {b L : Nat} {xs : Nat → Int32} {Ω : zO} {μ : zMem} {H : Heap} {locs : List Loc} {ls : Array Slot} {i : Int} (D : lwD p s m c b L xs Ω) (X : zX Ω μ (lA s) s.heap H locs) (R : Rel μ) (hi : 0 ≤ i ∧ i + 7 ≤ (L : Int)) (hl : lv_has ls 4 [(0, Value.ref b), (1, zR Ω 1), (2, zR Ω 101), (3, zI i)]) (kk : ∀ (μ : zMem) (H : Heap) (locs : List Loc), zX Ω μ (lA s) s.heap H locs → Rel μ → W p l e room_1 s m #[Value.ref b] below meth c H locs 126 70000 Q (F0 m 1204 ls [])) : W p l e room_1 s m #[Value.ref b] below meth c H locs 126 70000 Q (F0 m 611 ls []) := by
  obtain ⟨C, hI, hM, _⟩ := id D
  refine lv_aload_n C.1 C.2.1 dL_law_611 rfl (lv_at hl 1 rfl) ?_
  refine y_arg D X hl hi (k := 1) ⟨by decide, by decide⟩ dL_law_612 dL_law_613 dL_law_614 dL_law_615 dL_law_616 ?_
  refine y_arg D X hl hi (k := 2) ⟨by decide, by decide⟩ dL_law_617 dL_law_618 dL_law_619 dL_law_620 dL_law_621 ?_
  refine y_arg D X hl hi (k := 3) ⟨by decide, by decide⟩ dL_law_622 dL_law_623 dL_law_624 dL_law_625 dL_law_626 ?_
  obtain ⟨⟨r, μ1⟩, e1, ⟨q, μ2⟩, e2, e3, R2⟩ := sim_layer (a := (lsc xs (i + 1))) (b := (lsc xs (i + 2))) (c := (lsc xs (i + 3))) (lsc_rg _ _) R
  refine z_callVG C X zk9 (hI.1 1 (by decide)) rfl (As := [zI (lsc xs (i + 1)), zI (lsc xs (i + 2)), zI (lsc xs (i + 3))]) (M_X9_layer hI μ (lsc xs (i + 1)) (lsc xs (i + 2)) (lsc xs (i + 3)) (lsc_rg _ _) (lsc_rg _ _) (lsc_rg _ _) e1) zc_X9_layer kw_764 ⟨Nat.le_of_ble_eq_true rfl, Nat.le_of_ble_eq_true rfl⟩ rfl hl.1 rfl (Nat.le_of_ble_eq_true rfl) dL_law_627 ⟨Nat.le_of_ble_eq_true rfl, Nat.le_of_ble_eq_true rfl⟩ (fun H locs g1 X => ?_)
  refine lv_aload_n C.1 C.2.1 dL_law_630 rfl (lv_at hl 2 rfl) ?_
  refine y_arg D X hl hi (k := 1) ⟨by decide, by decide⟩ dL_law_631 dL_law_632 dL_law_633 dL_law_634 dL_law_635 ?_
  refine y_arg D X hl hi (k := 2) ⟨by decide, by decide⟩ dL_law_636 dL_law_637 dL_law_638 dL_law_639 dL_law_640 ?_
  refine y_arg D X hl hi (k := 3) ⟨by decide, by decide⟩ dL_law_641 dL_law_642 dL_law_643 dL_law_644 dL_law_645 ?_
  refine z_callVG C X zk10 (hM.1 101 (by decide)) rfl (As := [zI (lsc xs (i + 1)), zI (lsc xs (i + 2)), zI (lsc xs (i + 3))]) (M_X10_layer hM μ1 (lsc xs (i + 1)) (lsc xs (i + 2)) (lsc xs (i + 3)) (lsc_rg _ _) (lsc_rg _ _) (lsc_rg _ _) e2) zc_X10_layer kw_1431 ⟨Nat.le_of_ble_eq_true rfl, Nat.le_of_ble_eq_true rfl⟩ rfl hl.1 rfl (Nat.le_of_ble_eq_true rfl) dL_law_646 ⟨Nat.le_of_ble_eq_true rfl, Nat.le_of_ble_eq_true rfl⟩ (fun H locs g2 X => ?_)
  exact z_icmpeq C g1 g2 (tgt := 1204) dL_law_649 (by decide) (fun _ => kk μ2 _ _ X R2) (fun hn => absurd e3.symm hn)
set_option maxHeartbeats 4000000 in
set_option maxRecDepth 100000 in
theorem law_storeys {p : Program} {l : Launch} {e : Env} {s : State} {m : MethodId} {below : List Frame} {meth : Method} {c : Code} {Q : State → Prop} {b L : Nat} {xs : Nat → Int32} {Ω : zO} {μ : zMem} {H : Heap} {locs : List Loc} {ls : Array Slot} {i : Int} (D : lwD p s m c b L xs Ω) (X : zX Ω μ (lA s) s.heap H locs) (R : Rel μ) (hi : 0 ≤ i ∧ i + 7 ≤ (L : Int)) (hl : lv_has ls 4 [(0, Value.ref b), (1, zR Ω 1), (2, zR Ω 101), (3, zI i)]) (kk : ∀ (μ : zMem) (H : Heap) (locs : List Loc), zX Ω μ (lA s) s.heap H locs → Rel μ → W p l e room_1 s m #[Value.ref b] below meth c H locs 126 70000 Q (F0 m 1204 ls [])) : W p l e room_1 s m #[Value.ref b] below meth c H locs 126 70000 Q (F0 m 654 ls []) := by
  obtain ⟨C, hI, hM, _⟩ := id D
  refine lv_aload_n C.1 C.2.1 dL_law_654 rfl (lv_at hl 1 rfl) ?_
  refine y_arg D X hl hi (k := 1) ⟨by decide, by decide⟩ dL_law_655 dL_law_656 dL_law_657 dL_law_658 dL_law_659 ?_
  have e1 := sim_storeys (a := (lsc xs (i + 1))) R
  refine z_callVG C X zk9 (hI.1 1 (by decide)) rfl (As := [zI (lsc xs (i + 1))]) (M_X9_storeys hI μ (lsc xs (i + 1)) (lsc_rg _ _) e1) zc_X9_storeys kw_809 ⟨Nat.le_of_ble_eq_true rfl, Nat.le_of_ble_eq_true rfl⟩ rfl hl.1 rfl (Nat.le_of_ble_eq_true rfl) dL_law_660 ⟨Nat.le_of_ble_eq_true rfl, Nat.le_of_ble_eq_true rfl⟩ (fun H locs g1 X => ?_)
  refine lv_aload_n C.1 C.2.1 dL_law_663 rfl (lv_at hl 2 rfl) ?_
  refine y_arg D X hl hi (k := 1) ⟨by decide, by decide⟩ dL_law_664 dL_law_665 dL_law_666 dL_law_667 dL_law_668 ?_
  refine z_callVG C X zk10 (hM.1 101 (by decide)) rfl (As := [zI (lsc xs (i + 1))]) (M_X10_storeys hM μ (lsc xs (i + 1)) (lsc_rg _ _) ) zc_X10_storeys kw_1443 ⟨Nat.le_of_ble_eq_true rfl, Nat.le_of_ble_eq_true rfl⟩ rfl hl.1 rfl (Nat.le_of_ble_eq_true rfl) dL_law_669 ⟨Nat.le_of_ble_eq_true rfl, Nat.le_of_ble_eq_true rfl⟩ (fun H locs g2 X => ?_)
  exact z_icmpeq C g1 g2 (tgt := 1204) dL_law_672 (by decide) (fun _ => kk μ _ _ X R) (fun hn => absurd rfl hn)
set_option maxHeartbeats 4000000 in
set_option maxRecDepth 100000 in
theorem law_moves {p : Program} {l : Launch} {e : Env} {s : State} {m : MethodId} {below : List Frame} {meth : Method} {c : Code} {Q : State → Prop} {b L : Nat} {xs : Nat → Int32} {Ω : zO} {μ : zMem} {H : Heap} {locs : List Loc} {ls : Array Slot} {i : Int} (D : lwD p s m c b L xs Ω) (X : zX Ω μ (lA s) s.heap H locs) (R : Rel μ) (hi : 0 ≤ i ∧ i + 7 ≤ (L : Int)) (hl : lv_has ls 4 [(0, Value.ref b), (1, zR Ω 1), (2, zR Ω 101), (3, zI i)]) (kk : ∀ (μ : zMem) (H : Heap) (locs : List Loc), zX Ω μ (lA s) s.heap H locs → Rel μ → W p l e room_1 s m #[Value.ref b] below meth c H locs 126 70000 Q (F0 m 1204 ls [])) : W p l e room_1 s m #[Value.ref b] below meth c H locs 126 70000 Q (F0 m 677 ls []) := by
  obtain ⟨C, hI, hM, _⟩ := id D
  refine lv_aload_n C.1 C.2.1 dL_law_677 rfl (lv_at hl 1 rfl) ?_
  refine y_arg D X hl hi (k := 1) ⟨by decide, by decide⟩ dL_law_678 dL_law_679 dL_law_680 dL_law_681 dL_law_682 ?_
  refine y_arg D X hl hi (k := 2) ⟨by decide, by decide⟩ dL_law_683 dL_law_684 dL_law_685 dL_law_686 dL_law_687 ?_
  obtain ⟨r, e1, e2⟩ := sim_moves (a := (lsc xs (i + 1))) (b := (lsc xs (i + 2))) R
  refine z_callVG C X zk9 (hI.1 1 (by decide)) rfl (As := [zI (lsc xs (i + 1)), zI (lsc xs (i + 2))]) (M_X9_moves hI μ (lsc xs (i + 1)) (lsc xs (i + 2)) (lsc_rg _ _) (lsc_rg _ _) e1) zc_X9_moves kw_813 ⟨Nat.le_of_ble_eq_true rfl, Nat.le_of_ble_eq_true rfl⟩ rfl hl.1 rfl (Nat.le_of_ble_eq_true rfl) dL_law_688 ⟨Nat.le_of_ble_eq_true rfl, Nat.le_of_ble_eq_true rfl⟩ (fun H locs g1 X => ?_)
  refine lv_aload_n C.1 C.2.1 dL_law_691 rfl (lv_at hl 2 rfl) ?_
  refine y_arg D X hl hi (k := 1) ⟨by decide, by decide⟩ dL_law_692 dL_law_693 dL_law_694 dL_law_695 dL_law_696 ?_
  refine y_arg D X hl hi (k := 2) ⟨by decide, by decide⟩ dL_law_697 dL_law_698 dL_law_699 dL_law_700 dL_law_701 ?_
  refine z_callVG C X zk10 (hM.1 101 (by decide)) rfl (As := [zI (lsc xs (i + 1)), zI (lsc xs (i + 2))]) (M_X10_moves hM μ (lsc xs (i + 1)) (lsc xs (i + 2)) (lsc_rg _ _) (lsc_rg _ _) e2) zc_X10_moves kw_1447 ⟨Nat.le_of_ble_eq_true rfl, Nat.le_of_ble_eq_true rfl⟩ rfl hl.1 rfl (Nat.le_of_ble_eq_true rfl) dL_law_702 ⟨Nat.le_of_ble_eq_true rfl, Nat.le_of_ble_eq_true rfl⟩ (fun H locs g2 X => ?_)
  exact z_icmpeq C g1 g2 (tgt := 1204) dL_law_705 (by decide) (fun _ => kk μ _ _ X R) (fun hn => absurd rfl hn)
set_option maxHeartbeats 4000000 in
set_option maxRecDepth 100000 in
theorem law_lift {p : Program} {l : Launch} {e : Env} {s : State} {m : MethodId} {below : List Frame} {meth : Method} {c : Code} {Q : State → Prop} {b L : Nat} {xs : Nat → Int32} {Ω : zO} {μ : zMem} {H : Heap} {locs : List Loc} {ls : Array Slot} {i : Int} (D : lwD p s m c b L xs Ω) (X : zX Ω μ (lA s) s.heap H locs) (R : Rel μ) (hi : 0 ≤ i ∧ i + 7 ≤ (L : Int)) (hl : lv_has ls 4 [(0, Value.ref b), (1, zR Ω 1), (2, zR Ω 101), (3, zI i)]) (kk : ∀ (μ : zMem) (H : Heap) (locs : List Loc), zX Ω μ (lA s) s.heap H locs → Rel μ → W p l e room_1 s m #[Value.ref b] below meth c H locs 126 70000 Q (F0 m 1204 ls [])) : W p l e room_1 s m #[Value.ref b] below meth c H locs 126 70000 Q (F0 m 710 ls []) := by
  obtain ⟨C, hI, hM, _⟩ := id D
  refine lv_aload_n C.1 C.2.1 dL_law_710 rfl (lv_at hl 1 rfl) ?_
  refine y_arg D X hl hi (k := 1) ⟨by decide, by decide⟩ dL_law_711 dL_law_712 dL_law_713 dL_law_714 dL_law_715 ?_
  refine y_arg D X hl hi (k := 2) ⟨by decide, by decide⟩ dL_law_716 dL_law_717 dL_law_718 dL_law_719 dL_law_720 ?_
  obtain ⟨r, e1, e2⟩ := sim_lift (a := (lsc xs (i + 1))) (b := (lsc xs (i + 2))) R
  refine z_callVG C X zk9 (hI.1 1 (by decide)) rfl (As := [zI (lsc xs (i + 1)), zI (lsc xs (i + 2))]) (M_X9_lift hI μ (lsc xs (i + 1)) (lsc xs (i + 2)) (lsc_rg _ _) (lsc_rg _ _) e1) zc_X9_lift kw_822 ⟨Nat.le_of_ble_eq_true rfl, Nat.le_of_ble_eq_true rfl⟩ rfl hl.1 rfl (Nat.le_of_ble_eq_true rfl) dL_law_721 ⟨Nat.le_of_ble_eq_true rfl, Nat.le_of_ble_eq_true rfl⟩ (fun H locs g1 X => ?_)
  refine lv_aload_n C.1 C.2.1 dL_law_724 rfl (lv_at hl 2 rfl) ?_
  refine y_arg D X hl hi (k := 1) ⟨by decide, by decide⟩ dL_law_725 dL_law_726 dL_law_727 dL_law_728 dL_law_729 ?_
  refine y_arg D X hl hi (k := 2) ⟨by decide, by decide⟩ dL_law_730 dL_law_731 dL_law_732 dL_law_733 dL_law_734 ?_
  refine z_callVG C X zk10 (hM.1 101 (by decide)) rfl (As := [zI (lsc xs (i + 1)), zI (lsc xs (i + 2))]) (M_X10_lift hM μ (lsc xs (i + 1)) (lsc xs (i + 2)) (lsc_rg _ _) (lsc_rg _ _) e2) zc_X10_lift kw_1451 ⟨Nat.le_of_ble_eq_true rfl, Nat.le_of_ble_eq_true rfl⟩ rfl hl.1 rfl (Nat.le_of_ble_eq_true rfl) dL_law_735 ⟨Nat.le_of_ble_eq_true rfl, Nat.le_of_ble_eq_true rfl⟩ (fun H locs g2 X => ?_)
  exact z_icmpeq C g1 g2 (tgt := 1204) dL_law_738 (by decide) (fun _ => kk μ _ _ X R) (fun hn => absurd rfl hn)
set_option maxHeartbeats 4000000 in
set_option maxRecDepth 100000 in
theorem law_moved {p : Program} {l : Launch} {e : Env} {s : State} {m : MethodId} {below : List Frame} {meth : Method} {c : Code} {Q : State → Prop} {b L : Nat} {xs : Nat → Int32} {Ω : zO} {μ : zMem} {H : Heap} {locs : List Loc} {ls : Array Slot} {i : Int} (D : lwD p s m c b L xs Ω) (X : zX Ω μ (lA s) s.heap H locs) (R : Rel μ) (hi : 0 ≤ i ∧ i + 7 ≤ (L : Int)) (hl : lv_has ls 4 [(0, Value.ref b), (1, zR Ω 1), (2, zR Ω 101), (3, zI i)]) (kk : ∀ (μ : zMem) (H : Heap) (locs : List Loc), zX Ω μ (lA s) s.heap H locs → Rel μ → W p l e room_1 s m #[Value.ref b] below meth c H locs 126 70000 Q (F0 m 1204 ls [])) : W p l e room_1 s m #[Value.ref b] below meth c H locs 126 70000 Q (F0 m 743 ls []) := by
  obtain ⟨C, hI, hM, _⟩ := id D
  refine lv_aload_n C.1 C.2.1 dL_law_743 rfl (lv_at hl 1 rfl) ?_
  refine y_arg D X hl hi (k := 1) ⟨by decide, by decide⟩ dL_law_744 dL_law_745 dL_law_746 dL_law_747 dL_law_748 ?_
  obtain ⟨⟨r, μ1⟩, e1, ⟨q, μ2⟩, e2, e3, R2⟩ := sim_moved (a := (lsc xs (i + 1))) R
  refine z_callVG C X zk9 (hI.1 1 (by decide)) rfl (As := [zI (lsc xs (i + 1))]) (M_X9_moved hI μ (lsc xs (i + 1)) (lsc_rg _ _) e1) zc_X9_moved kw_834 ⟨Nat.le_of_ble_eq_true rfl, Nat.le_of_ble_eq_true rfl⟩ rfl hl.1 rfl (Nat.le_of_ble_eq_true rfl) dL_law_749 ⟨Nat.le_of_ble_eq_true rfl, Nat.le_of_ble_eq_true rfl⟩ (fun H locs g1 X => ?_)
  refine lv_aload_n C.1 C.2.1 dL_law_752 rfl (lv_at hl 2 rfl) ?_
  refine y_arg D X hl hi (k := 1) ⟨by decide, by decide⟩ dL_law_753 dL_law_754 dL_law_755 dL_law_756 dL_law_757 ?_
  refine z_callVG C X zk10 (hM.1 101 (by decide)) rfl (As := [zI (lsc xs (i + 1))]) (M_X10_moved hM μ1 (lsc xs (i + 1)) (lsc_rg _ _) e2) zc_X10_moved kw_1458 ⟨Nat.le_of_ble_eq_true rfl, Nat.le_of_ble_eq_true rfl⟩ rfl hl.1 rfl (Nat.le_of_ble_eq_true rfl) dL_law_758 ⟨Nat.le_of_ble_eq_true rfl, Nat.le_of_ble_eq_true rfl⟩ (fun H locs g2 X => ?_)
  exact z_icmpeq C g1 g2 (tgt := 1204) dL_law_761 (by decide) (fun _ => kk μ2 _ _ X R2) (fun hn => absurd e3.symm hn)
set_option maxHeartbeats 4000000 in
set_option maxRecDepth 100000 in
theorem law_word {p : Program} {l : Launch} {e : Env} {s : State} {m : MethodId} {below : List Frame} {meth : Method} {c : Code} {Q : State → Prop} {b L : Nat} {xs : Nat → Int32} {Ω : zO} {μ : zMem} {H : Heap} {locs : List Loc} {ls : Array Slot} {i : Int} (D : lwD p s m c b L xs Ω) (X : zX Ω μ (lA s) s.heap H locs) (R : Rel μ) (hi : 0 ≤ i ∧ i + 7 ≤ (L : Int)) (hl : lv_has ls 4 [(0, Value.ref b), (1, zR Ω 1), (2, zR Ω 101), (3, zI i)]) (kk : ∀ (μ : zMem) (H : Heap) (locs : List Loc), zX Ω μ (lA s) s.heap H locs → Rel μ → W p l e room_1 s m #[Value.ref b] below meth c H locs 126 70000 Q (F0 m 1204 ls [])) : W p l e room_1 s m #[Value.ref b] below meth c H locs 126 70000 Q (F0 m 766 ls []) := by
  obtain ⟨C, hI, hM, _⟩ := id D
  refine lv_aload_n C.1 C.2.1 dL_law_766 rfl (lv_at hl 1 rfl) ?_
  refine y_arg D X hl hi (k := 1) ⟨by decide, by decide⟩ dL_law_767 dL_law_768 dL_law_769 dL_law_770 dL_law_771 ?_
  refine y_arg D X hl hi (k := 2) ⟨by decide, by decide⟩ dL_law_772 dL_law_773 dL_law_774 dL_law_775 dL_law_776 ?_
  obtain ⟨⟨r, μ1⟩, e1, ⟨q, μ2⟩, e2, e3, R2⟩ := sim_word (a := (lsc xs (i + 1))) (b := (lsc xs (i + 2))) R
  refine z_callVG C X zk9 (hI.1 1 (by decide)) rfl (As := [zI (lsc xs (i + 1)), zI (lsc xs (i + 2))]) (M_X9_word hI μ (lsc xs (i + 1)) (lsc xs (i + 2)) (lsc_rg _ _) (lsc_rg _ _) e1) zc_X9_word kw_843 ⟨Nat.le_of_ble_eq_true rfl, Nat.le_of_ble_eq_true rfl⟩ rfl hl.1 rfl (Nat.le_of_ble_eq_true rfl) dL_law_777 ⟨Nat.le_of_ble_eq_true rfl, Nat.le_of_ble_eq_true rfl⟩ (fun H locs g1 X => ?_)
  refine lv_aload_n C.1 C.2.1 dL_law_780 rfl (lv_at hl 2 rfl) ?_
  refine y_arg D X hl hi (k := 1) ⟨by decide, by decide⟩ dL_law_781 dL_law_782 dL_law_783 dL_law_784 dL_law_785 ?_
  refine y_arg D X hl hi (k := 2) ⟨by decide, by decide⟩ dL_law_786 dL_law_787 dL_law_788 dL_law_789 dL_law_790 ?_
  refine z_callVG C X zk10 (hM.1 101 (by decide)) rfl (As := [zI (lsc xs (i + 1)), zI (lsc xs (i + 2))]) (M_X10_word hM μ1 (lsc xs (i + 1)) (lsc xs (i + 2)) (lsc_rg _ _) (lsc_rg _ _) e2) zc_X10_word kw_1462 ⟨Nat.le_of_ble_eq_true rfl, Nat.le_of_ble_eq_true rfl⟩ rfl hl.1 rfl (Nat.le_of_ble_eq_true rfl) dL_law_791 ⟨Nat.le_of_ble_eq_true rfl, Nat.le_of_ble_eq_true rfl⟩ (fun H locs g2 X => ?_)
  exact z_icmpeq C g1 g2 (tgt := 1204) dL_law_794 (by decide) (fun _ => kk μ2 _ _ X R2) (fun hn => absurd e3.symm hn)
set_option maxHeartbeats 4000000 in
set_option maxRecDepth 100000 in
theorem law_walk {p : Program} {l : Launch} {e : Env} {s : State} {m : MethodId} {below : List Frame} {meth : Method} {c : Code} {Q : State → Prop} {b L : Nat} {xs : Nat → Int32} {Ω : zO} {μ : zMem} {H : Heap} {locs : List Loc} {ls : Array Slot} {i : Int} (D : lwD p s m c b L xs Ω) (X : zX Ω μ (lA s) s.heap H locs) (R : Rel μ) (hi : 0 ≤ i ∧ i + 7 ≤ (L : Int)) (hl : lv_has ls 4 [(0, Value.ref b), (1, zR Ω 1), (2, zR Ω 101), (3, zI i)]) (kk : ∀ (μ : zMem) (H : Heap) (locs : List Loc), zX Ω μ (lA s) s.heap H locs → Rel μ → W p l e room_1 s m #[Value.ref b] below meth c H locs 126 70000 Q (F0 m 1204 ls [])) : W p l e room_1 s m #[Value.ref b] below meth c H locs 126 70000 Q (F0 m 799 ls []) := by
  obtain ⟨C, hI, hM, _⟩ := id D
  refine lv_aload_n C.1 C.2.1 dL_law_799 rfl (lv_at hl 1 rfl) ?_
  refine y_arg D X hl hi (k := 1) ⟨by decide, by decide⟩ dL_law_800 dL_law_801 dL_law_802 dL_law_803 dL_law_804 ?_
  refine y_arg D X hl hi (k := 2) ⟨by decide, by decide⟩ dL_law_805 dL_law_806 dL_law_807 dL_law_808 dL_law_809 ?_
  refine y_arg D X hl hi (k := 3) ⟨by decide, by decide⟩ dL_law_810 dL_law_811 dL_law_812 dL_law_813 dL_law_814 ?_
  refine y_arg D X hl hi (k := 4) ⟨by decide, by decide⟩ dL_law_815 dL_law_816 dL_law_817 dL_law_818 dL_law_819 ?_
  refine y_arg D X hl hi (k := 5) ⟨by decide, by decide⟩ dL_law_820 dL_law_821 dL_law_822 dL_law_823 dL_law_824 ?_
  refine y_argb D X hl hi (k := 6) ⟨by decide, by decide⟩ (by decide) dL_law_825 dL_law_826 dL_law_827 dL_law_829 dL_law_830 ?_
  obtain ⟨⟨r, μ1⟩, e1, ⟨q, μ2⟩, e2, e3, R2⟩ := sim_walk (a := (lsc xs (i + 1))) (b := (lsc xs (i + 2))) (c := (lsc xs (i + 3))) (d := (lsc xs (i + 4))) (q5 := (lsc xs (i + 5))) (n := (lsc xs (i + 6))) (lsc_rg _ _) R
  refine z_callVG C X zk9 (hI.1 1 (by decide)) rfl (As := [zI (lsc xs (i + 1)), zI (lsc xs (i + 2)), zI (lsc xs (i + 3)), zI (lsc xs (i + 4)), zI (lsc xs (i + 5)), zI (lsc xs (i + 6))]) (M_X9_walk hI μ (lsc xs (i + 1)) (lsc xs (i + 2)) (lsc xs (i + 3)) (lsc xs (i + 4)) (lsc xs (i + 5)) (lsc xs (i + 6)) (lsc_rg _ _) (lsc_rg _ _) (lsc_rg _ _) (lsc_rg _ _) (lsc_rg _ _) (lsc_rg _ _) e1) zc_X9_walk kw_856 ⟨Nat.le_of_ble_eq_true rfl, Nat.le_of_ble_eq_true rfl⟩ rfl hl.1 rfl (Nat.le_of_ble_eq_true rfl) dL_law_831 ⟨Nat.le_of_ble_eq_true rfl, Nat.le_of_ble_eq_true rfl⟩ (fun H locs g1 X => ?_)
  refine lv_aload_n C.1 C.2.1 dL_law_834 rfl (lv_at hl 2 rfl) ?_
  refine y_arg D X hl hi (k := 1) ⟨by decide, by decide⟩ dL_law_835 dL_law_836 dL_law_837 dL_law_838 dL_law_839 ?_
  refine y_arg D X hl hi (k := 2) ⟨by decide, by decide⟩ dL_law_840 dL_law_841 dL_law_842 dL_law_843 dL_law_844 ?_
  refine y_arg D X hl hi (k := 3) ⟨by decide, by decide⟩ dL_law_845 dL_law_846 dL_law_847 dL_law_848 dL_law_849 ?_
  refine y_arg D X hl hi (k := 4) ⟨by decide, by decide⟩ dL_law_850 dL_law_851 dL_law_852 dL_law_853 dL_law_854 ?_
  refine y_arg D X hl hi (k := 5) ⟨by decide, by decide⟩ dL_law_855 dL_law_856 dL_law_857 dL_law_858 dL_law_859 ?_
  refine y_argb D X hl hi (k := 6) ⟨by decide, by decide⟩ (by decide) dL_law_860 dL_law_861 dL_law_862 dL_law_864 dL_law_865 ?_
  refine z_callVG C X zk10 (hM.1 101 (by decide)) rfl (As := [zI (lsc xs (i + 1)), zI (lsc xs (i + 2)), zI (lsc xs (i + 3)), zI (lsc xs (i + 4)), zI (lsc xs (i + 5)), zI (lsc xs (i + 6))]) (M_X10_walk hM μ1 (lsc xs (i + 1)) (lsc xs (i + 2)) (lsc xs (i + 3)) (lsc xs (i + 4)) (lsc xs (i + 5)) (lsc xs (i + 6)) (lsc_rg _ _) (lsc_rg _ _) (lsc_rg _ _) (lsc_rg _ _) (lsc_rg _ _) (lsc_rg _ _) e2) zc_X10_walk kw_1474 ⟨Nat.le_of_ble_eq_true rfl, Nat.le_of_ble_eq_true rfl⟩ rfl hl.1 rfl (Nat.le_of_ble_eq_true rfl) dL_law_866 ⟨Nat.le_of_ble_eq_true rfl, Nat.le_of_ble_eq_true rfl⟩ (fun H locs g2 X => ?_)
  exact z_icmpeq C g1 g2 (tgt := 1204) dL_law_869 (by decide) (fun _ => kk μ2 _ _ X R2) (fun hn => absurd e3.symm hn)
set_option maxHeartbeats 4000000 in
set_option maxRecDepth 100000 in
theorem law_about {p : Program} {l : Launch} {e : Env} {s : State} {m : MethodId} {below : List Frame} {meth : Method} {c : Code} {Q : State → Prop} {b L : Nat} {xs : Nat → Int32} {Ω : zO} {μ : zMem} {H : Heap} {locs : List Loc} {ls : Array Slot} {i : Int} (D : lwD p s m c b L xs Ω) (X : zX Ω μ (lA s) s.heap H locs) (R : Rel μ) (hi : 0 ≤ i ∧ i + 7 ≤ (L : Int)) (hl : lv_has ls 4 [(0, Value.ref b), (1, zR Ω 1), (2, zR Ω 101), (3, zI i)]) (kk : ∀ (μ : zMem) (H : Heap) (locs : List Loc), zX Ω μ (lA s) s.heap H locs → Rel μ → W p l e room_1 s m #[Value.ref b] below meth c H locs 126 70000 Q (F0 m 1204 ls [])) : W p l e room_1 s m #[Value.ref b] below meth c H locs 126 70000 Q (F0 m 874 ls []) := by
  obtain ⟨C, hI, hM, _⟩ := id D
  refine lv_aload_n C.1 C.2.1 dL_law_874 rfl (lv_at hl 1 rfl) ?_
  refine y_arg D X hl hi (k := 1) ⟨by decide, by decide⟩ dL_law_875 dL_law_876 dL_law_877 dL_law_878 dL_law_879 ?_
  refine y_arg D X hl hi (k := 2) ⟨by decide, by decide⟩ dL_law_880 dL_law_881 dL_law_882 dL_law_883 dL_law_884 ?_
  obtain ⟨r, e1, e2⟩ := sim_about (a := (lsc xs (i + 1))) (b := (lsc xs (i + 2))) R
  refine z_callVG C X zk9 (hI.1 1 (by decide)) rfl (As := [zI (lsc xs (i + 1)), zI (lsc xs (i + 2))]) (M_X9_about hI μ (lsc xs (i + 1)) (lsc xs (i + 2)) (lsc_rg _ _) (lsc_rg _ _) e1) zc_X9_about kw_875 ⟨Nat.le_of_ble_eq_true rfl, Nat.le_of_ble_eq_true rfl⟩ rfl hl.1 rfl (Nat.le_of_ble_eq_true rfl) dL_law_885 ⟨Nat.le_of_ble_eq_true rfl, Nat.le_of_ble_eq_true rfl⟩ (fun H locs g1 X => ?_)
  refine lv_aload_n C.1 C.2.1 dL_law_888 rfl (lv_at hl 2 rfl) ?_
  refine y_arg D X hl hi (k := 1) ⟨by decide, by decide⟩ dL_law_889 dL_law_890 dL_law_891 dL_law_892 dL_law_893 ?_
  refine y_arg D X hl hi (k := 2) ⟨by decide, by decide⟩ dL_law_894 dL_law_895 dL_law_896 dL_law_897 dL_law_898 ?_
  refine z_callVG C X zk10 (hM.1 101 (by decide)) rfl (As := [zI (lsc xs (i + 1)), zI (lsc xs (i + 2))]) (M_X10_about hM μ (lsc xs (i + 1)) (lsc xs (i + 2)) (lsc_rg _ _) (lsc_rg _ _) e2) zc_X10_about kw_1481 ⟨Nat.le_of_ble_eq_true rfl, Nat.le_of_ble_eq_true rfl⟩ rfl hl.1 rfl (Nat.le_of_ble_eq_true rfl) dL_law_899 ⟨Nat.le_of_ble_eq_true rfl, Nat.le_of_ble_eq_true rfl⟩ (fun H locs g2 X => ?_)
  exact z_icmpeq C g1 g2 (tgt := 1204) dL_law_902 (by decide) (fun _ => kk μ _ _ X R) (fun hn => absurd rfl hn)
