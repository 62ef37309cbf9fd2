/-! the law's rows -/
def lA (s : State) : Nat → Prop := fun q => s.heap.size ≤ q
/-- a number of the script -/
def lsc (xs : Nat → Int32) (i : Int) : Int := (xs i.toNat).toInt
theorem lsc_rg (xs : Nat → Int32) (i : Int) : Rg (lsc xs i) := Rg.t _
/-- where the law stands: its code, both objects, the script -/
def lwD (p : Program) (s : State) (m : MethodId) (c : Code) (b L : Nat) (xs : Nat → Int32) (Ω : zO) : Prop := zC p s m #[Value.ref b] c cL_law RL 4 Ω ∧ zIc Ω ∧ zIm Ω ∧ va_X b L xs s s.heap ∧ b < s.heap.size ∧ L ≤ 3584
section LAW
variable {p : Program} {l : Launch} {e : Env} {R : Room} {s : State} {m : MethodId} {below : List Frame} {meth : Method} {c : Code} {H : Heap} {locs : List Loc} {cells slots : Nat} {Q : State → Prop} {pc : Nat} {ls : Array Slot} {rest : List Value} {Ω : zO} {μ : zMem} {b L : Nat} {xs : Nat → Int32} {i k : Int}
theorem y_sld (D : lwD p s m c b L xs Ω) (X : zX Ω μ (lA s) s.heap H locs) (hi : 0 ≤ i ∧ i < (L : Int)) (hd : decode cL_law pc = .ok (.iaload, 1)) (kk : W p l e R s m #[Value.ref b] below meth c H locs cells slots Q (F0 m (pc + 1) ls (zI (lsc xs i) :: rest))) : W p l e R s m #[Value.ref b] below meth c H locs cells slots Q (F0 m pc ls (zI i :: Value.ref b :: rest)) := by
  obtain ⟨C, hI, hM, hX, hbl, hL⟩ := D
  obtain ⟨h1, h2⟩ := z_in hi (by omega)
  refine va_sld C.1 C.2.1 hX hbl (Nat.not_le.mpr hbl) X.2.2.1 h1 hd ?_
  rw [h2]
  have : zI (lsc xs i) = Value.int (xs i.toNat) := by unfold zI lsc; rw [Int32.ofInt_toInt]
  rw [this] at kk
  exact kk
/-- a number of the script is laid on the stack -/
theorem y_arg (D : lwD p s m c b L xs Ω) (X : zX Ω μ (lA s) s.heap H locs) (hl : lv_has ls 4 [(0, Value.ref b), (1, zR Ω 1), (2, zR Ω 101), (3, zI i)]) (hi : 0 ≤ i ∧ i + 7 ≤ (L : Int)) (hk : 0 ≤ k ∧ k < 7) (d1 : decode cL_law pc = .ok (.aload_n 0, 1)) (d2 : decode cL_law (pc + 1) = .ok (.iload_n 3, 1)) (d3 : decode cL_law (pc + 1 + 1) = .ok (.iconst k, 1)) (d4 : decode cL_law (pc + 1 + 1 + 1) = .ok (.iadd, 1)) (d5 : decode cL_law (pc + 1 + 1 + 1 + 1) = .ok (.iaload, 1)) (kk : W p l e R s m #[Value.ref b] below meth c H locs cells slots Q (F0 m (pc + 1 + 1 + 1 + 1 + 1) ls (zI (lsc xs (i + k)) :: rest))) : W p l e R s m #[Value.ref b] below meth c H locs cells slots Q (F0 m pc ls rest) := by
  have C := D.1
  have hL := D.2.2.2.2.2
  refine lv_aload_n C.1 C.2.1 d1 rfl (lv_at hl 0 rfl) ?_
  refine lv_iload_n C.1 C.2.1 d2 rfl (lv_at hl 3 rfl) ?_
  refine z_iconst C d3 ?_
  refine z_iadd C d4 ?_
  rw [zw_eq (x := i + k) (by omega) (by omega)]
  exact y_sld D X (by omega) d5 kk
theorem y_argb (D : lwD p s m c b L xs Ω) (X : zX Ω μ (lA s) s.heap H locs) (hl : lv_has ls 4 [(0, Value.ref b), (1, zR Ω 1), (2, zR Ω 101), (3, zI i)]) (hi : 0 ≤ i ∧ i + 7 ≤ (L : Int)) (hk : 0 ≤ k ∧ k < 7) (hb : (Int8.ofInt k).toInt32 = Int32.ofInt k) (d1 : decode cL_law pc = .ok (.aload_n 0, 1)) (d2 : decode cL_law (pc + 1) = .ok (.iload_n 3, 1)) (d3 : decode cL_law (pc + 1 + 1) = .ok (.bipush k, 2)) (d4 : decode cL_law (pc + 1 + 1 + 2) = .ok (.iadd, 1)) (d5 : decode cL_law (pc + 1 + 1 + 2 + 1) = .ok (.iaload, 1)) (kk : W p l e R s m #[Value.ref b] below meth c H locs cells slots Q (F0 m (pc + 1 + 1 + 2 + 1 + 1) ls (zI (lsc xs (i + k)) :: rest))) : W p l e R s m #[Value.ref b] below meth c H locs cells slots Q (F0 m pc ls rest) := by
  have C := D.1
  have hL := D.2.2.2.2.2
  refine lv_aload_n C.1 C.2.1 d1 rfl (lv_at hl 0 rfl) ?_
  refine lv_iload_n C.1 C.2.1 d2 rfl (lv_at hl 3 rfl) ?_
  refine z_bipush C d3 hb ?_
  refine z_iadd C d4 ?_
  rw [zw_eq (x := i + k) (by omega) (by omega)]
  exact y_sld D X (by omega) d5 kk
theorem zcmp_e {x y : Int} (h : x = y) : zcmp x y = 0 := by subst h; unfold zcmp; simp
theorem Rg_cmp (x y : Int) : Rg (zcmp x y) := by
  unfold zcmp Rg
  split
  · decide
  · split <;> decide
end LAW
