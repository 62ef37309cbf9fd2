/-! worlds that grow: a cell is made -/
def zadd (Ω : zO) (k : Int) (q : Nat) : zO := (Ω.1, Ω.2.1, (Ω.2.2.1.1 ++ [k], Ω.2.2.1.2), fun j => if j = k then q else Ω.2.2.2 j)
theorem zob_add {ids : List Int × List Int} {k r : Int} {ci : Nat} (h : zob ids ci r) : zob (ids.1 ++ [k], ids.2) ci r := ⟨h.1, fun j h0 h1 => List.mem_append_left _ (h.2.1 j h0 h1), h.2.2⟩
theorem zok_add {ids : List Int × List Int} {k k' i v : Int} (h : zok ids k' i v) : zok (ids.1 ++ [k], ids.2) k' i v := by
  unfold zok at h ⊢
  split at h
  · trivial
  · exact h
  · exact h
  · exact h
  · exact h
  · exact h.imp id zob_add
  · exact h.imp id zob_add
  · exact h.imp id zob_add
  · exact h.imp id zob_add
  · split at h
    · exact h
    · exact h
    · exact h
    · exact ⟨h.1.imp id (List.mem_append_left _), h.2⟩
    · exact h.imp id zob_add
theorem zok_zero {ids : List Int × List Int} {k i : Int} (hk : k ∉ ids.2) : zok ids k i 0 := by
  unfold zok
  split
  · trivial
  · exact Rg.z
  · exact ⟨by decide, by decide⟩
  · exact ⟨by decide, by decide⟩
  · exact ⟨by decide, by decide⟩
  · exact Or.inl rfl
  · exact Or.inl rfl
  · exact Or.inl rfl
  · exact Or.inl rfl
  · split
    · exact Rg.z
    · exact ⟨by decide, by decide⟩
    · exact ⟨by decide, by decide⟩
    · exact ⟨Or.inl rfl, fun _ h => absurd h hk⟩
    · exact Or.inl rfl
theorem zT_add {ids : List Int × List Int} {μ : zMem} {k : Int} (hT : zT ids μ) (hk : k ∉ ids.2) (hz : ∀ i, μ k i = 0) : zT (ids.1 ++ [k], ids.2) μ := by
  intro k' hk' i
  rcases List.mem_append.mp hk' with h | h
  · exact zok_add (hT k' h i)
  · rw [List.mem_singleton.mp h, hz i]
    exact zok_zero hk
theorem zrf_add {ids : List Int × List Int} {ad : Int → Nat} {k r : Int} {q : Nat} (hk : k ∉ ids.1) (h : r = 0 ∨ r ∈ ids.1) : zrf (fun j => if j = k then q else ad j) r = zrf ad r := by
  unfold zrf
  rcases h with h | h
  · rw [if_pos h, if_pos h]
  · have hne : r ≠ k := fun e => hk (e ▸ h)
    simp only [hne, if_false]
theorem zws_add {Ω : zO} {μ : zMem} {k : Int} {q : Nat} (hT : zT Ω.2.2.1 μ) (hk : k ∉ Ω.2.2.1.1) : zws (zadd Ω k q) μ = zws Ω μ ++ [zat (zadd Ω k q) μ k] := by
  show (Ω.2.2.1.1 ++ [k]).map (zat (zadd Ω k q) μ) = Ω.2.2.1.1.map (zat Ω μ) ++ [zat (zadd Ω k q) μ k]
  rw [List.map_append]
  refine congrArg (fun l => l ++ [zat (zadd Ω k q) μ k]) ?_
  refine List.map_congr_left fun k' hk' => ?_
  have hne : k' ≠ k := fun e => hk (e ▸ hk')
  have hok := hT k' hk'
  unfold zat
  have ha : (zadd Ω k q).2.2.2 k' = Ω.2.2.2 k' := if_neg hne
  rw [ha]
  refine congrArg (fun x => (Ω.2.2.2 k', x)) ?_
  have hob : ∀ (ci : Nat) (r : Int), (r = 0 ∨ zob Ω.2.2.1 ci r) → (r = 0 ∨ r ∈ Ω.2.2.1.1) := fun ci r h => h.imp id zob.self
  unfold zce
  unfold zok at hok
  split
  · rfl
  · rfl
  · rfl
  · rfl
  · rfl
  all_goals first
    | (rename_i h0
       rw [h0] at hok
       have : zar (zadd Ω k q) μ k' = zar Ω μ k' := by
         funext j
         exact zrf_add hk (hob _ _ (hok j))
       rw [this]
       rfl)
    | skip
  rename_i h0 h1 h2 h3 h4 h5 h6 h7 h8
  refine congrArg (fun l => Sum.inr ((zsh k').1 - 10, l)) ?_
  unfold zfs
  refine List.map_congr_left fun j hj => ?_
  have hj := hok (j : Int)
  rw [Int.toNat_natCast] at hj
  unfold zfv
  generalize (zsh k').1 = a at *
  match a, h0, h1, h2, h3, h4, h5, h6, h7, h8 with
  | 0, h0, _, _, _, _, _, _, _, _ => exact absurd rfl h0
  | 1, _, h0, _, _, _, _, _, _, _ => exact absurd rfl h0
  | 2, _, _, h0, _, _, _, _, _, _ => exact absurd rfl h0
  | 3, _, _, _, h0, _, _, _, _, _ => exact absurd rfl h0
  | 4, _, _, _, _, h0, _, _, _, _ => exact absurd rfl h0
  | 5, _, _, _, _, _, h0, _, _, _ => exact absurd rfl h0
  | 6, _, _, _, _, _, _, h0, _, _ => exact absurd rfl h0
  | 7, _, _, _, _, _, _, _, h0, _ => exact absurd rfl h0
  | 8, _, _, _, _, _, _, _, _, h0 => exact absurd rfl h0
  | n + 9, _, _, _, _, _, _, _, _, _ =>
    simp only at hj ⊢
    split
    · rfl
    · rfl
    · rfl
    · rename_i q0 q1 q2
      have hr : μ k' (j : Int) = 0 ∨ μ k' (j : Int) ∈ Ω.2.2.1.1 := by
        split at hj
        · exact absurd (by assumption) q0
        · exact absurd (by assumption) q1
        · exact absurd (by assumption) q2
        · exact hj.1
        · exact hob _ _ hj
      exact congrArg va_rf (zrf_add hk hr)
section ZN
variable {p : Program} {l : Launch} {e : Env} {R : Room} {s : State} {m : MethodId} {args : Array Value} {below : List Frame} {meth : Method} {c : Code} {H : Heap} {locs : List Loc} {cells slots : Nat} {Q : State → Prop}
variable {cc : ByteArray} {pc : Nat} {ls : Array Slot} {rest : List Value} {own : String} {nL : Nat} {Ω : zO} {μ μ1 : zMem} {A : Nat → Prop} {k i v x y n : Int} {N : Nat}
theorem zadd_at (Ω : zO) (k : Int) (q : Nat) : (zadd Ω k q).2.2.2 k = q := if_pos rfl
theorem zat_add {kd : Nat} {q : Nat} (hs : zsh k = (kd, N)) : zat (zadd Ω k q) μ k = (q, zce (zadd Ω k q) μ k (kd, N)) := by
  unfold zat
  rw [hs, zadd_at]
theorem zcA {cA : ClassId} {t0 : Nat} {ty : FieldType} (hK : va_K Ω.1 vwCl (ztys Ω) s) (ht : (ztys Ω)[t0]? = some (Ω.2.1 t0, ty)) (h : va_RA s cA ty) : cA = Ω.2.1 t0 := by
  have h2 := (hK.2 t0 _ ht).2
  unfold va_RA at h h2
  split at h
  · obtain ⟨-, -, -, -, -, h4⟩ := h
    obtain ⟨-, -, -, -, -, h5⟩ := h2
    exact Option.some.inj (h4.symm.trans h5)
  · simp only at h2
    exact Option.some.inj (h.symm.trans h2)
theorem z_newI (C : zC p s m args c cc own nL Ω) {H0 : Heap} (X : zX Ω μ A H0 H locs) (hA : ∀ q : Nat, H0.size ≤ q → A q) {atype : ArrayType} (kd : Nat) (hkd : kd = 1 ∨ kd = 3 ∨ kd = 4) {ty : FieldType} (hty : newarray.typeOf atype = ty) (hdef : defaultValue ty = .int 0) (hwd : Cond.arrayClass (newarray.typeOf atype) ∈ lw_tbl) (ht : (ztys Ω)[kd]? = some (Ω.2.1 kd, ty)) (k : Int) (hk : k ∉ Ω.2.2.1.1) (hkf : k ∉ Ω.2.2.1.2) (hs : zsh k = (kd, N)) (hz : ∀ i, μ k i = 0) (hn : n = (N : Int)) (hby : N * componentBytes ty ≤ 536870912) (hcells : cells + 1 ≤ R.cells) (hslots : slots + N ≤ R.slots) (hd : decode cc pc = .ok (.newarray atype, 2))
    (kk : ∀ (q : Nat) (H1 : Heap), zX (zadd Ω k q) μ A H0 H1 locs → W p l e R s m args below meth c H1 locs (cells + 1) (slots + N) Q (F0 m (pc + 2) ls (zR (zadd Ω k q) k :: rest))) : W p l e R s m args below meth c H locs cells slots Q (F0 m pc ls (zI n :: rest)) := by
  have hsm := zsh_small k
  rw [hs] at hsm
  have hg : Rg n := ⟨by omega, by simp only at hsm; omega⟩
  have hf0 : zai μ k = fun _ => 0 := by
    funext j
    unfold zai
    rw [hz]
    rfl
  refine va_newa (a0 := (N, .inl (fun _ => (0 : Int32)))) C.1 C.2.1 (C.2.2.2.2.1 _ (zg hwd rfl)) hty C.2.2.2.2.2 X.1 X.2.1 X.2.2.1 hA (fun cA => by rw [vp_cell_i, hdef]) (fun h => ?_) ?_ hby hcells hslots hd (fun q cA H1 hK hP hD hS => ?_)
  · have := (zlt hg Rg.z).mp h
    omega
  · rw [← Int32.toNat_toInt, hg.v]
    omega
  · have hcA : cA = Ω.2.1 kd := zcA C.2.2.2.2.2 ht (hK.2 9 (cA, ty) rfl).2
    have he : zws (zadd Ω k q) μ = zws Ω μ ++ [(q, .inl (cA, N, .inl (fun _ => (0 : Int32))))] := by
      rw [zws_add X.2.2.2 hk, zat_add hs, hcA]
      rcases hkd with h | h | h <;> subst h
      · show zws Ω μ ++ [(q, .inl (Ω.2.1 1, (N, .inl (zai μ k))))] = _
        rw [hf0]
      · show zws Ω μ ++ [(q, .inl (Ω.2.1 3, (N, .inl (zai μ k))))] = _
        rw [hf0]
      · show zws Ω μ ++ [(q, .inl (Ω.2.1 4, (N, .inl (zai μ k))))] = _
        rw [hf0]
    have hq : (zadd Ω k q).2.2.2 k = q := if_pos rfl
    have := kk q H1 ⟨by rw [he]; exact hP, by rw [he]; exact hD, hS, zT_add X.2.2.2 hkf hz⟩
    rw [show zR (zadd Ω k q) k = Value.ref q from congrArg Value.ref hq] at this
    exact this
theorem z_newL (C : zC p s m args c cc own nL Ω) {H0 : Heap} (X : zX Ω μ A H0 H locs) (hA : ∀ q : Nat, H0.size ≤ q → A q) {atype : ArrayType} (kd : Nat) (hkd : kd = 2) {ty : FieldType} (hty : newarray.typeOf atype = ty) (hdef : defaultValue ty = .long 0) (hwd : Cond.arrayClass (newarray.typeOf atype) ∈ lw_tbl) (ht : (ztys Ω)[kd]? = some (Ω.2.1 kd, ty)) (k : Int) (hk : k ∉ Ω.2.2.1.1) (hkf : k ∉ Ω.2.2.1.2) (hs : zsh k = (kd, N)) (hz : ∀ i, μ k i = 0) (hn : n = (N : Int)) (hby : N * componentBytes ty ≤ 536870912) (hcells : cells + 1 ≤ R.cells) (hslots : slots + N ≤ R.slots) (hd : decode cc pc = .ok (.newarray atype, 2))
    (kk : ∀ (q : Nat) (H1 : Heap), zX (zadd Ω k q) μ A H0 H1 locs → W p l e R s m args below meth c H1 locs (cells + 1) (slots + N) Q (F0 m (pc + 2) ls (zR (zadd Ω k q) k :: rest))) : W p l e R s m args below meth c H locs cells slots Q (F0 m pc ls (zI n :: rest)) := by
  have hsm := zsh_small k
  rw [hs] at hsm
  have hg : Rg n := ⟨by omega, by simp only at hsm; omega⟩
  have hf0 : zal μ k = fun _ => 0 := by
    funext j
    unfold zal
    rw [hz]
    rfl
  refine va_newa (a0 := (N, .inr (.inl (fun _ => (0 : Int64))))) C.1 C.2.1 (C.2.2.2.2.1 _ (zg hwd rfl)) hty C.2.2.2.2.2 X.1 X.2.1 X.2.2.1 hA (fun cA => by rw [vp_cell_l, hdef]) (fun h => ?_) ?_ hby hcells hslots hd (fun q cA H1 hK hP hD hS => ?_)
  · have := (zlt hg Rg.z).mp h
    omega
  · rw [← Int32.toNat_toInt, hg.v]
    omega
  · have hcA : cA = Ω.2.1 kd := zcA C.2.2.2.2.2 ht (hK.2 9 (cA, ty) rfl).2
    have he : zws (zadd Ω k q) μ = zws Ω μ ++ [(q, .inl (cA, N, .inr (.inl (fun _ => (0 : Int64)))))] := by
      rw [zws_add X.2.2.2 hk, zat_add hs, hcA]
      subst hkd
      show zws Ω μ ++ [(q, .inl (Ω.2.1 2, (N, .inr (.inl (zal μ k)))))] = _
      rw [hf0]
    have hq : (zadd Ω k q).2.2.2 k = q := if_pos rfl
    have := kk q H1 ⟨by rw [he]; exact hP, by rw [he]; exact hD, hS, zT_add X.2.2.2 hkf hz⟩
    rw [show zR (zadd Ω k q) k = Value.ref q from congrArg Value.ref hq] at this
    exact this
def zdv (ci j : Nat) : Value := match (zfk ci j).1 with
  | 0 => .int 0
  | 1 => .long 0
  | 2 => .int 0
  | _ => .null
theorem zfv_zero {Ω : zO} {ci j : Nat} (hz : ∀ i, μ k i = 0) : zfv Ω μ k ci j = zdv ci j := by
  unfold zfv zdv
  rw [hz]
  generalize (zfk ci j).1 = a
  match a with
  | 0 => rfl
  | 1 => rfl
  | 2 => rfl
  | n + 3 => exact zQ_nul Ω rfl
theorem z_newO (C : zC p s m args c cc own nL Ω) {H0 : Heap} (X : zX Ω μ A H0 H locs) (hA : ∀ q : Nat, H0.size ≤ q → A q) {C0 : String} {T : u_T} {ci index : Nat} {ty : Nat → FieldType} (K : zCl ci C0 T N ty) (hcl : Cond.classLink own index C0 ∈ lw_tbl) (hin : Cond.instantiable C0 N ∈ lw_tbl) (hini : Cond.initialized C0 ∈ lw_tbl) (hfs : ∀ j, j < N → defaultValue (ty j) = zdv ci j) (k : Int) (hk : k ∉ Ω.2.2.1.1) (hkf : k ∉ Ω.2.2.1.2) (hs : zsh k = (10 + ci, N)) (hz : ∀ i, μ k i = 0) (hcells : cells + 1 ≤ R.cells) (hslots : slots + N ≤ R.slots) (hd : decode cc pc = .ok (.new index, 3))
    (kk : ∀ (q : Nat) (H1 : Heap), zX (zadd Ω k q) μ A H0 H1 locs → W p l e R s m args below meth c H1 locs (cells + 1) (slots + N) Q (F0 m (pc + 3) ls (zR (zadd Ω k q) k :: rest))) : W p l e R s m args below meth c H locs cells slots Q (F0 m pc ls rest) := by
  refine va_new (fs := (List.range N).map (zdv ci)) C.1 C.2.1 C.2.2.2.2.1 K.1 ty K.2.2.1 C.2.2.2.1 (C.2.2.2.2.1 _ (zg hcl rfl)) (C.2.2.2.2.1 _ (zg hin rfl)) (C.2.2.2.2.1 _ (zg hini rfl)) C.2.2.2.2.2 X.1 X.2.1 X.2.2.1 hA K.2.1 (fun j hj => ?_) hcells hslots hd (fun q H1 hP hD hS => ?_)
  · rw [hfs j hj]
    unfold vp_V
    rw [List.getD_eq_getElem?_getD, List.getElem?_map, List.getElem?_range hj]
    rfl
  · have he : zws (zadd Ω k q) μ = zws Ω μ ++ [(q, .inr (ci, (List.range N).map (zdv ci)))] := by
      rw [zws_add X.2.2.2 hk, zat_obj hs, zadd_at]
      have h1 : zfs (zadd Ω k q) μ k ci N = (List.range N).map (zdv ci) := by
        unfold zfs
        exact List.map_congr_left fun j _ => zfv_zero hz
      rw [h1]
    have := kk q H1 ⟨by rw [he]; exact hP, by rw [he]; exact hD, hS, zT_add X.2.2.2 hkf hz⟩
    rw [show zR (zadd Ω k q) k = Value.ref q from congrArg Value.ref (zadd_at Ω k q)] at this
    exact this
theorem z_newQ (C : zC p s m args c cc own nL Ω) {H0 : Heap} (X : zX Ω μ A H0 H locs) (hA : ∀ q : Nat, H0.size ≤ q → A q) {C0 : String} {index : Nat} (kd : Nat) (hkd : kd = 5 ∨ kd = 6 ∨ kd = 7 ∨ kd = 8) (hcl : Cond.classLink own index C0 ∈ lw_tbl) (hov : va_AO C0 s) (ht : (ztys Ω)[kd]? = some (Ω.2.1 kd, .object C0)) (k : Int) (hk : k ∉ Ω.2.2.1.1) (hkf : k ∉ Ω.2.2.1.2) (hs : zsh k = (kd, N)) (hz : ∀ i, μ k i = 0) (hn : n = (N : Int)) (hby : N * 4 ≤ 536870912) (hcells : cells + 1 ≤ R.cells) (hslots : slots + N ≤ R.slots) (hd : decode cc pc = .ok (.anewarray index, 3))
    (kk : ∀ (q : Nat) (H1 : Heap), zX (zadd Ω k q) μ A H0 H1 locs → W p l e R s m args below meth c H1 locs (cells + 1) (slots + N) Q (F0 m (pc + 3) ls (zR (zadd Ω k q) k :: rest))) : W p l e R s m args below meth c H locs cells slots Q (F0 m pc ls (zI n :: rest)) := by
  have hsm := zsh_small k
  rw [hs] at hsm
  have hg : Rg n := ⟨by omega, by simp only at hsm; omega⟩
  have hf0 : ∀ q, zar (zadd Ω k q) μ k = fun _ => none := by
    intro q
    funext j
    unfold zar
    rw [hz]
    rfl
  refine va_newq C.1 C.2.1 C.2.2.2.1 (C.2.2.2.2.1 _ (zg hcl rfl)) hov C.2.2.2.2.2 X.1 X.2.1 X.2.2.1 hA (fun h => ?_) ?_ hby hcells hslots hd (fun q cA H1 hK hP hD hS => ?_)
  · have := (zlt hg Rg.z).mp h
    omega
  · rw [← Int32.toNat_toInt, hg.v]
    omega
  · have hcA : cA = Ω.2.1 kd := zcA C.2.2.2.2.2 ht (hK.2 9 (cA, .object C0) rfl).2
    have he : zws (zadd Ω k q) μ = zws Ω μ ++ [(q, .inl (cA, N, .inr (.inr (.inr (.inr (fun _ => none))))))] := by
      rw [zws_add X.2.2.2 hk, zat_add hs, hcA]
      rcases hkd with h | h | h | h <;> subst h
      · show zws Ω μ ++ [(q, .inl (Ω.2.1 5, (N, .inr (.inr (.inr (.inr (zar (zadd Ω k q) μ k)))))))] = _
        rw [hf0]
      · show zws Ω μ ++ [(q, .inl (Ω.2.1 6, (N, .inr (.inr (.inr (.inr (zar (zadd Ω k q) μ k)))))))] = _
        rw [hf0]
      · show zws Ω μ ++ [(q, .inl (Ω.2.1 7, (N, .inr (.inr (.inr (.inr (zar (zadd Ω k q) μ k)))))))] = _
        rw [hf0]
      · show zws Ω μ ++ [(q, .inl (Ω.2.1 8, (N, .inr (.inr (.inr (.inr (zar (zadd Ω k q) μ k)))))))] = _
        rw [hf0]
    have := kk q H1 ⟨by rw [he]; exact hP, by rw [he]; exact hD, hS, zT_add X.2.2.2 hkf hz⟩
    rw [show zR (zadd Ω k q) k = Value.ref q from congrArg Value.ref (zadd_at Ω k q)] at this
    exact this
/-- a final field is written, by the constructor of its class -/
theorem z_putF (C : zC p s m args c cc own nL Ω) {H0 : Heap} (X : zX Ω μ A H0 H locs) {C0 : String} {T : u_T} {N ci index : Nat} {ty : Nat → FieldType} (K : zCl ci C0 T N ty) {k : Int} (hk : k ∈ Ω.2.2.1.1) (hs : zsh k = (10 + ci, N)) (j : Nat) (hj : j < N) (hl : Cond.fieldLink own index (T j).1 (T j).2.1 (T j).2.2.1 ∈ lw_tbl) {v : Int} (hfin : (T j).2.2.2 = true) (hini : meth.name = "<init>") (hdc : (T j).1 = own) (hn : narrow (ty j) (zfv Ω (zup μ k j v) k ci j) = zfv Ω (zup μ k j v) k ci j) (hfit : fits (ty j) (zfv Ω (zup μ k j v) k ci j) = true) (hok : zok Ω.2.2.1 k j v) (w : Value) (hw : zfv Ω (zup μ k j v) k ci j = w) (hd : decode cc pc = .ok (.putfield index, 3))
    (kk : ∀ (H1 : Heap) (locs1 : List Loc), zX Ω (zup μ k j v) A H0 H1 locs1 → W p l e R s m args below meth c H1 locs1 cells slots Q (F0 m (pc + 3) ls rest)) : W p l e R s m args below meth c H locs cells slots Q (F0 m pc ls (w :: zR Ω k :: rest)) := by
  obtain ⟨q, hq0, hq⟩ := zws_at (μ := μ) hk
  rw [zat_obj hs] at hq
  subst hw
  refine va_putF C.1 C.2.1 C.2.2.2.2.1 K.1 ty K.2.2.1 K.2.2.2 C.2.2.2.1 C.2.2.2.2.2 X.1 X.2.1 X.2.2.1 q hq K.2.1 j hj (C.2.2.2.2.1 _ (zg hl rfl)) (fun _ h => h) hfin hini hdc (K.2.2.1 j hj) hn hfit (by unfold zfs; simpa using hj) hd (fun H1 locs1 hP hD hS => kk H1 locs1 ?_)
  have he : (zws Ω μ).set q (Ω.2.2.2 k, .inr (ci, (zfs Ω μ k ci N).set j (zfv Ω (zup μ k j v) k ci j))) = zws Ω (zup μ k j v) := by
    rw [zws_set (μ := μ) (i := j) (v := v) X.2.1 hq0, zat_obj hs, ← zfs_set]
  rw [he] at hP hD
  exact ⟨hP, hD, hS, zup_at X.2.2.2 hok⟩
theorem z_putFI (C : zC p s m args c cc own nL Ω) {H0 : Heap} (X : zX Ω μ A H0 H locs) {C0 : String} {T : u_T} {N ci index : Nat} {ty : Nat → FieldType} (K : zCl ci C0 T N ty) (hk : k ∈ Ω.2.2.1.1) (hs : zsh k = (10 + ci, N)) (j : Nat) (hj : j < N) (hl : Cond.fieldLink own index (T j).1 (T j).2.1 (T j).2.2.1 ∈ lw_tbl) (hfin : (T j).2.2.2 = true) (hini : meth.name = "<init>") (hdc : (T j).1 = own) (hf : (zfk ci j).1 = 0) (hty : ty j = .int) (hi : i = (j : Int)) (g : Rg v) (em : μ1 = zup μ k i v) (hd : decode cc pc = .ok (.putfield index, 3))
    (kk : ∀ (H1 : Heap) (locs1 : List Loc), zX Ω μ1 A H0 H1 locs1 → W p l e R s m args below meth c H1 locs1 cells slots Q (F0 m (pc + 3) ls rest)) : W p l e R s m args below meth c H locs cells slots Q (F0 m pc ls (zI v :: zR Ω k :: rest)) := by
  subst em
  subst hi
  have hv : zfv Ω (zup μ k j v) k ci j = zI v := by
    unfold zfv
    rw [hf]
    show zI (zup μ k j v k j) = zI v
    rw [zup_self]
  refine z_putF C X K hk hs j hj hl (v := v) hfin hini hdc ?_ ?_ ((zok_obj hs).mpr (by rw [Int.toNat_natCast, hf]; exact g)) _ hv hd kk
  · rw [hv, hty]
    rfl
  · rw [hv, hty]
    rfl
theorem z_putFR (C : zC p s m args c cc own nL Ω) {H0 : Heap} (X : zX Ω μ A H0 H locs) {C0 : String} {T : u_T} {N ci index : Nat} {ty : Nat → FieldType} {off : Int} (K : zCl ci C0 T N ty) (hk : k ∈ Ω.2.2.1.1) (hs : zsh k = (10 + ci, N)) (j : Nat) (hj : j < N) (hl : Cond.fieldLink own index (T j).1 (T j).2.1 (T j).2.2.1 ∈ lw_tbl) (hfin : (T j).2.2.2 = true) (hini : meth.name = "<init>") (hdc : (T j).1 = own) (hf : zfk ci j = (3, off)) (hnn : ∀ a : Nat, narrow (ty j) (.ref a) = .ref a) (hff : ∀ a : Nat, fits (ty j) (.ref a) = true) (hi : i = (j : Int)) (h0 : v ≠ 0) (hv1 : v ∈ Ω.2.2.1.1) (hkf : k ∉ Ω.2.2.1.2) (em : μ1 = zup μ k i v) (hd : decode cc pc = .ok (.putfield index, 3))
    (kk : ∀ (H1 : Heap) (locs1 : List Loc), zX Ω μ1 A H0 H1 locs1 → W p l e R s m args below meth c H1 locs1 cells slots Q (F0 m (pc + 3) ls rest)) : W p l e R s m args below meth c H locs cells slots Q (F0 m pc ls (zR Ω v :: zR Ω k :: rest)) := by
  subst em
  subst hi
  have hv : zfv Ω (zup μ k j v) k ci j = zR Ω v := by
    unfold zfv
    rw [hf]
    show zQ Ω (zup μ k j v k j) = zR Ω v
    rw [zup_self, zQ_pos Ω h0]
  refine z_putF C X K hk hs j hj hl (v := v) hfin hini hdc ?_ ?_ ((zok_obj hs).mpr (by rw [Int.toNat_natCast, hf]; exact ⟨Or.inr hv1, fun _ h => absurd h hkf⟩)) _ hv hd kk
  · rw [hv]
    exact hnn _
  · rw [hv]
    exact hff _
end ZN
