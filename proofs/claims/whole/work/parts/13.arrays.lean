section ZA
variable {p : Program} {l : Launch} {e : Env} {R : Room} {s : State} {m : MethodId} {args : Array Value} {below : List Frame} {meth : Method} {c : Code} {H : Heap} {locs : List Loc} {cells slots : Nat} {Q : State → Prop}
variable {cc : ByteArray} {pc : Nat} {ls : Array Slot} {rest : List Value} {own : String} {nL : Nat} {Ω : zO} {μ μ1 : zMem} {A : Nat → Prop} {k i v : Int}
theorem z_in {i : Int} {n : Nat} (hi : 0 ≤ i ∧ i < (n : Int)) (hn : n ≤ 2147483647) : vp_in (Int32.ofInt i) n ∧ (Int32.ofInt i).toNatClampNeg = i.toNat := by
  have hg : Rg i := ⟨by omega, by omega⟩
  have h1 : (Int32.ofInt i).toNatClampNeg = i.toNat := by rw [← Int32.toNat_toInt, hg.v]
  refine ⟨?_, h1⟩
  intro h
  rcases h with h | h
  · have := (zlt hg Rg.z).mp h
    omega
  · rw [h1] at h
    omega
theorem zsh_small (k : Int) : (zsh k).2 ≤ 2147483647 := by
  unfold zsh
  rcases Nat.lt_or_ge k.toNat zshL.length with h | h
  · rw [List.getD_eq_getElem?_getD, List.getElem?_eq_getElem h]
    exact (by decide +kernel : ∀ q ∈ zshL, q.2 ≤ 2147483647) _ (List.getElem_mem h)
  · rw [List.getD_eq_getElem?_getD, List.getElem?_eq_none h]
    exact Nat.zero_le _
theorem zat_arr {a : Nat} (ha : (zsh k).1 = a) : zat Ω μ k = (Ω.2.2.2 k, zce Ω μ k (a, (zsh k).2)) := by subst ha; rfl
theorem zcast {i : Int} (h : 0 ≤ i) : ((i.toNat : Nat) : Int) = i := Int.toNat_of_nonneg h
theorem z_iald (C : zC p s m args c cc own nL Ω) {H0 : Heap} (X : zX Ω μ A H0 H locs) (hk : k ∈ Ω.2.2.1.1) (hs : (zsh k).1 = 1) (hi : 0 ≤ i ∧ i < zlen k) (hd : decode cc pc = .ok (.iaload, 1)) (kk : W p l e R s m args below meth c H locs cells slots Q (F0 m (pc + 1) ls (zI (μ k i) :: rest))) : W p l e R s m args below meth c H locs cells slots Q (F0 m pc ls (zI i :: zR Ω k :: rest)) := by
  obtain ⟨q, -, hq⟩ := zws_at (μ := μ) hk
  rw [zat_arr hs] at hq
  obtain ⟨h1, h2⟩ := z_in hi (zsh_small k)
  refine va_iald C.1 C.2.1 C.2.2.2.2.2 X.1 q 1 hq rfl h1 hd ?_
  rw [h2]
  show W p l e R s m args below meth c H locs cells slots Q (F0 m (pc + 1) ls (zI (μ k ((i.toNat : Nat) : Int)) :: rest))
  rw [zcast hi.1]
  exact kk
theorem z_zald (C : zC p s m args c cc own nL Ω) {H0 : Heap} (X : zX Ω μ A H0 H locs) (hk : k ∈ Ω.2.2.1.1) (hs : (zsh k).1 = 3) (hi : 0 ≤ i ∧ i < zlen k) (hd : decode cc pc = .ok (.baload, 1)) (kk : W p l e R s m args below meth c H locs cells slots Q (F0 m (pc + 1) ls (zI (μ k i) :: rest))) : W p l e R s m args below meth c H locs cells slots Q (F0 m pc ls (zI i :: zR Ω k :: rest)) := by
  obtain ⟨q, -, hq⟩ := zws_at (μ := μ) hk
  rw [zat_arr hs] at hq
  obtain ⟨h1, h2⟩ := z_in hi (zsh_small k)
  refine va_zald C.1 C.2.1 C.2.2.2.2.2 X.1 q 3 hq rfl h1 hd ?_
  rw [h2]
  show W p l e R s m args below meth c H locs cells slots Q (F0 m (pc + 1) ls (zI (μ k ((i.toNat : Nat) : Int)) :: rest))
  rw [zcast hi.1]
  exact kk
theorem z_cald (C : zC p s m args c cc own nL Ω) {H0 : Heap} (X : zX Ω μ A H0 H locs) (hk : k ∈ Ω.2.2.1.1) (hs : (zsh k).1 = 4) (hi : 0 ≤ i ∧ i < zlen k) (hd : decode cc pc = .ok (.caload, 1)) (kk : W p l e R s m args below meth c H locs cells slots Q (F0 m (pc + 1) ls (zI (μ k i) :: rest))) : W p l e R s m args below meth c H locs cells slots Q (F0 m pc ls (zI i :: zR Ω k :: rest)) := by
  obtain ⟨q, -, hq⟩ := zws_at (μ := μ) hk
  rw [zat_arr hs] at hq
  obtain ⟨h1, h2⟩ := z_in hi (zsh_small k)
  refine va_cald C.1 C.2.1 C.2.2.2.2.2 X.1 q 4 hq rfl h1 hd ?_
  rw [h2]
  show W p l e R s m args below meth c H locs cells slots Q (F0 m (pc + 1) ls (zI (μ k ((i.toNat : Nat) : Int)) :: rest))
  rw [zcast hi.1]
  exact kk
theorem z_lald (C : zC p s m args c cc own nL Ω) {H0 : Heap} (X : zX Ω μ A H0 H locs) (hk : k ∈ Ω.2.2.1.1) (hs : (zsh k).1 = 2) (hi : 0 ≤ i ∧ i < zlen k) (hd : decode cc pc = .ok (.laload, 1)) (kk : W p l e R s m args below meth c H locs cells slots Q (F0 m (pc + 1) ls (zJ (μ k i) :: rest))) : W p l e R s m args below meth c H locs cells slots Q (F0 m pc ls (zI i :: zR Ω k :: rest)) := by
  obtain ⟨q, -, hq⟩ := zws_at (μ := μ) hk
  rw [zat_arr hs] at hq
  obtain ⟨h1, h2⟩ := z_in hi (zsh_small k)
  refine va_lald C.1 C.2.1 C.2.2.2.2.2 X.1 q 2 hq rfl h1 hd ?_
  rw [h2]
  show W p l e R s m args below meth c H locs cells slots Q (F0 m (pc + 1) ls (zJ (μ k ((i.toNat : Nat) : Int)) :: rest))
  rw [zcast hi.1]
  exact kk
theorem z_aald5 (C : zC p s m args c cc own nL Ω) {H0 : Heap} (X : zX Ω μ A H0 H locs) (hk : k ∈ Ω.2.2.1.1) (hs : (zsh k).1 = 5) (hi : 0 ≤ i ∧ i < zlen k) (hd : decode cc pc = .ok (.aaload, 1)) (kk : W p l e R s m args below meth c H locs cells slots Q (F0 m (pc + 1) ls (zQ Ω (μ k i) :: rest))) : W p l e R s m args below meth c H locs cells slots Q (F0 m pc ls (zI i :: zR Ω k :: rest)) := by
  obtain ⟨q, -, hq⟩ := zws_at (μ := μ) hk
  rw [zat_arr hs] at hq
  obtain ⟨h1, h2⟩ := z_in hi (zsh_small k)
  refine va_aldq C.1 C.2.1 C.2.2.2.2.2 X.1 q 5 hq rfl h1 hd ?_
  rw [h2]
  show W p l e R s m args below meth c H locs cells slots Q (F0 m (pc + 1) ls (zQ Ω (μ k ((i.toNat : Nat) : Int)) :: rest))
  rw [zcast hi.1]
  exact kk
theorem z_aald6 (C : zC p s m args c cc own nL Ω) {H0 : Heap} (X : zX Ω μ A H0 H locs) (hk : k ∈ Ω.2.2.1.1) (hs : (zsh k).1 = 6) (hi : 0 ≤ i ∧ i < zlen k) (hd : decode cc pc = .ok (.aaload, 1)) (kk : W p l e R s m args below meth c H locs cells slots Q (F0 m (pc + 1) ls (zQ Ω (μ k i) :: rest))) : W p l e R s m args below meth c H locs cells slots Q (F0 m pc ls (zI i :: zR Ω k :: rest)) := by
  obtain ⟨q, -, hq⟩ := zws_at (μ := μ) hk
  rw [zat_arr hs] at hq
  obtain ⟨h1, h2⟩ := z_in hi (zsh_small k)
  refine va_aldq C.1 C.2.1 C.2.2.2.2.2 X.1 q 6 hq rfl h1 hd ?_
  rw [h2]
  show W p l e R s m args below meth c H locs cells slots Q (F0 m (pc + 1) ls (zQ Ω (μ k ((i.toNat : Nat) : Int)) :: rest))
  rw [zcast hi.1]
  exact kk
theorem z_aald7 (C : zC p s m args c cc own nL Ω) {H0 : Heap} (X : zX Ω μ A H0 H locs) (hk : k ∈ Ω.2.2.1.1) (hs : (zsh k).1 = 7) (hi : 0 ≤ i ∧ i < zlen k) (hd : decode cc pc = .ok (.aaload, 1)) (kk : W p l e R s m args below meth c H locs cells slots Q (F0 m (pc + 1) ls (zQ Ω (μ k i) :: rest))) : W p l e R s m args below meth c H locs cells slots Q (F0 m pc ls (zI i :: zR Ω k :: rest)) := by
  obtain ⟨q, -, hq⟩ := zws_at (μ := μ) hk
  rw [zat_arr hs] at hq
  obtain ⟨h1, h2⟩ := z_in hi (zsh_small k)
  refine va_aldq C.1 C.2.1 C.2.2.2.2.2 X.1 q 7 hq rfl h1 hd ?_
  rw [h2]
  show W p l e R s m args below meth c H locs cells slots Q (F0 m (pc + 1) ls (zQ Ω (μ k ((i.toNat : Nat) : Int)) :: rest))
  rw [zcast hi.1]
  exact kk
theorem z_aald8 (C : zC p s m args c cc own nL Ω) {H0 : Heap} (X : zX Ω μ A H0 H locs) (hk : k ∈ Ω.2.2.1.1) (hs : (zsh k).1 = 8) (hi : 0 ≤ i ∧ i < zlen k) (hd : decode cc pc = .ok (.aaload, 1)) (kk : W p l e R s m args below meth c H locs cells slots Q (F0 m (pc + 1) ls (zQ Ω (μ k i) :: rest))) : W p l e R s m args below meth c H locs cells slots Q (F0 m pc ls (zI i :: zR Ω k :: rest)) := by
  obtain ⟨q, -, hq⟩ := zws_at (μ := μ) hk
  rw [zat_arr hs] at hq
  obtain ⟨h1, h2⟩ := z_in hi (zsh_small k)
  refine va_aldq C.1 C.2.1 C.2.2.2.2.2 X.1 q 8 hq rfl h1 hd ?_
  rw [h2]
  show W p l e R s m args below meth c H locs cells slots Q (F0 m (pc + 1) ls (zQ Ω (μ k ((i.toNat : Nat) : Int)) :: rest))
  rw [zcast hi.1]
  exact kk
theorem z_iast (C : zC p s m args c cc own nL Ω) {H0 : Heap} (X : zX Ω μ A H0 H locs) (hk : k ∈ Ω.2.2.1.1) (hs : (zsh k).1 = 1) (hi : 0 ≤ i ∧ i < zlen k) (hok : zok Ω.2.2.1 k i v) (em : μ1 = zup μ k i v) (hd : decode cc pc = .ok (.iastore, 1)) (kk : ∀ (H1 : Heap) (locs1 : List Loc), zX Ω μ1 A H0 H1 locs1 → W p l e R s m args below meth c H1 locs1 cells slots Q (F0 m (pc + 1) ls rest)) : W p l e R s m args below meth c H locs cells slots Q (F0 m pc ls (zI v :: zI i :: zR Ω k :: rest)) := by
  subst em
  obtain ⟨q, hq0, hq⟩ := zws_at (μ := μ) hk
  rw [zat_arr hs] at hq
  obtain ⟨h1, h2⟩ := z_in hi (zsh_small k)
  refine va_iast C.1 C.2.1 C.2.2.2.2.2 X.1 X.2.1 X.2.2.1 q 1 hq rfl h1 hd (fun H1 locs1 hP hD hS => kk H1 locs1 ?_)
  rw [h2] at hP hD
  have hf : zai (zup μ k i v) k = upd (zai μ k) i.toNat (Int32.ofInt v) := by
    funext j
    unfold zai zup upd
    by_cases hj : j = i.toNat
    · have : ((j : Nat) : Int) = i := by rw [hj]; exact zcast hi.1
      rw [if_pos hj, if_pos ⟨rfl, this⟩]
    · have : ¬ ((j : Nat) : Int) = i := fun h => hj (by omega)
      rw [if_neg hj, if_neg (fun h => this h.2)]
  have he := zws_set (μ := μ) (i := i) (v := v) X.2.1 hq0
  rw [zat_arr hs] at he
  rw [show zce Ω (zup μ k i v) k (1, (zsh k).2) = .inl (Ω.2.1 1, ((zsh k).2, .inl (zai (zup μ k i v) k))) from rfl, hf] at he
  rw [← he] at hP hD
  exact ⟨hP, hD, hS, zup_at X.2.2.2 hok⟩
theorem z_zast (C : zC p s m args c cc own nL Ω) {H0 : Heap} (X : zX Ω μ A H0 H locs) (hk : k ∈ Ω.2.2.1.1) (hs : (zsh k).1 = 3) (hi : 0 ≤ i ∧ i < zlen k) (hok : zok Ω.2.2.1 k i (zz v)) (em : μ1 = zup μ k i (zz v)) (hd : decode cc pc = .ok (.bastore, 1)) (kk : ∀ (H1 : Heap) (locs1 : List Loc), zX Ω μ1 A H0 H1 locs1 → W p l e R s m args below meth c H1 locs1 cells slots Q (F0 m (pc + 1) ls rest)) : W p l e R s m args below meth c H locs cells slots Q (F0 m pc ls (zI v :: zI i :: zR Ω k :: rest)) := by
  subst em
  obtain ⟨q, hq0, hq⟩ := zws_at (μ := μ) hk
  rw [zat_arr hs] at hq
  obtain ⟨h1, h2⟩ := z_in hi (zsh_small k)
  refine va_zast C.1 C.2.1 C.2.2.2.2.2 X.1 X.2.1 X.2.2.1 q 3 hq rfl h1 hd (fun H1 locs1 hP hD hS => kk H1 locs1 ?_)
  rw [h2] at hP hD
  have hf : zai (zup μ k i (zz v)) k = upd (zai μ k) i.toNat (vp_nar .boolean (Int32.ofInt v)) := by
    funext j
    unfold zai zup upd
    by_cases hj : j = i.toNat
    · have : ((j : Nat) : Int) = i := by rw [hj]; exact zcast hi.1
      rw [if_pos hj, if_pos ⟨rfl, this⟩]
      exact Int32.ofInt_toInt _
    · have : ¬ ((j : Nat) : Int) = i := fun h => hj (by omega)
      rw [if_neg hj, if_neg (fun h => this h.2)]
  have he := zws_set (μ := μ) (i := i) (v := (zz v)) X.2.1 hq0
  rw [zat_arr hs] at he
  rw [show zce Ω (zup μ k i (zz v)) k (3, (zsh k).2) = .inl (Ω.2.1 3, ((zsh k).2, .inl (zai (zup μ k i (zz v)) k))) from rfl, hf] at he
  rw [← he] at hP hD
  exact ⟨hP, hD, hS, zup_at X.2.2.2 hok⟩
theorem z_cast (C : zC p s m args c cc own nL Ω) {H0 : Heap} (X : zX Ω μ A H0 H locs) (hk : k ∈ Ω.2.2.1.1) (hs : (zsh k).1 = 4) (hi : 0 ≤ i ∧ i < zlen k) (hok : zok Ω.2.2.1 k i (zc v)) (em : μ1 = zup μ k i (zc v)) (hd : decode cc pc = .ok (.castore, 1)) (kk : ∀ (H1 : Heap) (locs1 : List Loc), zX Ω μ1 A H0 H1 locs1 → W p l e R s m args below meth c H1 locs1 cells slots Q (F0 m (pc + 1) ls rest)) : W p l e R s m args below meth c H locs cells slots Q (F0 m pc ls (zI v :: zI i :: zR Ω k :: rest)) := by
  subst em
  obtain ⟨q, hq0, hq⟩ := zws_at (μ := μ) hk
  rw [zat_arr hs] at hq
  obtain ⟨h1, h2⟩ := z_in hi (zsh_small k)
  refine va_cast C.1 C.2.1 C.2.2.2.2.2 X.1 X.2.1 X.2.2.1 q 4 hq rfl h1 hd (fun H1 locs1 hP hD hS => kk H1 locs1 ?_)
  rw [h2] at hP hD
  have hf : zai (zup μ k i (zc v)) k = upd (zai μ k) i.toNat (vp_nar .char (Int32.ofInt v)) := by
    funext j
    unfold zai zup upd
    by_cases hj : j = i.toNat
    · have : ((j : Nat) : Int) = i := by rw [hj]; exact zcast hi.1
      rw [if_pos hj, if_pos ⟨rfl, this⟩]
      exact Int32.ofInt_toInt _
    · have : ¬ ((j : Nat) : Int) = i := fun h => hj (by omega)
      rw [if_neg hj, if_neg (fun h => this h.2)]
  have he := zws_set (μ := μ) (i := i) (v := (zc v)) X.2.1 hq0
  rw [zat_arr hs] at he
  rw [show zce Ω (zup μ k i (zc v)) k (4, (zsh k).2) = .inl (Ω.2.1 4, ((zsh k).2, .inl (zai (zup μ k i (zc v)) k))) from rfl, hf] at he
  rw [← he] at hP hD
  exact ⟨hP, hD, hS, zup_at X.2.2.2 hok⟩
theorem z_last (C : zC p s m args c cc own nL Ω) {H0 : Heap} (X : zX Ω μ A H0 H locs) (hk : k ∈ Ω.2.2.1.1) (hs : (zsh k).1 = 2) (hi : 0 ≤ i ∧ i < zlen k) (hok : zok Ω.2.2.1 k i v) (em : μ1 = zup μ k i v) (hd : decode cc pc = .ok (.lastore, 1)) (kk : ∀ (H1 : Heap) (locs1 : List Loc), zX Ω μ1 A H0 H1 locs1 → W p l e R s m args below meth c H1 locs1 cells slots Q (F0 m (pc + 1) ls rest)) : W p l e R s m args below meth c H locs cells slots Q (F0 m pc ls (zJ v :: zI i :: zR Ω k :: rest)) := by
  subst em
  obtain ⟨q, hq0, hq⟩ := zws_at (μ := μ) hk
  rw [zat_arr hs] at hq
  obtain ⟨h1, h2⟩ := z_in hi (zsh_small k)
  refine va_last C.1 C.2.1 C.2.2.2.2.2 X.1 X.2.1 X.2.2.1 q 2 hq rfl h1 hd (fun H1 locs1 hP hD hS => kk H1 locs1 ?_)
  rw [h2] at hP hD
  have hf : zal (zup μ k i v) k = vp_updL (zal μ k) i.toNat (Int64.ofInt v) := by
    funext j
    unfold zal zup vp_updL
    by_cases hj : j = i.toNat
    · have : ((j : Nat) : Int) = i := by rw [hj]; exact zcast hi.1
      rw [if_pos hj, if_pos ⟨rfl, this⟩]
    · have : ¬ ((j : Nat) : Int) = i := fun h => hj (by omega)
      rw [if_neg hj, if_neg (fun h => this h.2)]
  have he := zws_set (μ := μ) (i := i) (v := v) X.2.1 hq0
  rw [zat_arr hs] at he
  rw [show zce Ω (zup μ k i v) k (2, (zsh k).2) = .inl (Ω.2.1 2, ((zsh k).2, .inr (.inl (zal (zup μ k i v) k)))) from rfl, hf] at he
  rw [← he] at hP hD
  exact ⟨hP, hD, hS, zup_at X.2.2.2 hok⟩
theorem z_alen (C : zC p s m args c cc own nL Ω) {H0 : Heap} (X : zX Ω μ A H0 H locs) (hk : k ∈ Ω.2.2.1.1) {a : Nat} (hs : (zsh k).1 = a) (h8 : 1 ≤ a ∧ a ≤ 8) (n : Int) (hnn : zlen k = n) (hd : decode cc pc = .ok (.arraylength, 1)) (kk : W p l e R s m args below meth c H locs cells slots Q (F0 m (pc + 1) ls (zI n :: rest))) : W p l e R s m args below meth c H locs cells slots Q (F0 m pc ls (zR Ω k :: rest)) := by
  obtain ⟨q, -, hq⟩ := zws_at (μ := μ) hk
  rw [zat_arr hs] at hq
  subst hnn
  have hv : Int32.ofNat (zsh k).2 = Int32.ofInt (zlen k) := by unfold zlen; exact (Int32.ofInt_eq_ofNat).symm
  have h0 : a = 1 ∨ a = 2 ∨ a = 3 ∨ a = 4 ∨ a = 5 ∨ a = 6 ∨ a = 7 ∨ a = 8 := by omega
  rcases h0 with h | h | h | h | h | h | h | h <;> subst h
  · exact va_alen C.1 C.2.1 C.2.2.2.2.2 X.1 q 1 hq rfl hv hd kk
  · exact va_alen C.1 C.2.1 C.2.2.2.2.2 X.1 q 2 hq rfl hv hd kk
  · exact va_alen C.1 C.2.1 C.2.2.2.2.2 X.1 q 3 hq rfl hv hd kk
  · exact va_alen C.1 C.2.1 C.2.2.2.2.2 X.1 q 4 hq rfl hv hd kk
  · exact va_alen C.1 C.2.1 C.2.2.2.2.2 X.1 q 5 hq rfl hv hd kk
  · exact va_alen C.1 C.2.1 C.2.2.2.2.2 X.1 q 6 hq rfl hv hd kk
  · exact va_alen C.1 C.2.1 C.2.2.2.2.2 X.1 q 7 hq rfl hv hd kk
  · exact va_alen C.1 C.2.1 C.2.2.2.2.2 X.1 q 8 hq rfl hv hd kk
theorem z_aast5 (C : zC p s m args c cc own nL Ω) {H0 : Heap} (X : zX Ω μ A H0 H locs) (hk : k ∈ Ω.2.2.1.1) (hs : (zsh k).1 = 5) (hi : 0 ≤ i ∧ i < zlen k) (hv : zob Ω.2.2.1 5 v) (hv0 : v ≠ 0) {N : Nat} (hvs : zsh v = (15, N)) (hok : zok Ω.2.2.1 k i v) (em : μ1 = zup μ k i v) (hd : decode cc pc = .ok (.aastore, 1)) (kk : ∀ (H1 : Heap) (locs1 : List Loc), zX Ω μ1 A H0 H1 locs1 → W p l e R s m args below meth c H1 locs1 cells slots Q (F0 m (pc + 1) ls rest)) : W p l e R s m args below meth c H locs cells slots Q (F0 m pc ls (zR Ω v :: zI i :: zR Ω k :: rest)) := by
  subst em
  obtain ⟨q, hq0, hq⟩ := zws_at (μ := μ) hk
  obtain ⟨q2, -, hq2⟩ := zws_at (μ := μ) (k := v) (by have := hv.2.1 0 (by decide) (by decide); rwa [Int.add_zero] at this)
  rw [zat_arr hs] at hq
  rw [zat_obj (ci := 5) hvs] at hq2
  obtain ⟨h1, h2⟩ := z_in hi (zsh_small k)
  refine va_astq C.1 C.2.1 C.2.2.2.2.2 X.1 X.2.1 X.2.2.1 q 5 q2 5 (r := (RX5, TX5, 11)) hq rfl hq2 rfl h1 hd (fun H1 locs1 hP hD hS => kk H1 locs1 ?_)
  rw [h2] at hP hD
  have hf : zar Ω (zup μ k i v) k = va_up (zar Ω μ k) i.toNat (some (Ω.2.2.2 v)) := by
    funext j
    unfold zar zup va_up
    by_cases hj : j = i.toNat
    · have : ((j : Nat) : Int) = i := by rw [hj]; exact zcast hi.1
      rw [if_pos hj, if_pos ⟨rfl, this⟩]
      unfold zrf
      rw [if_neg hv0]
    · have : ¬ ((j : Nat) : Int) = i := fun h => hj (by omega)
      rw [if_neg hj, if_neg (fun h => this h.2)]
  have he := zws_set (μ := μ) (i := i) (v := v) X.2.1 hq0
  rw [zat_arr hs] at he
  rw [show zce Ω (zup μ k i v) k (5, (zsh k).2) = .inl (Ω.2.1 5, ((zsh k).2, .inr (.inr (.inr (.inr (zar Ω (zup μ k i v) k)))))) from rfl, hf] at he
  rw [← he] at hP hD
  exact ⟨hP, hD, hS, zup_at X.2.2.2 hok⟩
end ZA
