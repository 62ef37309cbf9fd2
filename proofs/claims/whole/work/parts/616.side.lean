/-! arrays of trails, sheets, shuffles are written; a constructor with more at its start -/
section ZB
variable {p : Program} {l : Launch} {e : Env} {R : Room} {s : State} {m : MethodId} {args : Array Value} {below : List Frame} {meth : Method} {c : Code} {H : Heap} {locs : List Loc} {cells slots : Nat} {Q : State → Prop}
variable {cc : ByteArray} {pc : Nat} {ls : Array Slot} {rest : List Value} {own : String} {nL : Nat} {Ω : zO} {μ μ1 μ' : zMem} {A : Nat → Prop} {k i v n : Int} {N : Nat}
theorem z_aast6 (C : zC p s m args c cc own nL Ω) {H0 : Heap} (X : zX Ω μ A H0 H locs) (hk : k ∈ Ω.2.2.1.1) (hs : (zsh k).1 = 6) (hi : 0 ≤ i ∧ i < zlen k) (hv : zob Ω.2.2.1 8 v) (hv0 : v ≠ 0) {N : Nat} (hvs : zsh v = (18, N)) (hok : zok Ω.2.2.1 k i v) (em : μ1 = zup μ k i v) (hd : decode cc pc = .ok (.aastore, 1)) (kk : ∀ (H1 : Heap) (locs1 : List Loc), zX Ω μ1 A H0 H1 locs1 → W p l e R s m args below meth c H1 locs1 cells slots Q (F0 m (pc + 1) ls rest)) : W p l e R s m args below meth c H locs cells slots Q (F0 m pc ls (zR Ω v :: zI i :: zR Ω k :: rest)) := by
  subst em
  obtain ⟨q, hq0, hq⟩ := zws_at (μ := μ) hk
  obtain ⟨q2, -, hq2⟩ := zws_at (μ := μ) (k := v) (by have := hv.2.1 0 (by decide) (by decide); rwa [Int.add_zero] at this)
  rw [zat_arr hs] at hq
  rw [zat_obj (ci := 8) hvs] at hq2
  obtain ⟨h1, h2⟩ := z_in hi (zsh_small k)
  refine va_astq C.1 C.2.1 C.2.2.2.2.2 X.1 X.2.1 X.2.2.1 q 6 q2 8 (r := (RX8, TX8, 5)) hq rfl hq2 rfl h1 hd (fun H1 locs1 hP hD hS => kk H1 locs1 ?_)
  rw [h2] at hP hD
  have hf : zar Ω (zup μ k i v) k = va_up (zar Ω μ k) i.toNat (some (Ω.2.2.2 v)) := by
    funext j
    unfold zar zup va_up
    by_cases hj : j = i.toNat
    · have : ((j : Nat) : Int) = i := by rw [hj]; exact zcast hi.1
      rw [if_pos hj, if_pos ⟨rfl, this⟩]
      unfold zrf
      rw [if_neg hv0]
    · have : ¬ ((j : Nat) : Int) = i := fun h => hj (by omega)
      rw [if_neg hj, if_neg (fun h => this h.2)]
  have he := zws_set (μ := μ) (i := i) (v := v) X.2.1 hq0
  rw [zat_arr hs] at he
  rw [show zce Ω (zup μ k i v) k (6, (zsh k).2) = .inl (Ω.2.1 6, ((zsh k).2, .inr (.inr (.inr (.inr (zar Ω (zup μ k i v) k)))))) from rfl, hf] at he
  rw [← he] at hP hD
  exact ⟨hP, hD, hS, zup_at X.2.2.2 hok⟩
theorem z_aast7 (C : zC p s m args c cc own nL Ω) {H0 : Heap} (X : zX Ω μ A H0 H locs) (hk : k ∈ Ω.2.2.1.1) (hs : (zsh k).1 = 7) (hi : 0 ≤ i ∧ i < zlen k) (hv : zob Ω.2.2.1 3 v) (hv0 : v ≠ 0) {N : Nat} (hvs : zsh v = (13, N)) (hok : zok Ω.2.2.1 k i v) (em : μ1 = zup μ k i v) (hd : decode cc pc = .ok (.aastore, 1)) (kk : ∀ (H1 : Heap) (locs1 : List Loc), zX Ω μ1 A H0 H1 locs1 → W p l e R s m args below meth c H1 locs1 cells slots Q (F0 m (pc + 1) ls rest)) : W p l e R s m args below meth c H locs cells slots Q (F0 m pc ls (zR Ω v :: zI i :: zR Ω k :: rest)) := by
  subst em
  obtain ⟨q, hq0, hq⟩ := zws_at (μ := μ) hk
  obtain ⟨q2, -, hq2⟩ := zws_at (μ := μ) (k := v) (by have := hv.2.1 0 (by decide) (by decide); rwa [Int.add_zero] at this)
  rw [zat_arr hs] at hq
  rw [zat_obj (ci := 3) hvs] at hq2
  obtain ⟨h1, h2⟩ := z_in hi (zsh_small k)
  refine va_astq C.1 C.2.1 C.2.2.2.2.2 X.1 X.2.1 X.2.2.1 q 7 q2 3 (r := (RX3, TX3, 3)) hq rfl hq2 rfl h1 hd (fun H1 locs1 hP hD hS => kk H1 locs1 ?_)
  rw [h2] at hP hD
  have hf : zar Ω (zup μ k i v) k = va_up (zar Ω μ k) i.toNat (some (Ω.2.2.2 v)) := by
    funext j
    unfold zar zup va_up
    by_cases hj : j = i.toNat
    · have : ((j : Nat) : Int) = i := by rw [hj]; exact zcast hi.1
      rw [if_pos hj, if_pos ⟨rfl, this⟩]
      unfold zrf
      rw [if_neg hv0]
    · have : ¬ ((j : Nat) : Int) = i := fun h => hj (by omega)
      rw [if_neg hj, if_neg (fun h => this h.2)]
  have he := zws_set (μ := μ) (i := i) (v := v) X.2.1 hq0
  rw [zat_arr hs] at he
  rw [show zce Ω (zup μ k i v) k (7, (zsh k).2) = .inl (Ω.2.1 7, ((zsh k).2, .inr (.inr (.inr (.inr (zar Ω (zup μ k i v) k)))))) from rfl, hf] at he
  rw [← he] at hP hD
  exact ⟨hP, hD, hS, zup_at X.2.2.2 hok⟩
theorem z_aast8 (C : zC p s m args c cc own nL Ω) {H0 : Heap} (X : zX Ω μ A H0 H locs) (hk : k ∈ Ω.2.2.1.1) (hs : (zsh k).1 = 8) (hi : 0 ≤ i ∧ i < zlen k) (hv : zob Ω.2.2.1 4 v) (hv0 : v ≠ 0) {N : Nat} (hvs : zsh v = (14, N)) (hok : zok Ω.2.2.1 k i v) (em : μ1 = zup μ k i v) (hd : decode cc pc = .ok (.aastore, 1)) (kk : ∀ (H1 : Heap) (locs1 : List Loc), zX Ω μ1 A H0 H1 locs1 → W p l e R s m args below meth c H1 locs1 cells slots Q (F0 m (pc + 1) ls rest)) : W p l e R s m args below meth c H locs cells slots Q (F0 m pc ls (zR Ω v :: zI i :: zR Ω k :: rest)) := by
  subst em
  obtain ⟨q, hq0, hq⟩ := zws_at (μ := μ) hk
  obtain ⟨q2, -, hq2⟩ := zws_at (μ := μ) (k := v) (by have := hv.2.1 0 (by decide) (by decide); rwa [Int.add_zero] at this)
  rw [zat_arr hs] at hq
  rw [zat_obj (ci := 4) hvs] at hq2
  obtain ⟨h1, h2⟩ := z_in hi (zsh_small k)
  refine va_astq C.1 C.2.1 C.2.2.2.2.2 X.1 X.2.1 X.2.2.1 q 8 q2 4 (r := (RX4, TX4, 5)) hq rfl hq2 rfl h1 hd (fun H1 locs1 hP hD hS => kk H1 locs1 ?_)
  rw [h2] at hP hD
  have hf : zar Ω (zup μ k i v) k = va_up (zar Ω μ k) i.toNat (some (Ω.2.2.2 v)) := by
    funext j
    unfold zar zup va_up
    by_cases hj : j = i.toNat
    · have : ((j : Nat) : Int) = i := by rw [hj]; exact zcast hi.1
      rw [if_pos hj, if_pos ⟨rfl, this⟩]
      unfold zrf
      rw [if_neg hv0]
    · have : ¬ ((j : Nat) : Int) = i := fun h => hj (by omega)
      rw [if_neg hj, if_neg (fun h => this h.2)]
  have he := zws_set (μ := μ) (i := i) (v := v) X.2.1 hq0
  rw [zat_arr hs] at he
  rw [show zce Ω (zup μ k i v) k (8, (zsh k).2) = .inl (Ω.2.1 8, ((zsh k).2, .inr (.inr (.inr (.inr (zar Ω (zup μ k i v) k)))))) from rfl, hf] at he
  rw [← he] at hP hD
  exact ⟨hP, hD, hS, zup_at X.2.2.2 hok⟩
theorem zok6 {ids : List Int × List Int} (hs : (zsh k).1 = 6) (h : zob ids 8 v) : zok ids k i v := by unfold zok; rw [hs]; exact Or.inr h
theorem zok7 {ids : List Int × List Int} (hs : (zsh k).1 = 7) (h : zob ids 3 v) : zok ids k i v := by unfold zok; rw [hs]; exact Or.inr h
theorem zok8 {ids : List Int × List Int} (hs : (zsh k).1 = 8) (h : zob ids 4 v) : zok ids k i v := by unfold zok; rw [hs]; exact Or.inr h
/-- a constructor that asks B of the state, too -/
def XConB (B : State → Prop) (l : Launch) (y : MethodName) (cc : ByteArray) (nL d : Nat) (Ω : zO) (av : List Value) (μ : zMem) (nw cm : List Int) (μ' : zMem) (sz mc ms : Nat) : Prop :=
  Met l y (Cond.code y cc nL none :: zgd) (zrmN d mc ms) (fun a U => zPn Ω av μ sz a U ∧ B U) (zQn Ω nw cm μ' sz) mc ms (zfrN Ω sz)
theorem XConB.of {B : State → Prop} {y : MethodName} {d sz mc ms : Nat} {av : List Value} {nw cm : List Int} (hy : plainName y.cls = true) (hi : y.name = "<init>") (hlen : (lg_sl av).length ≤ nL)
    (body : ∀ (p : Program) (e : Env) (s : State) (m : MethodId) (args : Array Value) (below : List Frame) (meth : Method) (c : Code) (ls : Array Slot) (A : Nat → Prop) (Q : State → Prop), zC p s m args c cc y.cls nL Ω → B s → meth.name = "<init>" → (∀ q : Nat, s.heap.size ≤ q → A q) → zX Ω μ A s.heap s.heap [] → lv_has ls nL (lv_args 0 av) →
      (∀ {H : Heap} {locs : List Loc} {pc : Nat} {ls : Array Slot} {cells slots : Nat} (ad : Int → Nat), (∀ k ∈ Ω.2.2.1.1, ad k = Ω.2.2.2 k) → zX (zgr Ω nw cm ad) μ' A s.heap H locs → cells ≤ mc → slots ≤ ms → decode cc pc = .ok (.return_, 1) → W p l e (zrmN d mc ms) s m args below meth c H locs cells slots Q (F0 m pc ls [])) →
      W p l e (zrmN d mc ms) s m args below meth c s.heap [] 0 0 Q (F0 m 0 ls [])) : XConB B l y cc nL d Ω av μ nw cm μ' sz mc ms := by
  refine Met.ofW (cc := cc) (maxL := nL) (ret := none) hy rfl ?_
  intro p e s m args below meth c s₁ B' hml hv
  obtain ⟨⟨rfl, hsz, hP, hK, hD, hT⟩, hB⟩ := hv
  have hl := lv_entry av (n := nL) hlen
  rw [lg_entry_eq]
  have hts := atoms_spec (ws := Cond.code y cc nL none :: zgd) B'.pre
  have hin : meth.name = "<init>" := (name_of_methodNamed B'.named B'.method).1.trans hi
  have hk := B'.notSynchronized
  have hr := B'.returns
  refine body p e s m _ below meth c _ (zfrN Ω sz) _ ⟨B'.exec, B'.bytes, hml, findClass_of_methodNamed B'.named, fun w hw => hts w (List.mem_cons_of_mem _ hw), hK⟩ hB hin (fun q hq => Or.inr (by rw [← hsz]; exact hq)) ⟨hP, hD, va_S.rf, hT⟩ hl ?_
  intro H locs pc ls cells slots ad h1 X h2 h3 hd
  refine W.widen (k := mc) (n := ms) h2 h3 ?_
  exact W.vret B'.exec B'.bytes hr (fun t ht hW => ⟨rfl, ⟨ad, h1, by rw [ht]; exact X.1, X.2.1, X.2.2.2⟩, X.2.2.1.F ht⟩) X.2.2.1.2.2 hd hk
/-- what LoopSpaces' constructor asks: the links to private constructors, the classes of its arrays -/
def zSd (U : State) : Prop := (va_Nw (.methodLinkNest "LoopSpaces" 17 yX1_init "LoopSpaces") U ∧ va_Nw (.methodLinkNest "LoopSpaces" 42 yX7_init "LoopSpaces") U ∧ va_Nw (.methodLinkNest "LoopSpaces" 47 yX8_init "LoopSpaces") U ∧ va_Nw (.methodLinkNest "LoopSpaces" 54 yX2_init "LoopSpaces") U ∧ va_Nw (.methodLinkNest "LoopSpaces" 61 yX6_init "LoopSpaces") U ∧ va_Nw (.methodLinkNest "LoopSpaces" 68 yX0_init "LoopSpaces") U ∧ va_Nw (.methodLinkNest "LoopSpaces" 80 yX3_init "LoopSpaces") U) ∧ va_AO RX5 U ∧ va_AO RX8 U ∧ va_AO RX3 U ∧ va_AO RX4 U
theorem zSd.call {U : State} (g : JFrame) (mk : MethodId) (a : Array Value) (h : zSd U) : zSd (U.calling g mk a) := by
  obtain ⟨⟨h1, h2, h3, h4, h5, h6, h7⟩, h8, h9, h10, h11⟩ := h
  exact ⟨⟨va_Nw.same rfl rfl h1, va_Nw.same rfl rfl h2, va_Nw.same rfl rfl h3, va_Nw.same rfl rfl h4, va_Nw.same rfl rfl h5, va_Nw.same rfl rfl h6, va_Nw.same rfl rfl h7⟩, va_AO.moved (Vm.Alike.refl U.vm) h8, va_AO.moved (Vm.Alike.refl U.vm) h9, va_AO.moved (Vm.Alike.refl U.vm) h10, va_AO.moved (Vm.Alike.refl U.vm) h11⟩
theorem zSd.warm {U : State} (hW : s.WarmedH U.vm) (h : zSd s) : zSd U := by
  obtain ⟨⟨h1, h2, h3, h4, h5, h6, h7⟩, h8, h9, h10, h11⟩ := h
  exact ⟨⟨va_Nw.warmM hW h1, va_Nw.warmM hW h2, va_Nw.warmM hW h3, va_Nw.warmM hW h4, va_Nw.warmM hW h5, va_Nw.warmM hW h6, va_Nw.warmM hW h7⟩, va_AO.moved hW.alike h8, va_AO.moved hW.alike h9, va_AO.moved hW.alike h10, va_AO.moved hW.alike h11⟩
theorem zblindB (Ω : zO) (av : List Value) (μ : zMem) (sz : Nat) : FrameBlind (fun a U => zPn Ω av μ sz a U ∧ zSd U) := fun a U g mk q => ⟨zblindN Ω av μ sz a U g mk q.1, q.2.call g mk a⟩
end ZB
