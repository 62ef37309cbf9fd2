/-! contracts of methods over a world -/
def zrm (d : Nat) : Room := { frames := d + 1, cells := 0, slots := 0, locals := 60 * d + 60 }
def zfree (Ω : zO) : Nat → Prop := fun q => ∃ k ∈ Ω.2.2.1.1, q = Ω.2.2.2 k
def zPc (Ω : zO) (av : List Value) (μ : zMem) : Array Value → State → Prop := fun a U => a = av.toArray ∧ va_P Ω.1 vwCl (zws Ω μ) U.heap ∧ va_K Ω.1 vwCl (ztys Ω) U ∧ va_D (zfree Ω) (zws Ω μ) ∧ zT Ω.2.2.1 μ
def zQc (Ω : zO) (rv : Option Value) (φ : Prop) (μ' : zMem) : Array Value → State → Outcome → State → Prop := fun _ st o t => o = .returned rv ∧ φ ∧ va_P Ω.1 vwCl (zws Ω μ') t.heap ∧ va_D (zfree Ω) (zws Ω μ') ∧ zT Ω.2.2.1 μ' ∧ va_F (zfree Ω) st t
/-- method y, called with av in memory μ, answers rv and leaves memory μ' (and φ holds) -/
def XMet (l : Launch) (y : MethodName) (cc : ByteArray) (nL : Nat) (ret : Option FieldType) (d : Nat) (Ω : zO) (av : List Value) (μ : zMem) (rv : Option Value) (φ : Prop) (μ' : zMem) : Prop :=
  Met l y (Cond.code y cc nL ret :: zgd) (zrm d) (zPc Ω av μ) (zQc Ω rv φ μ') 0 0 (zfree Ω)
theorem zgoodT {c2 : Cond} (h2 : c2 ∈ zgd) : GoodIn zgd (c2 :: zgd) := by
  intro w hw
  rcases List.mem_cons.mp hw with h | h
  · subst h
    exact ⟨h2, good_of_word (List.mem_filter.mp h2).2⟩
  · exact ⟨h, good_of_word (List.mem_filter.mp h).2⟩
theorem zgapp {big a b : List Cond} (ha : GoodIn big a) (hb : GoodIn big b) : GoodIn big (a ++ b) := fun w h => (List.mem_append.mp h).elim (ha w) (hb w)
theorem zblind (Ω : zO) (av : List Value) (μ : zMem) : FrameBlind (zPc Ω av μ) := fun a U g mk q => by
  obtain ⟨q0, qP, qK, qD, qT⟩ := q
  exact ⟨q0, qP, va_K.moved (u := U) (U := U.calling g mk a) (Vm.Alike.refl U.vm) qK, qD, qT⟩
section ZM
variable {p : Program} {l : Launch} {e : Env} {R : Room} {s : State} {m : MethodId} {args : Array Value} {below : List Frame} {meth : Method} {c : Code} {H : Heap} {locs : List Loc} {cells slots : Nat} {Q : State → Prop}
variable {cc : ByteArray} {pc : Nat} {ls : Array Slot} {rest : List Value} {own : String} {nL : Nat} {Ω : zO} {μ μ' : zMem} {k : Int}
/-- the start of a body: the frame's list of locals, and how the method ends -/
theorem XMet.of {y : MethodName} {ret : Option FieldType} {d : Nat} {av : List Value} {rv : Option Value} {φ : Prop} (hy : plainName y.cls = true) (hlen : (lg_sl av).length ≤ nL)
    (body : ∀ (p : Program) (e : Env) (s : State) (m : MethodId) (args : Array Value) (below : List Frame) (meth : Method) (c : Code) (ls : Array Slot), zC p s m args c cc y.cls nL Ω → meth.sig.returnType = ret → meth.locks = false → zX Ω μ (zfree Ω) s.heap s.heap [] → lv_has ls nL (lv_args 0 av) →
      W p l e (zrm d) s m args below meth c s.heap [] 0 0 (MQ below (zQc Ω rv φ μ') args s 0 0 (zfree Ω)) (F0 m 0 ls [])) : XMet l y cc nL ret d Ω av μ rv φ μ' := by
  refine Met.ofW (cc := cc) (maxL := nL) (ret := ret) hy rfl ?_
  intro p e s m args below meth c s₁ B hml hv
  obtain ⟨rfl, hP, hK, hD, hT⟩ := hv
  have hl := lv_entry av (n := nL) hlen
  rw [lg_entry_eq]
  have hts := atoms_spec (ws := Cond.code y cc nL ret :: zgd) B.pre
  exact body p e s m _ below meth c _ ⟨B.exec, B.bytes, hml, findClass_of_methodNamed B.named, fun w hw => hts w (List.mem_cons_of_mem _ hw), hK⟩ B.returns B.notSynchronized ⟨hP, hD, va_S.rf, hT⟩ hl
theorem zX.fin {A : Nat → Prop} (X : zX Ω μ (zfree Ω) s.heap H locs) {rv : Option Value} {φ : Prop} (hφ : φ) {t : State} (ht : t.heap = H) : zQc Ω rv φ μ args s (.returned rv) t :=
  ⟨rfl, hφ, by rw [ht]; exact X.1, X.2.1, X.2.2.2, X.2.2.1.F ht⟩
theorem z_iret (C : zC p s m args c cc own nL Ω) (hr : meth.sig.returnType = some .int) (hk : meth.locks = false) (X : zX Ω μ (zfree Ω) s.heap H locs) {x : Int} {φ : Prop} (hφ : φ) (hd : decode cc pc = .ok (.ireturn, 1)) : W p l e R s m args below meth c H locs 0 0 (MQ below (zQc Ω (some (zI x)) φ μ) args s 0 0 (zfree Ω)) (F0 m pc ls [zI x]) :=
  W.iret C.1 C.2.1 hr (fun t ht hW => X.fin (A := zfree Ω) hφ ht) X.2.2.1.2.2 hd hk
theorem znar {x : Int} (h : 0 ≤ x ∧ x ≤ 1) : narrow .boolean (.int (Int32.ofInt x)) = .int (Int32.ofInt x) := by
  have h1 : x = 0 ∨ x = 1 := by omega
  rcases h1 with h | h <;> subst h <;> rfl
theorem z_zret (C : zC p s m args c cc own nL Ω) (hr : meth.sig.returnType = some .boolean) (hk : meth.locks = false) (X : zX Ω μ (zfree Ω) s.heap H locs) {x : Int} (hx : 0 ≤ x ∧ x ≤ 1) {φ : Prop} (hφ : φ) (hd : decode cc pc = .ok (.ireturn, 1)) : W p l e R s m args below meth c H locs 0 0 (MQ below (zQc Ω (some (zI x)) φ μ) args s 0 0 (zfree Ω)) (F0 m pc ls [zI x]) :=
  W.zret C.1 C.2.1 hr (znar hx) (fun t ht hW => X.fin (A := zfree Ω) hφ ht) X.2.2.1.2.2 hd hk
theorem z_lret (C : zC p s m args c cc own nL Ω) (hr : meth.sig.returnType = some .long) (hk : meth.locks = false) (X : zX Ω μ (zfree Ω) s.heap H locs) {x : Int} {φ : Prop} (hφ : φ) (hd : decode cc pc = .ok (.lreturn, 1)) : W p l e R s m args below meth c H locs 0 0 (MQ below (zQc Ω (some (zJ x)) φ μ) args s 0 0 (zfree Ω)) (F0 m pc ls [zJ x]) :=
  W.lret C.1 C.2.1 hr (fun t ht hW => X.fin (A := zfree Ω) hφ ht) X.2.2.1.2.2 hd hk
theorem z_vret (C : zC p s m args c cc own nL Ω) (hr : meth.sig.returnType = none) (hk : meth.locks = false) (X : zX Ω μ (zfree Ω) s.heap H locs) {φ : Prop} (hφ : φ) (hd : decode cc pc = .ok (.return_, 1)) : W p l e R s m args below meth c H locs 0 0 (MQ below (zQc Ω none φ μ) args s 0 0 (zfree Ω)) (F0 m pc ls []) :=
  W.vret C.1 C.2.1 hr (fun t ht hW => X.fin (A := zfree Ω) hφ ht) X.2.2.1.2.2 hd hk
theorem z_aret (C : zC p s m args c cc own nL Ω) {n0 : String} (hr : meth.sig.returnType = some (.object n0)) (hk : meth.locks = false) (X : zX Ω μ (zfree Ω) s.heap H locs) {r : Int} {φ : Prop} (hφ : φ) (hd : decode cc pc = .ok (.areturn, 1)) : W p l e R s m args below meth c H locs 0 0 (MQ below (zQc Ω (some (zQ Ω r)) φ μ) args s 0 0 (zfree Ω)) (F0 m pc ls [zQ Ω r]) :=
  W.aret C.1 C.2.1 hr (Or.inl ⟨n0, rfl⟩) ((Decidable.em (r = 0)).elim (fun h => Or.inl (zQ_nul Ω h)) (fun h => Or.inr ⟨_, zQ_pos Ω h⟩)) (fun t ht hW => X.fin (A := zfree Ω) hφ ht) X.2.2.1.2.2 hd hk
theorem XMet.ofI {y : MethodName} {d : Nat} {av : List Value} {r : Int} {φ : Prop} (hy : plainName y.cls = true) (hlen : (lg_sl av).length ≤ nL)
    (body : ∀ (p : Program) (e : Env) (s : State) (m : MethodId) (args : Array Value) (below : List Frame) (meth : Method) (c : Code) (ls : Array Slot) (Q : State → Prop), zC p s m args c cc y.cls nL Ω → (∀ {H : Heap} {locs : List Loc} {pc : Nat} {ls : Array Slot}, zX Ω μ' (zfree Ω) s.heap H locs → φ → decode cc pc = .ok (.ireturn, 1) → W p l e (zrm d) s m args below meth c H locs 0 0 Q (F0 m pc ls [zI r])) → zX Ω μ (zfree Ω) s.heap s.heap [] → lv_has ls nL (lv_args 0 av) →
      W p l e (zrm d) s m args below meth c s.heap [] 0 0 Q (F0 m 0 ls [])) : XMet l y cc nL (some .int) d Ω av μ (some (zI r)) φ μ' :=
  XMet.of hy hlen (fun p e s m args below meth c ls C hr hk X hl => body p e s m args below meth c ls _ C (fun X hφ hd => z_iret C hr hk X hφ hd) X hl)
theorem XMet.ofZ {y : MethodName} {d : Nat} {av : List Value} {r : Int} (hy : plainName y.cls = true) (hlen : (lg_sl av).length ≤ nL)
    (body : ∀ (p : Program) (e : Env) (s : State) (m : MethodId) (args : Array Value) (below : List Frame) (meth : Method) (c : Code) (ls : Array Slot) (Q : State → Prop), zC p s m args c cc y.cls nL Ω → (∀ {H : Heap} {locs : List Loc} {pc : Nat} {ls : Array Slot}, zX Ω μ' (zfree Ω) s.heap H locs → (0 ≤ r ∧ r ≤ 1) → decode cc pc = .ok (.ireturn, 1) → W p l e (zrm d) s m args below meth c H locs 0 0 Q (F0 m pc ls [zI r])) → zX Ω μ (zfree Ω) s.heap s.heap [] → lv_has ls nL (lv_args 0 av) →
      W p l e (zrm d) s m args below meth c s.heap [] 0 0 Q (F0 m 0 ls [])) : XMet l y cc nL (some .boolean) d Ω av μ (some (zI r)) (0 ≤ r ∧ r ≤ 1) μ' :=
  XMet.of hy hlen (fun p e s m args below meth c ls C hr hk X hl => body p e s m args below meth c ls _ C (fun X hφ hd => z_zret C hr hk X hφ hφ hd) X hl)
theorem XMet.ofJ {y : MethodName} {d : Nat} {av : List Value} {r : Int} {φ : Prop} (hy : plainName y.cls = true) (hlen : (lg_sl av).length ≤ nL)
    (body : ∀ (p : Program) (e : Env) (s : State) (m : MethodId) (args : Array Value) (below : List Frame) (meth : Method) (c : Code) (ls : Array Slot) (Q : State → Prop), zC p s m args c cc y.cls nL Ω → (∀ {H : Heap} {locs : List Loc} {pc : Nat} {ls : Array Slot}, zX Ω μ' (zfree Ω) s.heap H locs → φ → decode cc pc = .ok (.lreturn, 1) → W p l e (zrm d) s m args below meth c H locs 0 0 Q (F0 m pc ls [zJ r])) → zX Ω μ (zfree Ω) s.heap s.heap [] → lv_has ls nL (lv_args 0 av) →
      W p l e (zrm d) s m args below meth c s.heap [] 0 0 Q (F0 m 0 ls [])) : XMet l y cc nL (some .long) d Ω av μ (some (zJ r)) φ μ' :=
  XMet.of hy hlen (fun p e s m args below meth c ls C hr hk X hl => body p e s m args below meth c ls _ C (fun X hφ hd => z_lret C hr hk X hφ hd) X hl)
theorem XMet.ofV {y : MethodName} {d : Nat} {av : List Value} (hy : plainName y.cls = true) (hlen : (lg_sl av).length ≤ nL)
    (body : ∀ (p : Program) (e : Env) (s : State) (m : MethodId) (args : Array Value) (below : List Frame) (meth : Method) (c : Code) (ls : Array Slot) (Q : State → Prop), zC p s m args c cc y.cls nL Ω → (∀ {H : Heap} {locs : List Loc} {pc : Nat} {ls : Array Slot}, zX Ω μ' (zfree Ω) s.heap H locs → decode cc pc = .ok (.return_, 1) → W p l e (zrm d) s m args below meth c H locs 0 0 Q (F0 m pc ls [])) → zX Ω μ (zfree Ω) s.heap s.heap [] → lv_has ls nL (lv_args 0 av) →
      W p l e (zrm d) s m args below meth c s.heap [] 0 0 Q (F0 m 0 ls [])) : XMet l y cc nL none d Ω av μ none True μ' :=
  XMet.of hy hlen (fun p e s m args below meth c ls C hr hk X hl => body p e s m args below meth c ls _ C (fun X hd => z_vret C hr hk X trivial hd) X hl)
theorem XMet.ofA {y : MethodName} {d : Nat} {av : List Value} {r : Int} {φ : Prop} {C0 : String} (hy : plainName y.cls = true) (hlen : (lg_sl av).length ≤ nL)
    (body : ∀ (p : Program) (e : Env) (s : State) (m : MethodId) (args : Array Value) (below : List Frame) (meth : Method) (c : Code) (ls : Array Slot) (Q : State → Prop), zC p s m args c cc y.cls nL Ω → (∀ {H : Heap} {locs : List Loc} {pc : Nat} {ls : Array Slot}, zX Ω μ' (zfree Ω) s.heap H locs → φ → decode cc pc = .ok (.areturn, 1) → W p l e (zrm d) s m args below meth c H locs 0 0 Q (F0 m pc ls [zQ Ω r])) → zX Ω μ (zfree Ω) s.heap s.heap [] → lv_has ls nL (lv_args 0 av) →
      W p l e (zrm d) s m args below meth c s.heap [] 0 0 Q (F0 m 0 ls [])) : XMet l y cc nL (some (.object C0)) d Ω av μ (some (zQ Ω r)) φ μ' :=
  XMet.of hy hlen (fun p e s m args below meth c ls C hr hk X hl => body p e s m args below meth c ls _ C (fun X hφ hd => z_aret C hr hk X hφ hd) X hl)
/-- what a call leaves -/
theorem z_after {cells slots : Nat} {g : JFrame} {rv : Option Value} {φ : Prop} {a : Array Value} (X : zX Ω μ (zfree Ω) s.heap H locs) (hr : va_Run p l e R s m args below meth c H locs cells slots 0 0 g rest (zQc Ω rv φ μ' a) (zfree Ω))
    (kk : ∀ (H1 : Heap) (locs1 : List Loc), φ → zX Ω μ' (zfree Ω) s.heap H1 locs1 → W p l e R s m args below meth c H1 locs1 cells slots Q { g with pc := g.pc + 3, stack := rv.toList ++ rest }) : W p l e R s m args below meth c H locs cells slots Q g := by
  intro T hT X0
  obtain ⟨v, st₀, t, T', L, h0, X', hL, e1, e2, ⟨hv, hφ, hP, hD, hTm, hz, hk⟩, st⟩ := hr T hT X0
  cases hv
  rw [h0] at hz hk
  have hS := X.2.2.1
  obtain ⟨t2, a1, b1⟩ := kk T'.heap (locs ++ L) hφ ⟨by rw [e1]; exact hP, hD, ⟨Nat.le_trans hS.1 (by rw [e1]; exact hz), fun q h1 h2 => by rw [e1, hk q (Nat.lt_of_lt_of_le h1 hS.1) h2]; exact hS.2.1 q h1 h2, fun q hq => by
      rcases List.mem_append.mp hq with h | h
      · exact hS.2.2 q h
      · exact hL q h⟩, hTm⟩ T' rfl X'
  exact ⟨t2, st t2 a1, b1⟩
theorem zPc.here {av : List Value} (C : zC p s m args c cc own nL Ω) (X : zX Ω μ (zfree Ω) s.heap H locs) (U : State) (hU : U.heap = H) (hW : s.WarmedH U.vm) : zPc Ω av μ av.toArray U :=
  ⟨rfl, by rw [hU]; exact X.1, va_K.moved hW.alike C.2.2.2.2.2, X.2.1, X.2.2.2⟩
/-- the words of a callee: its code, how it is found -/
def zcal (y : MethodName) (bytes : ByteArray) (maxL : Nat) (ret : Option FieldType) (C0 : String) (n : Nat) : Prop := (Cond.code y bytes maxL ret ∈ lw_tbl ∧ Cond.instanceMethod y ∈ lw_tbl ∧ Cond.selects C0 y y ∈ lw_tbl ∧ Cond.initialized C0 ∈ lw_tbl) ∧ y.cls = C0 ∧ y.cls ≠ "java/lang/invoke/MethodHandle" ∧ y.cls ≠ "java/lang/invoke/VarHandle" ∧ (parseMethodDescriptor y.desc).map (fun d => d.parameters.length) = some n
def zcas (y : MethodName) (bytes : ByteArray) (maxL : Nat) (ret : Option FieldType) (n : Nat) : Prop := (Cond.code y bytes maxL ret ∈ lw_tbl ∧ Cond.static y ∈ lw_tbl ∧ Cond.initialized y.cls ∈ lw_tbl) ∧ y.cls ≠ "java/lang/invoke/MethodHandle" ∧ y.cls ≠ "java/lang/invoke/VarHandle" ∧ (parseMethodDescriptor y.desc).map (fun d => d.parameters.length) = some n
/-- a call of a method of an object -/
theorem z_callV (C : zC p s m args c cc own nL Ω) (X : zX Ω μ (zfree Ω) s.heap H locs) {C0 : String} {T : u_T} {N ci index n maxL d : Nat} {ty : Nat → FieldType} (K : zCl ci C0 T N ty) (hk : k ∈ Ω.2.2.1.1) (hs : zsh k = (10 + ci, N)) {y : MethodName} {bytes : ByteArray} {ret : Option FieldType} {As : List Value} {rv : Option Value} {φ : Prop} {st : List Value}
    (hM : XMet l y bytes maxL ret d Ω (zR Ω k :: As) μ rv φ μ')
    (hw : zcal y bytes maxL ret C0 n) (hml : Cond.methodLink own index y ∈ lw_tbl) (hR : d + 1 + 1 ≤ R.frames ∧ 8 + (maxL + 11) + (60 * d + 60) ≤ R.locals)
    (hn : As.length = n) (hsize : ls.size = nL) (hstack : st = As.reverse ++ zR Ω k :: rest) (hroom : (rest.map fun v => v.category).sum ≤ 8) (hdg : decode cc pc = .ok (.invokevirtual index, 3)) (hc : cells ≤ R.cells ∧ slots ≤ R.slots)
    (kk : ∀ (H1 : Heap) (locs1 : List Loc), φ → zX Ω μ' (zfree Ω) s.heap H1 locs1 → W p l e R s m args below meth c H1 locs1 cells slots Q (F0 m (pc + 3) ls (rv.toList ++ rest))) : W p l e R s m args below meth c H locs cells slots Q (F0 m pc ls st) := by
  have hG : GoodIn zgd (wsV own index C0 y (Cond.code y bytes maxL ret :: zgd)) := by
    refine zgapp (fun w h => ?_) (zgoodT (zg hw.1.1 rfl))
    have h0 : w ∈ zgd := by
      simp only [List.mem_cons, List.not_mem_nil, or_false] at h
      rcases h with h | h | h | h <;> subst h
      · exact zg hml rfl
      · exact zg hw.1.2.1 rfl
      · exact zg hw.1.2.2.1 rfl
      · exact zg hw.1.2.2.2 rfl
    exact ⟨h0, good_of_word (List.mem_filter.mp h0).2⟩
  obtain ⟨q, -, hq⟩ := zws_at (μ := μ) hk
  rw [zat_obj hs] at hq
  refine z_after X (va_runV (As := As) (b := Ω.2.2.2 k) (nL := nL) ⟨C.1, C.2.1, C.2.2.1, C.2.2.2.1, C.2.2.2.2.1⟩ hM (cwV n C.2.2.2.2.1 hG rfl rfl rfl hw.2 hR) ⟨zblind _ _ _, va_recv C.2.2.2.2.2 X.1 (ci := ci) (q0 := q) K.2.1 hq, fun U hU hW => zPc.here C X U hU hW⟩ rfl hn hsize hstack (lv_room hroom) hdg ⟨hc.1, hc.2⟩) kk
/-- a call of a static method -/
theorem z_callS (C : zC p s m args c cc own nL Ω) (X : zX Ω μ (zfree Ω) s.heap H locs) {index n maxL d : Nat} {y : MethodName} {bytes : ByteArray} {ret : Option FieldType} {As : List Value} {rv : Option Value} {φ : Prop} {st : List Value}
    (hM : XMet l y bytes maxL ret d Ω As μ rv φ μ')
    (hw : zcas y bytes maxL ret n) (hml : Cond.methodLink own index y ∈ lw_tbl) (hR : d + 1 + 1 ≤ R.frames ∧ 8 + (maxL + 11) + (60 * d + 60) ≤ R.locals)
    (hn : As.length = n) (hsize : ls.size = nL) (hstack : st = As.reverse ++ rest) (hroom : (rest.map fun v => v.category).sum ≤ 8) (hdg : decode cc pc = .ok (.invokestatic index, 3)) (hc : cells ≤ R.cells ∧ slots ≤ R.slots)
    (kk : ∀ (H1 : Heap) (locs1 : List Loc), φ → zX Ω μ' (zfree Ω) s.heap H1 locs1 → W p l e R s m args below meth c H1 locs1 cells slots Q (F0 m (pc + 3) ls (rv.toList ++ rest))) : W p l e R s m args below meth c H locs cells slots Q (F0 m pc ls st) := by
  have hG : GoodIn zgd (va_wsS own index y (Cond.code y bytes maxL ret :: zgd)) := by
    refine zgapp (fun w h => ?_) (zgoodT (zg hw.1.1 rfl))
    have h0 : w ∈ zgd := by
      simp only [List.mem_cons, List.not_mem_nil, or_false] at h
      rcases h with h | h | h <;> subst h
      · exact zg hml rfl
      · exact zg hw.1.2.1 rfl
      · exact zg hw.1.2.2 rfl
    exact ⟨h0, good_of_word (List.mem_filter.mp h0).2⟩
  refine z_after X (va_runS (As := As) (nL := nL) ⟨C.1, C.2.1, C.2.2.1, C.2.2.2.1, C.2.2.2.2.1⟩ hM (va_cwS n C.2.2.2.2.1 hG rfl rfl rfl hw.2 hR) ⟨zblind _ _ _, fun U hU hW => zPc.here C X U hU hW⟩ rfl hn hsize hstack (lv_room hroom) hdg ⟨hc.1, hc.2⟩) kk
end ZM
