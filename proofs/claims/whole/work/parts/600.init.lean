/-! calls where the world has grown; constructors -/
theorem zX.sh {Ω : zO} {μ : zMem} {A : Nat → Prop} {H0 H : Heap} {locs : List Loc} (X : zX Ω μ A H0 H locs) : ∀ q, zfree Ω q → A q := by
  intro q hq
  obtain ⟨k, hk, e⟩ := hq
  obtain ⟨i, -, h⟩ := zws_at (μ := μ) hk
  rw [e]
  exact X.2.1.2 i _ h
theorem zD_free {Ω : zO} {μ : zMem} {A : Nat → Prop} (h : va_D A (zws Ω μ)) : va_D (zfree Ω) (zws Ω μ) := ⟨h.1, fun i q hq => by
  unfold zws at hq
  rw [List.getElem?_map] at hq
  cases hk : Ω.2.2.1.1[i]? with
  | none => rw [hk] at hq; cases hq
  | some k =>
    rw [hk] at hq
    have h1 := Option.some.inj hq
    exact ⟨k, List.mem_of_getElem? hk, by rw [← h1]; rfl⟩⟩
section ZG
variable {p : Program} {l : Launch} {e : Env} {R : Room} {s : State} {m : MethodId} {args : Array Value} {below : List Frame} {meth : Method} {c : Code} {H : Heap} {locs : List Loc} {cells slots : Nat} {Q : State → Prop}
variable {cc : ByteArray} {pc : Nat} {ls : Array Slot} {rest : List Value} {own : String} {nL : Nat} {Ω : zO} {μ μ' : zMem} {k : Int} {A : Nat → Prop}
theorem z_afterG {g : JFrame} {rv : Option Value} {φ : Prop} {a : Array Value} (X : zX Ω μ A s.heap H locs) (hr : va_Run p l e R s m args below meth c H locs cells slots 0 0 g rest (zQc Ω rv φ μ' a) (zfree Ω))
    (kk : ∀ (H1 : Heap) (locs1 : List Loc), φ → zX Ω μ' A s.heap H1 locs1 → W p l e R s m args below meth c H1 locs1 cells slots Q { g with pc := g.pc + 3, stack := rv.toList ++ rest }) : W p l e R s m args below meth c H locs cells slots Q g := by
  intro T hT X0
  obtain ⟨v, st₀, t, T', L, h0, X', hL, e1, e2, ⟨hv, hφ, hP, hD, hTm, hz, hk⟩, st⟩ := hr T hT X0
  cases hv
  rw [h0] at hz hk
  have hS := X.2.2.1
  have sh := X.sh
  obtain ⟨t2, a1, b1⟩ := kk T'.heap (locs ++ L) hφ ⟨by rw [e1]; exact hP, ⟨hD.1, fun i q h => sh _ (hD.2 i q h)⟩, ⟨Nat.le_trans hS.1 (by rw [e1]; exact hz), fun q h1 h2 => by rw [e1, hk q (Nat.lt_of_lt_of_le h1 hS.1) (fun z => h2 (sh q z))]; exact hS.2.1 q h1 h2, fun q hq => by
      rcases List.mem_append.mp hq with h | h
      · exact hS.2.2 q h
      · exact sh _ (hL q h)⟩, hTm⟩ T' rfl X'
  exact ⟨t2, st t2 a1, b1⟩
theorem zPc.hereG {av : List Value} (C : zC p s m args c cc own nL Ω) (X : zX Ω μ A s.heap H locs) (U : State) (hU : U.heap = H) (hW : s.WarmedH U.vm) : zPc Ω av μ av.toArray U :=
  ⟨rfl, by rw [hU]; exact X.1, va_K.moved hW.alike C.2.2.2.2.2, zD_free X.2.1, X.2.2.2⟩
theorem z_callVG (C : zC p s m args c cc own nL Ω) (X : zX Ω μ A s.heap H locs) {C0 : String} {T : u_T} {N ci index n maxL d : Nat} {ty : Nat → FieldType} (K : zCl ci C0 T N ty) (hk : k ∈ Ω.2.2.1.1) (hs : zsh k = (10 + ci, N)) {y : MethodName} {bytes : ByteArray} {ret : Option FieldType} {As : List Value} {rv : Option Value} {φ : Prop} {st : List Value}
    (hM : XMet l y bytes maxL ret d Ω (zR Ω k :: As) μ rv φ μ')
    (hw : zcal y bytes maxL ret C0 n) (hml : Cond.methodLink own index y ∈ lw_tbl) (hR : d + 1 + 1 ≤ R.frames ∧ 8 + (maxL + 11) + (60 * d + 60) ≤ R.locals)
    (hn : As.length = n) (hsize : ls.size = nL) (hstack : st = As.reverse ++ zR Ω k :: rest) (hroom : (rest.map fun v => v.category).sum ≤ 8) (hdg : decode cc pc = .ok (.invokevirtual index, 3)) (hc : cells ≤ R.cells ∧ slots ≤ R.slots)
    (kk : ∀ (H1 : Heap) (locs1 : List Loc), φ → zX Ω μ' A s.heap H1 locs1 → W p l e R s m args below meth c H1 locs1 cells slots Q (F0 m (pc + 3) ls (rv.toList ++ rest))) : W p l e R s m args below meth c H locs cells slots Q (F0 m pc ls st) := by
  have hG : GoodIn zgd (wsV own index C0 y (Cond.code y bytes maxL ret :: zgd)) := by
    refine zgapp (fun w h => ?_) (zgoodT (zg hw.1.1 rfl))
    have h0 : w ∈ zgd := by
      simp only [List.mem_cons, List.not_mem_nil, or_false] at h
      rcases h with h | h | h | h <;> subst h
      · exact zg hml rfl
      · exact zg hw.1.2.1 rfl
      · exact zg hw.1.2.2.1 rfl
      · exact zg hw.1.2.2.2 rfl
    exact ⟨h0, good_of_word (List.mem_filter.mp h0).2⟩
  obtain ⟨q, -, hq⟩ := zws_at (μ := μ) hk
  rw [zat_obj hs] at hq
  refine z_afterG X (va_runV (As := As) (b := Ω.2.2.2 k) (nL := nL) ⟨C.1, C.2.1, C.2.2.1, C.2.2.2.1, C.2.2.2.2.1⟩ hM (cwV n C.2.2.2.2.1 hG rfl rfl rfl hw.2 hR) ⟨zblind _ _ _, va_recv C.2.2.2.2.2 X.1 (ci := ci) (q0 := q) K.2.1 hq, fun U hU hW => zPc.hereG C X U hU hW⟩ rfl hn hsize hstack (lv_room hroom) hdg ⟨hc.1, hc.2⟩) kk
theorem z_callSG (C : zC p s m args c cc own nL Ω) (X : zX Ω μ A s.heap H locs) {index n maxL d : Nat} {y : MethodName} {bytes : ByteArray} {ret : Option FieldType} {As : List Value} {rv : Option Value} {φ : Prop} {st : List Value}
    (hM : XMet l y bytes maxL ret d Ω As μ rv φ μ')
    (hw : zcas y bytes maxL ret n) (hml : Cond.methodLink own index y ∈ lw_tbl) (hR : d + 1 + 1 ≤ R.frames ∧ 8 + (maxL + 11) + (60 * d + 60) ≤ R.locals)
    (hn : As.length = n) (hsize : ls.size = nL) (hstack : st = As.reverse ++ rest) (hroom : (rest.map fun v => v.category).sum ≤ 8) (hdg : decode cc pc = .ok (.invokestatic index, 3)) (hc : cells ≤ R.cells ∧ slots ≤ R.slots)
    (kk : ∀ (H1 : Heap) (locs1 : List Loc), φ → zX Ω μ' A s.heap H1 locs1 → W p l e R s m args below meth c H1 locs1 cells slots Q (F0 m (pc + 3) ls (rv.toList ++ rest))) : W p l e R s m args below meth c H locs cells slots Q (F0 m pc ls st) := by
  have hG : GoodIn zgd (va_wsS own index y (Cond.code y bytes maxL ret :: zgd)) := by
    refine zgapp (fun w h => ?_) (zgoodT (zg hw.1.1 rfl))
    have h0 : w ∈ zgd := by
      simp only [List.mem_cons, List.not_mem_nil, or_false] at h
      rcases h with h | h | h <;> subst h
      · exact zg hml rfl
      · exact zg hw.1.2.1 rfl
      · exact zg hw.1.2.2 rfl
    exact ⟨h0, good_of_word (List.mem_filter.mp h0).2⟩
  refine z_afterG X (va_runS (As := As) (nL := nL) ⟨C.1, C.2.1, C.2.2.1, C.2.2.2.1, C.2.2.2.2.1⟩ hM (va_cwS n C.2.2.2.2.1 hG rfl rfl rfl hw.2 hR) ⟨zblind _ _ _, fun U hU hW => zPc.hereG C X U hU hW⟩ rfl hn hsize hstack (lv_room hroom) hdg ⟨hc.1, hc.2⟩) kk
/-! constructors -/
/-- a world grown: cells nw more, cm complete -/
def zgr (Ω : zO) (nw cm : List Int) (ad : Int → Nat) : zO := (Ω.1, Ω.2.1, (Ω.2.2.1.1 ++ nw, Ω.2.2.1.2 ++ cm), ad)
def zfrN (Ω : zO) (sz : Nat) : Nat → Prop := fun q => zfree Ω q ∨ sz ≤ q
def zrmN (d mc ms : Nat) : Room := { frames := d + 1, cells := mc, slots := ms, locals := 60 * d + 60 }
def zPn (Ω : zO) (av : List Value) (μ : zMem) (sz : Nat) : Array Value → State → Prop := fun a U => a = av.toArray ∧ U.heap.size = sz ∧ va_P Ω.1 vwCl (zws Ω μ) U.heap ∧ va_K Ω.1 vwCl (ztys Ω) U ∧ va_D (zfrN Ω sz) (zws Ω μ) ∧ zT Ω.2.2.1 μ
def zQn (Ω : zO) (nw cm : List Int) (μ' : zMem) (sz : Nat) : Array Value → State → Outcome → State → Prop := fun _ st o t => o = .returned none ∧ (∃ ad : Int → Nat, (∀ k ∈ Ω.2.2.1.1, ad k = Ω.2.2.2 k) ∧ va_P Ω.1 vwCl (zws (zgr Ω nw cm ad) μ') t.heap ∧ va_D (zfrN Ω sz) (zws (zgr Ω nw cm ad) μ') ∧ zT (Ω.2.2.1.1 ++ nw, Ω.2.2.1.2 ++ cm) μ') ∧ va_F (zfrN Ω sz) st t
/-- a constructor: called with av in memory μ it makes cells nw, cm are complete, and leaves memory μ' -/
def XCon (l : Launch) (y : MethodName) (cc : ByteArray) (nL d : Nat) (Ω : zO) (av : List Value) (μ : zMem) (nw cm : List Int) (μ' : zMem) (sz mc ms : Nat) : Prop :=
  Met l y (Cond.code y cc nL none :: zgd) (zrmN d mc ms) (zPn Ω av μ sz) (zQn Ω nw cm μ' sz) mc ms (zfrN Ω sz)
theorem zblindN (Ω : zO) (av : List Value) (μ : zMem) (sz : Nat) : FrameBlind (zPn Ω av μ sz) := fun a U g mk q => by
  obtain ⟨q0, q1, qP, qK, qD, qT⟩ := q
  exact ⟨q0, q1, qP, va_K.moved (u := U) (U := U.calling g mk a) (Vm.Alike.refl U.vm) qK, qD, qT⟩
theorem XCon.of {y : MethodName} {d sz mc ms : Nat} {av : List Value} {nw cm : List Int} (hy : plainName y.cls = true) (hi : y.name = "<init>") (hlen : (lg_sl av).length ≤ nL)
    (body : ∀ (p : Program) (e : Env) (s : State) (m : MethodId) (args : Array Value) (below : List Frame) (meth : Method) (c : Code) (ls : Array Slot) (A : Nat → Prop) (Q : State → Prop), zC p s m args c cc y.cls nL Ω → meth.name = "<init>" → (∀ q : Nat, s.heap.size ≤ q → A q) → zX Ω μ A s.heap s.heap [] → lv_has ls nL (lv_args 0 av) →
      (∀ {H : Heap} {locs : List Loc} {pc : Nat} {ls : Array Slot} {cells slots : Nat} (ad : Int → Nat), (∀ k ∈ Ω.2.2.1.1, ad k = Ω.2.2.2 k) → zX (zgr Ω nw cm ad) μ' A s.heap H locs → cells ≤ mc → slots ≤ ms → decode cc pc = .ok (.return_, 1) → W p l e (zrmN d mc ms) s m args below meth c H locs cells slots Q (F0 m pc ls [])) →
      W p l e (zrmN d mc ms) s m args below meth c s.heap [] 0 0 Q (F0 m 0 ls [])) : XCon l y cc nL d Ω av μ nw cm μ' sz mc ms := by
  refine Met.ofW (cc := cc) (maxL := nL) (ret := none) hy rfl ?_
  intro p e s m args below meth c s₁ B hml hv
  obtain ⟨rfl, hsz, hP, hK, hD, hT⟩ := hv
  have hl := lv_entry av (n := nL) hlen
  rw [lg_entry_eq]
  have hts := atoms_spec (ws := Cond.code y cc nL none :: zgd) B.pre
  have hin : meth.name = "<init>" := (name_of_methodNamed B.named B.method).1.trans hi
  have hk := B.notSynchronized
  have hr := B.returns
  refine body p e s m _ below meth c _ (zfrN Ω sz) _ ⟨B.exec, B.bytes, hml, findClass_of_methodNamed B.named, fun w hw => hts w (List.mem_cons_of_mem _ hw), hK⟩ hin (fun q hq => Or.inr (by rw [← hsz]; exact hq)) ⟨hP, hD, va_S.rf, hT⟩ hl ?_
  intro H locs pc ls cells slots ad h1 X h2 h3 hd
  refine W.widen (k := mc) (n := ms) h2 h3 ?_
  exact W.vret B.exec B.bytes hr (fun t ht hW => ⟨rfl, ⟨ad, h1, by rw [ht]; exact X.1, X.2.1, X.2.2.2⟩, X.2.2.1.F ht⟩) X.2.2.1.2.2 hd hk
/-- a constructor is called -/
theorem z_callI (C : zC p s m args c cc own nL Ω) (X : zX Ω μ A s.heap H locs) (hA : ∀ q : Nat, s.heap.size ≤ q → A q) {index n maxL d mc ms : Nat} {y : MethodName} {bytes : ByteArray} {As : List Value} {st : List Value} {nw cm : List Int}
    (hM : XCon l y bytes maxL d Ω (zR Ω k :: As) μ nw cm μ' H.size mc ms)
    (hcode : Cond.code y bytes maxL none ∈ lw_tbl) (hini : Cond.initialized y.cls ∈ lw_tbl) (hin : Cond.instanceMethod y ∈ lw_tbl) (hml : Cond.methodLink own index y ∈ lw_tbl) (hy1 : y.name = "<init>") (hd : y.cls ≠ "java/lang/invoke/MethodHandle" ∧ y.cls ≠ "java/lang/invoke/VarHandle" ∧ (parseMethodDescriptor y.desc).map (fun d => d.parameters.length) = some n) (hR : d + 1 + 1 ≤ R.frames ∧ 8 + (maxL + 11) + (60 * d + 60) ≤ R.locals)
    (hn : As.length = n) (hsize : ls.size = nL) (hstack : st = As.reverse ++ zR Ω k :: rest) (hroom : (rest.map fun v => v.category).sum ≤ 8) (hdg : decode cc pc = .ok (.invokespecial index, 3)) (hc : cells + mc ≤ R.cells ∧ slots + ms ≤ R.slots)
    (kk : ∀ (ad : Int → Nat) (H1 : Heap) (locs1 : List Loc), (∀ k ∈ Ω.2.2.1.1, ad k = Ω.2.2.2 k) → zX (zgr Ω nw cm ad) μ' A s.heap H1 locs1 → W p l e R s m args below meth c H1 locs1 (cells + mc) (slots + ms) Q (F0 m (pc + 3) ls rest)) : W p l e R s m args below meth c H locs cells slots Q (F0 m pc ls st) := by
  have hr := va_runI (p := p) (l := l) (e := e) (R := R) (below := below) (meth := meth) (locs := locs) (cells := cells) (slots := slots) (As := As) (rest := rest) (b := Ω.2.2.2 k) (nL := nL) (g := F0 m pc ls st) (H := H) ⟨C.1, C.2.1, C.2.2.1, C.2.2.2.1, C.2.2.2.2.1⟩ hM (cwI n C.2.2.2.2.1 (zgoodT (zg hcode rfl)) rfl rfl rfl (C.2.2.2.2.1 _ (zg hini rfl)) (C.2.2.2.2.1 _ (zg hml rfl)) (C.2.2.2.2.1 _ (zg hin rfl)) hy1 hd hR) ⟨zblindN _ _ _ _, fun U hU hW => ⟨rfl, by rw [hU], by rw [hU]; exact X.1, va_K.moved hW.alike C.2.2.2.2.2, ⟨(zD_free X.2.1).1, fun i q h => Or.inl ((zD_free X.2.1).2 i q h)⟩, X.2.2.2⟩⟩ rfl hn hsize hstack (lv_room hroom) hdg hc
  have hS := X.2.2.1
  have sh : ∀ q, zfrN Ω H.size q → A q := fun q h => h.elim (X.sh q) (fun z => hA q (Nat.le_trans hS.1 z))
  intro T hT X0
  obtain ⟨v, st₀, t, T', L, h0, X', hL, e1, e2, ⟨hv, ⟨ad, g1, g2, g3, g4⟩, hz, hk⟩, st⟩ := hr T hT X0
  cases hv
  rw [h0] at hz hk
  obtain ⟨t2, a1, b1⟩ := kk ad T'.heap (locs ++ L) g1 ⟨by rw [e1]; exact g2, ⟨g3.1, fun i q h => sh _ (g3.2 i q h)⟩, ⟨Nat.le_trans hS.1 (by rw [e1]; exact hz), fun q h1 h2 => by rw [e1, hk q (Nat.lt_of_lt_of_le h1 hS.1) (fun z => h2 (sh q z))]; exact hS.2.1 q h1 h2, fun q hq => by
      rcases List.mem_append.mp hq with h | h
      · exact hS.2.2 q h
      · exact sh _ (hL q h)⟩, g4⟩ T' rfl X'
  exact ⟨t2, st t2 a1, b1⟩
theorem z_objI (C : zC p s m args c cc own nL Ω) {index : Nat} {a : Nat} (hl : Cond.methodLink own index Lib.objectInit ∈ lw_tbl) (hsize : ls.size = nL) (hd : decode cc pc = .ok (.invokespecial index, 3)) (hR : 1 ≤ R.frames ∧ 20 ≤ R.locals) (hroom : (rest.map fun v => v.category).sum ≤ 8)
    (kk : W p l e R s m args below meth c H locs cells slots Q (F0 m (pc + 3) ls rest)) : W p l e R s m args below meth c H locs cells slots Q (F0 m pc ls (Value.ref a :: rest)) := by
  refine W.objInit C.1 C.2.1 C.2.2.2.1 (C.2.2.2.2.1 _ (zg hl rfl)) (C.2.2.2.2.1 _ (zg kw_21 rfl)) (C.2.2.2.2.1 _ (zg kw_22 rfl)) rfl (hsize.trans C.2.2.1.symm) rfl hd hR.1 ?_ kk
  have h0 : 2 * (F0 m pc ls (Value.ref a :: rest)).monitorRoom = 0 := rfl
  rw [h0]
  omega
end ZG
/-! complete -/
theorem zob_fin {ids : List Int × List Int} {cm : List Int} {r : Int} {ci : Nat} (h : zob ids ci r) : zob (ids.1, ids.2 ++ cm) ci r := ⟨h.1, h.2.1, List.mem_append_left _ h.2.2⟩
theorem zT_fin {ids : List Int × List Int} {μ : zMem} {cm : List Int} (hT : zT ids μ) (hf : ∀ k ∈ cm, ∀ i : Int, 0 ≤ i → 9 ≤ (zsh k).1 → (zfk ((zsh k).1 - 10) i.toNat).1 = 3 → μ k i = k + (zfk ((zsh k).1 - 10) i.toNat).2) : zT (ids.1, ids.2 ++ cm) μ := by
  intro k hk i
  have h := hT k hk i
  have h2 := fun hc => hf k hc i
  unfold zok at h ⊢
  generalize zsh k = a at *
  match a, h, h2 with
  | (0, _), h, h2 => trivial
  | (1, _), h, h2 => exact h
  | (2, _), h, h2 => exact h
  | (3, _), h, h2 => exact h
  | (4, _), h, h2 => exact h
  | (5, _), h, h2 => exact h.imp id zob_fin
  | (6, _), h, h2 => exact h.imp id zob_fin
  | (7, _), h, h2 => exact h.imp id zob_fin
  | (8, _), h, h2 => exact h.imp id zob_fin
  | (n + 9, _), h, h2 =>
    simp only at h h2 ⊢
    split at h
    · exact h
    · exact h
    · exact h
    · rename_i hq
      refine ⟨h.1, fun i0 hm => ?_⟩
      rcases List.mem_append.mp hm with z | z
      · exact h.2 i0 z
      · exact h2 z i0 (by omega) hq
    · exact h.imp id zob_fin
theorem zX_fin {Ω : zO} {μ : zMem} {A : Nat → Prop} {H0 H : Heap} {locs : List Loc} {cm : List Int} (X : zX Ω μ A H0 H locs) (hf : ∀ k ∈ cm, ∀ i : Int, 0 ≤ i → 9 ≤ (zsh k).1 → (zfk ((zsh k).1 - 10) i.toNat).1 = 3 → μ k i = k + (zfk ((zsh k).1 - 10) i.toNat).2) : zX (Ω.1, Ω.2.1, (Ω.2.2.1.1, Ω.2.2.1.2 ++ cm), Ω.2.2.2) μ A H0 H locs := ⟨X.1, X.2.1, X.2.2.1, zT_fin X.2.2.2 hf⟩
