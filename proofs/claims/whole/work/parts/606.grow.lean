/-! worlds that grow, with names of their own -/
def Grw (w w1 : zO) (nw cm : List Int) : Prop := w1.1 = w.1 ∧ w1.2.1 = w.2.1 ∧ w1.2.2.1 = (w.2.2.1.1 ++ nw, w.2.2.1.2 ++ cm) ∧ ∀ k ∈ w.2.2.1.1, w1.2.2.2 k = w.2.2.2 k
theorem Grw.rf (w : zO) : Grw w w [] [] := ⟨rfl, rfl, by rw [List.append_nil, List.append_nil], fun _ _ => rfl⟩
theorem Grw.mem {w w1 : zO} {nw cm : List Int} (G : Grw w w1 nw cm) {k : Int} (h : k ∈ nw) : k ∈ w1.2.2.1.1 := by rw [G.2.2.1]; exact List.mem_append_right _ h
theorem Grw.old {w w1 : zO} {nw cm : List Int} (G : Grw w w1 nw cm) {k : Int} (h : k ∈ w.2.2.1.1) : k ∈ w1.2.2.1.1 := by rw [G.2.2.1]; exact List.mem_append_left _ h
theorem Grw.nm {w w1 : zO} {nw cm : List Int} (G : Grw w w1 nw cm) {k : Int} (h : k ∉ w.2.2.1.1) (h' : k ∉ nw) : k ∉ w1.2.2.1.1 := by rw [G.2.2.1]; exact fun z => (List.mem_append.mp z).elim h h'
theorem Grw.nf {w w1 : zO} {nw cm : List Int} (G : Grw w w1 nw cm) {k : Int} (h : k ∉ w.2.2.1.2) (h' : k ∉ cm) : k ∉ w1.2.2.1.2 := by rw [G.2.2.1]; exact fun z => (List.mem_append.mp z).elim h h'
theorem Grw.fin {w w1 : zO} {nw cm : List Int} (G : Grw w w1 nw cm) {k : Int} (h : k ∈ cm) : k ∈ w1.2.2.1.2 := by rw [G.2.2.1]; exact List.mem_append_right _ h
theorem Grw.tr {a b c : zO} {n1 n2 n c1 c2 cm : List Int} (G : Grw a b n1 c1) (G' : Grw b c n2 c2) (hn : n1 ++ n2 = n) (hc : c1 ++ c2 = cm) : Grw a c n cm := by
  refine ⟨G'.1.trans G.1, G'.2.1.trans G.2.1, ?_, fun k hk => (G'.2.2.2 k (G.old hk)).trans (G.2.2.2 k hk)⟩
  rw [G'.2.2.1, G.2.2.1, ← hn, ← hc]
  simp only [List.append_assoc]
theorem Grw.ref {w w1 : zO} {nw cm : List Int} (G : Grw w w1 nw cm) {k : Int} (h : k ∈ w.2.2.1.1) : zR w k = zR w1 k := congrArg Value.ref (G.2.2.2 k h).symm
theorem Grw.eq {w w1 : zO} {nw cm : List Int} (G : Grw w w1 nw cm) : w1 = zgr w nw cm w1.2.2.2 := Prod.ext G.1 (Prod.ext G.2.1 (Prod.ext G.2.2.1 rfl))
theorem Grw.ob {w w1 : zO} {nw cm : List Int} (G : Grw w w1 nw cm) {ci : Nat} {r : Int} (h1 : (zsh r).1 = 10 + ci) (h2 : ∀ j : Int, 0 ≤ j → j < zsz ci → r + j ∈ nw) (h3 : r ∈ cm) : zob w1.2.2.1 ci r := ⟨h1, fun j a b => G.mem (h2 j a b), G.fin h3⟩
theorem cons2 {a b : Value} {x y : List Value} (h : a = b) (t : x = y) : a :: x = b :: y := by rw [h, t]
section ZY
variable {p : Program} {l : Launch} {e : Env} {R : Room} {s : State} {m : MethodId} {args : Array Value} {below : List Frame} {meth : Method} {c : Code} {H : Heap} {locs : List Loc} {cells slots : Nat} {Q : State → Prop}
variable {cc : ByteArray} {pc : Nat} {ls : Array Slot} {rest : List Value} {own : String} {nL : Nat} {w : zO} {μ μ' : zMem} {k n : Int} {A : Nat → Prop} {N : Nat}
theorem Grw.C {w1 : zO} {nw cm : List Int} (G : Grw w w1 nw cm) (C : zC p s m args c cc own nL w) : zC p s m args c cc own nL w1 := by
  rw [G.eq]
  exact C
theorem W.st {st st' : List Value} (h : st = st') (kk : W p l e R s m args below meth c H locs cells slots Q (F0 m pc ls st')) : W p l e R s m args below meth c H locs cells slots Q (F0 m pc ls st) := h ▸ kk
theorem Grw.add (w : zO) {k : Int} (q : Nat) (hk : k ∉ w.2.2.1.1) : Grw w (zadd w k q) [k] [] := ⟨rfl, rfl, by rw [List.append_nil]; rfl, fun j hj => by
  show (if j = k then q else w.2.2.2 j) = _
  rw [if_neg (fun (z : j = k) => hk (z ▸ hj))]⟩
theorem y_newI (C : zC p s m args c cc own nL w) {H0 : Heap} (X : zX w μ A H0 H locs) (hA : ∀ q : Nat, H0.size ≤ q → A q) {atype : ArrayType} (kd : Nat) (hkd : kd = 1 ∨ kd = 3 ∨ kd = 4) {ty : FieldType} (hty : newarray.typeOf atype = ty) (hdef : defaultValue ty = .int 0) (hwd : Cond.arrayClass (newarray.typeOf atype) ∈ lw_tbl) (ht : (ztys w)[kd]? = some (w.2.1 kd, ty)) (k : Int) (hk : k ∉ w.2.2.1.1) (hkf : k ∉ w.2.2.1.2) (hs : zsh k = (kd, N)) (hz : ∀ i, μ k i = 0) (hn : n = (N : Int)) (hby : N * componentBytes ty ≤ 536870912) (hcells : cells + 1 ≤ R.cells) (hslots : slots + N ≤ R.slots) (hd : decode cc pc = .ok (.newarray atype, 2))
    (kk : ∀ (w1 : zO) (H1 : Heap), Grw w w1 [k] [] → zC p s m args c cc own nL w1 → zX w1 μ A H0 H1 locs → W p l e R s m args below meth c H1 locs (cells + 1) (slots + N) Q (F0 m (pc + 2) ls (zR w1 k :: rest))) : W p l e R s m args below meth c H locs cells slots Q (F0 m pc ls (zI n :: rest)) :=
  z_newI C X hA kd hkd hty hdef hwd ht k hk hkf hs hz hn hby hcells hslots hd (fun q H1 X1 => kk _ H1 (Grw.add w q hk) C X1)
theorem y_newL (C : zC p s m args c cc own nL w) {H0 : Heap} (X : zX w μ A H0 H locs) (hA : ∀ q : Nat, H0.size ≤ q → A q) {atype : ArrayType} (kd : Nat) (hkd : kd = 2) {ty : FieldType} (hty : newarray.typeOf atype = ty) (hdef : defaultValue ty = .long 0) (hwd : Cond.arrayClass (newarray.typeOf atype) ∈ lw_tbl) (ht : (ztys w)[kd]? = some (w.2.1 kd, ty)) (k : Int) (hk : k ∉ w.2.2.1.1) (hkf : k ∉ w.2.2.1.2) (hs : zsh k = (kd, N)) (hz : ∀ i, μ k i = 0) (hn : n = (N : Int)) (hby : N * componentBytes ty ≤ 536870912) (hcells : cells + 1 ≤ R.cells) (hslots : slots + N ≤ R.slots) (hd : decode cc pc = .ok (.newarray atype, 2))
    (kk : ∀ (w1 : zO) (H1 : Heap), Grw w w1 [k] [] → zC p s m args c cc own nL w1 → zX w1 μ A H0 H1 locs → W p l e R s m args below meth c H1 locs (cells + 1) (slots + N) Q (F0 m (pc + 2) ls (zR w1 k :: rest))) : W p l e R s m args below meth c H locs cells slots Q (F0 m pc ls (zI n :: rest)) :=
  z_newL C X hA kd hkd hty hdef hwd ht k hk hkf hs hz hn hby hcells hslots hd (fun q H1 X1 => kk _ H1 (Grw.add w q hk) C X1)
theorem y_newO (C : zC p s m args c cc own nL w) {H0 : Heap} (X : zX w μ A H0 H locs) (hA : ∀ q : Nat, H0.size ≤ q → A q) {C0 : String} {T : u_T} {ci index : Nat} {ty : Nat → FieldType} (K : zCl ci C0 T N ty) (hcl : Cond.classLink own index C0 ∈ lw_tbl) (hin : Cond.instantiable C0 N ∈ lw_tbl) (hini : Cond.initialized C0 ∈ lw_tbl) (hfs : ∀ j, j < N → defaultValue (ty j) = zdv ci j) (k : Int) (hk : k ∉ w.2.2.1.1) (hkf : k ∉ w.2.2.1.2) (hs : zsh k = (10 + ci, N)) (hz : ∀ i, μ k i = 0) (hcells : cells + 1 ≤ R.cells) (hslots : slots + N ≤ R.slots) (hd : decode cc pc = .ok (.new index, 3))
    (kk : ∀ (w1 : zO) (H1 : Heap), Grw w w1 [k] [] → zC p s m args c cc own nL w1 → zX w1 μ A H0 H1 locs → W p l e R s m args below meth c H1 locs (cells + 1) (slots + N) Q (F0 m (pc + 3) ls (zR w1 k :: rest))) : W p l e R s m args below meth c H locs cells slots Q (F0 m pc ls rest) :=
  z_newO C X hA K hcl hin hini hfs k hk hkf hs hz hcells hslots hd (fun q H1 X1 => kk _ H1 (Grw.add w q hk) C X1)
theorem y_newQ (C : zC p s m args c cc own nL w) {H0 : Heap} (X : zX w μ A H0 H locs) (hA : ∀ q : Nat, H0.size ≤ q → A q) {C0 : String} {index : Nat} (kd : Nat) (hkd : kd = 5 ∨ kd = 6 ∨ kd = 7 ∨ kd = 8) (hcl : Cond.classLink own index C0 ∈ lw_tbl) (hov : va_AO C0 s) (ht : (ztys w)[kd]? = some (w.2.1 kd, .object C0)) (k : Int) (hk : k ∉ w.2.2.1.1) (hkf : k ∉ w.2.2.1.2) (hs : zsh k = (kd, N)) (hz : ∀ i, μ k i = 0) (hn : n = (N : Int)) (hby : N * 4 ≤ 536870912) (hcells : cells + 1 ≤ R.cells) (hslots : slots + N ≤ R.slots) (hd : decode cc pc = .ok (.anewarray index, 3))
    (kk : ∀ (w1 : zO) (H1 : Heap), Grw w w1 [k] [] → zC p s m args c cc own nL w1 → zX w1 μ A H0 H1 locs → W p l e R s m args below meth c H1 locs (cells + 1) (slots + N) Q (F0 m (pc + 3) ls (zR w1 k :: rest))) : W p l e R s m args below meth c H locs cells slots Q (F0 m pc ls (zI n :: rest)) :=
  z_newQ C X hA kd hkd hcl hov ht k hk hkf hs hz hn hby hcells hslots hd (fun q H1 X1 => kk _ H1 (Grw.add w q hk) C X1)
theorem Grw.gr {nw cm : List Int} {ad : Int → Nat} (h : ∀ k ∈ w.2.2.1.1, ad k = w.2.2.2 k) : Grw w (zgr w nw cm ad) nw cm := ⟨rfl, rfl, rfl, h⟩
theorem y_callI (C : zC p s m args c cc own nL w) (X : zX w μ A s.heap H locs) (hA : ∀ q : Nat, s.heap.size ≤ q → A q) {index n maxL d mc ms : Nat} {y : MethodName} {bytes : ByteArray} {As : List Value} {st : List Value} {nw cm : List Int}
    (hM : XCon l y bytes maxL d w (zR w k :: As) μ nw cm μ' H.size mc ms)
    (hcode : Cond.code y bytes maxL none ∈ lw_tbl) (hini : Cond.initialized y.cls ∈ lw_tbl) (hin : Cond.instanceMethod y ∈ lw_tbl) (hml : Cond.methodLink own index y ∈ lw_tbl) (hy1 : y.name = "<init>") (hd : y.cls ≠ "java/lang/invoke/MethodHandle" ∧ y.cls ≠ "java/lang/invoke/VarHandle" ∧ (parseMethodDescriptor y.desc).map (fun d => d.parameters.length) = some n) (hR : d + 1 + 1 ≤ R.frames ∧ 8 + (maxL + 11) + (60 * d + 60) ≤ R.locals)
    (hn : As.length = n) (hsize : ls.size = nL) (hstack : st = As.reverse ++ zR w k :: rest) (hroom : (rest.map fun v => v.category).sum ≤ 8) (hdg : decode cc pc = .ok (.invokespecial index, 3)) (hc : cells + mc ≤ R.cells ∧ slots + ms ≤ R.slots)
    (kk : ∀ (w1 : zO) (H1 : Heap) (locs1 : List Loc), Grw w w1 nw cm → zC p s m args c cc own nL w1 → zX w1 μ' A s.heap H1 locs1 → W p l e R s m args below meth c H1 locs1 (cells + mc) (slots + ms) Q (F0 m (pc + 3) ls rest)) : W p l e R s m args below meth c H locs cells slots Q (F0 m pc ls st) :=
  z_callI C X hA hM hcode hini hin hml hy1 hd hR hn hsize hstack hroom hdg hc (fun ad H1 locs1 h X1 => kk _ H1 locs1 (Grw.gr h) C X1)
/-- the same for a constructor that is private to a nest -/
theorem y_callIN (C : zC p s m args c cc own nL w) (X : zX w μ A s.heap H locs) (hA : ∀ q : Nat, s.heap.size ≤ q → A q) {index n maxL d mc ms : Nat} {y : MethodName} {bytes : ByteArray} {As : List Value} {st : List Value} {nw cm : List Int} {host : String}
    (hM : XCon l y bytes maxL d w (zR w k :: As) μ nw cm μ' H.size mc ms)
    (hcode : Cond.code y bytes maxL none ∈ lw_tbl) (hini : Cond.initialized y.cls ∈ lw_tbl) (hin : Cond.instanceMethod y ∈ lw_tbl) (hml : va_Nw (.methodLinkNest own index y host) s) (hy1 : y.name = "<init>") (hd : y.cls ≠ "java/lang/invoke/MethodHandle" ∧ y.cls ≠ "java/lang/invoke/VarHandle" ∧ (parseMethodDescriptor y.desc).map (fun d => d.parameters.length) = some n) (hR : d + 1 + 1 ≤ R.frames ∧ 8 + (maxL + 11) + (60 * d + 60) ≤ R.locals)
    (hn : As.length = n) (hsize : ls.size = nL) (hstack : st = As.reverse ++ zR w k :: rest) (hroom : (rest.map fun v => v.category).sum ≤ 8) (hdg : decode cc pc = .ok (.invokespecial index, 3)) (hc : cells + mc ≤ R.cells ∧ slots + ms ≤ R.slots)
    (kk : ∀ (w1 : zO) (H1 : Heap) (locs1 : List Loc), Grw w w1 nw cm → zC p s m args c cc own nL w1 → zX w1 μ' A s.heap H1 locs1 → W p l e R s m args below meth c H1 locs1 (cells + mc) (slots + ms) Q (F0 m (pc + 3) ls rest)) : W p l e R s m args below meth c H locs cells slots Q (F0 m pc ls st) := by
  have hr := va_runIN (p := p) (l := l) (e := e) (R := R) (below := below) (meth := meth) (locs := locs) (cells := cells) (slots := slots) (As := As) (rest := rest) (b := w.2.2.2 k) (nL := nL) (g := F0 m pc ls st) (H := H) ⟨C.1, C.2.1, C.2.2.1, C.2.2.2.1, C.2.2.2.2.1⟩ hM ⟨va_cnB n C.2.2.2.2.1 (zgoodT (zg hcode rfl)) rfl rfl rfl hml (C.2.2.2.2.1 _ (zg hini rfl)) hd hR, hy1, C.2.2.2.2.1 _ (zg hin rfl)⟩ ⟨zblindN _ _ _ _, fun U hU hW => ⟨rfl, by rw [hU], by rw [hU]; exact X.1, va_K.moved hW.alike C.2.2.2.2.2, ⟨(zD_free X.2.1).1, fun i q h => Or.inl ((zD_free X.2.1).2 i q h)⟩, X.2.2.2⟩⟩ rfl hn hsize hstack (lv_room hroom) hdg hc
  have hS := X.2.2.1
  have sh : ∀ q, zfrN w H.size q → A q := fun q h => h.elim (X.sh q) (fun z => hA q (Nat.le_trans hS.1 z))
  intro T hT X0
  obtain ⟨v, st₀, t, T', L, h0, X', hL, e1, e2, ⟨hv, ⟨ad, g1, g2, g3, g4⟩, hz, hk⟩, st⟩ := hr T hT X0
  cases hv
  rw [h0] at hz hk
  obtain ⟨t2, a1, b1⟩ := kk (zgr w nw cm ad) T'.heap (locs ++ L) (Grw.gr g1) C ⟨by rw [e1]; exact g2, ⟨g3.1, fun i q h => sh _ (g3.2 i q h)⟩, ⟨Nat.le_trans hS.1 (by rw [e1]; exact hz), fun q h1 h2 => by rw [e1, hk q (Nat.lt_of_lt_of_le h1 hS.1) (fun z => h2 (sh q z))]; exact hS.2.1 q h1 h2, fun q hq => by
      rcases List.mem_append.mp hq with h | h
      · exact hS.2.2 q h
      · exact sh _ (hL q h)⟩, g4⟩ T' rfl X'
  exact ⟨t2, st t2 a1, b1⟩
/-- cells become complete -/
theorem y_fin (C : zC p s m args c cc own nL w) {H0 : Heap} {cm : List Int} (X : zX w μ A H0 H locs) (hf : ∀ k ∈ cm, ∀ i : Int, 0 ≤ i → 9 ≤ (zsh k).1 → (zfk ((zsh k).1 - 10) i.toNat).1 = 3 → μ k i = k + (zfk ((zsh k).1 - 10) i.toNat).2) : ∃ w1 : zO, Grw w w1 [] cm ∧ zC p s m args c cc own nL w1 ∧ zX w1 μ A H0 H locs :=
  ⟨(w.1, w.2.1, (w.2.2.1.1, w.2.2.1.2 ++ cm), w.2.2.2), ⟨rfl, rfl, by rw [List.append_nil], fun _ _ => rfl⟩, C, zX_fin X hf⟩
end ZY
