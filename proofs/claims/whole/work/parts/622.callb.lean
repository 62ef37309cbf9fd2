/-! LoopSpaces' constructor is called -/
section ZI
variable {p : Program} {l : Launch} {e : Env} {R : Room} {s : State} {m : MethodId} {args : Array Value} {below : List Frame} {meth : Method} {c : Code} {H : Heap} {locs : List Loc} {cells slots : Nat} {Q : State → Prop}
variable {cc : ByteArray} {pc : Nat} {ls : Array Slot} {rest : List Value} {own : String} {nL : Nat} {w : zO} {μ μ' : zMem} {k : Int} {A : Nat → Prop}
/-- a constructor that asks zSd, too, is called -/
theorem y_callIB (hsd : zSd s) (C : zC p s m args c cc own nL w) (X : zX w μ A s.heap H locs) (hA : ∀ q : Nat, s.heap.size ≤ q → A q) {index n maxL d mc ms : Nat} {y : MethodName} {bytes : ByteArray} {As : List Value} {st : List Value} {nw cm : List Int}
    (hM : XConB zSd l y bytes maxL d w (zR w k :: As) μ nw cm μ' H.size mc ms)
    (hcode : Cond.code y bytes maxL none ∈ lw_tbl) (hini : Cond.initialized y.cls ∈ lw_tbl) (hin : Cond.instanceMethod y ∈ lw_tbl) (hml : Cond.methodLink own index y ∈ lw_tbl) (hy1 : y.name = "<init>") (hd : y.cls ≠ "java/lang/invoke/MethodHandle" ∧ y.cls ≠ "java/lang/invoke/VarHandle" ∧ (parseMethodDescriptor y.desc).map (fun d => d.parameters.length) = some n) (hR : d + 1 + 1 ≤ R.frames ∧ 8 + (maxL + 11) + (60 * d + 60) ≤ R.locals)
    (hn : As.length = n) (hsize : ls.size = nL) (hstack : st = As.reverse ++ zR w k :: rest) (hroom : (rest.map fun v => v.category).sum ≤ 8) (hdg : decode cc pc = .ok (.invokespecial index, 3)) (hc : cells + mc ≤ R.cells ∧ slots + ms ≤ R.slots)
    (kk : ∀ (w1 : zO) (H1 : Heap) (locs1 : List Loc), Grw w w1 nw cm → zC p s m args c cc own nL w1 → zX w1 μ' A s.heap H1 locs1 → W p l e R s m args below meth c H1 locs1 (cells + mc) (slots + ms) Q (F0 m (pc + 3) ls rest)) : W p l e R s m args below meth c H locs cells slots Q (F0 m pc ls st) := by
  have hr := va_runI (p := p) (l := l) (e := e) (R := R) (below := below) (meth := meth) (locs := locs) (cells := cells) (slots := slots) (As := As) (rest := rest) (b := w.2.2.2 k) (nL := nL) (g := F0 m pc ls st) (H := H) ⟨C.1, C.2.1, C.2.2.1, C.2.2.2.1, C.2.2.2.2.1⟩ hM (cwI n C.2.2.2.2.1 (zgoodT (zg hcode rfl)) rfl rfl rfl (C.2.2.2.2.1 _ (zg hini rfl)) (C.2.2.2.2.1 _ (zg hml rfl)) (C.2.2.2.2.1 _ (zg hin rfl)) hy1 hd hR) ⟨zblindB _ _ _ _, fun U hU hW => ⟨⟨rfl, by rw [hU], by rw [hU]; exact X.1, va_K.moved hW.alike C.2.2.2.2.2, ⟨(zD_free X.2.1).1, fun i q h => Or.inl ((zD_free X.2.1).2 i q h)⟩, X.2.2.2⟩, hsd.warm hW⟩⟩ rfl hn hsize hstack (lv_room hroom) hdg hc
  have hS := X.2.2.1
  have sh : ∀ q, zfrN w H.size q → A q := fun q h => h.elim (X.sh q) (fun z => hA q (Nat.le_trans hS.1 z))
  intro T hT X0
  obtain ⟨v, st₀, t, T', L, h0, X', hL, e1, e2, ⟨hv, ⟨ad, g1, g2, g3, g4⟩, hz, hk⟩, st⟩ := hr T hT X0
  cases hv
  rw [h0] at hz hk
  obtain ⟨t2, a1, b1⟩ := kk (zgr w nw cm ad) T'.heap (locs ++ L) (Grw.gr g1) C ⟨by rw [e1]; exact g2, ⟨g3.1, fun i q h => sh _ (g3.2 i q h)⟩, ⟨Nat.le_trans hS.1 (by rw [e1]; exact hz), fun q h1 h2 => by rw [e1, hk q (Nat.lt_of_lt_of_le h1 hS.1) (fun z => h2 (sh q z))]; exact hS.2.1 q h1 h2, fun q hq => by
      rcases List.mem_append.mp hq with h | h
      · exact hS.2.2 q h
      · exact sh _ (hL q h)⟩, g4⟩ T' rfl X'
  exact ⟨t2, st t2 a1, b1⟩
end ZI
