/-! Math.floorMod(long, long): a class whose methods may be run by entries: walked by itself -/
def zfx (x y : Int64) : Int64 := if x ^^^ y < 0 then (if x - x / y * y = 0 then x - x / y * y else x - x / y * y + y) else x - x / y * y
theorem zf_row0 : (NativeRow.find? natives yJ9_floorMod_f86c9.cls yJ9_floorMod_f86c9.name yJ9_floorMod_f86c9.desc).isNone = true := by decide +kernel
theorem zf_row (p : Program) : NativeRow.find? p.tables.natives yJ9_floorMod_f86c9.cls yJ9_floorMod_f86c9.name yJ9_floorMod_f86c9.desc = none := by
  cases p <;> exact Option.isNone_iff_eq_none.mp zf_row0
def zf_spec (x y : Int64) : Spec where
  pre := .and (.code yJ9_floorMod_f86c9 cJ9_floorMod_f86c9 6 (some .long)) (.and (.count 2) (.and (.eq (.arg 0) (.long x)) (.eq (.arg 1) (.long y))))
  post := .and .returned (.eq .result (.long (zfx x y)))
  changes := some []
theorem zf_args {x y : Int64} {args : Array Value} {first s : State} {o : Option Outcome} {idx : List Nat} (h0 : (Cond.count 2).holds args first o s idx = true) (h1 : (Cond.eq (.arg 0) (.long x)).holds args first o s idx = true)
    (h2 : (Cond.eq (.arg 1) (.long y)).holds args first o s idx = true) : args = #[.long x, .long y] := by
  obtain ⟨l⟩ := args
  simp only [Cond.holds, Cond.value, Term.eval, List.size_toArray, beq_iff_eq, Option.some.injEq] at h0 h1 h2
  match l, h0 with
  | [a, b], _ =>
    cases a <;> simp at h1
    cases b <;> simp at h2
    rw [h1, h2]
set_option maxHeartbeats 4000000 in
set_option maxRecDepth 100000 in
theorem zf_meets (l : Launch) (x y : Int64) (hy : ¬ y = 0) : MeetsLoose l yJ9_floorMod_f86c9 (zf_spec x y) := by
  refine MeetsLoose.of_body_ov (code := cJ9_floorMod_f86c9) (maxLocals := 6) (ret := some .long) zf_row ?_ ?_
  · intro args s h
    simp only [zf_spec, Cond.before_and, Bool.and_eq_true] at h
    exact h.1
  · intro p e s m args below meth c s₁ B
    have hpre := B.pre
    simp only [zf_spec, Cond.before_and, Bool.and_eq_true] at hpre
    obtain rfl := zf_args hpre.2.1 hpre.2.2.1 hpre.2.2.2
    have hloc : argsToLocals #[.long x, .long y] 6 = #[.val (.long x), .second, .val (.long y), .second, .unset, .unset] := rfl
    have fin : ∀ r : Int64, (∀ fs, Steps p.tables e below (s₁.setTop (entryFrame m #[.long x, .long y] 6)) (s₁.setFrames fs) ∨ handOver s₁ (some (.long r)) below ≠ some fs) →
        ((zf_spec x y).post.after #[.long x, .long y] s (.returned (some (.long r))) = fun _ => true) →
        ∃ s₂ o, Steps p.tables e below (s₁.setTop (entryFrame m #[.long x, .long y] 6)) s₂ ∧ s₂.status = .running ∧ Ended s₂ below o ∧
          (zf_spec x y).ensures #[.long x, .long y] s o s₂ := by
      intro r hwalk hpost
      obtain ⟨fs, hfs⟩ := handOver_isSome (s := s₁) (some (.long r)) B.hears₁
      refine ⟨s₁.setFrames fs, .returned (some (.long r)), (hwalk fs).resolve_right (fun h => h hfs), B.here.running, B.ended hfs (by intro h; cases h), ?_, State.sameBut_nil.mpr ?_⟩
      · rw [hpost]
      · rw [State.frames_setFrames _ B.cur₁, B.back]
    refine fin (zfx x y) (fun fs => ?_) (by funext s'; simp [zf_spec, Cond.after, Cond.holds, Cond.value, Term.eval])
    by_cases hfs : handOver s₁ (some (.long (zfx x y))) below = some fs
    · left
      unfold entryFrame
      rw [hloc]
      refine Steps.instrAtOv (c := _) (by simpa using B.here) ?_
      simp [jvm, wpRun, exec, B.here.top, B.exec, B.bytes, dJ9_floorMod_f86c9_0]
      refine Steps.instrAtOv (c := _) (by simpa using B.here) ?_
      simp [jvm, wpRun, exec, B.here.top, B.exec, B.bytes, dJ9_floorMod_f86c9_1]
      refine Steps.instrAtOv (c := _) (by simpa using B.here) ?_
      simp [jvm, wpRun, exec, B.here.top, B.exec, B.bytes, dJ9_floorMod_f86c9_2, hy]
      refine Steps.instrAtOv (c := _) (by simpa using B.here) ?_
      simp [jvm, wpRun, exec, B.here.top, B.exec, B.bytes, dJ9_floorMod_f86c9_3]
      refine ⟨#[.val (.long x), .second, .val (.long y), .second, .val (.long (x - x / y * y)), .second], rfl, ?_⟩
      unfold zfx at hfs
      generalize x - x / y * y = r at hfs ⊢
      refine Steps.instrAtOv (c := _) (by simpa using B.here) ?_
      simp [jvm, wpRun, exec, B.here.top, B.exec, B.bytes, dJ9_floorMod_f86c9_5]
      refine Steps.instrAtOv (c := _) (by simpa using B.here) ?_
      simp [jvm, wpRun, exec, B.here.top, B.exec, B.bytes, dJ9_floorMod_f86c9_6]
      refine Steps.instrAtOv (c := _) (by simpa using B.here) ?_
      simp [jvm, wpRun, exec, B.here.top, B.exec, B.bytes, dJ9_floorMod_f86c9_7]
      refine Steps.instrAtOv (c := _) (by simpa using B.here) ?_
      simp [jvm, wpRun, exec, B.here.top, B.exec, B.bytes, dJ9_floorMod_f86c9_8]
      generalize x ^^^ y = q at hfs ⊢
      by_cases h1 : q < 0
      · have h2 : ¬ 0 < q := fun h => by rw [Int64.lt_iff_toInt_lt] at h h1; omega
        have h3 : ¬ q = 0 := fun h => by rw [h] at h1; exact absurd h1 (by decide)
        rw [if_pos h1] at hfs
        refine Steps.instrAtOv (c := _) (by simpa using B.here) ?_
        simp [jvm, wpRun, exec, B.here.top, B.exec, B.bytes, dJ9_floorMod_f86c9_9, h1, h2, h3]
        refine Steps.instrAtOv (c := _) (by simpa using B.here) ?_
        simp [jvm, wpRun, exec, B.here.top, B.exec, B.bytes, dJ9_floorMod_f86c9_10, ifCond.holds]
        refine Steps.instrAtOv (c := _) (by simpa using B.here) ?_
        simp [jvm, wpRun, exec, B.here.top, B.exec, B.bytes, dJ9_floorMod_f86c9_13]
        refine Steps.instrAtOv (c := _) (by simpa using B.here) ?_
        simp [jvm, wpRun, exec, B.here.top, B.exec, B.bytes, dJ9_floorMod_f86c9_15]
        by_cases h4 : r = 0
        · rw [if_pos h4] at hfs
          subst h4
          refine Steps.instrAtOv (c := _) (by simpa using B.here) ?_
          simp [jvm, wpRun, exec, B.here.top, B.exec, B.bytes, dJ9_floorMod_f86c9_16]
          refine Steps.instrAtOv (c := _) (by simpa using B.here) ?_
          simp [jvm, wpRun, exec, B.here.top, B.exec, B.bytes, dJ9_floorMod_f86c9_17, ifCond.holds]
          refine Steps.instrAtOv (c := _) (by simpa using B.here) ?_
          simp [jvm, wpRun, exec, B.here.top, B.exec, B.bytes, dJ9_floorMod_f86c9_25]
          refine Steps.instrAtOv (c := _) (by simpa using B.here) ?_
          simp [jvm, wpRun, exec, B.here.top, B.exec, B.bytes, dJ9_floorMod_f86c9_27, B.method₁, B.returns]
          intro acts
          rw [ret_to B.frames₁ B.method₁ B.notSynchronized rfl rfl hfs]
          exact Steps.refl _
        · rw [if_neg h4] at hfs
          have h5 : 0 < r ∨ r < 0 := by
            rw [Int64.lt_iff_toInt_lt, Int64.lt_iff_toInt_lt]
            have h6 : ¬ r.toInt = (0 : Int64).toInt := fun h => h4 (Int64.toInt_inj.mp h)
            omega
          rcases h5 with h5 | h5
          · refine Steps.instrAtOv (c := _) (by simpa using B.here) ?_
            simp [jvm, wpRun, exec, B.here.top, B.exec, B.bytes, dJ9_floorMod_f86c9_16, h5]
            refine Steps.instrAtOv (c := _) (by simpa using B.here) ?_
            simp [jvm, wpRun, exec, B.here.top, B.exec, B.bytes, dJ9_floorMod_f86c9_17, ifCond.holds]
            refine Steps.instrAtOv (c := _) (by simpa using B.here) ?_
            simp [jvm, wpRun, exec, B.here.top, B.exec, B.bytes, dJ9_floorMod_f86c9_20]
            refine Steps.instrAtOv (c := _) (by simpa using B.here) ?_
            simp [jvm, wpRun, exec, B.here.top, B.exec, B.bytes, dJ9_floorMod_f86c9_22]
            refine Steps.instrAtOv (c := _) (by simpa using B.here) ?_
            simp [jvm, wpRun, exec, B.here.top, B.exec, B.bytes, dJ9_floorMod_f86c9_23]
            refine Steps.instrAtOv (c := _) (by simpa using B.here) ?_
            simp [jvm, wpRun, exec, B.here.top, B.exec, B.bytes, dJ9_floorMod_f86c9_24, B.method₁, B.returns]
            intro acts
            rw [ret_to B.frames₁ B.method₁ B.notSynchronized rfl rfl hfs]
            exact Steps.refl _
          · have h7 : ¬ 0 < r := fun h => by rw [Int64.lt_iff_toInt_lt] at h h5; omega
            refine Steps.instrAtOv (c := _) (by simpa using B.here) ?_
            simp [jvm, wpRun, exec, B.here.top, B.exec, B.bytes, dJ9_floorMod_f86c9_16, h4, h5, h7]
            refine Steps.instrAtOv (c := _) (by simpa using B.here) ?_
            simp [jvm, wpRun, exec, B.here.top, B.exec, B.bytes, dJ9_floorMod_f86c9_17, ifCond.holds]
            refine Steps.instrAtOv (c := _) (by simpa using B.here) ?_
            simp [jvm, wpRun, exec, B.here.top, B.exec, B.bytes, dJ9_floorMod_f86c9_20]
            refine Steps.instrAtOv (c := _) (by simpa using B.here) ?_
            simp [jvm, wpRun, exec, B.here.top, B.exec, B.bytes, dJ9_floorMod_f86c9_22]
            refine Steps.instrAtOv (c := _) (by simpa using B.here) ?_
            simp [jvm, wpRun, exec, B.here.top, B.exec, B.bytes, dJ9_floorMod_f86c9_23]
            refine Steps.instrAtOv (c := _) (by simpa using B.here) ?_
            simp [jvm, wpRun, exec, B.here.top, B.exec, B.bytes, dJ9_floorMod_f86c9_24, B.method₁, B.returns]
            intro acts
            rw [ret_to B.frames₁ B.method₁ B.notSynchronized rfl rfl hfs]
            exact Steps.refl _
      · rw [if_neg h1] at hfs
        have h2 : 0 < q ∨ q = 0 := by
          rw [Int64.lt_iff_toInt_lt] at h1 ⊢
          rw [← Int64.toInt_inj]
          have : (0 : Int64).toInt = 0 := rfl
          omega
        rcases h2 with h2 | h2
        · refine Steps.instrAtOv (c := _) (by simpa using B.here) ?_
          simp [jvm, wpRun, exec, B.here.top, B.exec, B.bytes, dJ9_floorMod_f86c9_9, h2]
          refine Steps.instrAtOv (c := _) (by simpa using B.here) ?_
          simp [jvm, wpRun, exec, B.here.top, B.exec, B.bytes, dJ9_floorMod_f86c9_10, ifCond.holds]
          refine Steps.instrAtOv (c := _) (by simpa using B.here) ?_
          simp [jvm, wpRun, exec, B.here.top, B.exec, B.bytes, dJ9_floorMod_f86c9_25]
          refine Steps.instrAtOv (c := _) (by simpa using B.here) ?_
          simp [jvm, wpRun, exec, B.here.top, B.exec, B.bytes, dJ9_floorMod_f86c9_27, B.method₁, B.returns]
          intro acts
          rw [ret_to B.frames₁ B.method₁ B.notSynchronized rfl rfl hfs]
          exact Steps.refl _
        · subst h2
          refine Steps.instrAtOv (c := _) (by simpa using B.here) ?_
          simp [jvm, wpRun, exec, B.here.top, B.exec, B.bytes, dJ9_floorMod_f86c9_9]
          refine Steps.instrAtOv (c := _) (by simpa using B.here) ?_
          simp [jvm, wpRun, exec, B.here.top, B.exec, B.bytes, dJ9_floorMod_f86c9_10, ifCond.holds]
          refine Steps.instrAtOv (c := _) (by simpa using B.here) ?_
          simp [jvm, wpRun, exec, B.here.top, B.exec, B.bytes, dJ9_floorMod_f86c9_25]
          refine Steps.instrAtOv (c := _) (by simpa using B.here) ?_
          simp [jvm, wpRun, exec, B.here.top, B.exec, B.bytes, dJ9_floorMod_f86c9_27, B.method₁, B.returns]
          intro acts
          rw [ret_to B.frames₁ B.method₁ B.notSynchronized rfl rfl hfs]
          exact Steps.refl _
    · exact Or.inr hfs
section ZFM
variable {p : Program} {l : Launch} {e : Env} {R : Room} {s : State} {m : MethodId} {args : Array Value} {below : List Frame} {meth : Method} {c : Code} {H : Heap} {locs : List Loc} {cells slots : Nat} {Q : State → Prop}
theorem zf_V {T : State} (X : Stand p l e R s m args below meth c T locs cells slots) (hexec : p.tables.exec = Jvm.exec) {own : String} {index : Nat} (hown : s.vm.findClass own = some m.cls)
    (hlink : (Cond.methodLink own index yJ9_floorMod_f86c9).before args s = true) (hstat : (Cond.static yJ9_floorMod_f86c9).before args s = true) (hinit : (Cond.initialized "java/lang/Math").before args s = true)
    (hcode : (Cond.code yJ9_floorMod_f86c9 cJ9_floorMod_f86c9 6 (some .long)).before args s = true)
    {g : JFrame} (hg : g.method = m) (hsize : g.locals.size = c.maxLocals) {a b : Int64} (hb0 : ¬ b = 0) {rest : List Value} (hstack : g.stack = .long b :: .long a :: rest) (hdg : decode c.code g.pc = .ok (.invokestatic index, 3))
    (hframes : 1 ≤ R.frames) (hlocals : 2 * g.monitorRoom + (rest.map fun v => v.category).sum + 17 ≤ R.locals) (hcells : cells ≤ R.cells) (hslots : slots ≤ R.slots) :
    ∃ vm', Stand p l e R s m args below meth c (T.setVm vm') locs cells slots ∧
      ∀ target, Steps p.tables e below ((T.setVm vm').setTop { g with pc := g.pc + 3, stack := .long (zfx a b) :: rest }) target → Steps p.tables e below (T.setTop g) target := by
  obtain ⟨v, T', X', ⟨first, t, hpost⟩, hstep⟩ := X.staticByContractV hexec hown hlink hstat hinit hcode (by decide)
    (zf_meets l a b hb0)
    rfl rfl rfl rfl
    (fun args' first o s₂ h => by
      cases o with
      | returned r => exact ⟨r, rfl⟩
      | threw y =>
        have hz : (zf_spec a b).post.value args' first (some (.threw y)) s₂ [] = some true := by simpa [Cond.after, Cond.holds] using h
        exact absurd hz va_nvRet)
    hg hsize (argsL := [.long a, .long b]) (rest := rest)
    (fun sig hs => by
      have h : parseMethodDescriptor "(JJ)J" = some { parameters := [.long, .long], returnType := some .long } := by decide +kernel
      rw [show yJ9_floorMod_f86c9.desc = "(JJ)J" from rfl, h] at hs
      rw [← Option.some.inj hs]; rfl)
    hstack hdg
    (fun vm' hW => by
      simp only [zf_spec, Cond.before_and, Bool.and_eq_true]
      refine ⟨?_, rfl, ?_, ?_⟩
      · have q := hcode
        rw [← Cond.code_setVm hW.alike] at q
        simp only [Cond.before, Cond.holds, Cond.value, State.methodNamed?, State.vm_setVm] at q ⊢
        exact q
      · simp [Cond.before, Cond.holds, Cond.value, Term.eval]
      · simp [Cond.before, Cond.holds, Cond.value, Term.eval])
    (by show 0 + 1 ≤ R.frames; omega) (by show 2 * g.monitorRoom + (rest.map fun v => v.category).sum + (6 + 11) + 0 ≤ R.locals; omega) (by show cells + 0 ≤ R.cells; omega) (by show slots + 0 ≤ R.slots; omega)
  refine ⟨T', X', fun target h => hstep target ?_⟩
  obtain rfl : v = some (.long (zfx a b)) := by
    rcases v with _ | w
    · simp [zf_spec, Cond.after, Cond.holds, Cond.value, Term.eval] at hpost
    · cases w <;> simp [zf_spec, Cond.after, Cond.holds, Cond.value, Term.eval] at hpost
      first | (simp [hpost]; done) | (rename_i r; by_cases hr : r = zfx a b <;> simp [hr] at hpost ⊢)
  exact h
end ZFM
def zfmod (x y : Int) : Int := (zfx (Int64.ofInt x) (Int64.ofInt y)).toInt
theorem z_fmod {p : Program} {l : Launch} {e : Env} {R : Room} {s : State} {m : MethodId} {args : Array Value} {below : List Frame} {meth : Method} {c : Code} {H : Heap} {locs : List Loc} {cells slots : Nat} {Q : State → Prop} {cc : ByteArray} {pc : Nat} {ls : Array Slot} {rest : List Value} {own : String} {nL : Nat} {Ω : zO} {x y : Int} (C : zC p s m args c cc own nL Ω) (hy : Rl y) (h0 : y ≠ 0) (hsz : ls.size = nL) {index : Nat} (h1 : Cond.methodLink own index yJ9_floorMod_f86c9 ∈ lw_tbl) (h2 : Cond.static yJ9_floorMod_f86c9 ∈ lw_tbl) (h3 : Cond.initialized "java/lang/Math" ∈ lw_tbl) (h4 : Cond.code yJ9_floorMod_f86c9 cJ9_floorMod_f86c9 6 (some .long) ∈ lw_tbl) (hf : 1 ≤ R.frames) (hlo : (rest.map fun v => v.category).sum + 17 ≤ R.locals) (hc : cells ≤ R.cells) (hs : slots ≤ R.slots) (hd : decode cc pc = .ok (.invokestatic index, 3)) (kk : W p l e R s m args below meth c H locs cells slots Q (F0 m (pc + 3) ls (zJ (zfmod x y) :: rest))) : W p l e R s m args below meth c H locs cells slots Q (F0 m pc ls (zJ y :: zJ x :: rest)) := by
  unfold zfmod zJ at kk
  rw [Int64.ofInt_toInt] at kk
  intro T hT X
  obtain ⟨vm', X', st⟩ := zf_V X C.1 C.2.2.2.1 (C.2.2.2.2.1 _ (zg h1 rfl)) (C.2.2.2.2.1 _ (zg h2 rfl)) (C.2.2.2.2.1 _ (zg h3 rfl)) (C.2.2.2.2.1 _ (zg h4 rfl)) (g := F0 m pc ls (zJ y :: zJ x :: rest)) rfl (hsz.trans C.2.2.1.symm) (a := Int64.ofInt x) (b := Int64.ofInt y) (fun h => h0 ((zeqL hy ⟨by decide, by decide⟩).mp h)) (rest := rest) rfl (by rw [C.2.1]; exact hd) hf (by show 2 * 0 + _ + 17 ≤ _; omega) hc hs
  obtain ⟨t, a1, b1⟩ := kk (T.setVm vm') hT X'
  exact ⟨t, st t a1, b1⟩
theorem zxor_neg (a b : Int64) : a ^^^ b < 0 ↔ ¬ (a.toInt < 0 ↔ b.toInt < 0) := by
  have h : ∀ w : Int64, w < 0 ↔ w.toBitVec.msb = true := fun w => by
    rw [Int64.lt_iff_toInt_lt, BitVec.msb_eq_toInt, decide_eq_true_iff]
    exact Iff.rfl
  have h2 : ∀ w : Int64, w.toInt < 0 ↔ w.toBitVec.msb = true := fun w => by
    rw [BitVec.msb_eq_toInt, decide_eq_true_iff]
    exact Iff.rfl
  rw [h, h2, h2]
  have h3 : (a ^^^ b).toBitVec.msb = (a.toBitVec.msb ^^ b.toBitVec.msb) := BitVec.msb_xor
  rw [h3]
  cases a.toBitVec.msb <;> cases b.toBitVec.msb <;> simp
theorem zfmod_pos {x y : Int} (hx : Rl x) (hy : Rl y) (h0 : 0 < y) : zfmod x y = x % y := by
  have hq : Int64.ofInt x / Int64.ofInt y = Int64.ofInt (x.tdiv y) := by rw [← Int64.toInt_inj, Int64.toInt_div, hx.v, hy.v, Int64.toInt_ofInt]
  have hr : Int64.ofInt x - Int64.ofInt x / Int64.ofInt y * Int64.ofInt y = Int64.ofInt (x.tmod y) := by
    rw [hq, ← Int64.ofInt_mul, ← Int64.ofInt_sub, Int.tmod_def, Int.mul_comm y]
  have hrl : Rl (x.tmod y) := Rl.rem hx hy
  have he := Int.tmod_eq_emod (a := x) (b := y)
  have hn := Int.emod_nonneg x (show y ≠ 0 by omega)
  have hl := Int.emod_lt_of_pos x h0
  have hz : (Int64.ofInt (x.tmod y) = 0) ↔ x.tmod y = 0 := zeqL (y := 0) hrl ⟨by decide, by decide⟩
  unfold zfmod zfx
  rw [hr]
  simp only [zxor_neg, hx.v, hy.v, hz]
  unfold Rl at hy
  by_cases hx0 : x < 0
  · rw [if_pos (by omega)]
    by_cases hd : y ∣ x
    · have h1 : x % y = 0 := Int.emod_eq_zero_of_dvd hd
      rw [if_pos (Or.inr hd)] at he
      rw [if_pos (by omega), hrl.v]
      omega
    · have h1 : ¬ x % y = 0 := fun h => hd (Int.dvd_of_emod_eq_zero h)
      rw [if_neg (by rintro (h | h); omega; exact hd h)] at he
      rw [if_neg (by omega), ← Int64.ofInt_add]
      have h2 : Rl (x.tmod y + y) := ⟨by omega, by omega⟩
      rw [h2.v]
      omega
  · rw [if_neg (by omega), hrl.v]
    rw [if_pos (Or.inl (by omega))] at he
    omega
