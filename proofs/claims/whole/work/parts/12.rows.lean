/-- the words that stay true while the machine goes on -/
def zgd : List Cond := lw_tbl.filter goodWord
theorem zg {w : Cond} (h : w ∈ lw_tbl) (hg : goodWord w = true) : w ∈ zgd := List.mem_filter.mpr ⟨h, hg⟩
def zC (p : Program) (s : State) (m : MethodId) (args : Array Value) (c : Code) (cc : ByteArray) (own : String) (nL : Nat) (Ω : zO) : Prop :=
  p.tables.exec = Jvm.exec ∧ c.code = cc ∧ c.maxLocals = nL ∧ s.vm.findClass own = some m.cls ∧ (∀ w ∈ zgd, w.before args s = true) ∧ va_K Ω.1 vwCl (ztys Ω) s
def zCl (ci : Nat) (C0 : String) (T : u_T) (N : Nat) (ty : Nat → FieldType) : Prop := (∀ w ∈ u_ws C0 T N, w ∈ zgd) ∧ vwCl[ci]? = some (C0, T, N) ∧ (∀ k, k < N → parseFieldDescriptor (T k).2.2.1 = some (ty k)) ∧ (∀ a, a < N → ∀ b, b < N → a ≠ b → (T a).2.1 ≠ (T b).2.1)
section ZR
variable {p : Program} {l : Launch} {e : Env} {R : Room} {s : State} {m : MethodId} {args : Array Value} {below : List Frame} {meth : Method} {c : Code} {H : Heap} {locs : List Loc} {cells slots : Nat} {Q : State → Prop}
variable {cc : ByteArray} {pc : Nat} {ls : Array Slot} {rest : List Value} {own : String} {nL : Nat} {Ω : zO} {μ : zMem} {A : Nat → Prop} {x y : Int}
theorem z_iconst (C : zC p s m args c cc own nL Ω) {n : Int} (hd : decode cc pc = .ok (.iconst n, 1)) (k : W p l e R s m args below meth c H locs cells slots Q (F0 m (pc + 1) ls (zI n :: rest))) : W p l e R s m args below meth c H locs cells slots Q (F0 m pc ls rest) := lv_iconst C.1 C.2.1 hd rfl k
theorem z_bipush (C : zC p s m args c cc own nL Ω) {n : Int} (hd : decode cc pc = .ok (.bipush n, 2)) (hn : (Int8.ofInt n).toInt32 = Int32.ofInt n) (k : W p l e R s m args below meth c H locs cells slots Q (F0 m (pc + 2) ls (zI n :: rest))) : W p l e R s m args below meth c H locs cells slots Q (F0 m pc ls rest) := lv_bipush C.1 C.2.1 hd hn k
theorem z_sipush (C : zC p s m args c cc own nL Ω) {n : Int} (hd : decode cc pc = .ok (.sipush n, 3)) (hn : (Int16.ofInt n).toInt32 = Int32.ofInt n) (k : W p l e R s m args below meth c H locs cells slots Q (F0 m (pc + 3) ls (zI n :: rest))) : W p l e R s m args below meth c H locs cells slots Q (F0 m pc ls rest) := lv_sipush C.1 C.2.1 hd hn k
theorem z_lconst (C : zC p s m args c cc own nL Ω) {n : Fin 2} (i : Int) (hi : Int64.ofNat (n : Nat) = Int64.ofInt i) (hd : decode cc pc = .ok (.lconst n, 1)) (k : W p l e R s m args below meth c H locs cells slots Q (F0 m (pc + 1) ls (zJ i :: rest))) : W p l e R s m args below meth c H locs cells slots Q (F0 m pc ls rest) := lv_lconst C.1 C.2.1 hd hi k
theorem z_ldc (C : zC p s m args c cc own nL Ω) {index : Nat} (n : Int) {v : Int32} (hc : Jvm.Cond.constant own index v ∈ lw_tbl) (hn : v = Int32.ofInt n) (hd : decode cc pc = .ok (.ldc index, 2)) (k : W p l e R s m args below meth c H locs cells slots Q (F0 m (pc + 2) ls (zI n :: rest))) : W p l e R s m args below meth c H locs cells slots Q (F0 m pc ls rest) := by
  subst hn
  exact lv_ldc C.1 C.2.1 C.2.2.2.1 (C.2.2.2.2.1 _ (zg hc rfl)) hd k
theorem z_ldc2 (C : zC p s m args c cc own nL Ω) {index : Nat} (n : Int) {v : Int64} (hc : Jvm.Cond.constantLong own index v ∈ lw_tbl) (hn : v = Int64.ofInt n) (hd : decode cc pc = .ok (.ldc2_w index, 3)) (k : W p l e R s m args below meth c H locs cells slots Q (F0 m (pc + 3) ls (zJ n :: rest))) : W p l e R s m args below meth c H locs cells slots Q (F0 m pc ls rest) := by
  subst hn
  exact lv_ldc2 C.1 C.2.1 C.2.2.2.1 (C.2.2.2.2.1 _ (zg hc rfl)) hd k
theorem z_iadd (C : zC p s m args c cc own nL Ω) (hd : decode cc pc = .ok (.iadd, 1)) (k : W p l e R s m args below meth c H locs cells slots Q (F0 m (pc + 1) ls (zI (zw (x + y)) :: rest))) : W p l e R s m args below meth c H locs cells slots Q (F0 m pc ls (zI y :: zI x :: rest)) := lv_iadd C.1 C.2.1 hd (by rw [← Int32.ofInt_add, ← zI_w]; exact k)
theorem z_isub (C : zC p s m args c cc own nL Ω) (hd : decode cc pc = .ok (.isub, 1)) (k : W p l e R s m args below meth c H locs cells slots Q (F0 m (pc + 1) ls (zI (zw (x - y)) :: rest))) : W p l e R s m args below meth c H locs cells slots Q (F0 m pc ls (zI y :: zI x :: rest)) := lv_isub C.1 C.2.1 hd (by rw [← Int32.ofInt_sub, ← zI_w]; exact k)
theorem z_imul (C : zC p s m args c cc own nL Ω) (hd : decode cc pc = .ok (.imul, 1)) (k : W p l e R s m args below meth c H locs cells slots Q (F0 m (pc + 1) ls (zI (zw (x * y)) :: rest))) : W p l e R s m args below meth c H locs cells slots Q (F0 m pc ls (zI y :: zI x :: rest)) := lv_imul C.1 C.2.1 hd (by rw [← Int32.ofInt_mul, ← zI_w]; exact k)
theorem z_ineg (C : zC p s m args c cc own nL Ω) (hd : decode cc pc = .ok (.ineg, 1)) (k : W p l e R s m args below meth c H locs cells slots Q (F0 m (pc + 1) ls (zI (zw (-x)) :: rest))) : W p l e R s m args below meth c H locs cells slots Q (F0 m pc ls (zI x :: rest)) := lv_ineg C.1 C.2.1 hd (by rw [← Int32.ofInt_neg, ← zI_w]; exact k)
theorem z_idiv (C : zC p s m args c cc own nL Ω) (hx : Rg x) (hy : Rg y) (h0 : y ≠ 0) (hd : decode cc pc = .ok (.idiv, 1)) (k : W p l e R s m args below meth c H locs cells slots Q (F0 m (pc + 1) ls (zI (zw (x.tdiv y)) :: rest))) : W p l e R s m args below meth c H locs cells slots Q (F0 m pc ls (zI y :: zI x :: rest)) := lv_idiv C.1 C.2.1 hd (fun h => h0 ((zeq hy ⟨by decide, by decide⟩).mp h)) (by
  rw [show Int32.ofInt x / Int32.ofInt y = Int32.ofInt (zw (x.tdiv y)) from by rw [zI_w, ← Int32.toInt_inj, Int32.toInt_div, hx.v, hy.v, Int32.toInt_ofInt]]
  exact k)
theorem z_irem (C : zC p s m args c cc own nL Ω) (hx : Rg x) (hy : Rg y) (h0 : y ≠ 0) (hd : decode cc pc = .ok (.irem, 1)) (k : W p l e R s m args below meth c H locs cells slots Q (F0 m (pc + 1) ls (zI (x.tmod y) :: rest))) : W p l e R s m args below meth c H locs cells slots Q (F0 m pc ls (zI y :: zI x :: rest)) := lv_irem C.1 C.2.1 hd (fun h => h0 ((zeq hy ⟨by decide, by decide⟩).mp h)) (by
  have hq : Int32.ofInt x / Int32.ofInt y = Int32.ofInt (x.tdiv y) := by rw [← Int32.toInt_inj, Int32.toInt_div, hx.v, hy.v, Int32.toInt_ofInt]
  rw [show Int32.ofInt x - Int32.ofInt x / Int32.ofInt y * Int32.ofInt y = Int32.ofInt (x.tmod y) from by
    rw [hq, ← Int32.ofInt_mul, ← Int32.ofInt_sub, Int.tmod_def, Int.mul_comm y]]
  exact k)
theorem Rg.rem (hx : Rg x) (hy : Rg y) : Rg (x.tmod y) := by
  have h : (Int32.ofInt x % Int32.ofInt y).toInt = x.tmod y := by rw [Int32.toInt_mod, hx.v, hy.v]
  rw [← h]
  exact Rg.t _
theorem z_iand (C : zC p s m args c cc own nL Ω) (hd : decode cc pc = .ok (.iand, 1)) (k : W p l e R s m args below meth c H locs cells slots Q (F0 m (pc + 1) ls (zI (zand x y) :: rest))) : W p l e R s m args below meth c H locs cells slots Q (F0 m pc ls (zI y :: zI x :: rest)) := lv_iand C.1 C.2.1 hd (by unfold zand zI at k; rw [Int32.ofInt_toInt] at k; exact k)
theorem z_ior (C : zC p s m args c cc own nL Ω) (hd : decode cc pc = .ok (.ior, 1)) (k : W p l e R s m args below meth c H locs cells slots Q (F0 m (pc + 1) ls (zI (zor x y) :: rest))) : W p l e R s m args below meth c H locs cells slots Q (F0 m pc ls (zI y :: zI x :: rest)) := lv_ior C.1 C.2.1 hd (by unfold zor zI at k; rw [Int32.ofInt_toInt] at k; exact k)
theorem z_ixor (C : zC p s m args c cc own nL Ω) (hd : decode cc pc = .ok (.ixor, 1)) (k : W p l e R s m args below meth c H locs cells slots Q (F0 m (pc + 1) ls (zI (zxor x y) :: rest))) : W p l e R s m args below meth c H locs cells slots Q (F0 m pc ls (zI y :: zI x :: rest)) := lv_ixor C.1 C.2.1 hd (by unfold zxor zI at k; rw [Int32.ofInt_toInt] at k; exact k)
theorem z_ishl (C : zC p s m args c cc own nL Ω) (hd : decode cc pc = .ok (.ishl, 1)) (k : W p l e R s m args below meth c H locs cells slots Q (F0 m (pc + 1) ls (zI (zshl x y) :: rest))) : W p l e R s m args below meth c H locs cells slots Q (F0 m pc ls (zI y :: zI x :: rest)) := lv_ishl C.1 C.2.1 hd (by unfold zshl zI at k; rw [Int32.ofInt_toInt] at k; exact k)
theorem z_ishr (C : zC p s m args c cc own nL Ω) (hd : decode cc pc = .ok (.ishr, 1)) (k : W p l e R s m args below meth c H locs cells slots Q (F0 m (pc + 1) ls (zI (zshr x y) :: rest))) : W p l e R s m args below meth c H locs cells slots Q (F0 m pc ls (zI y :: zI x :: rest)) := lv_ishr C.1 C.2.1 hd (by unfold zshr zI at k; rw [Int32.ofInt_toInt] at k; exact k)
theorem z_ladd (C : zC p s m args c cc own nL Ω) (hd : decode cc pc = .ok (.ladd, 1)) (k : W p l e R s m args below meth c H locs cells slots Q (F0 m (pc + 1) ls (zJ (zl (x + y)) :: rest))) : W p l e R s m args below meth c H locs cells slots Q (F0 m pc ls (zJ y :: zJ x :: rest)) := lv_ladd C.1 C.2.1 hd (by rw [← Int64.ofInt_add, ← zJ_w]; exact k)
theorem z_lsub (C : zC p s m args c cc own nL Ω) (hd : decode cc pc = .ok (.lsub, 1)) (k : W p l e R s m args below meth c H locs cells slots Q (F0 m (pc + 1) ls (zJ (zl (x - y)) :: rest))) : W p l e R s m args below meth c H locs cells slots Q (F0 m pc ls (zJ y :: zJ x :: rest)) := lv_lsub C.1 C.2.1 hd (by rw [← Int64.ofInt_sub, ← zJ_w]; exact k)
theorem z_lmul (C : zC p s m args c cc own nL Ω) (hd : decode cc pc = .ok (.lmul, 1)) (k : W p l e R s m args below meth c H locs cells slots Q (F0 m (pc + 1) ls (zJ (zl (x * y)) :: rest))) : W p l e R s m args below meth c H locs cells slots Q (F0 m pc ls (zJ y :: zJ x :: rest)) := lv_lmul C.1 C.2.1 hd (by rw [← Int64.ofInt_mul, ← zJ_w]; exact k)
theorem z_lneg (C : zC p s m args c cc own nL Ω) (hd : decode cc pc = .ok (.lneg, 1)) (k : W p l e R s m args below meth c H locs cells slots Q (F0 m (pc + 1) ls (zJ (zl (-x)) :: rest))) : W p l e R s m args below meth c H locs cells slots Q (F0 m pc ls (zJ x :: rest)) := lv_lneg C.1 C.2.1 hd (by rw [← Int64.ofInt_neg, ← zJ_w]; exact k)
theorem zeqL {x y : Int} (hx : Rl x) (hy : Rl y) : Int64.ofInt x = Int64.ofInt y ↔ x = y := by rw [← Int64.toInt_inj, hx.v, hy.v]
theorem z_ldiv (C : zC p s m args c cc own nL Ω) (hx : Rl x) (hy : Rl y) (h0 : y ≠ 0) (hd : decode cc pc = .ok (.ldiv, 1)) (k : W p l e R s m args below meth c H locs cells slots Q (F0 m (pc + 1) ls (zJ (zl (x.tdiv y)) :: rest))) : W p l e R s m args below meth c H locs cells slots Q (F0 m pc ls (zJ y :: zJ x :: rest)) := lv_ldiv C.1 C.2.1 hd (fun h => h0 ((zeqL hy ⟨by decide, by decide⟩).mp h)) (by
  rw [show Int64.ofInt x / Int64.ofInt y = Int64.ofInt (zl (x.tdiv y)) from by rw [zJ_w, ← Int64.toInt_inj, Int64.toInt_div, hx.v, hy.v, Int64.toInt_ofInt]]
  exact k)
theorem z_lrem (C : zC p s m args c cc own nL Ω) (hx : Rl x) (hy : Rl y) (h0 : y ≠ 0) (hd : decode cc pc = .ok (.lrem, 1)) (k : W p l e R s m args below meth c H locs cells slots Q (F0 m (pc + 1) ls (zJ (x.tmod y) :: rest))) : W p l e R s m args below meth c H locs cells slots Q (F0 m pc ls (zJ y :: zJ x :: rest)) := lv_lrem C.1 C.2.1 hd (fun h => h0 ((zeqL hy ⟨by decide, by decide⟩).mp h)) (by
  have hq : Int64.ofInt x / Int64.ofInt y = Int64.ofInt (x.tdiv y) := by rw [← Int64.toInt_inj, Int64.toInt_div, hx.v, hy.v, Int64.toInt_ofInt]
  rw [show Int64.ofInt x - Int64.ofInt x / Int64.ofInt y * Int64.ofInt y = Int64.ofInt (x.tmod y) from by
    rw [hq, ← Int64.ofInt_mul, ← Int64.ofInt_sub, Int.tmod_def, Int.mul_comm y]]
  exact k)
theorem Rl.rem (hx : Rl x) (hy : Rl y) : Rl (x.tmod y) := by
  have h : (Int64.ofInt x % Int64.ofInt y).toInt = x.tmod y := by rw [Int64.toInt_mod, hx.v, hy.v]
  rw [← h]
  exact Rl.t _
theorem z_land (C : zC p s m args c cc own nL Ω) (hd : decode cc pc = .ok (.land, 1)) (k : W p l e R s m args below meth c H locs cells slots Q (F0 m (pc + 1) ls (zJ (zland x y) :: rest))) : W p l e R s m args below meth c H locs cells slots Q (F0 m pc ls (zJ y :: zJ x :: rest)) := lv_land C.1 C.2.1 hd (by unfold zland zJ at k; rw [Int64.ofInt_toInt] at k; exact k)
theorem z_lor (C : zC p s m args c cc own nL Ω) (hd : decode cc pc = .ok (.lor, 1)) (k : W p l e R s m args below meth c H locs cells slots Q (F0 m (pc + 1) ls (zJ (zlor x y) :: rest))) : W p l e R s m args below meth c H locs cells slots Q (F0 m pc ls (zJ y :: zJ x :: rest)) := lv_lor C.1 C.2.1 hd (by unfold zlor zJ at k; rw [Int64.ofInt_toInt] at k; exact k)
theorem z_lxor (C : zC p s m args c cc own nL Ω) (hd : decode cc pc = .ok (.lxor, 1)) (k : W p l e R s m args below meth c H locs cells slots Q (F0 m (pc + 1) ls (zJ (zlxor x y) :: rest))) : W p l e R s m args below meth c H locs cells slots Q (F0 m pc ls (zJ y :: zJ x :: rest)) := lv_lxor C.1 C.2.1 hd (by unfold zlxor zJ at k; rw [Int64.ofInt_toInt] at k; exact k)
theorem z_lshl (C : zC p s m args c cc own nL Ω) (hd : decode cc pc = .ok (.lshl, 1)) (k : W p l e R s m args below meth c H locs cells slots Q (F0 m (pc + 1) ls (zJ (zlshl x y) :: rest))) : W p l e R s m args below meth c H locs cells slots Q (F0 m pc ls (zI y :: zJ x :: rest)) := lv_lshl C.1 C.2.1 hd rfl (by unfold zlshl zJ at k; rw [Int64.ofInt_toInt] at k; exact k)
theorem z_lshr (C : zC p s m args c cc own nL Ω) (hd : decode cc pc = .ok (.lshr, 1)) (k : W p l e R s m args below meth c H locs cells slots Q (F0 m (pc + 1) ls (zJ (zlshr x y) :: rest))) : W p l e R s m args below meth c H locs cells slots Q (F0 m pc ls (zI y :: zJ x :: rest)) := lv_lshr C.1 C.2.1 hd rfl (by unfold zlshr zJ at k; rw [Int64.ofInt_toInt] at k; exact k)
theorem z_lushr (C : zC p s m args c cc own nL Ω) (hd : decode cc pc = .ok (.lushr, 1)) (k : W p l e R s m args below meth c H locs cells slots Q (F0 m (pc + 1) ls (zJ (zlushr x y) :: rest))) : W p l e R s m args below meth c H locs cells slots Q (F0 m pc ls (zI y :: zJ x :: rest)) := lv_lushr C.1 C.2.1 hd rfl (by unfold zlushr zJ at k; rw [Int64.ofInt_toInt] at k; exact k)
theorem z_i2l (C : zC p s m args c cc own nL Ω) (hx : Rg x) (hd : decode cc pc = .ok (.i2l, 1)) (k : W p l e R s m args below meth c H locs cells slots Q (F0 m (pc + 1) ls (zJ x :: rest))) : W p l e R s m args below meth c H locs cells slots Q (F0 m pc ls (zI x :: rest)) := lv_i2l C.1 C.2.1 hd (by rw [← Int64.toInt_inj, Int32.toInt_toInt64, hx.v, hx.l.v]) k
theorem z_l2i (C : zC p s m args c cc own nL Ω) (hd : decode cc pc = .ok (.l2i, 1)) (k : W p l e R s m args below meth c H locs cells slots Q (F0 m (pc + 1) ls (zI (zw x) :: rest))) : W p l e R s m args below meth c H locs cells slots Q (F0 m pc ls (zJ x :: rest)) := lv_l2i C.1 C.2.1 hd (by rw [zI_w]; exact Int64.toInt32_ofInt) k
theorem z_i2b (C : zC p s m args c cc own nL Ω) (hd : decode cc pc = .ok (.i2b, 1)) (k : W p l e R s m args below meth c H locs cells slots Q (F0 m (pc + 1) ls (zI (zb x) :: rest))) : W p l e R s m args below meth c H locs cells slots Q (F0 m pc ls (zI x :: rest)) := lv_i2b C.1 C.2.1 hd rfl (by unfold zb zI at k; rw [Int32.ofInt_toInt] at k; exact k)
theorem z_i2s (C : zC p s m args c cc own nL Ω) (hd : decode cc pc = .ok (.i2s, 1)) (k : W p l e R s m args below meth c H locs cells slots Q (F0 m (pc + 1) ls (zI (zs x) :: rest))) : W p l e R s m args below meth c H locs cells slots Q (F0 m pc ls (zI x :: rest)) := lv_i2s C.1 C.2.1 hd rfl (by unfold zs zI at k; rw [Int32.ofInt_toInt] at k; exact k)
theorem z_i2c (C : zC p s m args c cc own nL Ω) (hd : decode cc pc = .ok (.i2c, 1)) (k : W p l e R s m args below meth c H locs cells slots Q (F0 m (pc + 1) ls (zI (zc x) :: rest))) : W p l e R s m args below meth c H locs cells slots Q (F0 m pc ls (zI x :: rest)) := lv_i2c C.1 C.2.1 hd rfl (by unfold zc zI at k; rw [Int32.ofInt_toInt] at k; exact k)
def zcmp (x y : Int) : Int := if x < y then -1 else if x = y then 0 else 1
theorem z_lcmp (C : zC p s m args c cc own nL Ω) (hx : Rl x) (hy : Rl y) (hd : decode cc pc = .ok (.lcmp, 1)) (k : W p l e R s m args below meth c H locs cells slots Q (F0 m (pc + 1) ls (zI (zcmp x y) :: rest))) : W p l e R s m args below meth c H locs cells slots Q (F0 m pc ls (zJ y :: zJ x :: rest)) := W.lcmp C.1 C.2.1 hd (by
  have h : lg_cmp (Int64.ofInt x) (Int64.ofInt y) = Int32.ofInt (zcmp x y) := by
    unfold lg_cmp zcmp
    simp only [Int64.lt_iff_toInt_lt, ← Int64.toInt_inj, hx.v, hy.v, beq_iff_eq]
    repeat' split
    all_goals first | rfl | omega
  rw [h]
  exact k)
theorem Rg.cmp : Rg (zcmp x y) := by
  unfold zcmp
  split
  · exact ⟨by decide, by decide⟩
  · split
    · exact ⟨by decide, by decide⟩
    · exact ⟨by decide, by decide⟩
theorem Rg.z : Rg 0 := ⟨by decide, by decide⟩
theorem z_ifeq (C : zC p s m args c cc own nL Ω) (hx : Rg x) {off : Int} {tgt : Nat} (hd : decode cc pc = .ok (.ifCond .eq off, 3)) (ht : (pc : Int) + off = (tgt : Int)) (kt : x = 0 → W p l e R s m args below meth c H locs cells slots Q (F0 m tgt ls rest)) (kf : ¬ x = 0 → W p l e R s m args below meth c H locs cells slots Q (F0 m (pc + 3) ls rest)) : W p l e R s m args below meth c H locs cells slots Q (F0 m pc ls (zI x :: rest)) := lv_if_eq C.1 C.2.1 hd ht (fun h => kt ((zeq hx Rg.z).mp h)) (fun h => kf (fun g => h ((zeq hx Rg.z).mpr g)))
theorem z_ifne (C : zC p s m args c cc own nL Ω) (hx : Rg x) {off : Int} {tgt : Nat} (hd : decode cc pc = .ok (.ifCond .ne off, 3)) (ht : (pc : Int) + off = (tgt : Int)) (kt : ¬ x = 0 → W p l e R s m args below meth c H locs cells slots Q (F0 m tgt ls rest)) (kf : x = 0 → W p l e R s m args below meth c H locs cells slots Q (F0 m (pc + 3) ls rest)) : W p l e R s m args below meth c H locs cells slots Q (F0 m pc ls (zI x :: rest)) := lv_if_ne C.1 C.2.1 hd ht (fun h => kt (fun g => h ((zeq hx Rg.z).mpr g))) (fun h => kf ((zeq hx Rg.z).mp h))
theorem z_iflt (C : zC p s m args c cc own nL Ω) (hx : Rg x) {off : Int} {tgt : Nat} (hd : decode cc pc = .ok (.ifCond .lt off, 3)) (ht : (pc : Int) + off = (tgt : Int)) (kt : x < 0 → W p l e R s m args below meth c H locs cells slots Q (F0 m tgt ls rest)) (kf : ¬ x < 0 → W p l e R s m args below meth c H locs cells slots Q (F0 m (pc + 3) ls rest)) : W p l e R s m args below meth c H locs cells slots Q (F0 m pc ls (zI x :: rest)) := lv_if_lt C.1 C.2.1 hd ht (fun h => kt ((zlt hx Rg.z).mp h)) (fun h => kf (fun g => h ((zlt hx Rg.z).mpr g)))
theorem z_ifge (C : zC p s m args c cc own nL Ω) (hx : Rg x) {off : Int} {tgt : Nat} (hd : decode cc pc = .ok (.ifCond .ge off, 3)) (ht : (pc : Int) + off = (tgt : Int)) (kt : ¬ x < 0 → W p l e R s m args below meth c H locs cells slots Q (F0 m tgt ls rest)) (kf : x < 0 → W p l e R s m args below meth c H locs cells slots Q (F0 m (pc + 3) ls rest)) : W p l e R s m args below meth c H locs cells slots Q (F0 m pc ls (zI x :: rest)) := lv_if_ge C.1 C.2.1 hd ht (fun h => kt (fun g => absurd ((zle Rg.z hx).mp h) (by omega))) (fun h => kf (by
  have h2 : ¬ (0 : Int) ≤ x := fun g => h ((zle Rg.z hx).mpr g)
  omega))
theorem z_ifgt (C : zC p s m args c cc own nL Ω) (hx : Rg x) {off : Int} {tgt : Nat} (hd : decode cc pc = .ok (.ifCond .gt off, 3)) (ht : (pc : Int) + off = (tgt : Int)) (kt : ¬ x ≤ 0 → W p l e R s m args below meth c H locs cells slots Q (F0 m tgt ls rest)) (kf : x ≤ 0 → W p l e R s m args below meth c H locs cells slots Q (F0 m (pc + 3) ls rest)) : W p l e R s m args below meth c H locs cells slots Q (F0 m pc ls (zI x :: rest)) := lv_if_gt C.1 C.2.1 hd ht (fun h => kt (fun g => absurd ((zlt Rg.z hx).mp h) (by omega))) (fun h => kf (by
  have h2 : ¬ (0 : Int) < x := fun g => h ((zlt Rg.z hx).mpr g)
  omega))
theorem z_ifle (C : zC p s m args c cc own nL Ω) (hx : Rg x) {off : Int} {tgt : Nat} (hd : decode cc pc = .ok (.ifCond .le off, 3)) (ht : (pc : Int) + off = (tgt : Int)) (kt : x ≤ 0 → W p l e R s m args below meth c H locs cells slots Q (F0 m tgt ls rest)) (kf : ¬ x ≤ 0 → W p l e R s m args below meth c H locs cells slots Q (F0 m (pc + 3) ls rest)) : W p l e R s m args below meth c H locs cells slots Q (F0 m pc ls (zI x :: rest)) := lv_if_le C.1 C.2.1 hd ht (fun h => kt ((zle hx Rg.z).mp h)) (fun h => kf (fun g => h ((zle hx Rg.z).mpr g)))
theorem z_icmpeq (C : zC p s m args c cc own nL Ω) (hx : Rg x) (hy : Rg y) {off : Int} {tgt : Nat} (hd : decode cc pc = .ok (.if_icmp .eq off, 3)) (ht : (pc : Int) + off = (tgt : Int)) (kt : x = y → W p l e R s m args below meth c H locs cells slots Q (F0 m tgt ls rest)) (kf : ¬ x = y → W p l e R s m args below meth c H locs cells slots Q (F0 m (pc + 3) ls rest)) : W p l e R s m args below meth c H locs cells slots Q (F0 m pc ls (zI y :: zI x :: rest)) := lv_icmp_eq C.1 C.2.1 hd ht (fun h => kt ((zeq hx hy).mp h)) (fun h => kf (fun g => h ((zeq hx hy).mpr g)))
theorem z_icmpne (C : zC p s m args c cc own nL Ω) (hx : Rg x) (hy : Rg y) {off : Int} {tgt : Nat} (hd : decode cc pc = .ok (.if_icmp .ne off, 3)) (ht : (pc : Int) + off = (tgt : Int)) (kt : ¬ x = y → W p l e R s m args below meth c H locs cells slots Q (F0 m tgt ls rest)) (kf : x = y → W p l e R s m args below meth c H locs cells slots Q (F0 m (pc + 3) ls rest)) : W p l e R s m args below meth c H locs cells slots Q (F0 m pc ls (zI y :: zI x :: rest)) := lv_icmp_ne C.1 C.2.1 hd ht (fun h => kt (fun g => h ((zeq hx hy).mpr g))) (fun h => kf ((zeq hx hy).mp h))
theorem z_icmplt (C : zC p s m args c cc own nL Ω) (hx : Rg x) (hy : Rg y) {off : Int} {tgt : Nat} (hd : decode cc pc = .ok (.if_icmp .lt off, 3)) (ht : (pc : Int) + off = (tgt : Int)) (kt : x < y → W p l e R s m args below meth c H locs cells slots Q (F0 m tgt ls rest)) (kf : ¬ x < y → W p l e R s m args below meth c H locs cells slots Q (F0 m (pc + 3) ls rest)) : W p l e R s m args below meth c H locs cells slots Q (F0 m pc ls (zI y :: zI x :: rest)) := lv_icmp_lt C.1 C.2.1 hd ht (fun h => kt ((zlt hx hy).mp h)) (fun h => kf (fun g => h ((zlt hx hy).mpr g)))
theorem z_icmpge (C : zC p s m args c cc own nL Ω) (hx : Rg x) (hy : Rg y) {off : Int} {tgt : Nat} (hd : decode cc pc = .ok (.if_icmp .ge off, 3)) (ht : (pc : Int) + off = (tgt : Int)) (kt : ¬ x < y → W p l e R s m args below meth c H locs cells slots Q (F0 m tgt ls rest)) (kf : x < y → W p l e R s m args below meth c H locs cells slots Q (F0 m (pc + 3) ls rest)) : W p l e R s m args below meth c H locs cells slots Q (F0 m pc ls (zI y :: zI x :: rest)) := lv_icmp_ge C.1 C.2.1 hd ht (fun h => kt (fun g => absurd ((zle hy hx).mp h) (by omega))) (fun h => kf (by
  have h2 : ¬ y ≤ x := fun g => h ((zle hy hx).mpr g)
  omega))
theorem z_icmpgt (C : zC p s m args c cc own nL Ω) (hx : Rg x) (hy : Rg y) {off : Int} {tgt : Nat} (hd : decode cc pc = .ok (.if_icmp .gt off, 3)) (ht : (pc : Int) + off = (tgt : Int)) (kt : ¬ x ≤ y → W p l e R s m args below meth c H locs cells slots Q (F0 m tgt ls rest)) (kf : x ≤ y → W p l e R s m args below meth c H locs cells slots Q (F0 m (pc + 3) ls rest)) : W p l e R s m args below meth c H locs cells slots Q (F0 m pc ls (zI y :: zI x :: rest)) := lv_icmp_gt C.1 C.2.1 hd ht (fun h => kt (fun g => absurd ((zlt hy hx).mp h) (by omega))) (fun h => kf (by
  have h2 : ¬ y < x := fun g => h ((zlt hy hx).mpr g)
  omega))
theorem z_icmple (C : zC p s m args c cc own nL Ω) (hx : Rg x) (hy : Rg y) {off : Int} {tgt : Nat} (hd : decode cc pc = .ok (.if_icmp .le off, 3)) (ht : (pc : Int) + off = (tgt : Int)) (kt : x ≤ y → W p l e R s m args below meth c H locs cells slots Q (F0 m tgt ls rest)) (kf : ¬ x ≤ y → W p l e R s m args below meth c H locs cells slots Q (F0 m (pc + 3) ls rest)) : W p l e R s m args below meth c H locs cells slots Q (F0 m pc ls (zI y :: zI x :: rest)) := lv_icmp_le C.1 C.2.1 hd ht (fun h => kt ((zle hx hy).mp h)) (fun h => kf (fun g => h ((zle hx hy).mpr g)))
theorem z_ifnull (C : zC p s m args c cc own nL Ω) {off : Int} {tgt : Nat} (hd : decode cc pc = .ok (.ifnull off, 3)) (ht : (pc : Int) + off = (tgt : Int)) (kt : x = 0 → W p l e R s m args below meth c H locs cells slots Q (F0 m tgt ls rest)) (kf : ¬ x = 0 → W p l e R s m args below meth c H locs cells slots Q (F0 m (pc + 3) ls rest)) : W p l e R s m args below meth c H locs cells slots Q (F0 m pc ls (zQ Ω x :: rest)) := by
  by_cases h : x = 0
  · rw [zQ_nul Ω h]; exact lv_ifnullN C.1 C.2.1 hd ht (kt h)
  · rw [zQ_pos Ω h]; exact lv_ifnull C.1 C.2.1 hd (kf h)
theorem z_ifnonnull (C : zC p s m args c cc own nL Ω) {off : Int} {tgt : Nat} (hd : decode cc pc = .ok (.ifnonnull off, 3)) (ht : (pc : Int) + off = (tgt : Int)) (kt : ¬ x = 0 → W p l e R s m args below meth c H locs cells slots Q (F0 m tgt ls rest)) (kf : x = 0 → W p l e R s m args below meth c H locs cells slots Q (F0 m (pc + 3) ls rest)) : W p l e R s m args below meth c H locs cells slots Q (F0 m pc ls (zQ Ω x :: rest)) := by
  by_cases h : x = 0
  · rw [zQ_nul Ω h]; exact lv_ifnonnullN C.1 C.2.1 hd (kf h)
  · rw [zQ_pos Ω h]; exact lv_ifnonnull C.1 C.2.1 hd ht (kt h)
theorem z_leq (C : zC p s m args c cc own nL Ω) (hx : Rl x) (hy : Rl y) {off : Int} {tgt : Nat} (hd : decode cc pc = .ok (.lcmp, 1)) (hd2 : decode cc (pc + 1) = .ok (.ifCond .eq off, 3)) (ht : ((pc + 1 : Nat) : Int) + off = (tgt : Int)) (kt : x = y → W p l e R s m args below meth c H locs cells slots Q (F0 m tgt ls rest)) (kf : ¬ x = y → W p l e R s m args below meth c H locs cells slots Q (F0 m (pc + 1 + 3) ls rest)) : W p l e R s m args below meth c H locs cells slots Q (F0 m pc ls (zJ y :: zJ x :: rest)) := by
  have hc : zcmp x y = 0 ↔ x = y := by
    unfold zcmp
    split
    · omega
    · split <;> omega
  refine z_lcmp C hx hy hd (z_ifeq C Rg.cmp hd2 ht (fun h => kt ?_) (fun h => kf ?_))
  · exact hc.mp h
  · exact fun g => h (hc.mpr g)
theorem z_lne (C : zC p s m args c cc own nL Ω) (hx : Rl x) (hy : Rl y) {off : Int} {tgt : Nat} (hd : decode cc pc = .ok (.lcmp, 1)) (hd2 : decode cc (pc + 1) = .ok (.ifCond .ne off, 3)) (ht : ((pc + 1 : Nat) : Int) + off = (tgt : Int)) (kt : ¬ x = y → W p l e R s m args below meth c H locs cells slots Q (F0 m tgt ls rest)) (kf : x = y → W p l e R s m args below meth c H locs cells slots Q (F0 m (pc + 1 + 3) ls rest)) : W p l e R s m args below meth c H locs cells slots Q (F0 m pc ls (zJ y :: zJ x :: rest)) := by
  have hc : zcmp x y = 0 ↔ x = y := by
    unfold zcmp
    split
    · omega
    · split <;> omega
  refine z_lcmp C hx hy hd (z_ifne C Rg.cmp hd2 ht (fun h => kt ?_) (fun h => kf ?_))
  · exact fun g => h (hc.mpr g)
  · exact hc.mp h
theorem z_llt (C : zC p s m args c cc own nL Ω) (hx : Rl x) (hy : Rl y) {off : Int} {tgt : Nat} (hd : decode cc pc = .ok (.lcmp, 1)) (hd2 : decode cc (pc + 1) = .ok (.ifCond .lt off, 3)) (ht : ((pc + 1 : Nat) : Int) + off = (tgt : Int)) (kt : x < y → W p l e R s m args below meth c H locs cells slots Q (F0 m tgt ls rest)) (kf : ¬ x < y → W p l e R s m args below meth c H locs cells slots Q (F0 m (pc + 1 + 3) ls rest)) : W p l e R s m args below meth c H locs cells slots Q (F0 m pc ls (zJ y :: zJ x :: rest)) := by
  have hc : zcmp x y < 0 ↔ x < y := by
    unfold zcmp
    split
    · omega
    · split <;> omega
  refine z_lcmp C hx hy hd (z_iflt C Rg.cmp hd2 ht (fun h => kt ?_) (fun h => kf ?_))
  · exact hc.mp h
  · exact fun g => h (hc.mpr g)
theorem z_lge (C : zC p s m args c cc own nL Ω) (hx : Rl x) (hy : Rl y) {off : Int} {tgt : Nat} (hd : decode cc pc = .ok (.lcmp, 1)) (hd2 : decode cc (pc + 1) = .ok (.ifCond .ge off, 3)) (ht : ((pc + 1 : Nat) : Int) + off = (tgt : Int)) (kt : ¬ x < y → W p l e R s m args below meth c H locs cells slots Q (F0 m tgt ls rest)) (kf : x < y → W p l e R s m args below meth c H locs cells slots Q (F0 m (pc + 1 + 3) ls rest)) : W p l e R s m args below meth c H locs cells slots Q (F0 m pc ls (zJ y :: zJ x :: rest)) := by
  have hc : zcmp x y < 0 ↔ x < y := by
    unfold zcmp
    split
    · omega
    · split <;> omega
  refine z_lcmp C hx hy hd (z_ifge C Rg.cmp hd2 ht (fun h => kt ?_) (fun h => kf ?_))
  · exact fun g => h (hc.mpr g)
  · exact hc.mp h
theorem z_lgt (C : zC p s m args c cc own nL Ω) (hx : Rl x) (hy : Rl y) {off : Int} {tgt : Nat} (hd : decode cc pc = .ok (.lcmp, 1)) (hd2 : decode cc (pc + 1) = .ok (.ifCond .gt off, 3)) (ht : ((pc + 1 : Nat) : Int) + off = (tgt : Int)) (kt : ¬ x ≤ y → W p l e R s m args below meth c H locs cells slots Q (F0 m tgt ls rest)) (kf : x ≤ y → W p l e R s m args below meth c H locs cells slots Q (F0 m (pc + 1 + 3) ls rest)) : W p l e R s m args below meth c H locs cells slots Q (F0 m pc ls (zJ y :: zJ x :: rest)) := by
  have hc : zcmp x y ≤ 0 ↔ x ≤ y := by
    unfold zcmp
    split
    · omega
    · split <;> omega
  refine z_lcmp C hx hy hd (z_ifgt C Rg.cmp hd2 ht (fun h => kt ?_) (fun h => kf ?_))
  · exact fun g => h (hc.mpr g)
  · exact hc.mp h
theorem z_lle (C : zC p s m args c cc own nL Ω) (hx : Rl x) (hy : Rl y) {off : Int} {tgt : Nat} (hd : decode cc pc = .ok (.lcmp, 1)) (hd2 : decode cc (pc + 1) = .ok (.ifCond .le off, 3)) (ht : ((pc + 1 : Nat) : Int) + off = (tgt : Int)) (kt : x ≤ y → W p l e R s m args below meth c H locs cells slots Q (F0 m tgt ls rest)) (kf : ¬ x ≤ y → W p l e R s m args below meth c H locs cells slots Q (F0 m (pc + 1 + 3) ls rest)) : W p l e R s m args below meth c H locs cells slots Q (F0 m pc ls (zJ y :: zJ x :: rest)) := by
  have hc : zcmp x y ≤ 0 ↔ x ≤ y := by
    unfold zcmp
    split
    · omega
    · split <;> omega
  refine z_lcmp C hx hy hd (z_ifle C Rg.cmp hd2 ht (fun h => kt ?_) (fun h => kf ?_))
  · exact hc.mp h
  · exact fun g => h (hc.mpr g)
/-! fields -/
theorem zfs_at {Ω : zO} {μ : zMem} {k : Int} {ci n j : Nat} (hj : j < n) : (zfs Ω μ k ci n)[j]? = some (zfv Ω μ k ci j) := by
  unfold zfs
  rw [List.getElem?_map, List.getElem?_range hj]
  rfl
theorem zat_obj {Ω : zO} {μ : zMem} {k : Int} {ci N : Nat} (hs : zsh k = (10 + ci, N)) : zat Ω μ k = (Ω.2.2.2 k, .inr (ci, zfs Ω μ k ci N)) := by
  unfold zat
  rw [hs]
  have h : (10 + ci) - 10 = ci := by omega
  have h9 : zce Ω μ k (10 + ci, N) = .inr ((10 + ci) - 10, zfs Ω μ k ((10 + ci) - 10) N) := by
    unfold zce
    split <;> first | (rename_i h0; exact absurd h0 (by simp only []; omega)) | rfl
  rw [h9, h]
theorem z_get (C : zC p s m args c cc own nL Ω) {H0 : Heap} (X : zX Ω μ A H0 H locs) {C0 : String} {T : u_T} {N ci index : Nat} {ty : Nat → FieldType} (K : zCl ci C0 T N ty) {k : Int} (hk : k ∈ Ω.2.2.1.1) (hs : zsh k = (10 + ci, N)) (j : Nat) (hj : j < N) (hl : Cond.fieldLink own index (T j).1 (T j).2.1 (T j).2.2.1 ∈ lw_tbl) (v : Value) (hv : zfv Ω μ k ci j = v) (hd : decode cc pc = .ok (.getfield index, 3))
    (kk : W p l e R s m args below meth c H locs cells slots Q (F0 m (pc + 3) ls (v :: rest))) : W p l e R s m args below meth c H locs cells slots Q (F0 m pc ls (zR Ω k :: rest)) := by
  obtain ⟨q, -, hq⟩ := zws_at (μ := μ) hk
  rw [zat_obj hs] at hq
  exact va_get C.1 C.2.1 C.2.2.2.2.1 K.1 C.2.2.2.1 C.2.2.2.2.2 X.1 q hq K.2.1 j hj (C.2.2.2.2.1 _ (zg hl rfl)) (fun _ h => h) (by rw [zfs_at hj, hv]) hd kk
theorem zfs_set {Ω : zO} {μ : zMem} {k : Int} {ci n j : Nat} {v : Int} : zfs Ω (zup μ k j v) k ci n = (zfs Ω μ k ci n).set j (zfv Ω (zup μ k j v) k ci j) := by
  refine List.ext_getElem? fun i => ?_
  rw [List.getElem?_set]
  unfold zfs
  rw [List.getElem?_map, List.length_map, List.length_range, List.getElem?_map]
  by_cases hij : j = i
  · subst hij
    rw [if_pos rfl]
    by_cases hj : j < n
    · rw [if_pos hj, List.getElem?_range hj]; rfl
    · rw [if_neg hj, List.getElem?_eq_none (by rw [List.length_range]; omega)]; rfl
  · rw [if_neg hij]
    cases hi : (List.range n)[i]? with
    | none => rfl
    | some i' =>
      have : i' = i := by
        have h1 := List.getElem?_eq_some_iff.mp hi
        obtain ⟨h1, h2⟩ := h1
        rw [List.getElem_range] at h2
        exact h2.symm
      subst this
      have hne : ¬ (i' : Int) = (j : Int) := fun h => hij (by omega)
      show some (zfv Ω (zup μ k j v) k ci i') = some (zfv Ω μ k ci i')
      unfold zfv zup
      simp only [hne, and_false, if_false]
theorem z_put (C : zC p s m args c cc own nL Ω) {H0 : Heap} (X : zX Ω μ A H0 H locs) {C0 : String} {T : u_T} {N ci index : Nat} {ty : Nat → FieldType} (K : zCl ci C0 T N ty) {k : Int} (hk : k ∈ Ω.2.2.1.1) (hs : zsh k = (10 + ci, N)) (j : Nat) (hj : j < N) (hl : Cond.fieldLink own index (T j).1 (T j).2.1 (T j).2.2.1 ∈ lw_tbl) {v : Int} (hfin : (T j).2.2.2 = false) (hn : narrow (ty j) (zfv Ω (zup μ k j v) k ci j) = zfv Ω (zup μ k j v) k ci j) (hfit : fits (ty j) (zfv Ω (zup μ k j v) k ci j) = true) (hok : zok Ω.2.2.1 k j v) (w : Value) (hw : zfv Ω (zup μ k j v) k ci j = w) (hd : decode cc pc = .ok (.putfield index, 3))
    (kk : ∀ (H1 : Heap) (locs1 : List Loc), zX Ω (zup μ k j v) A H0 H1 locs1 → W p l e R s m args below meth c H1 locs1 cells slots Q (F0 m (pc + 3) ls rest)) : W p l e R s m args below meth c H locs cells slots Q (F0 m pc ls (w :: zR Ω k :: rest)) := by
  obtain ⟨q, hq0, hq⟩ := zws_at (μ := μ) hk
  rw [zat_obj hs] at hq
  subst hw
  refine va_put C.1 C.2.1 C.2.2.2.2.1 K.1 ty K.2.2.1 K.2.2.2 C.2.2.2.1 C.2.2.2.2.2 X.1 X.2.1 X.2.2.1 q hq K.2.1 j hj (C.2.2.2.2.1 _ (zg hl rfl)) (fun _ h => h) hfin (K.2.2.1 j hj) hn hfit (by unfold zfs; simpa using hj) hd (fun H1 locs1 hP hD hS => kk H1 locs1 ?_)
  have he : (zws Ω μ).set q (Ω.2.2.2 k, .inr (ci, (zfs Ω μ k ci N).set j (zfv Ω (zup μ k j v) k ci j))) = zws Ω (zup μ k j v) := by
    rw [zws_set (μ := μ) (i := j) (v := v) X.2.1 hq0, zat_obj hs, ← zfs_set]
  rw [he] at hP hD
  exact ⟨hP, hD, hS, zup_at X.2.2.2 hok⟩
end ZR
