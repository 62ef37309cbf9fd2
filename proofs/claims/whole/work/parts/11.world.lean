def zshL : List (Nat × Nat) := [(0, 0), (19, 11), (5, 2), (11, 9), (15, 11), (1, 48), (1, 48), (1, 48), (3, 32), (1, 256), (1, 32), (1, 12), (1, 12), (1, 8), (1, 12), (1, 8), (6, 4), (7, 4), (8, 5), (17, 3), (4, 120), (18, 5), (1, 16), (12, 7), (2, 1536), (2, 8), (1, 8), (16, 10), (1, 12), (1, 64), (1, 8), (1, 8), (1, 16), (10, 10), (2, 4096), (2, 4096), (1, 24), (15, 11), (1, 12), (1, 12), (1, 12), (3, 8), (1, 64), (1, 8), (15, 11), (1, 12), (1, 12), (1, 12), (3, 8), (1, 64), (1, 8), (15, 11), (1, 12), (1, 12), (1, 12), (3, 8), (1, 64), (1, 8), (18, 5), (1, 16), (18, 5), (1, 16), (18, 5), (1, 16), (18, 5), (1, 16), (13, 3), (1, 20), (13, 3), (1, 20), (13, 3), (1, 20), (13, 3), (1, 20), (14, 5), (1, 4), (1, 4), (1, 2), (14, 5), (1, 18), (1, 36), (1, 6), (14, 5), (1, 96), (1, 576), (1, 24), (0, 0), (0, 0), (0, 0), (0, 0), (0, 0), (0, 0), (0, 0), (0, 0), (0, 0), (0, 0), (0, 0), (0, 0), (0, 0), (0, 0), (0, 0), (20, 59), (1, 3), (1, 3), (1, 3), (1, 144), (1, 144), (1, 96), (1, 768), (0, 0), (1, 120), (0, 0), (0, 0), (0, 0), (0, 0), (0, 0), (1, 17), (1, 96), (1, 256), (1, 32), (3, 32), (3, 48), (0, 0), (1, 48), (1, 2304), (2, 9), (2, 36864), (1, 4096), (1, 64), (1, 64), (0, 0), (0, 0), (0, 0), (1, 96), (1, 4), (0, 0), (0, 0), (0, 0), (0, 0), (0, 0), (0, 0), (0, 0), (1, 64), (1, 64), (1, 12), (3, 12), (1, 32), (1, 48), (1, 4), (1, 4), (1, 4), (1, 4), (1, 64), (0, 0), (1, 24), (0, 0), (2, 4800), (2, 4800), (1, 4), (1, 4), (1, 80)]
def zsh (k : Int) : Nat × Nat := zshL.getD k.toNat (0, 0)
def zfkL : List (List (Nat × Int)) := [[(3, 1), (3, 2), (3, 3), (0, 0), (1, 0), (1, 0), (1, 0), (1, 0), (2, 0), (2, 0)],
  [(3, 1), (3, 8), (3, 9), (3, 10), (3, 11), (3, 12), (0, 0), (0, 0), (4, 4)],
  [(3, 1), (3, 2), (3, 3), (0, 0), (0, 0), (1, 0), (1, 0)],
  [(3, 1), (0, 0), (0, 0)],
  [(0, 0), (0, 0), (3, 1), (3, 2), (3, 3)],
  [(3, 1), (3, 2), (3, 3), (3, 4), (3, 5), (3, 6), (0, 0), (0, 0), (0, 0), (0, 0), (0, 0)],
  [(3, 1), (3, 2), (3, 3), (3, 4), (3, 5), (0, 0), (0, 0), (2, 0), (0, 0), (4, 4)],
  [(3, 1), (0, 0), (0, 0)],
  [(3, 1), (0, 0), (0, 0), (0, 0), (0, 0)],
  [(3, 1), (3, 2), (3, 15), (3, 16), (3, 17), (3, 18), (3, 20), (3, 22), (3, 26), (3, 32), (4, 5)],
  [(3, 1), (3, 2), (3, 3), (3, 4), (3, 5), (3, 6), (3, 7), (2, 0), (3, 9), (0, 0), (0, 0), (0, 0), (0, 0), (0, 0), (3, 15), (3, 16), (3, 17), (3, 18), (3, 19), (3, 20), (0, 0), (3, 22), (3, 23), (3, 24), (3, 25), (3, 26), (3, 27), (3, 28), (0, 0), (0, 0), (0, 0), (3, 32), (3, 33), (0, 0), (0, 0), (0, 0), (0, 0), (0, 0), (0, 0), (0, 0), (3, 41), (3, 42), (3, 43), (3, 44), (3, 45), (3, 46), (3, 47), (3, 48), (3, 49), (3, 50), (3, 51), (0, 0), (3, 53), (0, 0), (3, 55), (3, 56), (3, 57), (3, 58), (3, 59)]]
def zfk (ci j : Nat) : Nat × Int := (zfkL.getD ci []).getD j (0, 0)
def zlen (k : Int) : Int := ((zsh k).2 : Int)
/-- the class of the elements of an array of references -/
def zel (a : Nat) : Nat := if a = 5 then 5 else if a = 6 then 8 else if a = 7 then 3 else 4
/-- how many cells an object of a class that has several takes -/
def zsz (ci : Nat) : Int := if ci = 5 then 7 else if ci = 4 then 4 else 2
/-! numbers -/
abbrev zMem : Type := Int → Int → Int
def zup (μ : zMem) (k i v : Int) : zMem := fun k' i' => if k' = k ∧ i' = i then v else μ k' i'
def zw (x : Int) : Int := (Int32.ofInt x).toInt
def zl (x : Int) : Int := (Int64.ofInt x).toInt
def Rg (x : Int) : Prop := -2147483648 ≤ x ∧ x ≤ 2147483647
def Rl (x : Int) : Prop := -9223372036854775808 ≤ x ∧ x ≤ 9223372036854775807
abbrev zI (x : Int) : Value := .int (Int32.ofInt x)
abbrev zJ (x : Int) : Value := .long (Int64.ofInt x)
theorem Rg.w (x : Int) : Rg (zw x) := by
  have h1 := Int32.toInt_lt (Int32.ofInt x)
  have h2 := Int32.le_toInt (Int32.ofInt x)
  unfold Rg zw
  omega
theorem Rl.w (x : Int) : Rl (zl x) := by
  have h1 := Int64.toInt_lt (Int64.ofInt x)
  have h2 := Int64.le_toInt (Int64.ofInt x)
  unfold Rl zl
  omega
theorem Rg.t (x : Int32) : Rg x.toInt := by
  have h1 := Int32.toInt_lt x
  have h2 := Int32.le_toInt x
  unfold Rg
  omega
theorem Rl.t (x : Int64) : Rl x.toInt := by
  have h1 := Int64.toInt_lt x
  have h2 := Int64.le_toInt x
  unfold Rl
  omega
theorem Rg.l {x : Int} (h : Rg x) : Rl x := by unfold Rg at h; unfold Rl; omega
theorem Rg.i {c : Prop} [Decidable c] {x y : Int} (hx : Rg x) (hy : Rg y) : Rg (if c then x else y) := by split <;> assumption
theorem Rl.i {c : Prop} [Decidable c] {x y : Int} (hx : Rl x) (hy : Rl y) : Rl (if c then x else y) := by split <;> assumption
theorem zI_w (x : Int) : Int32.ofInt (zw x) = Int32.ofInt x := Int32.ofInt_toInt _
theorem zJ_w (x : Int) : Int64.ofInt (zl x) = Int64.ofInt x := Int64.ofInt_toInt _
theorem Rg.v {x : Int} (h : Rg x) : (Int32.ofInt x).toInt = x := Int32.toInt_ofInt_of_le (by unfold Rg at h; omega) (by unfold Rg at h; omega)
theorem Rl.v {x : Int} (h : Rl x) : (Int64.ofInt x).toInt = x := Int64.toInt_ofInt_of_le (by unfold Rl at h; omega) (by unfold Rl at h; omega)
theorem Rg.eq {x : Int} (h : Rg x) : zw x = x := h.v
theorem Rl.eq {x : Int} (h : Rl x) : zl x = x := h.v
theorem zw_eq {x : Int} (h1 : -2147483648 ≤ x) (h2 : x ≤ 2147483647) : zw x = x := Rg.v ⟨h1, h2⟩
theorem zl_eq {x : Int} (h1 : -9223372036854775808 ≤ x) (h2 : x ≤ 9223372036854775807) : zl x = x := Rl.v ⟨h1, h2⟩
theorem zlt {x y : Int} (hx : Rg x) (hy : Rg y) : Int32.ofInt x < Int32.ofInt y ↔ x < y := by rw [Int32.lt_iff_toInt_lt, hx.v, hy.v]
theorem zle {x y : Int} (hx : Rg x) (hy : Rg y) : Int32.ofInt x ≤ Int32.ofInt y ↔ x ≤ y := by rw [Int32.le_iff_toInt_le, hx.v, hy.v]
theorem zeq {x y : Int} (hx : Rg x) (hy : Rg y) : Int32.ofInt x = Int32.ofInt y ↔ x = y := by rw [← Int32.toInt_inj, hx.v, hy.v]
/-! bits -/
def zand (x y : Int) : Int := (Int32.ofInt x &&& Int32.ofInt y).toInt
def zor (x y : Int) : Int := (Int32.ofInt x ||| Int32.ofInt y).toInt
def zxor (x y : Int) : Int := (Int32.ofInt x ^^^ Int32.ofInt y).toInt
def zshl (x y : Int) : Int := (Int32.ofInt x <<< (Int32.ofInt y &&& 31)).toInt
def zshr (x y : Int) : Int := (Int32.ofInt x >>> (Int32.ofInt y &&& 31)).toInt
def zland (x y : Int) : Int := (Int64.ofInt x &&& Int64.ofInt y).toInt
def zlor (x y : Int) : Int := (Int64.ofInt x ||| Int64.ofInt y).toInt
def zlxor (x y : Int) : Int := (Int64.ofInt x ^^^ Int64.ofInt y).toInt
def zlshl (x y : Int) : Int := (Int64.ofInt x <<< ((Int32.ofInt y).toInt64 &&& 63)).toInt
def zlshr (x y : Int) : Int := (Int64.ofInt x >>> ((Int32.ofInt y).toInt64 &&& 63)).toInt
def zlushr (x y : Int) : Int := (((Int64.ofInt x).toUInt64 >>> ((Int32.ofInt y).toInt64.toUInt64 &&& Int64.toUInt64 63)).toInt64).toInt
def zb (x : Int) : Int := ((Int32.ofInt x).toInt8.toInt32).toInt
def zs (x : Int) : Int := ((Int32.ofInt x).toInt16.toInt32).toInt
def zc (x : Int) : Int := (vp_nar .char (Int32.ofInt x)).toInt
def zz (x : Int) : Int := (vp_nar .boolean (Int32.ofInt x)).toInt
/-- a test that must hold, else the run is not told -/
def chk {α : Type} (c : Prop) [Decidable c] (k : Option α) : Option α := if c then k else none
theorem chk_some {α : Type} {c : Prop} [Decidable c] {k : Option α} {r : α} (h : chk c k = some r) : c ∧ k = some r := by
  unfold chk at h
  split at h
  · exact ⟨by assumption, h⟩
  · cases h
theorem chk_pos {α : Type} {c : Prop} [Decidable c] {k : Option α} (h : c) : chk c k = k := if_pos h
def bnd {α β : Type} (x : Option α) (k : α → Option β) : Option β := x.bind k
theorem bnd_some {α β : Type} {x : Option α} {k : α → Option β} {r : β} (h : bnd x k = some r) : ∃ v, x = some v ∧ k v = some r := by
  cases x with
  | none => cases h
  | some v => exact ⟨v, rfl, h⟩
theorem bnd_pos {α β : Type} {x : Option α} {k : α → Option β} {v : α} (h : x = some v) : bnd x k = k v := by rw [h]; rfl
/-! worlds -/
abbrev zO : Type := va_G × (Nat → ClassId) × (List Int × List Int) × (Int → Nat)
def zrf (ad : Int → Nat) (r : Int) : Option Nat := if r = 0 then none else some (ad r)
abbrev zR (Ω : zO) (k : Int) : Value := .ref (Ω.2.2.2 k)
abbrev zQ (Ω : zO) (r : Int) : Value := va_rf (zrf Ω.2.2.2 r)
theorem zQ_pos (Ω : zO) {r : Int} (h : r ≠ 0) : zQ Ω r = zR Ω r := by unfold zQ zrf; rw [if_neg h]; rfl
theorem zQ_nul (Ω : zO) {r : Int} (h : r = 0) : zQ Ω r = .null := by unfold zQ zrf; rw [if_pos h]; rfl
def zfv (Ω : zO) (μ : zMem) (k : Int) (ci j : Nat) : Value := match (zfk ci j).1 with
  | 0 => zI (μ k j)
  | 1 => zJ (μ k j)
  | 2 => zI (μ k j)
  | _ => zQ Ω (μ k j)
def zfs (Ω : zO) (μ : zMem) (k : Int) (ci n : Nat) : List Value := (List.range n).map (zfv Ω μ k ci)
def zai (μ : zMem) (k : Int) : Nat → Int32 := fun j => Int32.ofInt (μ k j)
def zal (μ : zMem) (k : Int) : Nat → Int64 := fun j => Int64.ofInt (μ k j)
def zar (Ω : zO) (μ : zMem) (k : Int) : Nat → Option Nat := fun j => zrf Ω.2.2.2 (μ k j)
def zce (Ω : zO) (μ : zMem) (k : Int) (q : Nat × Nat) : va_E := match q.1 with
  | 0 => .inl (Ω.2.1 0, (0, .inl (fun _ => 0)))
  | 1 => .inl (Ω.2.1 1, (q.2, .inl (zai μ k)))
  | 2 => .inl (Ω.2.1 2, (q.2, .inr (.inl (zal μ k))))
  | 3 => .inl (Ω.2.1 3, (q.2, .inl (zai μ k)))
  | 4 => .inl (Ω.2.1 4, (q.2, .inl (zai μ k)))
  | 5 => .inl (Ω.2.1 5, (q.2, .inr (.inr (.inr (.inr (zar Ω μ k))))))
  | 6 => .inl (Ω.2.1 6, (q.2, .inr (.inr (.inr (.inr (zar Ω μ k))))))
  | 7 => .inl (Ω.2.1 7, (q.2, .inr (.inr (.inr (.inr (zar Ω μ k))))))
  | 8 => .inl (Ω.2.1 8, (q.2, .inr (.inr (.inr (.inr (zar Ω μ k))))))
  | c => .inr (c - 10, zfs Ω μ k (c - 10) q.2)
def zat (Ω : zO) (μ : zMem) (k : Int) : Nat × va_E := (Ω.2.2.2 k, zce Ω μ k (zsh k))
def zws (Ω : zO) (μ : zMem) : va_W := Ω.2.2.1.1.map (zat Ω μ)
def ztys (Ω : zO) : List (ClassId × FieldType) := [(Ω.2.1 0, .int), (Ω.2.1 1, .int), (Ω.2.1 2, .long), (Ω.2.1 3, .boolean), (Ω.2.1 4, .char), (Ω.2.1 5, .object "LoopSpaces$Space"), (Ω.2.1 6, .object "LoopSpaces$Trail"), (Ω.2.1 7, .object "LoopSpaces$Sheet"), (Ω.2.1 8, .object "LoopSpaces$Shuffles")]
/-- an object of a class, with all its cells -/
def zob (ids : List Int × List Int) (ci : Nat) (r : Int) : Prop := (zsh r).1 = 10 + ci ∧ (∀ j : Int, 0 ≤ j → j < zsz ci → r + j ∈ ids.1) ∧ r ∈ ids.2
def zok (ids : List Int × List Int) (k i v : Int) : Prop := match (zsh k).1 with
  | 0 => True
  | 1 => Rg v
  | 2 => Rl v
  | 3 => 0 ≤ v ∧ v ≤ 1
  | 4 => 0 ≤ v ∧ v ≤ 65535
  | 5 => v = 0 ∨ zob ids 5 v
  | 6 => v = 0 ∨ zob ids 8 v
  | 7 => v = 0 ∨ zob ids 3 v
  | 8 => v = 0 ∨ zob ids 4 v
  | c => match (zfk (c - 10) i.toNat).1 with
    | 0 => Rg v
    | 1 => Rl v
    | 2 => 0 ≤ v ∧ v ≤ 1
    | 3 => (v = 0 ∨ v ∈ ids.1) ∧ (0 ≤ i → k ∈ ids.2 → v = k + (zfk (c - 10) i.toNat).2)
    | _ => v = 0 ∨ zob ids (zfk (c - 10) i.toNat).2.toNat v
def zT (ids : List Int × List Int) (μ : zMem) : Prop := ∀ k ∈ ids.1, ∀ i : Int, zok ids k i (μ k i)
def zX (Ω : zO) (μ : zMem) (A : Nat → Prop) (H0 H : Heap) (locs : List Loc) : Prop := va_P Ω.1 vwCl (zws Ω μ) H ∧ va_D A (zws Ω μ) ∧ va_S A H0 H locs ∧ zT Ω.2.2.1 μ
theorem zup_at {ids : List Int × List Int} {μ : zMem} {k i v : Int} (hT : zT ids μ) (hv : zok ids k i v) : zT ids (zup μ k i v) := by
  intro k' hk' i'
  unfold zup
  split
  · rename_i h
    rw [h.1, h.2]
    exact hv
  · exact hT k' hk' i'
theorem zws_at {Ω : zO} {μ : zMem} {k : Int} (h : k ∈ Ω.2.2.1.1) : ∃ q : Nat, Ω.2.2.1.1[q]? = some k ∧ (zws Ω μ)[q]? = some (zat Ω μ k) := by
  obtain ⟨q, hq⟩ := List.mem_iff_getElem?.mp h
  exact ⟨q, hq, by unfold zws; rw [List.getElem?_map, hq]; rfl⟩
/-- one slot of one cell changed: the list of cells changes at one place -/
theorem zws_set {Ω : zO} {μ : zMem} {A : Nat → Prop} {k i v : Int} {q : Nat} (hD : va_D A (zws Ω μ)) (hq : Ω.2.2.1.1[q]? = some k) : zws Ω (zup μ k i v) = (zws Ω μ).set q (zat Ω (zup μ k i v) k) := by
  refine List.ext_getElem? fun n => ?_
  rw [List.getElem?_set]
  unfold zws
  rw [List.getElem?_map, List.length_map, List.getElem?_map]
  by_cases hn : q = n
  · subst hn
    have hlt : q < Ω.2.2.1.1.length := (List.getElem?_eq_some_iff.mp hq).1
    rw [if_pos rfl, if_pos hlt, hq]
    rfl
  · rw [if_neg hn]
    cases hk : Ω.2.2.1.1[n]? with
    | none => rfl
    | some k' =>
      have hne : k' ≠ k := by
        intro he
        subst he
        refine hn (hD.1 q n (zat Ω μ k') (zat Ω μ k') ?_ ?_ rfl)
        · unfold zws; rw [List.getElem?_map, hq]; rfl
        · unfold zws; rw [List.getElem?_map, hk]; rfl
      have hrow : ∀ j : Int, zup μ k i v k' j = μ k' j := fun j => by unfold zup; exact if_neg (fun h => hne h.1)
      have h1 : zai (zup μ k i v) k' = zai μ k' := by funext j; unfold zai; rw [hrow]
      have h2 : zal (zup μ k i v) k' = zal μ k' := by funext j; unfold zal; rw [hrow]
      have h3 : zar Ω (zup μ k i v) k' = zar Ω μ k' := by funext j; unfold zar; rw [hrow]
      have h4 : ∀ ci m, zfs Ω (zup μ k i v) k' ci m = zfs Ω μ k' ci m := fun ci m => by
        unfold zfs
        refine congrArg (fun f => List.map f (List.range m)) ?_
        funext j
        unfold zfv
        rw [hrow]
      show some (zat Ω (zup μ k i v) k') = some (zat Ω μ k')
      unfold zat zce
      rw [h1, h2, h3]
      simp only [h4]
