/-! a run that is told, and what it leaves -/
def Ok {α : Type} (x : Option α) (Q : α → Prop) : Prop := ∃ v, x = some v ∧ Q v
section
variable {α β : Type} {Q Q' : α → Prop}
theorem Ok.mk {x : Option α} {v : α} (h : x = some v) (q : Q v) : Ok x Q := ⟨v, h, q⟩
theorem ok_some {v : α} : Ok (some v) Q ↔ Q v := ⟨fun ⟨_, h, q⟩ => by cases h; exact q, fun q => ⟨v, rfl, q⟩⟩
theorem ok_none : Ok none Q ↔ False := ⟨fun ⟨_, h, _⟩ => (by cases h), False.elim⟩
theorem ok_chk {c : Prop} [Decidable c] {k : Option α} : Ok (chk c k) Q ↔ c ∧ Ok k Q := by
  unfold chk
  split
  · exact ⟨fun h => ⟨by assumption, h⟩, fun h => h.2⟩
  · exact ⟨fun h => (ok_none.mp h).elim, fun h => absurd h.1 (by assumption)⟩
theorem ok_zlet {x : β} {f : β → Option α} : Ok (zlet x f) Q ↔ Ok (f x) Q := Iff.rfl
theorem ok_bnd {x : Option β} {f : β → Option α} : Ok (bnd x f) Q ↔ Ok x (fun v => Ok (f v) Q) := by
  unfold bnd
  cases x with
  | none => exact ⟨fun h => (ok_none.mp h).elim, fun h => (ok_none.mp h).elim⟩
  | some v => exact Iff.symm ok_some
theorem ok_bnd2 {x : Option (Int × zMem)} {f : Int → zMem → Option α} : Ok (bnd2 x f) Q ↔ Ok x (fun v => Ok (f v.1 v.2) Q) := by
  unfold bnd2
  cases x with
  | none => exact ⟨fun h => (ok_none.mp h).elim, fun h => (ok_none.mp h).elim⟩
  | some v => exact Iff.symm ok_some
theorem ok_ite {c : Prop} [Decidable c] {a b : Option α} : Ok (if c then a else b) Q ↔ (c → Ok a Q) ∧ (¬ c → Ok b Q) := by
  split
  · exact ⟨fun h => ⟨fun _ => h, fun n => absurd (by assumption) n⟩, fun h => h.1 (by assumption)⟩
  · exact ⟨fun h => ⟨fun n => absurd n (by assumption), fun _ => h⟩, fun h => h.2 (by assumption)⟩
theorem Ok.imp {x : Option α} (h : Ok x Q) (f : ∀ v, Q v → Q' v) : Ok x Q' := by
  obtain ⟨v, h1, h2⟩ := h
  exact ⟨v, h1, f v h2⟩
theorem Ok.get {x : Option α} (h : Ok x Q) : ∃ v, x = some v ∧ Q v := h
end
theorem zup_eq (μ : zMem) (k i v k' i' : Int) : zup μ k i v k' i' = if k' = k ∧ i' = i then v else μ k' i' := rfl
theorem zcpy_eq (μ : zMem) (a sp b dp n k i : Int) : zcpy μ a sp b dp n k i = if k = b ∧ dp ≤ i ∧ i < dp + n then μ a (sp + (i - dp)) else μ k i := rfl
/-! bits of small numbers -/
theorem zand1 {x : Int} (h : Rg x) : zand x 1 = x % 2 := by
  unfold zand
  rw [pk_and (Int32.ofInt x) (m := Int32.ofInt 1) 1 (by decide)]
  have h1 : (Int32.ofInt x).toBitVec.toNat % 2 ^ 1 < 2 := Nat.mod_lt _ (by decide)
  rw [nI_toInt (by omega)]
  have h2 := h.v
  rw [← Int32.toInt_toBitVec, BitVec.toInt_eq_toNat_cond] at h2
  unfold Rg at h
  split at h2 <;> omega
theorem zshr_n {x : Int} (h : Rg x) (n : Nat) (hn : n < 32) : zshr x n = x / 2 ^ n := by
  unfold zshr
  have h3 : ((Int32.ofInt (n : Int) &&& 31).toBitVec.smod 32).toNat = n := by
    have : ∀ m : Fin 32, ((Int32.ofInt (m.val : Int) &&& 31).toBitVec.smod 32).toNat = m.val := by decide +kernel
    exact this ⟨n, hn⟩
  rw [pk_shr _ _ n h3, h.v]
  rw [Int.shiftRight_eq_div_pow]
  norm_cast
theorem zshr1 {x : Int} (h : Rg x) : zshr x 1 = x / 2 := zshr_n h 1 (by decide)
theorem zz1 : zz 1 = 1 := by decide
theorem zz0 : zz 0 = 0 := by decide
/-! cells as functions -/
def up1 (c : Int → Int) (i v : Int) : Int → Int := fun j => if j = i then v else c j
theorem up1_s (c : Int → Int) (i v : Int) : up1 c i v i = v := if_pos rfl
theorem up1_n (c : Int → Int) {i j : Int} (v : Int) (h : j ≠ i) : up1 c i v j = c j := if_neg h
theorem up1_e (c : Int → Int) (i v j : Int) : up1 c i v j = if j = i then v else c j := rfl
theorem zup_s (μ : zMem) (k i v : Int) : zup μ k i v k = up1 (μ k) i v := by
  funext j
  unfold zup up1
  simp
theorem zup_n (μ : zMem) {k k' : Int} (i v : Int) (h : k' ≠ k) : zup μ k i v k' = μ k' := by
  funext j
  unfold zup
  exact if_neg (fun q => h q.1)
