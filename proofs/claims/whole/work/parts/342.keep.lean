/-! which cells the relation looks at -/
def rlv (k : Int) : Prop := (2 ≤ k ∧ k ≤ 12) ∨ (16 ≤ k ∧ k ≤ 18) ∨ k = 20 ∨ (37 ≤ k ∧ k ≤ 85) ∨ (102 ≤ k ∧ k ≤ 108) ∨ k = 110 ∨ (142 ≤ k ∧ k ≤ 145) ∨ (148 ≤ k ∧ k ≤ 152) ∨ (158 ≤ k ∧ k ≤ 160)
def Kp (X : Int → Prop) (μ μ' : zMem) : Prop := (∀ k, rlv k → ¬ X k → μ' k = μ k) ∧ μ' 1 10 = μ 1 10 ∧ μ' 19 1 = μ 19 1 ∧ (∀ i, i = 7 ∨ i = 9 ∨ i = 37 ∨ i = 38 ∨ i = 39 → μ' 101 i = μ 101 i)
theorem Kp.refl (X : Int → Prop) (μ : zMem) : Kp X μ μ := ⟨fun _ _ _ => rfl, rfl, rfl, fun _ _ => rfl⟩
theorem Kp.trans {X : Int → Prop} {μ μ1 μ2 : zMem} (h : Kp X μ μ1) (h' : Kp X μ1 μ2) : Kp X μ μ2 := ⟨fun k a b => (h'.1 k a b).trans (h.1 k a b), h'.2.1.trans h.2.1, h'.2.2.1.trans h.2.2.1, fun i a => (h'.2.2.2 i a).trans (h.2.2.2 i a)⟩
theorem Kp.mono {X Y : Int → Prop} {μ μ1 : zMem} (h : Kp X μ μ1) (hx : ∀ k, X k → Y k) : Kp Y μ μ1 := ⟨fun k a b => h.1 k a (fun q => b (hx k q)), h.2⟩
/-- the part of the relation that is no sheet, no slot, no tape, no space -/
theorem Rel.scr {μ μ' : zMem} (h : Rel μ) (k : Kp (fun _ => False) μ μ') : Rel μ' := by
  obtain ⟨⟨r1, r2, r3⟩, r4, r5, r6, r7, r8⟩ := h
  obtain ⟨k1, k2, k3, k4⟩ := k
  have kk : ∀ k, rlv k → μ' k = μ k := fun k a => k1 k a id
  unfold rlv at kk
  refine ⟨⟨r1.congr fun k a => kk k (by omega), r2.congr (kk 2 (by omega)) k2, r3.congr fun k a => kk k (by omega)⟩, fun s a b => ?_, r5.congr k3 (k4 9 (by omega)) (kk 20 (by omega)) (kk 110 (by omega)), fun q a b => (r6 q a b).congr ⟨a, b⟩ (fun k c => kk k (by omega)), fun q a b => (r7 q a b).congr ⟨a, b⟩ (fun k c => kk k (by omega)), r8.congr (fun k c => kk k (by omega)) (k4 7 (by omega)) (k4 37 (by omega)) (k4 38 (by omega)) (k4 39 (by omega))⟩
  obtain ⟨σ, q⟩ := r4 s a b
  have hb : 37 ≤ μ 2 s ∧ μ 2 s ≤ 51 := by
    have h01 : s = 0 ∨ s = 1 := by omega
    rcases h01 with h | h <;> subst h
    · have := r2.1.b; omega
    · have := r2.2.1.b; omega
  exact ⟨σ, q.congr (by rw [kk 2 (by omega)]) (fun k a b => kk k (by omega)) (fun k a b => kk k (by omega))⟩
def shX (k : Int) : Prop := (66 ≤ k ∧ k ≤ 73) ∨ (158 ≤ k ∧ k ≤ 160)
theorem Rel.she {μ μ' : zMem} (h : Rel μ) (k : Kp shX μ μ') (hn : ∀ q, 0 ≤ q → q < 4 → ShR μ' q) : Rel μ' := by
  obtain ⟨⟨r1, r2, r3⟩, r4, r5, r6, r7, r8⟩ := h
  obtain ⟨k1, k2, k3, k4⟩ := k
  have kk := k1
  unfold rlv shX at kk
  refine ⟨⟨r1.congr fun k a => kk k (by omega) (by omega), r2.congr (kk 2 (by omega) (by omega)) k2, r3.congr fun k a => kk k (by omega) (by omega)⟩, fun s a b => ?_, r5.congr k3 (k4 9 (by omega)) (kk 20 (by omega) (by omega)) (kk 110 (by omega) (by omega)), fun q a b => (r6 q a b).congr ⟨a, b⟩ (fun k c => kk k (by omega) (by omega)), hn, r8.congr (fun k c => kk k (by omega) (by omega)) (k4 7 (by omega)) (k4 37 (by omega)) (k4 38 (by omega)) (k4 39 (by omega))⟩
  obtain ⟨σ, q⟩ := r4 s a b
  have hb : 37 ≤ μ 2 s ∧ μ 2 s ≤ 51 := by
    have h01 : s = 0 ∨ s = 1 := by omega
    rcases h01 with h | h <;> subst h
    · have := r2.1.b; omega
    · have := r2.2.1.b; omega
  exact ⟨σ, q.congr (by rw [kk 2 (by omega) (by omega)]) (fun k a b => kk k (by omega) (by omega)) (fun k a b => kk k (by omega) (by omega))⟩
def slX (k : Int) : Prop := (58 ≤ k ∧ k ≤ 65) ∨ (148 ≤ k ∧ k ≤ 152)
theorem Rel.slo {μ μ' : zMem} (h : Rel μ) (k : Kp slX μ μ') (hn : ∀ q, 0 ≤ q → q < 4 → SlR μ' q) : Rel μ' := by
  obtain ⟨⟨r1, r2, r3⟩, r4, r5, r6, r7, r8⟩ := h
  obtain ⟨k1, k2, k3, k4⟩ := k
  have kk := k1
  unfold rlv slX at kk
  refine ⟨⟨r1.congr fun k a => kk k (by omega) (by omega), r2.congr (kk 2 (by omega) (by omega)) k2, r3.congr fun k a => kk k (by omega) (by omega)⟩, fun s a b => ?_, r5.congr k3 (k4 9 (by omega)) (kk 20 (by omega) (by omega)) (kk 110 (by omega) (by omega)), hn, fun q a b => (r7 q a b).congr ⟨a, b⟩ (fun k c => kk k (by omega) (by omega)), r8.congr (fun k c => kk k (by omega) (by omega)) (k4 7 (by omega)) (k4 37 (by omega)) (k4 38 (by omega)) (k4 39 (by omega))⟩
  obtain ⟨σ, q⟩ := r4 s a b
  have hb : 37 ≤ μ 2 s ∧ μ 2 s ≤ 51 := by
    have h01 : s = 0 ∨ s = 1 := by omega
    rcases h01 with h | h <;> subst h
    · have := r2.1.b; omega
    · have := r2.2.1.b; omega
  exact ⟨σ, q.congr (by rw [kk 2 (by omega) (by omega)]) (fun k a b => kk k (by omega) (by omega)) (fun k a b => kk k (by omega) (by omega))⟩
/-! questions of the two sides that answer 1 or 0 -/
theorem in0 {x a b : Int} : f_X10_in x a b = 0 ↔ ¬ (a ≤ x ∧ x ≤ b) := by
  unfold f_X10_in
  split
  · exact ⟨fun _ => by omega, fun _ => rfl⟩
  · split
    · exact ⟨fun h => by omega, fun h => by omega⟩
    · exact ⟨fun _ => by omega, fun _ => rfl⟩
theorem isSpace0 {x : Int} : f_X10_isSpace x = 0 ↔ ¬ (0 ≤ x ∧ x ≤ 1) := in0
theorem isSlotM0 {x : Int} : f_X10_isSlot x = 0 ↔ ¬ (0 ≤ x ∧ x ≤ 3) := in0
theorem isSheetM0 {x : Int} : f_X10_isSheet x = 0 ↔ ¬ (0 ≤ x ∧ x ≤ 3) := in0
theorem areStoreys0 {x : Int} : f_X10_areStoreys x = 0 ↔ ¬ (2 ≤ x ∧ x ≤ 4) := in0
theorem isSheet0 {x : Int} : f_X9_isSheet x = 0 ↔ ¬ (0 ≤ x ∧ x ≤ 3) := by unfold f_X9_isSheet; split <;> (try split) <;> omega
theorem isSlot0 {x : Int} : f_X9_isSlot x = 0 ↔ ¬ (0 ≤ x ∧ x ≤ 3) := by unfold f_X9_isSlot; split <;> (try split) <;> omega
theorem isLane0 {x : Int} : f_X9_isLane x = 0 ↔ ¬ (0 ≤ x ∧ x ≤ 2) := by unfold f_X9_isLane; split <;> (try split) <;> omega
theorem isOwn0 {x : Int} : f_X9_isOwn x = 0 ↔ ¬ (0 ≤ x ∧ x ≤ 1) := by unfold f_X9_isOwn; split <;> (try split) <;> omega
theorem isStoreys0 {x : Int} : f_X9_isStoreys x = 0 ↔ ¬ (2 ≤ x ∧ x ≤ 4) := by unfold f_X9_isStoreys; split <;> (try split) <;> omega
