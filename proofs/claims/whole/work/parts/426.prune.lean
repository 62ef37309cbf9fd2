/-! the cuts lose nothing: rims -/
theorem sols_nil {p : (Int → Int) → Bool} {o : Nat} : ∀ (m : Nat) (x : Int) (t : Int → Int), (∀ t' : Int → Int, (∀ j, j < x → t' j = t j) → p t' = false) → sols p o m x t = [] := by
  intro m
  induction m with
  | zero =>
    intro x t h
    unfold sols
    rw [h t (fun _ _ => rfl)]
    rfl
  | succ m ih =>
    intro x t h
    unfold sols
    rw [List.flatMap_eq_nil_iff]
    intro j _
    refine ih (x + 1) _ fun t' ht' => h t' fun i hi => ?_
    rw [ht' i (by omega)]
    unfold seT
    rw [if_neg (by omega)]
theorem rmsF_mem {σ : Sp} {ws : List Int} : ∀ (m : Nat) (f : Int), ws ∈ rmsF σ m f ↔ ∃ g, f ≤ g ∧ g < f + m ∧ inP σ g = true ∧ ws = rmW σ g := by
  intro m
  induction m with
  | zero =>
    intro f
    refine ⟨fun h => by simp [rmsF] at h, fun ⟨g, a, b, _⟩ => by omega⟩
  | succ m ih =>
    intro f
    unfold rmsF
    by_cases hi : inP σ f = true
    · rw [if_pos hi, List.mem_cons, ih]
      constructor
      · intro h
        rcases h with h | ⟨g, a, b, c, d⟩
        · exact ⟨f, by omega, by omega, hi, h⟩
        · exact ⟨g, by omega, by omega, c, d⟩
      · rintro ⟨g, a, b, c, d⟩
        by_cases hg : g = f
        · exact Or.inl (by rw [d, hg])
        · exact Or.inr ⟨g, by omega, by omega, c, d⟩
    · rw [if_neg hi, ih]
      constructor
      · rintro ⟨g, a, b, c, d⟩
        exact ⟨g, by omega, by omega, c, d⟩
      · rintro ⟨g, a, b, c, d⟩
        refine ⟨g, ?_, by omega, c, d⟩
        by_cases hg : g = f
        · rw [hg] at c; exact absurd c hi
        · omega
theorem rmsF_len (σ : Sp) : ∀ (m : Nat) (f : Int), (rmsF σ m f).length ≤ m := by
  intro m
  induction m with
  | zero => intro f; simp [rmsF]
  | succ m ih =>
    intro f
    unfold rmsF
    have := ih (f + 1)
    split
    · simp; exact this
    · omega
theorem rms_wd {σ : Sp} {mP : Int} (hp : WfP σ mP) : ∀ ws ∈ rms σ, WdR (sN σ) ws ∧ ws.length ≤ 8 := by
  intro ws h
  obtain ⟨g, a, b, c, d⟩ := (rmsF_mem _ _).mp h
  rw [d]
  exact ⟨rmW_rg hp ⟨a, by omega⟩, rmW_len hp ⟨a, by omega⟩⟩
theorem pH_rms {σ : Sp} {n : Int} {t : Int → Int} : pH σ n t = true ↔ ∀ ws ∈ rms σ, alg n t ws 0 = 0 := by
  unfold pH
  rw [List.all_eq_true]
  constructor
  · intro h ws hw
    obtain ⟨g, a, b, c, d⟩ := (rmsF_mem _ _).mp hw
    have := h g.toNat (by rw [List.mem_range'_1]; omega)
    rw [show ((g.toNat : Nat) : Int) = g by omega, c] at this
    simp at this
    rw [d]; exact this
  · intro h f hf
    rw [List.mem_range'_1] at hf
    by_cases hi : inP σ f = true
    · have := h (rmW σ f) ((rmsF_mem _ _).mpr ⟨f, by omega, by omega, hi, rfl⟩)
      simp [this]
    · simp [hi]
theorem drh_iff {n L : Int} {t : Int → Int} {l : List (List Int)} : drh n t L l = true ↔ ∀ ws ∈ l, lst ws (-1) = L → alg n t ws 0 = 0 := by
  unfold drh
  rw [List.all_eq_true]
  constructor
  · intro h ws hw he
    have := h ws hw
    simp [he] at this
    exact this
  · intro h ws hw
    by_cases he : lst ws (-1) = L
    · simp [he, h ws hw he]
    · simp [he]
theorem drh_cg {n N L : Int} {t t' : Int → Int} {l : List (List Int)} (hw : ∀ ws ∈ l, WdR N ws) (h : ∀ j, 0 ≤ j → j < L + 1 → t j = t' j) : drh n t L l = drh n t' L l := by
  have e : ∀ ws ∈ l, lst ws (-1) = L → alg n t ws 0 = alg n t' ws 0 := fun ws a b => alg_cg ws ((hw ws a).lst (by omega)) h 0
  rw [Bool.eq_iff_iff, drh_iff, drh_iff]
  exact ⟨fun q ws a b => by rw [← e ws a b]; exact q ws a b, fun q ws a b => by rw [e ws a b]; exact q ws a b⟩
theorem prn1 {σ : Sp} {n mP : Int} (hp : WfP σ mP) {L : Nat} {t : Int → Int} (m : Nat) (h : drh n t L (rms σ) = false) : sols (pH σ n) (fct n).toNat m ((L : Int) + 1) (clp t ((L : Int) + 1)) = [] := by
  refine sols_nil m _ _ fun t' ht' => ?_
  rw [Bool.eq_false_iff]
  intro hq
  rw [pH_rms] at hq
  have : drh n t' L (rms σ) = true := drh_iff.mpr fun ws a _ => hq ws a
  rw [drh_cg (N := sN σ) (t' := t) (fun ws a => (rms_wd hp ws a).1) (fun j a b => by rw [ht' j b]; unfold clp; rw [if_pos ⟨a, b⟩]), h] at this
  exact absurd this (by decide)
theorem prn2 {σ : Sp} {n mP : Int} (hp : WfP σ mP) (hN : 0 ≤ sN σ) {t : Int → Int} (h : ∀ L : Nat, (L : Int) < sN σ → drh n t L (rms σ) = true) : pH σ n (clp t (sN σ)) = true := by
  rw [pH_rms]
  intro ws hw
  have hwd := (rms_wd hp ws hw).1
  rw [alg_cg (t' := t) ws hwd (fun j a b => by unfold clp; rw [if_pos ⟨a, b⟩])]
  have h1 := lst_lt hN ws hwd (-1) (by omega)
  have h2 := (lst_ge ws (-1))
  by_cases hl : lst ws (-1) = -1
  · cases ws with
    | nil => rfl
    | cons c ws =>
      have := h2.2 c (List.mem_cons_self ..)
      have := hwd c (List.mem_cons_self ..)
      omega
  · have := h (lst ws (-1)).toNat (by omega)
    exact drh_iff.mp this ws hw (by omega)
