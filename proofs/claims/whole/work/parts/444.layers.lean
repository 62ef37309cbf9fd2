/-! first of its like: both sides say the same -/
theorem rnb_0 {n a : Int} (hn : 2 ≤ n ∧ n ≤ 4) (ha : 0 ≤ a ∧ a < fct n) : rnb n a 0 = a := by
  have hf := fct_pos hn
  have h0 : (0 : Int) ≤ 0 ∧ 0 < fct n := ⟨by omega, by omega⟩
  refine prm_inj hn (rnb_rg hn ha h0) ha fun k a0 a1 => ?_
  have hb : prm n (bak n 0) k = k := by
    have := (bak_prm hn h0 (k := k) ⟨a0, a1⟩).1
    rw [prm_0 hn ⟨a0, a1⟩] at this
    exact this
  rw [prm_rnb hn ha h0 ⟨a0, a1⟩, hb, prm_0 hn (prm_rg hn ha ⟨a0, a1⟩)]
theorem nse_0 {n : Int} {N : Int} {t : Int → Int} (hn : 2 ≤ n ∧ n ≤ 4) (ht : TbR n N t) : ∀ (m : Nat) (i : Int), 0 ≤ i → i + m ≤ N → nse n t 0 m i = true := by
  intro m
  induction m with
  | zero => intro i _ _; rfl
  | succ m ih =>
    intro i i0 i1
    unfold nse
    rw [rnb_0 hn (ht i i0 (by omega)), if_pos rfl]
    exact ih (i + 1) (by omega) (by omega)
theorem fst_frs {n : Int} {t : Int → Int} {L : Nat} : ∀ (k : Nat) (u : Int), fst n t L k u = frs n t (L + 1) k u := by
  intro k
  induction k with
  | zero => intro u; rfl
  | succ k ih =>
    intro u
    unfold fst frs
    rw [nsm_nse, ih]
theorem frs_1 {n : Int} {t : Int → Int} {N : Nat} (hn : 2 ≤ n ∧ n ≤ 4) (ht : TbR n N t) : frs n t N (fct n).toNat 0 = frs n t N ((fct n).toNat - 1) 1 := by
  have hf := fct_pos hn
  have e : (fct n).toNat = ((fct n).toNat - 1) + 1 := by omega
  conv => lhs; rw [e]
  unfold frs
  rw [nse_0 hn ht N 0 (by omega) (by omega), Bool.true_and]
  have e2 : (fct n).toNat - 1 = ((fct n).toNat - 2) + 1 := by omega
  rw [e2]
  rfl
theorem nse_no {n u : Int} {t t' : Int → Int} : ∀ (m m' : Nat) (i : Int), m ≤ m' → (∀ j, i ≤ j → j < i + m → t' j = t j) → nse n t u m i = false → nse n t' u m' i = false := by
  intro m
  induction m with
  | zero => intro m' i _ _ h; exact absurd h (by simp [nse])
  | succ m ih =>
    intro m' i hm he h
    cases m' with
    | zero => omega
    | succ m' =>
      unfold nse at h ⊢
      rw [he i (by omega) (by omega)]
      by_cases hq : rnb n (t i) u = t i
      · rw [if_pos hq] at h ⊢
        exact ih m' (i + 1) (by omega) (fun j a b => he j (by omega) (by omega)) h
      · rw [if_neg hq] at h ⊢
        exact h
theorem frs_no {n : Int} {t t' : Int → Int} {m m' : Nat} (hm : m ≤ m') (he : ∀ j : Int, 0 ≤ j → j < m → t' j = t j) : ∀ (k : Nat) (u : Int), frs n t m k u = false → frs n t' m' k u = false := by
  intro k
  induction k with
  | zero => intro u h; exact absurd h (by simp [frs])
  | succ k ih =>
    intro u h
    unfold frs at h ⊢
    by_cases hq : nse n t u m 0 = true
    · rw [hq, Bool.true_and] at h
      rw [ih (u + 1) h, Bool.and_false]
    · rw [nse_no m m' 0 hm (fun j a b => he j a (by omega)) (Bool.eq_false_iff.mpr hq), Bool.false_and]
theorem frs_cg {n : Int} {t t' : Int → Int} {m : Nat} (he : ∀ j : Int, 0 ≤ j → j < m → t' j = t j) (k : Nat) (u : Int) : frs n t m k u = frs n t' m k u := by
  by_cases h : frs n t m k u = true
  · by_cases h' : frs n t' m k u = true
    · rw [h, h']
    · have := frs_no (t := t') (t' := t) (Nat.le_refl m) (fun j a b => (he j a b).symm) k u (Bool.eq_false_iff.mpr h')
      rw [h] at this
      exact absurd this (by decide)
  · rw [Bool.eq_false_iff.mpr h, frs_no (Nat.le_refl m) he k u (Bool.eq_false_iff.mpr h)]
theorem isO_cg {n N : Int} {t t' : Int → Int} (he : ∀ j, 0 ≤ j → j < N → t' j = t j) : isO n t N = isO n t' N := by
  have h : ∀ (t t' : Int → Int), (∀ j, 0 ≤ j → j < N → t' j = t j) → ∀ k, Rch n t N k → Rch n t' N k := by
    intro t t' he k hk S a b
    refine hk S a fun j x c d e f g => ?_
    rw [← he j c d]
    exact b j x c d e f g
  rw [Bool.eq_iff_iff, isO_iff, isO_iff]
  exact ⟨fun q k a b => h t t' he k (q k a b), fun q k a b => h t' t (fun j c d => (he j c d).symm) k (q k a b)⟩
/-- the tables that are first of their like; the layers' tables -/
def pF (σ : Sp) (n : Int) (t : Int → Int) : Bool := pH σ n t && frs n t (sN σ).toNat (fct n).toNat 0
noncomputable def pL (σ : Sp) (n : Int) (t : Int → Int) : Bool := pF σ n t && isO n t (sN σ)
theorem sols_filter {p q : (Int → Int) → Bool} {o : Nat} : ∀ (m : Nat) (x : Int) (t : Int → Int), sols (fun t => p t && q t) o m x t = (sols p o m x t).filter q := by
  intro m
  induction m with
  | zero =>
    intro x t
    unfold sols
    by_cases hp : p t = true
    · by_cases hq : q t = true
      · simp [hp, hq]
      · simp [hp, hq]
    · simp [hp]
  | succ m ih =>
    intro x t
    unfold sols
    rw [List.filter_flatMap]
    congr 1
    funext j
    exact ih (x + 1) _
/-! the cuts lose nothing: likes -/
theorem prnF1 {σ : Sp} {n mP : Int} {N : Nat} (hn : 2 ≤ n ∧ n ≤ 4) (hNs : (N : Int) = sN σ) (hp : WfP σ mP) (L : Nat) (t : Int → Int) (hL : L < N) (m : Nat) (h : (drh n t L (rms σ) && (decide ((1 : Int) = 0) || fst n t L ((fct n).toNat - 1) 1)) = false) : sols (pF σ n) (fct n).toNat m ((L : Int) + 1) (clp t ((L : Int) + 1)) = [] := by
  have hf := fct_pos hn
  refine sols_nil m _ _ fun t' ht' => ?_
  unfold pF
  have hag : ∀ j : Int, 0 ≤ j → j < (L : Int) + 1 → t' j = t j := fun j a b => by rw [ht' j b]; unfold clp; rw [if_pos ⟨a, b⟩]
  by_cases hd : drh n t L (rms σ) = true
  · rw [hd] at h
    simp at h
    rw [fst_frs] at h
    have h1 : frs n t' (sN σ).toNat ((fct n).toNat - 1) 1 = false := frs_no (by omega) (fun j a b => hag j a (by omega)) _ _ h
    have e : (fct n).toNat = ((fct n).toNat - 1) + 1 := by omega
    have h2 : frs n t' (sN σ).toNat (fct n).toNat 0 = false := by
      rw [e]
      unfold frs
      rw [show (0 : Int) + 1 = 1 by omega, h1, Bool.and_false]
    rw [h2, Bool.and_false]
  · rw [Bool.and_eq_false_iff]
    refine Or.inl (Bool.eq_false_iff.mpr fun hq => hd ?_)
    rw [pH_rms] at hq
    rw [← drh_cg (N := sN σ) (t := t') (fun ws a => (rms_wd hp ws a).1) hag]
    exact drh_iff.mpr fun ws a _ => hq ws a
theorem prnF2 {σ : Sp} {n mP : Int} {N : Nat} (hn : 2 ≤ n ∧ n ≤ 4) (hNs : (N : Int) = sN σ) (hN1 : 1 ≤ N) (hp : WfP σ mP) (t : Int → Int) (ht : TbR n N t) (h : ∀ L : Nat, L < N → (drh n t L (rms σ) && (decide ((1 : Int) = 0) || fst n t L ((fct n).toNat - 1) 1)) = true) : pF σ n (clp t N) = true := by
  unfold pF
  have hc : ∀ j : Int, 0 ≤ j → j < N → clp t N j = t j := fun j a b => by unfold clp; rw [if_pos ⟨a, b⟩]
  have h1 : pH σ n (clp t N) = true := by
    rw [hNs]
    refine prn2 hp (by omega) fun L hL => ?_
    have := h L (by omega)
    rw [Bool.and_eq_true] at this
    exact this.1
  have h2 := h (N - 1) (by omega)
  rw [Bool.and_eq_true] at h2
  have h3 := h2.2
  simp at h3
  rw [fst_frs, show N - 1 + 1 = N by omega, ← frs_1 hn ht, frs_cg (t' := clp t N) hc] at h3
  rw [h1, Bool.true_and, show (sN σ).toNat = N by omega]
  exact h3
theorem prnFc {σ : Sp} {n mP : Int} (hp : WfP σ mP) (L : Nat) (t t' : Int → Int) (h : ∀ j : Int, 0 ≤ j → j < (L : Int) + 1 → t j = t' j) : (drh n t L (rms σ) && (decide ((1 : Int) = 0) || fst n t L ((fct n).toNat - 1) 1)) = (drh n t' L (rms σ) && (decide ((1 : Int) = 0) || fst n t' L ((fct n).toNat - 1) 1)) := by
  rw [drh_cg (N := sN σ) (fun ws a => (rms_wd hp ws a).1) h, fst_frs, fst_frs, frs_cg (t := t) (t' := t') (fun j a b => (h j a (by omega)).symm)]
