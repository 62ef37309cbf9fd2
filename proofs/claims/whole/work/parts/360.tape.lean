/-! the tape: skipping blanks, numbers -/
theorem zup_zup (μ : zMem) (k i v w : Int) : zup (zup μ k i v) k i w = zup μ k i w := by
  funext k' i'
  unfold zup
  split <;> rfl
theorem zup_id {μ : zMem} {k i v : Int} (h : μ k i = v) : zup μ k i v = μ := by
  funext k' i'
  unfold zup
  split
  · rename_i q
    rw [q.1, q.2, h]
  · rfl
/-- T is N signs, each 32 .. 126 -/
def TP (T : Int → Int) (N : Int) : Prop := 0 ≤ N ∧ N ≤ 120 ∧ ∀ i, 0 ≤ i → i < N → 32 ≤ T i ∧ T i ≤ 126
def CTp (μ : zMem) (T : Int → Int) (N : Int) : Prop := μ 19 1 = N ∧ ∀ i, 0 ≤ i → i < N → μ 20 i = T i
def MTp (μ : zMem) (T : Int → Int) (N : Int) : Prop := μ 101 9 = N ∧ ∀ i, 0 ≤ i → i < N → μ 110 i = T i
def skp (T : Int → Int) (N p : Int) : Int := lsu (fun y => decide (N ≤ y) || decide (T y ≠ 32)) 200 p
def dge (T : Int → Int) (N p : Int) : Int := lsu (fun y => decide (N ≤ y) || decide (T y < 48) || decide (57 < T y)) 200 p
def dvl (T : Int → Int) (p : Int) : Nat → Int
  | 0 => 0
  | n + 1 => 10 * dvl T p n + T (p + n) - 48
section
variable {T : Int → Int} {N : Int}
theorem skp_spec {p : Int} (h : TP T N) (hp : 0 ≤ p ∧ p ≤ N) : p ≤ skp T N p ∧ skp T N p ≤ N ∧ (skp T N p < N → T (skp T N p) ≠ 32) ∧ ∀ e, p ≤ e → e < skp T N p → T e = 32 := by
  have hN := h.2.1
  unfold skp
  rcases lsu_spec (fun y => decide (N ≤ y) || decide (T y ≠ 32)) 200 p hp.1 with ⟨h1, h2⟩ | ⟨h1, h2, h3, h4⟩
  · have := h2 N hp.2 (by omega)
    simp at this
  · generalize lsu (fun y => decide (N ≤ y) || decide (T y ≠ 32)) 200 p = q at *
    refine ⟨h1, ?_, fun hq => ?_, fun e e0 e1 => ?_⟩
    · by_cases hq : q ≤ N
      · exact hq
      · have := h4 N hp.2 (by omega)
        simp at this
    · simp at h3
      omega
    · have := h4 e e0 e1
      simp at this
      exact this.2
theorem skp_at {p : Int} (hp : 0 ≤ p) (h : N ≤ p ∨ T p ≠ 32) : skp T N p = p := by
  unfold skp
  show lsu _ (199 + 1) p = p
  unfold lsu
  rw [if_pos (by simpa using h)]
theorem skp_step {p : Int} (hT : TP T N) (hp : 0 ≤ p ∧ p < N) (h : T p = 32) : skp T N p = skp T N (p + 1) := by
  have h1 := skp_spec hT (p := p) ⟨hp.1, by omega⟩
  have h2 := skp_spec hT (p := p + 1) ⟨by omega, by omega⟩
  have h3 : skp T N p ≠ p := fun e => h1.2.2.1 (by omega) (by rw [e]; exact h)
  rcases Int.lt_trichotomy (skp T N p) (skp T N (p + 1)) with h4 | h4 | h4
  · exact absurd (h2.2.2.2 (skp T N p) (by omega) h4) (h1.2.2.1 (by omega))
  · exact h4
  · exact absurd (h1.2.2.2 (skp T N (p + 1)) (by omega) h4) (h2.2.2.1 (by omega))
theorem skp_skp {p : Int} (hT : TP T N) (hp : 0 ≤ p ∧ p ≤ N) : skp T N (skp T N p) = skp T N p := by
  have h1 := skp_spec hT hp
  refine skp_at (by omega) ?_
  by_cases h : skp T N p < N
  · exact Or.inr (h1.2.2.1 h)
  · exact Or.inl (by omega)
theorem c_look {μ : zMem} {p : Int} (hT : TP T N) (hc : CTp μ T N) (hp : 0 ≤ p ∧ p ≤ N) (h : μ 19 2 = p) : f_X7_look μ = some (if skp T N p < N then T (skp T N p) else -1, zup μ 19 2 (skp T N p)) := by
  obtain ⟨t0, t1, t2⟩ := hT
  have hT : TP T N := ⟨t0, t1, t2⟩
  have key : ∀ (n : Nat) (p : Int) (μ1 : zMem), 0 ≤ p → p ≤ N → (N - p).toNat < n → μ1 19 2 = p → μ1 = zup μ 19 2 p → f_X7_look_L0 f_X7_look_K38 n μ1 = some (if skp T N p < N then T (skp T N p) else -1, zup μ 19 2 (skp T N p)) := by
    intro n
    induction n with
    | zero => intro p μ1 _ _ h; omega
    | succ n ih =>
      intro p μ1 p0 p1 p2 h1 h2
      have e1 : μ1 19 1 = N := by rw [h2, zup_s, up1_n _ _ (by decide)]; exact hc.1
      have e2 : ∀ i, 0 ≤ i → i < N → μ1 20 i = T i := fun i a b => by rw [h2, zup_n _ _ _ (by decide)]; exact hc.2 i a b
      have fin : (N ≤ p ∨ T p ≠ 32) → f_X7_look_K38 μ1 = some (if skp T N p < N then T (skp T N p) else -1, zup μ 19 2 (skp T N p)) := by
        intro h3
        rw [skp_at p0 h3]
        unfold f_X7_look_K38
        rw [h1, e1]
        by_cases hp : p < N
        · rw [if_pos hp, chk_pos (by omega), e2 p p0 hp, if_pos hp, h2]
        · rw [if_neg hp, if_neg hp, h2]
      unfold f_X7_look_L0
      rw [h1, e1]
      by_cases hp : p < N
      · rw [if_pos hp, chk_pos (by omega), e2 p p0 hp]
        by_cases h3 : T p = 32
        · rw [if_pos h3]
          simp only [zlet]
          rw [zw_eq (by omega) (by omega), skp_step hT ⟨p0, hp⟩ h3]
          exact ih (p + 1) _ (by omega) (by omega) (by omega) (by rw [zup_s, up1_s]) (by rw [h2, zup_zup])
        · rw [if_neg h3]
          exact fin (Or.inr h3)
      · rw [if_neg hp]
        exact fin (Or.inl (by omega))
  exact key zfu p μ hp.1 hp.2 (by unfold zfu; omega) h (zup_id h).symm
theorem c_pass {μ : zMem} {p x : Int} (hT : TP T N) (hc : CTp μ T N) (hp : 0 ≤ p ∧ p ≤ N) (h : μ 19 2 = p) (hx : 0 ≤ x) : f_X7_pass x μ = if skp T N p < N ∧ T (skp T N p) = x then some (1, zup μ 19 2 (skp T N p + 1)) else some (0, zup μ 19 2 (skp T N p)) := by
  have h1 := skp_spec hT hp
  have h2 := hT.2.1
  unfold f_X7_pass
  rw [c_look hT hc hp h, bnd2_pos rfl]
  simp only [zlet]
  by_cases h3 : skp T N p < N
  · rw [if_pos h3]
    by_cases h4 : T (skp T N p) = x
    · rw [if_pos h4, if_pos ⟨h3, h4⟩, zup_s, up1_s, zw_eq (by omega) (by omega), zup_zup]
    · rw [if_neg h4, if_neg (fun e => h4 e.2)]
  · rw [if_neg h3, if_neg (by omega), if_neg (fun e => h3 e.1)]
theorem c_isRead {μ : zMem} {p : Int} (hT : TP T N) (hc : CTp μ T N) (hp : 0 ≤ p ∧ p ≤ N) (h : μ 19 2 = p) : f_X7_isRead μ = some (if skp T N p = N then 1 else 0, zup μ 19 2 (skp T N p)) := by
  have h1 := skp_spec hT hp
  unfold f_X7_isRead
  rw [c_look hT hc hp h, bnd2_pos rfl]
  by_cases h3 : skp T N p < N
  · have := hT.2.2 (skp T N p) (by omega) h3
    rw [if_pos h3, if_neg (by omega), if_neg (by omega)]
  · rw [if_neg h3, if_pos rfl, if_pos (by omega)]
theorem c_faultHere {μ : zMem} {p : Int} (hT : TP T N) (hc : CTp μ T N) (hp : 0 ≤ p ∧ p ≤ N) (h : μ 19 2 = p) : f_X7_faultHere μ = some (-20 - skp T N p, zup μ 19 2 (skp T N p)) := by
  have h1 := skp_spec hT hp
  have h2 := hT.2.1
  unfold f_X7_faultHere
  rw [c_look hT hc hp h, bnd2_pos rfl, zup_s, up1_s, zw_eq (by omega) (by omega)]
theorem m_pass {μ : zMem} {p : Int} (hT : TP T N) (hc : MTp μ T N) (hp : 0 ≤ p ∧ p ≤ N) (h : μ 101 10 = p) : f_X10_pass μ = some (zup μ 101 10 (skp T N p)) := by
  obtain ⟨t0, t1, t2⟩ := hT
  have hT : TP T N := ⟨t0, t1, t2⟩
  have key : ∀ (n : Nat) (p : Int) (μ1 : zMem), 0 ≤ p → p ≤ N → (N - p).toNat < n → μ1 101 10 = p → μ1 = zup μ 101 10 p → f_X10_pass_L0 n μ1 = some (zup μ 101 10 (skp T N p)) := by
    intro n
    induction n with
    | zero => intro p μ1 _ _ h; omega
    | succ n ih =>
      intro p μ1 p0 p1 p2 h1 h2
      have e1 : μ1 101 9 = N := by rw [h2, zup_s, up1_n _ _ (by decide)]; exact hc.1
      have e2 : ∀ i, 0 ≤ i → i < N → μ1 110 i = T i := fun i a b => by rw [h2, zup_n _ _ _ (by decide)]; exact hc.2 i a b
      unfold f_X10_pass_L0
      rw [h1, e1]
      by_cases hp : p < N
      · rw [if_pos hp, chk_pos (by omega), e2 p p0 hp]
        by_cases h3 : T p = 32
        · rw [if_pos h3]
          simp only [zlet]
          rw [zw_eq (by omega) (by omega), skp_step hT ⟨p0, hp⟩ h3]
          exact ih (p + 1) _ (by omega) (by omega) (by omega) (by rw [zup_s, up1_s]) (by rw [h2, zup_zup])
        · rw [if_neg h3, skp_at p0 (Or.inr h3), h2]
      · rw [if_neg hp, skp_at p0 (Or.inl (by omega)), h2]
  exact key zfu p μ hp.1 hp.2 (by unfold zfu; omega) h (zup_id h).symm
theorem m_now {μ : zMem} {p : Int} (hT : TP T N) (hc : MTp μ T N) (hp : 0 ≤ p ∧ p ≤ N) (h : μ 101 10 = p) : f_X10_now μ = some (if p < N then T p else 0) := by
  have h2 := hT.2.1
  unfold f_X10_now
  rw [h, hc.1]
  by_cases h3 : p < N
  · rw [if_pos h3, if_pos h3, chk_pos (by omega), hc.2 p hp.1 h3]
  · rw [if_neg h3, if_neg h3]
/-! numbers -/
theorem dge_spec {p : Int} (h : TP T N) (hp : 0 ≤ p ∧ p ≤ N) : p ≤ dge T N p ∧ dge T N p ≤ N ∧ (dge T N p < N → ¬ (48 ≤ T (dge T N p) ∧ T (dge T N p) ≤ 57)) ∧ ∀ e, p ≤ e → e < dge T N p → 48 ≤ T e ∧ T e ≤ 57 := by
  have hN := h.2.1
  unfold dge
  rcases lsu_spec (fun y => decide (N ≤ y) || decide (T y < 48) || decide (57 < T y)) 200 p hp.1 with ⟨h1, h2⟩ | ⟨h1, h2, h3, h4⟩
  · have := h2 N hp.2 (by omega)
    simp at this
  · generalize lsu (fun y => decide (N ≤ y) || decide (T y < 48) || decide (57 < T y)) 200 p = q at *
    refine ⟨h1, ?_, fun hq => ?_, fun e e0 e1 => ?_⟩
    · by_cases hq : q ≤ N
      · exact hq
      · have := h4 N hp.2 (by omega)
        simp at this
    · simp at h3
      omega
    · have := h4 e e0 e1
      simp at this
      omega
theorem dvl_nn {p q : Int} (hd : ∀ e, p ≤ e → e < q → 48 ≤ T e ∧ T e ≤ 57) (k : Nat) (hk : p + k ≤ q) : 0 ≤ dvl T p k := by
  induction k with
  | zero => exact Int.le_refl 0
  | succ k ih =>
    have := ih (by omega)
    have := hd (p + k) (by omega) (by omega)
    unfold dvl
    omega
/-- a number that may stand there -/
def nok (T : Int → Int) (N lo hi P : Int) : Prop := P < dge T N P ∧ lo ≤ dvl T P (dge T N P - P).toNat ∧ dvl T P (dge T N P - P).toNat ≤ hi
theorem c_readNumber {μ : zMem} {p lo hi : Int} (hT : TP T N) (hc : CTp μ T N) (hp : 0 ≤ p ∧ p ≤ N) (h : μ 19 2 = p) (hlo : 0 ≤ lo) (hhi : -1 ≤ hi ∧ hi ≤ 100) : (nok T N lo hi (skp T N p) → f_X7_readNumber lo hi μ = some (dvl T (skp T N p) (dge T N (skp T N p) - skp T N p).toNat, zup μ 19 2 (dge T N (skp T N p)))) ∧ (¬ nok T N lo hi (skp T N p) → f_X7_readNumber lo hi μ = some (-1, zup μ 19 2 (skp T N p))) := by
  have hs := skp_spec hT hp
  generalize hP : skp T N p = P at *
  have hd := dge_spec hT (p := P) ⟨by omega, hs.2.1⟩
  have ht := hT.2.1
  generalize hq : dge T N P = q at *
  have key : ∀ (n k : Nat) (μ1 : zMem) (x : Int), P + k ≤ q → (q - (P + k)).toNat < n → μ1 = zup μ 19 2 (P + k) → x = min (dvl T P k) (hi + 1) → f_X7_readNumber_L13 hi (f_X7_readNumber_K91 lo hi P) n x μ1 = f_X7_readNumber_K91 lo hi P (min (dvl T P (q - P).toNat) (hi + 1)) (zup μ 19 2 q) := by
    intro n
    induction n with
    | zero => intro k μ1 x _ h; omega
    | succ n ih =>
      intro k μ1 x k0 k1 h1 hx
      have e0 : μ1 19 2 = P + k := by rw [h1, zup_s, up1_s]
      have e1 : μ1 19 1 = N := by rw [h1, zup_s, up1_n _ _ (by decide)]; exact hc.1
      have e2 : ∀ i, 0 ≤ i → i < N → μ1 20 i = T i := fun i a b => by rw [h1, zup_n _ _ _ (by decide)]; exact hc.2 i a b
      unfold f_X7_readNumber_L13
      rw [e0, e1]
      by_cases hk : P + k = q
      · have hkn : (q - P).toNat = k := by omega
        rw [hkn, ← hx, ← hk, ← h1]
        by_cases hqN : P + (k : Int) < N
        · have h3 := hd.2.2.1 (by omega)
          rw [← hk] at h3
          rw [if_pos hqN, chk_pos (by omega), e2 _ (by omega) hqN, chk_pos (by omega)]
          by_cases h4 : T (P + k) < 48
          · rw [if_pos h4]
          · rw [if_neg h4, if_neg (by omega)]
        · rw [if_neg hqN]
      · have h3 := hd.2.2.2 (P + k) (by omega) (by omega)
        have hnn := dvl_nn hd.2.2.2 k (by omega)
        rw [if_pos (by omega), chk_pos (by omega), e2 _ (by omega) (by omega), chk_pos (by omega), chk_pos (by omega), if_neg (by omega), if_pos h3.2]
        simp only [zlet]
        rw [zw_eq (x := 10 * x) (by omega) (by omega), zw_eq (x := 10 * x + _) (by omega) (by omega), zw_eq (x := 10 * x + T (P + k) - 48) (by omega) (by omega), zw_eq (x := hi + 1) (by omega) (by omega), zw_eq (x := P + k + 1) (by omega) (by omega)]
        refine ih (k + 1) _ _ (by omega) (by omega) (by rw [h1, zup_zup]; congr 1; omega) ?_
        have hdv : dvl T P (k + 1) = 10 * dvl T P k + T (P + k) - 48 := rfl
        rw [hdv]
        unfold zmin
        split <;> omega
  have hb : f_X7_readNumber lo hi μ = f_X7_readNumber_K91 lo hi P (min (dvl T P (q - P).toNat) (hi + 1)) (zup μ 19 2 q) := by
    unfold f_X7_readNumber
    rw [c_look hT hc hp h, hP, bnd2_pos rfl]
    simp only [zlet]
    rw [zup_s, up1_s]
    exact key zfu 0 _ 0 (by omega) (by unfold zfu; omega) (by simp) (by show (0 : Int) = min 0 (hi + 1); omega)
  have hnn := dvl_nn hd.2.2.2 (q - P).toNat (by omega)
  rw [hb]
  unfold nok f_X7_readNumber_K91 f_X7_readNumber_J114
  rw [hq, zup_s, up1_s]
  simp only [zlet]
  rw [zup_zup]
  refine ⟨fun hn => ?_, fun hn => ?_⟩
  · rw [if_neg (by omega), if_neg (by omega), if_pos (by omega), show min (dvl T P (q - P).toNat) (hi + 1) = dvl T P (q - P).toNat by omega]
  · by_cases h1 : q ≤ P
    · rw [if_pos h1]
    · rw [if_neg h1]
      by_cases h2 : min (dvl T P (q - P).toNat) (hi + 1) < lo
      · rw [if_pos h2]
      · rw [if_neg h2, if_neg (by omega)]
theorem m_readNumber {μ : zMem} {p lo hi : Int} (hT : TP T N) (hc : MTp μ T N) (hp : 0 ≤ p ∧ p ≤ N) (h : μ 101 10 = p) (hlo : 0 ≤ lo) (hhi : hi ≤ 100) : Ok (f_X10_readNumber lo hi μ) (fun w => Fm [] [10, 11, 12] μ w.2 ∧ (nok T N lo hi (skp T N p) → w.1 = 1 ∧ w.2 101 10 = dge T N (skp T N p) ∧ w.2 101 12 = dvl T (skp T N p) (dge T N (skp T N p) - skp T N p).toNat) ∧ (¬ nok T N lo hi (skp T N p) → w.1 = 0 ∧ w.2 101 11 = -20 - skp T N p)) := by
  have hs := skp_spec hT hp
  generalize hP : skp T N p = P at *
  have hd := dge_spec hT (p := P) ⟨by omega, hs.2.1⟩
  have ht := hT.2.1
  generalize hq : dge T N P = q at *
  -- behind the digits
  have fin : ∀ (μ1 : zMem), Fm [] [10, 11, 12] μ μ1 → μ1 101 10 = q → (μ1 101 12 = dvl T P (q - P).toNat ∨ (1000 < μ1 101 12 ∧ 1000 < dvl T P (q - P).toNat)) → Ok (f_X10_readNumber_K77 lo hi P μ1) (fun w => Fm [] [10, 11, 12] μ w.2 ∧ (nok T N lo hi P → w.1 = 1 ∧ w.2 101 10 = q ∧ w.2 101 12 = dvl T P (q - P).toNat) ∧ (¬ nok T N lo hi P → w.1 = 0 ∧ w.2 101 11 = -20 - P)) := by
    intro μ1 f1 f2 f3
    have bad : ¬ nok T N lo hi P → Ok (f_X10_readNumber_J97 P μ1) (fun w => Fm [] [10, 11, 12] μ w.2 ∧ (nok T N lo hi P → w.1 = 1 ∧ w.2 101 10 = q ∧ w.2 101 12 = dvl T P (q - P).toNat) ∧ (¬ nok T N lo hi P → w.1 = 0 ∧ w.2 101 11 = -20 - P)) := by
      intro hn
      unfold f_X10_readNumber_J97 f_X10_fails
      simp only [zlet]
      rw [bnd2_pos rfl, if_pos rfl, zw_eq (by omega) (by omega)]
      exact ok_some.mpr ⟨f1.upo (by decide) _, fun e => absurd e hn, fun _ => ⟨rfl, by simp only; rw [zup_s, up1_s]⟩⟩
    unfold f_X10_readNumber_K77
    rw [f2]
    by_cases h1 : q ≤ P
    · rw [if_pos h1]
      exact bad (fun e => by unfold nok at e; omega)
    · rw [if_neg h1]
      by_cases h2 : lo ≤ μ1 101 12 ∧ μ1 101 12 ≤ hi
      · rw [if_neg (fun e => in0.mp e h2)]
        refine ok_some.mpr ⟨f1, fun _ => ⟨rfl, f2, by simp only; omega⟩, fun e => absurd ?_ e⟩
        unfold nok
        rw [hq]
        omega
      · rw [if_pos (in0.mpr h2)]
        refine bad (fun e => ?_)
        unfold nok at e
        rw [hq] at e
        omega
  have key : ∀ (n k : Nat) (μ1 : zMem), P + k ≤ q → (q - (P + k)).toNat < n → Fm [] [10, 11, 12] μ μ1 → μ1 101 10 = P + k → ((μ1 101 12 = dvl T P k ∧ dvl T P k ≤ 10009) ∨ (1000 < μ1 101 12 ∧ μ1 101 12 ≤ 10009 ∧ 1000 < dvl T P k)) → Ok (f_X10_readNumber_L14 (f_X10_readNumber_K77 lo hi P) n μ1) (fun w => Fm [] [10, 11, 12] μ w.2 ∧ (nok T N lo hi P → w.1 = 1 ∧ w.2 101 10 = q ∧ w.2 101 12 = dvl T P (q - P).toNat) ∧ (¬ nok T N lo hi P → w.1 = 0 ∧ w.2 101 11 = -20 - P)) := by
    intro n
    induction n with
    | zero => intro k μ1 _ h; omega
    | succ n ih =>
      intro k μ1 k0 k1 f1 f2 f3
      have hc1 : MTp μ1 T N := ⟨by rw [f1.2 9 (by decide)]; exact hc.1, fun i a b => by rw [f1.1 110 (by decide) (by decide)]; exact hc.2 i a b⟩
      unfold f_X10_readNumber_L14
      rw [m_now hT hc1 (p := P + k) ⟨by omega, by omega⟩ f2, bnd_pos rfl]
      by_cases hk : P + k = q
      · have hkn : (q - P).toNat = k := by omega
        have h3 : f_X10_in (if P + (k : Int) < N then T (P + k) else 0) 48 57 = 0 := by
          refine in0.mpr ?_
          by_cases hqN : P + (k : Int) < N
          · rw [if_pos hqN, hk]
            exact hd.2.2.1 (by omega)
          · rw [if_neg hqN]
            omega
        rw [if_pos h3]
        refine fin μ1 f1 (by omega) ?_
        rw [hkn]
        omega
      · have h3 := hd.2.2.2 (P + k) (by omega) (by omega)
        have hnn := dvl_nn hd.2.2.2 k (by omega)
        rw [if_pos (show P + (k : Int) < N by omega), if_neg (fun e => in0.mp e h3)]
        have hdv : dvl T P (k + 1) = 10 * dvl T P k + T (P + k) - 48 := rfl
        have go : ∀ v, ((v = dvl T P (k + 1) ∧ dvl T P (k + 1) ≤ 10009) ∨ (1000 < v ∧ v ≤ 10009 ∧ 1000 < dvl T P (k + 1))) → Ok (f_X10_readNumber_J61 (f_X10_readNumber_L14 (f_X10_readNumber_K77 lo hi P) n) v μ1) (fun w => Fm [] [10, 11, 12] μ w.2 ∧ (nok T N lo hi P → w.1 = 1 ∧ w.2 101 10 = q ∧ w.2 101 12 = dvl T P (q - P).toNat) ∧ (¬ nok T N lo hi P → w.1 = 0 ∧ w.2 101 11 = -20 - P)) := by
          intro v hv
          unfold f_X10_readNumber_J61
          simp only [zlet]
          rw [zup_s, up1_n _ _ (by decide), f2, zw_eq (by omega) (by omega)]
          refine ih (k + 1) _ (by omega) (by omega) ((f1.upo (by decide) _).upo (by decide) _) (by rw [zup_s, up1_s]; omega) ?_
          rw [zup_s, up1_n _ _ (by decide), zup_s, up1_s]
          exact hv
        by_cases h4 : μ1 101 12 ≤ 1000
        · rw [if_pos h4, bnd_pos rfl, zw_eq (x := 10 * μ1 101 12) (by omega) (by omega), zw_eq (x := 10 * μ1 101 12 + _) (by omega) (by omega), zw_eq (by omega) (by omega)]
          exact go _ (by omega)
        · rw [if_neg h4]
          exact go _ (by omega)
  unfold f_X10_readNumber
  rw [m_pass hT hc hp h, hP, bnd_pos rfl]
  simp only [zlet]
  rw [zup_s, up1_s]
  refine key zfu 0 _ (by omega) (by unfold zfu; omega) (((Fm.refl _ _ μ).upo (by decide) _).upo (by decide) _) (by rw [zup_s, up1_n _ _ (by decide), zup_s, up1_s]; omega) (Or.inl ⟨by rw [zup_s, up1_s]; rfl, by show (0 : Int) ≤ 10009; decide⟩)
end
