/-! along a word of turns: numbers of shuffles, and storeys -/
def tdo (n : Int) (t : Int → Int) (c : Int) : Int := if c % 2 = 0 then t (c / 2) else bak n (t (c / 2))
def alg (n : Int) (t : Int → Int) : List Int → Int → Int
  | [], a => a
  | c :: ws, a => alg n t ws (fol n a (tdo n t c))
def mvs (n : Int) (t : Int → Int) : List Int → Int → Int
  | [], k => k
  | c :: ws, k => mvs n t ws (prm n (tdo n t c) k)
/-- a table of shuffles for N turns; a word over them -/
def TbR (n N : Int) (t : Int → Int) : Prop := ∀ j, 0 ≤ j → j < N → 0 ≤ t j ∧ t j < fct n
def WdR (N : Int) (ws : List Int) : Prop := ∀ c ∈ ws, 0 ≤ c ∧ c < 2 * N
theorem tdo_rg {n N : Int} {t : Int → Int} (hn : 2 ≤ n ∧ n ≤ 4) (ht : TbR n N t) {c : Int} (hc : 0 ≤ c ∧ c < 2 * N) : 0 ≤ tdo n t c ∧ tdo n t c < fct n := by
  unfold tdo
  have := ht (c / 2) (by omega) (by omega)
  split
  · exact this
  · exact bak_rg hn this
theorem alg_rg {n N : Int} {t : Int → Int} (hn : 2 ≤ n ∧ n ≤ 4) (ht : TbR n N t) (ws : List Int) (hw : WdR N ws) : ∀ a, 0 ≤ a ∧ a < fct n → 0 ≤ alg n t ws a ∧ alg n t ws a < fct n := by
  induction ws with
  | nil => intro a ha; exact ha
  | cons c ws ih =>
    intro a ha
    exact ih (fun x h => hw x (List.mem_cons_of_mem _ h)) _ (fol_rg hn ha (tdo_rg hn ht (hw c (List.mem_cons_self ..))))
theorem prm_alg {n N : Int} {t : Int → Int} (hn : 2 ≤ n ∧ n ≤ 4) (ht : TbR n N t) (ws : List Int) (hw : WdR N ws) : ∀ a k, 0 ≤ a ∧ a < fct n → 0 ≤ k ∧ k < n → prm n (alg n t ws a) k = mvs n t ws (prm n a k) := by
  induction ws with
  | nil => intro a k ha hk; rfl
  | cons c ws ih =>
    intro a k ha hk
    have hc := tdo_rg hn ht (hw c (List.mem_cons_self ..))
    unfold alg mvs
    rw [ih (fun x h => hw x (List.mem_cons_of_mem _ h)) _ k (fol_rg hn ha hc) hk, prm_fol hn ha hc hk]
theorem alg_0 {n N : Int} {t : Int → Int} (hn : 2 ≤ n ∧ n ≤ 4) (ht : TbR n N t) (ws : List Int) (hw : WdR N ws) : alg n t ws 0 = 0 ↔ ∀ k, 0 ≤ k → k < n → mvs n t ws k = k := by
  have hf := fct_pos hn
  have h0 : (0 : Int) ≤ 0 ∧ 0 < fct n := by omega
  constructor
  · intro h k k0 k1
    have := prm_alg hn ht ws hw 0 k h0 ⟨k0, k1⟩
    rw [h, prm_0 hn ⟨k0, k1⟩] at this
    exact this.symm
  · intro h
    refine prm_inj hn (alg_rg hn ht ws hw 0 h0) h0 fun k k0 k1 => ?_
    rw [prm_alg hn ht ws hw 0 k h0 ⟨k0, k1⟩, prm_0 hn ⟨k0, k1⟩]
    exact h k k0 k1
/-- the turns of a rim -/
def tcd (σ : Sp) (c : Int) : Int := 2 * cnt (isTn σ) (c / 2).toNat + c % 2
def rmw (σ : Sp) (f : Int) : Nat → Int → List Int
  | 0, _ => []
  | m + 1, i => if isTn σ (sR σ f i / 2) then tcd σ (sR σ f i) :: rmw σ f m (i + 1) else rmw σ f m (i + 1)
def rmW (σ : Sp) (f : Int) : List Int := rmw σ f (sL σ f).toNat 0
theorem cnt_mo (r : Int → Bool) (a b : Nat) : cnt r a ≤ cnt r (a + b) := by
  induction b with
  | zero => exact Int.le_refl _
  | succ b ih =>
    show cnt r a ≤ cnt r (a + b) + b2i (r (a + b : Nat))
    have : 0 ≤ b2i (r ((a + b : Nat) : Int)) := by unfold b2i; split <;> omega
    omega
theorem cnt_in {σ : Sp} {e : Int} (h : 0 ≤ e ∧ e < sE σ) (hi : isTn σ e = true) : 0 ≤ cnt (isTn σ) e.toNat ∧ cnt (isTn σ) e.toNat < sN σ := by
  have h1 := cnt_mo (isTn σ) (e.toNat + 1) ((sE σ).toNat - (e.toNat + 1))
  rw [show e.toNat + 1 + ((sE σ).toNat - (e.toNat + 1)) = (sE σ).toNat by omega] at h1
  have h2 : cnt (isTn σ) (e.toNat + 1) = cnt (isTn σ) e.toNat + 1 := by
    show cnt (isTn σ) e.toNat + b2i (isTn σ (e.toNat : Nat)) = _
    rw [show ((e.toNat : Nat) : Int) = e by omega, hi]
    rfl
  have h3 := (cnt_le (isTn σ) e.toNat).1
  unfold sN
  omega
theorem tcd_rg {σ : Sp} {c : Int} (h : 0 ≤ c ∧ c < 2 * sE σ) (hi : isTn σ (c / 2) = true) : 0 ≤ tcd σ c ∧ tcd σ c < 2 * sN σ := by
  have := cnt_in (σ := σ) (e := c / 2) (by omega) hi
  unfold tcd
  omega
theorem rmw_rg {σ : Sp} {f : Int} (hp : ∀ i, 0 ≤ i → i < sL σ f → 0 ≤ sR σ f i ∧ sR σ f i < 2 * sE σ) : ∀ (m : Nat) (i : Int), 0 ≤ i → i + m ≤ sL σ f → WdR (sN σ) (rmw σ f m i) := by
  intro m
  induction m with
  | zero => intro i _ _ c hc; simp [rmw] at hc
  | succ m ih =>
    intro i h0 h1
    unfold rmw
    have hr := ih (i + 1) (by omega) (by omega)
    split
    · intro c hc
      rcases List.mem_cons.mp hc with e | e
      · rw [e]; exact tcd_rg (hp i h0 (by omega)) (by assumption)
      · exact hr c e
    · exact hr
theorem rmw_len (σ : Sp) (f : Int) : ∀ (m : Nat) (i : Int), (rmw σ f m i).length ≤ m := by
  intro m
  induction m with
  | zero => intro i; simp [rmw]
  | succ m ih =>
    intro i
    unfold rmw
    have := ih (i + 1)
    split
    · simp; exact this
    · omega
theorem sW_tn (σ : Sp) (e : Int) : (isTn σ e = true → sW σ e = cnt (isTn σ) e.toNat) ∧ (isTn σ e = false → sW σ e < 0) := by
  unfold sW
  refine ⟨fun h => ?_, fun h => ?_⟩
  · have h' := h
    unfold isTn at h'
    simp at h'
    rw [h'.2, h'.1]
    rfl
  · unfold isTn at h
    by_cases h1 : tT σ e = true
    · rw [if_pos h1]; omega
    · by_cases h2 : tR σ (sF σ e) = true
      · simp [h1, h2] at h
      · simp [h1, h2]
/-- the class: along a word that lies in a cell -/
theorem c_moveAlong {μ : zMem} {n N x1 : Int} {t : Int → Int} (hT : ShT μ) (hn : 2 ≤ n ∧ n ≤ 4) (h9 : μ 27 9 = 66 + 4 * n) (hN : N ≤ 12) (ht : TbR n N t) (hc : ∀ j, 0 ≤ j → j < N → μ 28 j = t j) (hz : zlen x1 ≤ 4096) (x2 x3 : Int) (h2 : 0 ≤ x2 ∧ 0 ≤ x3 ∧ x2 + x3 ≤ zlen x1) : ∀ (ws : List Int) (fu : Nat) (a x : Int), ws.length < fu → WdR N ws → 0 ≤ x → x + ws.length = x2 + x3 → (∀ i (h : i < ws.length), μ x1 (x + i) = ws[i]) → 0 ≤ a ∧ a < fct n → f_X6_moveAlong_L6 x1 x2 x3 μ fu a x = some (alg n t ws a) := by
  intro ws
  induction ws with
  | nil =>
    intro fu a x hf hw x0 hx hm ha
    cases fu with
    | zero => simp at hf
    | succ fu =>
      unfold f_X6_moveAlong_L6
      simp at hx
      rw [zw_eq (by omega) (by omega), if_neg (by omega)]
      rfl
  | cons c ws ih =>
    intro fu a x hf hw x0 hx hm ha
    cases fu with
    | zero => simp at hf
    | succ fu =>
      have hcr := hw c (List.mem_cons_self ..)
      have hxc : μ x1 x = c := by
        have := hm 0 (by simp)
        rw [show x + ((0 : Nat) : Int) = x by omega] at this
        rw [this]; rfl
      simp at hx hf
      have hrest : ∀ i (h : i < ws.length), μ x1 (x + 1 + i) = ws[i] := by
        intro i h
        have := hm (i + 1) (by simp; omega)
        rw [show x + ((i + 1 : Nat) : Int) = x + 1 + i by omega] at this
        rw [this]; rfl
      have htd := tdo_rg hn ht hcr
      have htc := ht (c / 2) (by omega) (by omega)
      unfold f_X6_moveAlong_L6 f_X6_moveAlong_J56
      simp only [zlet]
      have hf' := ih fu (fol n a (tdo n t c)) (x + 1) (by omega) (fun x h => hw x (List.mem_cons_of_mem _ h)) (by omega) (by omega) hrest (fol_rg hn ha htd)
      rw [zw_eq (x := x2 + x3) (by omega) (by omega), if_pos (by omega), chk_pos (by omega), hxc, zshr1 ⟨by omega, by omega⟩, chk_pos (by omega), h9, chk_pos (by omega), chk_pos (by omega), zand1 ⟨by omega, by omega⟩, hc (c / 2) (by omega) (by omega), zw_eq (x := x + 1) (by omega) (by omega)]
      by_cases hb : c % 2 = 0
      · have e : tdo n t c = t (c / 2) := by unfold tdo; rw [if_pos hb]
        rw [if_pos hb, bnd_pos (c_follow hT hn ha htc), ← e]
        exact hf'
      · have e : tdo n t c = bak n (t (c / 2)) := by unfold tdo; rw [if_neg hb]
        rw [if_neg hb, chk_pos (by omega), bnd_pos (c_back hT hn htc), bnd_pos (c_follow hT hn ha (bak_rg hn htc)), ← e]
        exact hf'
