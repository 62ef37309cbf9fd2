/-! the ways in which storeys change, by numbers -/
def prm2 : List Int := [0, 1, 1, 0]
def fol2 : List Int := [0, 1, 1, 0]
def bak2 : List Int := [0, 1]
def prm3 : List Int := [0, 1, 2, 0, 2, 1, 1, 0, 2, 1, 2, 0, 2, 0, 1, 2, 1, 0]
def fol3 : List Int := [0, 1, 2, 3, 4, 5, 1, 0, 3, 2, 5, 4, 2, 4, 0, 5, 1, 3, 3, 5, 1, 4, 0, 2, 4, 2, 5, 0, 3, 1, 5, 3, 4, 1, 2, 0]
def bak3 : List Int := [0, 1, 2, 4, 3, 5]
def prm4 : List Int := [0, 1, 2, 3, 0, 1, 3, 2, 0, 2, 1, 3, 0, 2, 3, 1, 0, 3, 1, 2, 0, 3, 2, 1, 1, 0, 2, 3, 1, 0, 3, 2, 1, 2, 0, 3, 1, 2, 3, 0, 1, 3, 0, 2, 1, 3, 2, 0, 2, 0, 1, 3, 2, 0, 3, 1, 2, 1, 0, 3, 2, 1, 3, 0, 2, 3, 0, 1, 2, 3, 1, 0, 3, 0, 1, 2, 3, 0, 2, 1, 3, 1, 0, 2, 3, 1, 2, 0, 3, 2, 0, 1, 3, 2, 1, 0]
def fol4 : List Int := [0, 1, 2, 3, 4, 5, 6, 7, 8, 9, 10, 11, 12, 13, 14, 15, 16, 17, 18, 19, 20, 21, 22, 23, 1, 0, 3, 2, 5, 4, 7, 6, 9, 8, 11, 10, 13, 12, 15, 14, 17, 16, 19, 18, 21, 20, 23, 22, 2, 4, 0, 5, 1, 3, 8, 10, 6, 11, 7, 9, 14, 16, 12, 17, 13, 15, 20, 22, 18, 23, 19, 21, 3, 5, 1, 4, 0, 2, 9, 11, 7, 10, 6, 8, 15, 17, 13, 16, 12, 14, 21, 23, 19, 22, 18, 20, 4, 2, 5, 0, 3, 1, 10, 8, 11, 6, 9, 7, 16, 14, 17, 12, 15, 13, 22, 20, 23, 18, 21, 19, 5, 3, 4, 1, 2, 0, 11, 9, 10, 7, 8, 6, 17, 15, 16, 13, 14, 12, 23, 21, 22, 19, 20, 18, 6, 7, 12, 13, 18, 19, 0, 1, 14, 15, 20, 21, 2, 3, 8, 9, 22, 23, 4, 5, 10, 11, 16, 17, 7, 6, 13, 12, 19, 18, 1, 0, 15, 14, 21, 20, 3, 2, 9, 8, 23, 22, 5, 4, 11, 10, 17, 16, 8, 10, 14, 16, 20, 22, 2, 4, 12, 17, 18, 23, 0, 5, 6, 11, 19, 21, 1, 3, 7, 9, 13, 15, 9, 11, 15, 17, 21, 23, 3, 5, 13, 16, 19, 22, 1, 4, 7, 10, 18, 20, 0, 2, 6, 8, 12, 14, 10, 8, 16, 14, 22, 20, 4, 2, 17, 12, 23, 18, 5, 0, 11, 6, 21, 19, 3, 1, 9, 7, 15, 13, 11, 9, 17, 15, 23, 21, 5, 3, 16, 13, 22, 19, 4, 1, 10, 7, 20, 18, 2, 0, 8, 6, 14, 12, 12, 18, 6, 19, 7, 13, 14, 20, 0, 21, 1, 15, 8, 22, 2, 23, 3, 9, 10, 16, 4, 17, 5, 11, 13, 19, 7, 18, 6, 12, 15, 21, 1, 20, 0, 14, 9, 23, 3, 22, 2, 8, 11, 17, 5, 16, 4, 10, 14, 20, 8, 22, 10, 16, 12, 18, 2, 23, 4, 17, 6, 19, 0, 21, 5, 11, 7, 13, 1, 15, 3, 9, 15, 21, 9, 23, 11, 17, 13, 19, 3, 22, 5, 16, 7, 18, 1, 20, 4, 10, 6, 12, 0, 14, 2, 8, 16, 22, 10, 20, 8, 14, 17, 23, 4, 18, 2, 12, 11, 21, 5, 19, 0, 6, 9, 15, 3, 13, 1, 7, 17, 23, 11, 21, 9, 15, 16, 22, 5, 19, 3, 13, 10, 20, 4, 18, 1, 7, 8, 14, 2, 12, 0, 6, 18, 12, 19, 6, 13, 7, 20, 14, 21, 0, 15, 1, 22, 8, 23, 2, 9, 3, 16, 10, 17, 4, 11, 5, 19, 13, 18, 7, 12, 6, 21, 15, 20, 1, 14, 0, 23, 9, 22, 3, 8, 2, 17, 11, 16, 5, 10, 4, 20, 14, 22, 8, 16, 10, 18, 12, 23, 2, 17, 4, 19, 6, 21, 0, 11, 5, 13, 7, 15, 1, 9, 3, 21, 15, 23, 9, 17, 11, 19, 13, 22, 3, 16, 5, 18, 7, 20, 1, 10, 4, 12, 6, 14, 0, 8, 2, 22, 16, 20, 10, 14, 8, 23, 17, 18, 4, 12, 2, 21, 11, 19, 5, 6, 0, 15, 9, 13, 3, 7, 1, 23, 17, 21, 11, 15, 9, 22, 16, 19, 5, 13, 3, 20, 10, 18, 4, 7, 1, 14, 8, 12, 2, 6, 0]
def bak4 : List Int := [0, 1, 2, 4, 3, 5, 6, 7, 12, 18, 13, 19, 8, 10, 14, 20, 16, 22, 9, 11, 15, 21, 17, 23]
def fct (n : Int) : Int := if n = 2 then 2 else if n = 3 then 6 else 24
def prm (n j k : Int) : Int := (if n = 2 then prm2 else if n = 3 then prm3 else prm4).getD (j * n + k).toNat 0
def fol (n a b : Int) : Int := (if n = 2 then fol2 else if n = 3 then fol3 else fol4).getD (a * fct n + b).toNat 0
def bak (n a : Int) : Int := (if n = 2 then bak2 else if n = 3 then bak3 else bak4).getD a.toNat 0
/-- the class's tables of them -/
def ShT (μ : zMem) : Prop := ∀ n, 2 ≤ n → n ≤ 4 → μ 18 n = 66 + 4 * n ∧ μ (66 + 4 * n) 0 = n ∧ μ (66 + 4 * n) 1 = fct n ∧ (∀ j k, 0 ≤ j → j < fct n → 0 ≤ k → k < n → μ (66 + 4 * n + 1) (j * n + k) = prm n j k) ∧ (∀ a b, 0 ≤ a → a < fct n → 0 ≤ b → b < fct n → μ (66 + 4 * n + 2) (a * fct n + b) = fol n a b) ∧ (∀ a, 0 ≤ a → a < fct n → μ (66 + 4 * n + 3) a = bak n a)
/-! both worlds side by side -/
def PK (k : Int) : Prop := k = 37 ∨ k = 44 ∨ k = 51
/-- where the class keeps its spaces -/
def K3 (μ : zMem) : Prop := PK (μ 2 0) ∧ PK (μ 2 1) ∧ PK (μ 1 10) ∧ μ 2 0 ≠ μ 2 1 ∧ μ 2 0 ≠ μ 1 10 ∧ μ 2 1 ≠ μ 1 10
def S4 (μ : zMem) : Prop := ∀ q, 0 ≤ q → q < 4 → μ 16 q = 58 + 2 * q ∧ μ 17 q = 66 + 2 * q
def SpR (μ : zMem) (s : Int) (σ : Sp) : Prop := CS μ (μ 2 s) σ ∧ CP μ (μ 2 s) σ ∧ MS μ s σ ∧ WfE σ 8 12 ∧ WfP σ 8
def TpR (μ : zMem) : Prop := μ 19 1 = μ 101 9 ∧ 0 ≤ μ 19 1 ∧ μ 19 1 ≤ 120 ∧ ∀ i, 0 ≤ i → i < μ 19 1 → μ 20 i = μ 110 i ∧ 32 ≤ μ 20 i ∧ μ 20 i ≤ 126
def SlR (μ : zMem) (q : Int) : Prop := (μ (58 + 2 * q) 1 = -1 ∧ μ 148 q = -4) ∨ (0 ≤ μ (58 + 2 * q) 1 ∧ μ (58 + 2 * q) 1 ≤ 1 ∧ μ 148 q = μ (58 + 2 * q) 1 ∧ μ 149 q = μ (58 + 2 * q) 2 ∧ μ 150 q = μ (58 + 2 * q) 3 ∧ μ 151 q = μ (58 + 2 * q) 4 ∧ 0 ≤ μ (58 + 2 * q) 2 ∧ μ (58 + 2 * q) 2 ≤ 16 ∧ ∀ i, 0 ≤ i → i < μ (58 + 2 * q) 2 → μ 152 (16 * q + i) = stp (μ (58 + 2 * q + 1) i) ∧ 0 ≤ μ (58 + 2 * q + 1) i ∧ μ (58 + 2 * q + 1) i < 2 * μ 103 (μ (58 + 2 * q) 1))
def ShR (μ : zMem) (q : Int) : Prop := (μ (66 + 2 * q) 1 = -1 ∧ μ 158 q = -4) ∨ (0 ≤ μ (66 + 2 * q) 1 ∧ μ (66 + 2 * q) 1 ≤ 2 ∧ μ 158 q = μ (66 + 2 * q) 1 ∧ μ 159 q = μ (66 + 2 * q) 2 ∧ 0 ≤ μ (66 + 2 * q) 2 ∧ μ (66 + 2 * q) 2 ≤ 20 ∧ ∀ i, 0 ≤ i → i < 20 → μ 160 (20 * q + i) = μ (66 + 2 * q + 1) i ∧ Rg (μ (66 + 2 * q + 1) i))
/-- the layer's table of changes, and which edges it knows -/
def LyT (μ : zMem) (n : Int) : Prop := (∀ t, 0 ≤ t → t < μ 3 7 → 0 ≤ μ 11 t ∧ μ 11 t < fct n ∧ ∀ k, 0 ≤ k → k < n → μ 142 (4 * t + k) = prm n (μ 11 t) k ∧ μ 143 (4 * t + prm n (μ 11 t) k) = k) ∧ ∀ e, 0 ≤ e → e < 12 → (μ 12 e = -2 ∧ μ 145 e = 0) ∨ (μ 12 e = -1 ∧ μ 145 e = 1 ∧ μ 144 e = -4) ∨ (0 ≤ μ 12 e ∧ μ 12 e < μ 3 7 ∧ μ 145 e = 1 ∧ μ 144 e = μ 12 e)
def LyR (μ : zMem) : Prop := (μ 3 8 = 0 ∧ μ 101 7 = 0) ∨ (∃ n, 2 ≤ n ∧ n ≤ 4 ∧ μ 3 8 = 66 + 4 * n ∧ μ 101 7 = 1 ∧ μ 101 38 = n ∧ 0 ≤ μ 3 6 ∧ μ 3 6 ≤ 1 ∧ μ 101 37 = μ 3 6 ∧ 0 ≤ μ 3 7 ∧ μ 3 7 ≤ 12 ∧ μ 101 39 = μ 3 7 ∧ LyT μ n ∧ ∃ σ, CS μ 4 σ ∧ CP μ 4 σ ∧ MS μ 2 σ ∧ WfE σ 32 48 ∧ WfP σ 32)
def Rel (μ : zMem) : Prop := (ShT μ ∧ K3 μ ∧ S4 μ) ∧ (∀ s, 0 ≤ s → s ≤ 1 → ∃ σ, SpR μ s σ) ∧ TpR μ ∧ (∀ q, 0 ≤ q → q < 4 → SlR μ q) ∧ (∀ q, 0 ≤ q → q < 4 → ShR μ q) ∧ LyR μ
theorem PK.b {k : Int} (h : PK k) : 37 ≤ k ∧ k ≤ 51 ∧ (k - 37) % 7 = 0 := by unfold PK at h; omega
theorem PK.sz {k : Int} (h : PK k) : SZ k 8 12 8 := by
  unfold PK at h
  unfold SZ
  rcases h with h | h | h <;> subst h <;> decide
theorem SZ4 : SZ 4 32 48 32 := by unfold SZ; decide
/-! what is untouched stays -/
theorem CS.congr {μ μ' : zMem} {t : Int} {σ : Sp} (c : CS μ t σ) (h : ∀ k, t ≤ k → k ≤ t + 6 → μ' k = μ k) : CS μ' t σ := by
  unfold CS at *
  rw [h t (by omega) (by omega), h (t + 1) (by omega) (by omega), h (t + 2) (by omega) (by omega), h (t + 5) (by omega) (by omega), h (t + 6) (by omega) (by omega)]
  exact c
theorem CP.congr {μ μ' : zMem} {t : Int} {σ : Sp} (c : CP μ t σ) (h : ∀ k, t ≤ k → k ≤ t + 6 → μ' k = μ k) : CP μ' t σ := by
  unfold CP at *
  rw [h t (by omega) (by omega), h (t + 3) (by omega) (by omega), h (t + 4) (by omega) (by omega)]
  exact c
theorem MS.congr {μ μ' : zMem} {s : Int} {σ : Sp} (c : MS μ s σ) (h : ∀ k, 102 ≤ k → k ≤ 108 → μ' k = μ k) : MS μ' s σ := by
  unfold MS at *
  rw [h 102 (by decide) (by decide), h 103 (by decide) (by decide), h 104 (by decide) (by decide), h 105 (by decide) (by decide), h 106 (by decide) (by decide), h 107 (by decide) (by decide), h 108 (by decide) (by decide)]
  exact c
theorem ShT.congr {μ μ' : zMem} (c : ShT μ) (h : ∀ k, k = 18 ∨ (74 ≤ k ∧ k ≤ 85) → μ' k = μ k) : ShT μ' := by
  intro n h1 h2
  rw [h 18 (by omega), h (66 + 4 * n) (by omega), h (66 + 4 * n + 1) (by omega), h (66 + 4 * n + 2) (by omega), h (66 + 4 * n + 3) (by omega)]
  exact c n h1 h2
theorem S4.congr {μ μ' : zMem} (c : S4 μ) (h : ∀ k, k = 16 ∨ k = 17 → μ' k = μ k) : S4 μ' := by
  unfold S4 at *
  rw [h 16 (by omega), h 17 (by omega)]
  exact c
theorem K3.congr {μ μ' : zMem} (c : K3 μ) (h : μ' 2 = μ 2) (h1 : μ' 1 10 = μ 1 10) : K3 μ' := by
  unfold K3 at *
  rw [h, h1]
  exact c
theorem SlR.congr {μ μ' : zMem} {q : Int} (c : SlR μ q) (hq : 0 ≤ q ∧ q < 4) (h : ∀ k, (58 ≤ k ∧ k ≤ 65) ∨ (148 ≤ k ∧ k ≤ 152) ∨ k = 103 → μ' k = μ k) : SlR μ' q := by
  unfold SlR at *
  rw [h (58 + 2 * q) (by omega), h (58 + 2 * q + 1) (by omega), h 148 (by omega), h 149 (by omega), h 150 (by omega), h 151 (by omega), h 152 (by omega), h 103 (by omega)]
  exact c
theorem ShR.congr {μ μ' : zMem} {q : Int} (c : ShR μ q) (hq : 0 ≤ q ∧ q < 4) (h : ∀ k, (66 ≤ k ∧ k ≤ 73) ∨ (158 ≤ k ∧ k ≤ 160) → μ' k = μ k) : ShR μ' q := by
  unfold ShR at *
  rw [h (66 + 2 * q) (by omega), h (66 + 2 * q + 1) (by omega), h 158 (by omega), h 159 (by omega), h 160 (by omega)]
  exact c
theorem TpR.congr {μ μ' : zMem} (c : TpR μ) (h1 : μ' 19 1 = μ 19 1) (h2 : μ' 101 9 = μ 101 9) (h3 : μ' 20 = μ 20) (h4 : μ' 110 = μ 110) : TpR μ' := by
  unfold TpR at *
  rw [h1, h2, h3, h4]
  exact c
theorem SpR.congr {μ μ' : zMem} {s : Int} {σ : Sp} (c : SpR μ s σ) (hs : μ' 2 s = μ 2 s) (h : ∀ k, μ 2 s ≤ k → k ≤ μ 2 s + 6 → μ' k = μ k) (h' : ∀ k, 102 ≤ k → k ≤ 108 → μ' k = μ k) : SpR μ' s σ := by
  obtain ⟨c1, c2, c3, c4⟩ := c
  unfold SpR
  rw [hs]
  exact ⟨c1.congr h, c2.congr h, c3.congr h', c4⟩
theorem LyR.congr {μ μ' : zMem} (c : LyR μ) (h : ∀ k, (3 ≤ k ∧ k ≤ 12) ∨ (102 ≤ k ∧ k ≤ 108) ∨ (142 ≤ k ∧ k ≤ 145) → μ' k = μ k) (h7 : μ' 101 7 = μ 101 7) (h37 : μ' 101 37 = μ 101 37) (h38 : μ' 101 38 = μ 101 38) (h39 : μ' 101 39 = μ 101 39) : LyR μ' := by
  have hT : ∀ n, LyT μ n → LyT μ' n := by
    intro n c
    unfold LyT at *
    rw [h 3 (by omega), h 11 (by omega), h 12 (by omega), h 142 (by omega), h 143 (by omega), h 144 (by omega), h 145 (by omega)]
    exact c
  unfold LyR at *
  rw [h 3 (by omega), h7, h37, h38, h39]
  rcases c with c | ⟨n, a, b, c, d, e, f, g, i, j, k, l, m, σ, o1, o2, o3, o4⟩
  · exact Or.inl c
  · exact Or.inr ⟨n, a, b, c, d, e, f, g, i, j, k, l, hT n m, σ, o1.congr (fun k a b => h k (by omega)), o2.congr (fun k a b => h k (by omega)), o3.congr (fun k a b => h k (by omega)), o4⟩
