/-! the first memory -/
theorem zup_fr {μ : zMem} {c i v k : Int} {cs : List Int} (h : k ∉ cs) (hc : c ∈ cs) : zup μ c i v k = μ k := zup_n _ _ _ (fun z => h (z ▸ hc))
/-- the first space: a corner, no edge, no pane -/
def σ0 : Sp := ((1, 0, 0), (fun _ => 0), (fun _ => 0), (fun _ => 0), (fun _ _ => 0))
theorem σ0_E {mC mE : Int} (h1 : 1 ≤ mC) (h2 : 0 ≤ mE) : WfE σ0 mC mE := ⟨Int.le_refl _, h1, Int.le_refl _, h2, fun e e0 e1 => absurd (show e < 0 from e1) (by omega)⟩
theorem σ0_P {mP : Int} (h1 : 0 ≤ mP) : WfP σ0 mP := ⟨Int.le_refl _, h1, fun e e0 e1 => absurd (show e < 0 from e1) (by omega)⟩
theorem c_first {μ : zMem} {t mC mE mP : Int} (hz : SZ t mC mE mP) (h1 : zmin 1 (zlen (t + 4)) = 1) (hC : 1 ≤ mC) (hE : 0 ≤ mE) (a b c d e f : Int) : ∃ ρ ν, f_X5_clear t 1 (zup (zup (zup (zup (zup (zup μ t 0 a) t 1 b) t 2 c) t 3 d) t 4 e) t 5 f) = some ρ ∧ f_X5_findPart t ρ = some ν ∧ (∀ k, k < t ∨ t + 6 < k → ν k = μ k) ∧ CS ν t σ0 ∧ CP ν t σ0 := by
  obtain ⟨ρ, hρ⟩ : ∃ ρ, ρ = zup (zup (zup (zup (zup (zup (zup (zup (zup μ t 0 a) t 1 b) t 2 c) t 3 d) t 4 e) t 5 f) t 6 1) t 7 0) t 8 0 := ⟨_, rfl⟩
  have hc : CS ρ t σ0 := by
    refine ⟨?_, ?_, ?_, fun e e0 e1 => absurd (show e < 0 from e1) (by omega), fun e e0 e1 => absurd (show e < 0 from e1) (by omega)⟩
    · rw [hρ, zup_s, up1_n _ _ (by decide), zup_s, up1_n _ _ (by decide), zup_s, up1_s]; rfl
    · rw [hρ, zup_s, up1_n _ _ (by decide), zup_s, up1_s]; rfl
    · rw [hρ, zup_s, up1_s]; rfl
  obtain ⟨ν, hν, hF, hP⟩ := c_findPart hc hz (σ0_E hC hE)
  refine ⟨ρ, ν, ?_, hν, fun k hk => ?_, ?_, hP⟩
  · unfold f_X5_clear
    simp only [zlet]
    rw [h1, hρ]
  · rw [hF.1 k (by omega) (by omega) (by omega), hρ]
    have hn : k ≠ t := by omega
    simp only [zup_n _ _ _ hn]
  · obtain ⟨c1, c2, c3, c4, c5⟩ := hc
    refine ⟨?_, ?_, ?_, fun e e0 e1 => absurd (show e < 0 from e1) (by omega), fun e e0 e1 => absurd (show e < 0 from e1) (by omega)⟩
    · rw [hF.2 6 (by decide) (by decide)]; exact c1
    · rw [hF.2 7 (by decide) (by decide)]; exact c2
    · rw [hF.2 8 (by decide) (by decide)]; exact c3
/-- what the class's constructor leaves -/
def Fst (ν : zMem) : Prop := ((∀ k, 85 < k → ∀ i, ν k i = 0) ∧ ShT ν ∧ S4 ν ∧ ν 2 0 = 37 ∧ ν 2 1 = 44 ∧ ν 1 10 = 51) ∧ (CS ν 37 σ0 ∧ CP ν 37 σ0 ∧ CS ν 44 σ0 ∧ CP ν 44 σ0) ∧ ν 19 1 = 0 ∧ ν 3 8 = 0 ∧ ∀ q, 0 ≤ q → q < 4 → ν (58 + 2 * q) 1 = -1 ∧ ν (66 + 2 * q) 1 = -1
def μ00 : zMem := fun _ _ => 0
set_option maxHeartbeats 4000000 in
set_option maxRecDepth 100000 in
theorem first_ex : ∃ ν44 : zMem, Fst ν44 ∧ ∀ {l : Launch} {Ω : zO} (sz : Nat) (hk : (1 : Int) ∈ Ω.2.2.1.1) (hkf : (1 : Int) ∉ Ω.2.2.1.2) (ha : ∀ j ∈ ([2, 3, 4, 5, 6, 7, 8, 9, 10, 11, 12, 13, 14, 15, 16, 17, 18, 19, 20, 21, 22, 23, 24, 25, 26, 27, 28, 29, 30, 31, 32, 33, 34, 35, 36, 37, 38, 39, 40, 41, 42, 43, 44, 45, 46, 47, 48, 49, 50, 51, 52, 53, 54, 55, 56, 57, 58, 59, 60, 61, 62, 63, 64, 65, 66, 67, 68, 69, 70, 71, 72, 73, 74, 75, 76, 77, 78, 79, 80, 81, 82, 83, 84, 85] : List Int), j ∉ Ω.2.2.1.1 ∧ j ∉ Ω.2.2.1.2) (M : Mk μ00 [2, 3, 4, 5, 6, 7, 8, 9, 10, 11, 12, 13, 14, 15, 16, 17, 18, 19, 20, 21, 22, 23, 24, 25, 26, 27, 28, 29, 30, 31, 32, 33, 34, 35, 36, 37, 38, 39, 40, 41, 42, 43, 44, 45, 46, 47, 48, 49, 50, 51, 52, 53, 54, 55, 56, 57, 58, 59, 60, 61, 62, 63, 64, 65, 66, 67, 68, 69, 70, 71, 72, 73, 74, 75, 76, 77, 78, 79, 80, 81, 82, 83, 84, 85] []), XConB zSd l yX9_init cX9_init 2 4 Ω [zR Ω 1] μ00 [2, 3, 4, 5, 6, 7, 8, 9, 10, 11, 12, 13, 14, 15, 16, 17, 18, 19, 20, 21, 22, 23, 24, 25, 26, 27, 28, 29, 30, 31, 32, 33, 34, 35, 36, 51, 52, 53, 54, 55, 56, 57, 37, 38, 39, 40, 41, 42, 43, 44, 45, 46, 47, 48, 49, 50, 58, 59, 60, 61, 62, 63, 64, 65, 66, 67, 68, 69, 70, 71, 72, 73, 74, 75, 76, 77, 78, 79, 80, 81, 82, 83, 84, 85] [4, 5, 6, 7, 8, 9, 10, 3, 11, 12, 13, 14, 15, 19, 20, 21, 22, 23, 24, 25, 26, 27, 28, 29, 30, 31, 32, 33, 34, 35, 36, 51, 52, 53, 54, 55, 56, 57, 37, 38, 39, 40, 41, 42, 43, 44, 45, 46, 47, 48, 49, 50, 58, 59, 60, 61, 62, 63, 64, 65, 66, 67, 68, 69, 70, 71, 72, 73, 74, 75, 76, 77, 78, 79, 80, 81, 82, 83, 84, 85, 1, 2, 16, 17, 18] ν44 sz 84 11936 := by
  obtain ⟨ν1, e1⟩ : ∃ ν : zMem, ν = zup μ00 1 0 2 := ⟨_, rfl⟩
  have F1 : ∀ k, k ∉ ([1] : List Int) → ν1 k = μ00 k := fun k hk => by rw [e1]; exact zup_fr hk (by decide)
  obtain ⟨ρ2, τ2, h2, k2, g2, _, _⟩ := c_first (μ := ν1) SZ4 (by decide) (by decide) (by decide) 5 6 7 8 9 10
  obtain ⟨ν2, e2⟩ : ∃ ν : zMem, ν = (zup (zup (zup (zup (zup (zup (zup τ2 3 0 4) 3 1 11) 3 2 12) 3 3 13) 3 4 14) 3 5 15) 3 6 (-1)) := ⟨_, rfl⟩
  have F2 : ∀ k, k ∉ ([3, 4, 5, 6, 7, 8, 9, 10, 11, 12, 13, 14, 15] : List Int) → ν2 k = ν1 k := fun k hk => by rw [e2]; exact (zup_fr hk (by decide)).trans ((zup_fr hk (by decide)).trans ((zup_fr hk (by decide)).trans ((zup_fr hk (by decide)).trans ((zup_fr hk (by decide)).trans ((zup_fr hk (by decide)).trans ((zup_fr hk (by decide)).trans (g2 k (by simp only [List.mem_cons, List.not_mem_nil, or_false, not_or] at hk; omega))))))))
  obtain ⟨ν3, e3⟩ : ∃ ν : zMem, ν = zup ν2 1 1 3 := ⟨_, rfl⟩
  have F3 : ∀ k, k ∉ ([1] : List Int) → ν3 k = ν2 k := fun k hk => by rw [e3]; exact zup_fr hk (by decide)
  obtain ⟨ν4, e4⟩ : ∃ ν : zMem, ν = zup ν3 1 2 16 := ⟨_, rfl⟩
  have F4 : ∀ k, k ∉ ([1] : List Int) → ν4 k = ν3 k := fun k hk => by rw [e4]; exact zup_fr hk (by decide)
  obtain ⟨ν5, e5⟩ : ∃ ν : zMem, ν = zup ν4 1 3 17 := ⟨_, rfl⟩
  have F5 : ∀ k, k ∉ ([1] : List Int) → ν5 k = ν4 k := fun k hk => by rw [e5]; exact zup_fr hk (by decide)
  obtain ⟨ν6, e6⟩ : ∃ ν : zMem, ν = zup ν5 1 4 18 := ⟨_, rfl⟩
  have F6 : ∀ k, k ∉ ([1] : List Int) → ν6 k = ν5 k := fun k hk => by rw [e6]; exact zup_fr hk (by decide)
  obtain ⟨ν7, e7⟩ : ∃ ν : zMem, ν = (zup ν6 19 0 20) := ⟨_, rfl⟩
  have F7 : ∀ k, k ∉ ([19, 20] : List Int) → ν7 k = ν6 k := fun k hk => by rw [e7]; exact zup_fr hk (by decide)
  obtain ⟨ν8, e8⟩ : ∃ ν : zMem, ν = zup ν7 1 5 19 := ⟨_, rfl⟩
  have F8 : ∀ k, k ∉ ([1] : List Int) → ν8 k = ν7 k := fun k hk => by rw [e8]; exact zup_fr hk (by decide)
  obtain ⟨ν9, e9⟩ : ∃ ν : zMem, ν = (zup (zup ν8 21 0 22) 21 1 (-1)) := ⟨_, rfl⟩
  have F9 : ∀ k, k ∉ ([21, 22] : List Int) → ν9 k = ν8 k := fun k hk => by rw [e9]; exact (zup_fr hk (by decide)).trans (zup_fr hk (by decide))
  obtain ⟨ν10, e10⟩ : ∃ ν : zMem, ν = zup ν9 1 6 21 := ⟨_, rfl⟩
  have F10 : ∀ k, k ∉ ([1] : List Int) → ν10 k = ν9 k := fun k hk => by rw [e10]; exact zup_fr hk (by decide)
  obtain ⟨ν11, e11⟩ : ∃ ν : zMem, ν = (zup (zup (zup ν10 23 0 24) 23 1 25) 23 2 26) := ⟨_, rfl⟩
  have F11 : ∀ k, k ∉ ([23, 24, 25, 26] : List Int) → ν11 k = ν10 k := fun k hk => by rw [e11]; exact (zup_fr hk (by decide)).trans ((zup_fr hk (by decide)).trans (zup_fr hk (by decide)))
  obtain ⟨ν12, e12⟩ : ∃ ν : zMem, ν = zup ν11 1 7 23 := ⟨_, rfl⟩
  have F12 : ∀ k, k ∉ ([1] : List Int) → ν12 k = ν11 k := fun k hk => by rw [e12]; exact zup_fr hk (by decide)
  obtain ⟨ν13, e13⟩ : ∃ ν : zMem, ν = (zup (zup (zup (zup (zup ν12 27 0 28) 27 1 29) 27 2 30) 27 3 31) 27 4 32) := ⟨_, rfl⟩
  have F13 : ∀ k, k ∉ ([27, 28, 29, 30, 31, 32] : List Int) → ν13 k = ν12 k := fun k hk => by rw [e13]; exact (zup_fr hk (by decide)).trans ((zup_fr hk (by decide)).trans ((zup_fr hk (by decide)).trans ((zup_fr hk (by decide)).trans (zup_fr hk (by decide)))))
  obtain ⟨ν14, e14⟩ : ∃ ν : zMem, ν = zup ν13 1 8 27 := ⟨_, rfl⟩
  have F14 : ∀ k, k ∉ ([1] : List Int) → ν14 k = ν13 k := fun k hk => by rw [e14]; exact zup_fr hk (by decide)
  obtain ⟨ν15, e15⟩ : ∃ ν : zMem, ν = (zup (zup (zup ν14 33 0 34) 33 1 35) 33 2 36) := ⟨_, rfl⟩
  have F15 : ∀ k, k ∉ ([33, 34, 35, 36] : List Int) → ν15 k = ν14 k := fun k hk => by rw [e15]; exact (zup_fr hk (by decide)).trans ((zup_fr hk (by decide)).trans (zup_fr hk (by decide)))
  obtain ⟨ν16, e16⟩ : ∃ ν : zMem, ν = zup ν15 1 9 33 := ⟨_, rfl⟩
  have F16 : ∀ k, k ∉ ([1] : List Int) → ν16 k = ν15 k := fun k hk => by rw [e16]; exact zup_fr hk (by decide)
  obtain ⟨ρ17, ν17, h17, k17, g17, cs17, cp17⟩ := c_first (μ := ν16) (PK.sz (k := 51) (by unfold PK; omega)) (by decide) (by decide) (by decide) 52 53 54 55 56 57
  have F17 : ∀ k, k ∉ ([51, 52, 53, 54, 55, 56, 57] : List Int) → ν17 k = ν16 k := fun k hk => g17 k (by simp only [List.mem_cons, List.not_mem_nil, or_false, not_or] at hk; omega)
  obtain ⟨ν18, e18⟩ : ∃ ν : zMem, ν = zup ν17 1 10 51 := ⟨_, rfl⟩
  have F18 : ∀ k, k ∉ ([1] : List Int) → ν18 k = ν17 k := fun k hk => by rw [e18]; exact zup_fr hk (by decide)
  obtain ⟨ρ19, ν19, h19, k19, g19, cs19, cp19⟩ := c_first (μ := ν18) (PK.sz (k := 37) (by unfold PK; omega)) (by decide) (by decide) (by decide) 38 39 40 41 42 43
  have F19 : ∀ k, k ∉ ([37, 38, 39, 40, 41, 42, 43] : List Int) → ν19 k = ν18 k := fun k hk => g19 k (by simp only [List.mem_cons, List.not_mem_nil, or_false, not_or] at hk; omega)
  obtain ⟨ν20, e20⟩ : ∃ ν : zMem, ν = zup ν19 2 0 37 := ⟨_, rfl⟩
  have F20 : ∀ k, k ∉ ([2] : List Int) → ν20 k = ν19 k := fun k hk => by rw [e20]; exact zup_fr hk (by decide)
  obtain ⟨ρ21, ν21, h21, k21, g21, cs21, cp21⟩ := c_first (μ := ν20) (PK.sz (k := 44) (by unfold PK; omega)) (by decide) (by decide) (by decide) 45 46 47 48 49 50
  have F21 : ∀ k, k ∉ ([44, 45, 46, 47, 48, 49, 50] : List Int) → ν21 k = ν20 k := fun k hk => g21 k (by simp only [List.mem_cons, List.not_mem_nil, or_false, not_or] at hk; omega)
  obtain ⟨ν22, e22⟩ : ∃ ν : zMem, ν = zup ν21 2 1 44 := ⟨_, rfl⟩
  have F22 : ∀ k, k ∉ ([2] : List Int) → ν22 k = ν21 k := fun k hk => by rw [e22]; exact zup_fr hk (by decide)
  obtain ⟨ν23, e23⟩ : ∃ ν : zMem, ν = (zup (zup ν22 58 0 59) 58 1 (-1)) := ⟨_, rfl⟩
  have F23 : ∀ k, k ∉ ([58, 59] : List Int) → ν23 k = ν22 k := fun k hk => by rw [e23]; exact (zup_fr hk (by decide)).trans (zup_fr hk (by decide))
  obtain ⟨ν24, e24⟩ : ∃ ν : zMem, ν = zup ν23 16 0 58 := ⟨_, rfl⟩
  have F24 : ∀ k, k ∉ ([16] : List Int) → ν24 k = ν23 k := fun k hk => by rw [e24]; exact zup_fr hk (by decide)
  obtain ⟨ν25, e25⟩ : ∃ ν : zMem, ν = (zup (zup ν24 60 0 61) 60 1 (-1)) := ⟨_, rfl⟩
  have F25 : ∀ k, k ∉ ([60, 61] : List Int) → ν25 k = ν24 k := fun k hk => by rw [e25]; exact (zup_fr hk (by decide)).trans (zup_fr hk (by decide))
  obtain ⟨ν26, e26⟩ : ∃ ν : zMem, ν = zup ν25 16 1 60 := ⟨_, rfl⟩
  have F26 : ∀ k, k ∉ ([16] : List Int) → ν26 k = ν25 k := fun k hk => by rw [e26]; exact zup_fr hk (by decide)
  obtain ⟨ν27, e27⟩ : ∃ ν : zMem, ν = (zup (zup ν26 62 0 63) 62 1 (-1)) := ⟨_, rfl⟩
  have F27 : ∀ k, k ∉ ([62, 63] : List Int) → ν27 k = ν26 k := fun k hk => by rw [e27]; exact (zup_fr hk (by decide)).trans (zup_fr hk (by decide))
  obtain ⟨ν28, e28⟩ : ∃ ν : zMem, ν = zup ν27 16 2 62 := ⟨_, rfl⟩
  have F28 : ∀ k, k ∉ ([16] : List Int) → ν28 k = ν27 k := fun k hk => by rw [e28]; exact zup_fr hk (by decide)
  obtain ⟨ν29, e29⟩ : ∃ ν : zMem, ν = (zup (zup ν28 64 0 65) 64 1 (-1)) := ⟨_, rfl⟩
  have F29 : ∀ k, k ∉ ([64, 65] : List Int) → ν29 k = ν28 k := fun k hk => by rw [e29]; exact (zup_fr hk (by decide)).trans (zup_fr hk (by decide))
  obtain ⟨ν30, e30⟩ : ∃ ν : zMem, ν = zup ν29 16 3 64 := ⟨_, rfl⟩
  have F30 : ∀ k, k ∉ ([16] : List Int) → ν30 k = ν29 k := fun k hk => by rw [e30]; exact zup_fr hk (by decide)
  obtain ⟨ν31, e31⟩ : ∃ ν : zMem, ν = (zup (zup ν30 66 0 67) 66 1 (-1)) := ⟨_, rfl⟩
  have F31 : ∀ k, k ∉ ([66, 67] : List Int) → ν31 k = ν30 k := fun k hk => by rw [e31]; exact (zup_fr hk (by decide)).trans (zup_fr hk (by decide))
  obtain ⟨ν32, e32⟩ : ∃ ν : zMem, ν = zup ν31 17 0 66 := ⟨_, rfl⟩
  have F32 : ∀ k, k ∉ ([17] : List Int) → ν32 k = ν31 k := fun k hk => by rw [e32]; exact zup_fr hk (by decide)
  obtain ⟨ν33, e33⟩ : ∃ ν : zMem, ν = (zup (zup ν32 68 0 69) 68 1 (-1)) := ⟨_, rfl⟩
  have F33 : ∀ k, k ∉ ([68, 69] : List Int) → ν33 k = ν32 k := fun k hk => by rw [e33]; exact (zup_fr hk (by decide)).trans (zup_fr hk (by decide))
  obtain ⟨ν34, e34⟩ : ∃ ν : zMem, ν = zup ν33 17 1 68 := ⟨_, rfl⟩
  have F34 : ∀ k, k ∉ ([17] : List Int) → ν34 k = ν33 k := fun k hk => by rw [e34]; exact zup_fr hk (by decide)
  obtain ⟨ν35, e35⟩ : ∃ ν : zMem, ν = (zup (zup ν34 70 0 71) 70 1 (-1)) := ⟨_, rfl⟩
  have F35 : ∀ k, k ∉ ([70, 71] : List Int) → ν35 k = ν34 k := fun k hk => by rw [e35]; exact (zup_fr hk (by decide)).trans (zup_fr hk (by decide))
  obtain ⟨ν36, e36⟩ : ∃ ν : zMem, ν = zup ν35 17 2 70 := ⟨_, rfl⟩
  have F36 : ∀ k, k ∉ ([17] : List Int) → ν36 k = ν35 k := fun k hk => by rw [e36]; exact zup_fr hk (by decide)
  obtain ⟨ν37, e37⟩ : ∃ ν : zMem, ν = (zup (zup ν36 72 0 73) 72 1 (-1)) := ⟨_, rfl⟩
  have F37 : ∀ k, k ∉ ([72, 73] : List Int) → ν37 k = ν36 k := fun k hk => by rw [e37]; exact (zup_fr hk (by decide)).trans (zup_fr hk (by decide))
  obtain ⟨ν38, e38⟩ : ∃ ν : zMem, ν = zup ν37 17 3 72 := ⟨_, rfl⟩
  have F38 : ∀ k, k ∉ ([17] : List Int) → ν38 k = ν37 k := fun k hk => by rw [e38]; exact zup_fr hk (by decide)
  obtain ⟨κ39, q39⟩ : ∃ ν : zMem, ν = (zup (zup (zup (zup (zup ν38 74 0 2) 74 1 2) 74 2 75) 74 3 76) 74 4 77) := ⟨_, rfl⟩
  have a39 : κ39 74 0 = 2 ∧ κ39 74 1 = 2 := by rw [q39]; exact ⟨by simp [zup_eq], by simp [zup_eq]⟩
  obtain ⟨ν39, h39, b39, s39⟩ := c_init4 (μ0 := κ39) (n := 2) ⟨by decide, by decide⟩ a39.1 a39.2
  have F39 : ∀ k, k ∉ ([74, 75, 76, 77] : List Int) → ν39 k = ν38 k := fun k hk => by
    rw [b39 k (by simp only [List.mem_cons, List.not_mem_nil, or_false, not_or] at hk; omega), q39]
    exact (zup_fr hk (by decide)).trans ((zup_fr hk (by decide)).trans ((zup_fr hk (by decide)).trans ((zup_fr hk (by decide)).trans (zup_fr hk (by decide)))))
  have c39 : ν39 74 0 = 2 ∧ ν39 74 1 = 2 := by rw [b39 74 (by decide)]; exact a39
  rw [q39] at h39
  obtain ⟨ν40, e40⟩ : ∃ ν : zMem, ν = zup ν39 18 2 74 := ⟨_, rfl⟩
  have F40 : ∀ k, k ∉ ([18] : List Int) → ν40 k = ν39 k := fun k hk => by rw [e40]; exact zup_fr hk (by decide)
  obtain ⟨κ41, q41⟩ : ∃ ν : zMem, ν = (zup (zup (zup (zup (zup ν40 78 0 3) 78 1 6) 78 2 79) 78 3 80) 78 4 81) := ⟨_, rfl⟩
  have a41 : κ41 78 0 = 3 ∧ κ41 78 1 = 6 := by rw [q41]; exact ⟨by simp [zup_eq], by simp [zup_eq]⟩
  obtain ⟨ν41, h41, b41, s41⟩ := c_init4 (μ0 := κ41) (n := 3) ⟨by decide, by decide⟩ a41.1 a41.2
  have F41 : ∀ k, k ∉ ([78, 79, 80, 81] : List Int) → ν41 k = ν40 k := fun k hk => by
    rw [b41 k (by simp only [List.mem_cons, List.not_mem_nil, or_false, not_or] at hk; omega), q41]
    exact (zup_fr hk (by decide)).trans ((zup_fr hk (by decide)).trans ((zup_fr hk (by decide)).trans ((zup_fr hk (by decide)).trans (zup_fr hk (by decide)))))
  have c41 : ν41 78 0 = 3 ∧ ν41 78 1 = 6 := by rw [b41 78 (by decide)]; exact a41
  rw [q41] at h41
  obtain ⟨ν42, e42⟩ : ∃ ν : zMem, ν = zup ν41 18 3 78 := ⟨_, rfl⟩
  have F42 : ∀ k, k ∉ ([18] : List Int) → ν42 k = ν41 k := fun k hk => by rw [e42]; exact zup_fr hk (by decide)
  obtain ⟨κ43, q43⟩ : ∃ ν : zMem, ν = (zup (zup (zup (zup (zup ν42 82 0 4) 82 1 24) 82 2 83) 82 3 84) 82 4 85) := ⟨_, rfl⟩
  have a43 : κ43 82 0 = 4 ∧ κ43 82 1 = 24 := by rw [q43]; exact ⟨by simp [zup_eq], by simp [zup_eq]⟩
  obtain ⟨ν43, h43, b43, s43⟩ := c_init4 (μ0 := κ43) (n := 4) ⟨by decide, by decide⟩ a43.1 a43.2
  have F43 : ∀ k, k ∉ ([82, 83, 84, 85] : List Int) → ν43 k = ν42 k := fun k hk => by
    rw [b43 k (by simp only [List.mem_cons, List.not_mem_nil, or_false, not_or] at hk; omega), q43]
    exact (zup_fr hk (by decide)).trans ((zup_fr hk (by decide)).trans ((zup_fr hk (by decide)).trans ((zup_fr hk (by decide)).trans (zup_fr hk (by decide)))))
  have c43 : ν43 82 0 = 4 ∧ ν43 82 1 = 24 := by rw [b43 82 (by decide)]; exact a43
  rw [q43] at h43
  obtain ⟨ν44, e44⟩ : ∃ ν : zMem, ν = zup ν43 18 4 82 := ⟨_, rfl⟩
  have F44 : ∀ k, k ∉ ([18] : List Int) → ν44 k = ν43 k := fun k hk => by rw [e44]; exact zup_fr hk (by decide)
  refine ⟨ν44, ?_, fun {l} {Ω} sz hk hkf ha M => I_X9_1 (l := l) (Ω := Ω) μ00 sz hk hkf ha M e1 h2 k2 (fun k hk => g2 k (Or.inr hk)) e2 F2 e3 e4 e5 e6 e7 F7 e8 e9 F9 e10 e11 F11 e12 e13 F13 e14 e15 F15 e16 h17 k17 F17 e18 h19 k19 F19 e20 h21 k21 F21 e22 e23 F23 e24 e25 F25 e26 e27 F27 e28 e29 F29 e30 e31 F31 e32 e33 F33 e34 e35 F35 e36 e37 F37 e38 h39 F39 e40 h41 F41 e42 h43 F43 e44⟩
  have z1 : ν44 1 = ν18 1 := (F44 1 (by decide)).trans ((F43 1 (by decide)).trans ((F42 1 (by decide)).trans ((F41 1 (by decide)).trans ((F40 1 (by decide)).trans ((F39 1 (by decide)).trans ((F38 1 (by decide)).trans ((F37 1 (by decide)).trans ((F36 1 (by decide)).trans ((F35 1 (by decide)).trans ((F34 1 (by decide)).trans ((F33 1 (by decide)).trans ((F32 1 (by decide)).trans ((F31 1 (by decide)).trans ((F30 1 (by decide)).trans ((F29 1 (by decide)).trans ((F28 1 (by decide)).trans ((F27 1 (by decide)).trans ((F26 1 (by decide)).trans ((F25 1 (by decide)).trans ((F24 1 (by decide)).trans ((F23 1 (by decide)).trans ((F22 1 (by decide)).trans ((F21 1 (by decide)).trans ((F20 1 (by decide)).trans (F19 1 (by decide))))))))))))))))))))))))))
  have z2 : ν44 2 = ν22 2 := (F44 2 (by decide)).trans ((F43 2 (by decide)).trans ((F42 2 (by decide)).trans ((F41 2 (by decide)).trans ((F40 2 (by decide)).trans ((F39 2 (by decide)).trans ((F38 2 (by decide)).trans ((F37 2 (by decide)).trans ((F36 2 (by decide)).trans ((F35 2 (by decide)).trans ((F34 2 (by decide)).trans ((F33 2 (by decide)).trans ((F32 2 (by decide)).trans ((F31 2 (by decide)).trans ((F30 2 (by decide)).trans ((F29 2 (by decide)).trans ((F28 2 (by decide)).trans ((F27 2 (by decide)).trans ((F26 2 (by decide)).trans ((F25 2 (by decide)).trans ((F24 2 (by decide)).trans (F23 2 (by decide))))))))))))))))))))))
  have z3 : ν44 3 = ν2 3 := (F44 3 (by decide)).trans ((F43 3 (by decide)).trans ((F42 3 (by decide)).trans ((F41 3 (by decide)).trans ((F40 3 (by decide)).trans ((F39 3 (by decide)).trans ((F38 3 (by decide)).trans ((F37 3 (by decide)).trans ((F36 3 (by decide)).trans ((F35 3 (by decide)).trans ((F34 3 (by decide)).trans ((F33 3 (by decide)).trans ((F32 3 (by decide)).trans ((F31 3 (by decide)).trans ((F30 3 (by decide)).trans ((F29 3 (by decide)).trans ((F28 3 (by decide)).trans ((F27 3 (by decide)).trans ((F26 3 (by decide)).trans ((F25 3 (by decide)).trans ((F24 3 (by decide)).trans ((F23 3 (by decide)).trans ((F22 3 (by decide)).trans ((F21 3 (by decide)).trans ((F20 3 (by decide)).trans ((F19 3 (by decide)).trans ((F18 3 (by decide)).trans ((F17 3 (by decide)).trans ((F16 3 (by decide)).trans ((F15 3 (by decide)).trans ((F14 3 (by decide)).trans ((F13 3 (by decide)).trans ((F12 3 (by decide)).trans ((F11 3 (by decide)).trans ((F10 3 (by decide)).trans ((F9 3 (by decide)).trans ((F8 3 (by decide)).trans ((F7 3 (by decide)).trans ((F6 3 (by decide)).trans ((F5 3 (by decide)).trans ((F4 3 (by decide)).trans (F3 3 (by decide))))))))))))))))))))))))))))))))))))))))))
  have z16 : ν44 16 = ν30 16 := (F44 16 (by decide)).trans ((F43 16 (by decide)).trans ((F42 16 (by decide)).trans ((F41 16 (by decide)).trans ((F40 16 (by decide)).trans ((F39 16 (by decide)).trans ((F38 16 (by decide)).trans ((F37 16 (by decide)).trans ((F36 16 (by decide)).trans ((F35 16 (by decide)).trans ((F34 16 (by decide)).trans ((F33 16 (by decide)).trans ((F32 16 (by decide)).trans (F31 16 (by decide))))))))))))))
  have z17 : ν44 17 = ν38 17 := (F44 17 (by decide)).trans ((F43 17 (by decide)).trans ((F42 17 (by decide)).trans ((F41 17 (by decide)).trans ((F40 17 (by decide)).trans (F39 17 (by decide))))))
  have z18 : ν44 18 = ν44 18 := rfl
  have z19 : ν44 19 = ν7 19 := (F44 19 (by decide)).trans ((F43 19 (by decide)).trans ((F42 19 (by decide)).trans ((F41 19 (by decide)).trans ((F40 19 (by decide)).trans ((F39 19 (by decide)).trans ((F38 19 (by decide)).trans ((F37 19 (by decide)).trans ((F36 19 (by decide)).trans ((F35 19 (by decide)).trans ((F34 19 (by decide)).trans ((F33 19 (by decide)).trans ((F32 19 (by decide)).trans ((F31 19 (by decide)).trans ((F30 19 (by decide)).trans ((F29 19 (by decide)).trans ((F28 19 (by decide)).trans ((F27 19 (by decide)).trans ((F26 19 (by decide)).trans ((F25 19 (by decide)).trans ((F24 19 (by decide)).trans ((F23 19 (by decide)).trans ((F22 19 (by decide)).trans ((F21 19 (by decide)).trans ((F20 19 (by decide)).trans ((F19 19 (by decide)).trans ((F18 19 (by decide)).trans ((F17 19 (by decide)).trans ((F16 19 (by decide)).trans ((F15 19 (by decide)).trans ((F14 19 (by decide)).trans ((F13 19 (by decide)).trans ((F12 19 (by decide)).trans ((F11 19 (by decide)).trans ((F10 19 (by decide)).trans ((F9 19 (by decide)).trans (F8 19 (by decide)))))))))))))))))))))))))))))))))))))
  have z37 : ν44 37 = ν19 37 := (F44 37 (by decide)).trans ((F43 37 (by decide)).trans ((F42 37 (by decide)).trans ((F41 37 (by decide)).trans ((F40 37 (by decide)).trans ((F39 37 (by decide)).trans ((F38 37 (by decide)).trans ((F37 37 (by decide)).trans ((F36 37 (by decide)).trans ((F35 37 (by decide)).trans ((F34 37 (by decide)).trans ((F33 37 (by decide)).trans ((F32 37 (by decide)).trans ((F31 37 (by decide)).trans ((F30 37 (by decide)).trans ((F29 37 (by decide)).trans ((F28 37 (by decide)).trans ((F27 37 (by decide)).trans ((F26 37 (by decide)).trans ((F25 37 (by decide)).trans ((F24 37 (by decide)).trans ((F23 37 (by decide)).trans ((F22 37 (by decide)).trans ((F21 37 (by decide)).trans (F20 37 (by decide)))))))))))))))))))))))))
  have z38 : ν44 38 = ν19 38 := (F44 38 (by decide)).trans ((F43 38 (by decide)).trans ((F42 38 (by decide)).trans ((F41 38 (by decide)).trans ((F40 38 (by decide)).trans ((F39 38 (by decide)).trans ((F38 38 (by decide)).trans ((F37 38 (by decide)).trans ((F36 38 (by decide)).trans ((F35 38 (by decide)).trans ((F34 38 (by decide)).trans ((F33 38 (by decide)).trans ((F32 38 (by decide)).trans ((F31 38 (by decide)).trans ((F30 38 (by decide)).trans ((F29 38 (by decide)).trans ((F28 38 (by decide)).trans ((F27 38 (by decide)).trans ((F26 38 (by decide)).trans ((F25 38 (by decide)).trans ((F24 38 (by decide)).trans ((F23 38 (by decide)).trans ((F22 38 (by decide)).trans ((F21 38 (by decide)).trans (F20 38 (by decide)))))))))))))))))))))))))
  have z39 : ν44 39 = ν19 39 := (F44 39 (by decide)).trans ((F43 39 (by decide)).trans ((F42 39 (by decide)).trans ((F41 39 (by decide)).trans ((F40 39 (by decide)).trans ((F39 39 (by decide)).trans ((F38 39 (by decide)).trans ((F37 39 (by decide)).trans ((F36 39 (by decide)).trans ((F35 39 (by decide)).trans ((F34 39 (by decide)).trans ((F33 39 (by decide)).trans ((F32 39 (by decide)).trans ((F31 39 (by decide)).trans ((F30 39 (by decide)).trans ((F29 39 (by decide)).trans ((F28 39 (by decide)).trans ((F27 39 (by decide)).trans ((F26 39 (by decide)).trans ((F25 39 (by decide)).trans ((F24 39 (by decide)).trans ((F23 39 (by decide)).trans ((F22 39 (by decide)).trans ((F21 39 (by decide)).trans (F20 39 (by decide)))))))))))))))))))))))))
  have z40 : ν44 40 = ν19 40 := (F44 40 (by decide)).trans ((F43 40 (by decide)).trans ((F42 40 (by decide)).trans ((F41 40 (by decide)).trans ((F40 40 (by decide)).trans ((F39 40 (by decide)).trans ((F38 40 (by decide)).trans ((F37 40 (by decide)).trans ((F36 40 (by decide)).trans ((F35 40 (by decide)).trans ((F34 40 (by decide)).trans ((F33 40 (by decide)).trans ((F32 40 (by decide)).trans ((F31 40 (by decide)).trans ((F30 40 (by decide)).trans ((F29 40 (by decide)).trans ((F28 40 (by decide)).trans ((F27 40 (by decide)).trans ((F26 40 (by decide)).trans ((F25 40 (by decide)).trans ((F24 40 (by decide)).trans ((F23 40 (by decide)).trans ((F22 40 (by decide)).trans ((F21 40 (by decide)).trans (F20 40 (by decide)))))))))))))))))))))))))
  have z41 : ν44 41 = ν19 41 := (F44 41 (by decide)).trans ((F43 41 (by decide)).trans ((F42 41 (by decide)).trans ((F41 41 (by decide)).trans ((F40 41 (by decide)).trans ((F39 41 (by decide)).trans ((F38 41 (by decide)).trans ((F37 41 (by decide)).trans ((F36 41 (by decide)).trans ((F35 41 (by decide)).trans ((F34 41 (by decide)).trans ((F33 41 (by decide)).trans ((F32 41 (by decide)).trans ((F31 41 (by decide)).trans ((F30 41 (by decide)).trans ((F29 41 (by decide)).trans ((F28 41 (by decide)).trans ((F27 41 (by decide)).trans ((F26 41 (by decide)).trans ((F25 41 (by decide)).trans ((F24 41 (by decide)).trans ((F23 41 (by decide)).trans ((F22 41 (by decide)).trans ((F21 41 (by decide)).trans (F20 41 (by decide)))))))))))))))))))))))))
  have z42 : ν44 42 = ν19 42 := (F44 42 (by decide)).trans ((F43 42 (by decide)).trans ((F42 42 (by decide)).trans ((F41 42 (by decide)).trans ((F40 42 (by decide)).trans ((F39 42 (by decide)).trans ((F38 42 (by decide)).trans ((F37 42 (by decide)).trans ((F36 42 (by decide)).trans ((F35 42 (by decide)).trans ((F34 42 (by decide)).trans ((F33 42 (by decide)).trans ((F32 42 (by decide)).trans ((F31 42 (by decide)).trans ((F30 42 (by decide)).trans ((F29 42 (by decide)).trans ((F28 42 (by decide)).trans ((F27 42 (by decide)).trans ((F26 42 (by decide)).trans ((F25 42 (by decide)).trans ((F24 42 (by decide)).trans ((F23 42 (by decide)).trans ((F22 42 (by decide)).trans ((F21 42 (by decide)).trans (F20 42 (by decide)))))))))))))))))))))))))
  have z43 : ν44 43 = ν19 43 := (F44 43 (by decide)).trans ((F43 43 (by decide)).trans ((F42 43 (by decide)).trans ((F41 43 (by decide)).trans ((F40 43 (by decide)).trans ((F39 43 (by decide)).trans ((F38 43 (by decide)).trans ((F37 43 (by decide)).trans ((F36 43 (by decide)).trans ((F35 43 (by decide)).trans ((F34 43 (by decide)).trans ((F33 43 (by decide)).trans ((F32 43 (by decide)).trans ((F31 43 (by decide)).trans ((F30 43 (by decide)).trans ((F29 43 (by decide)).trans ((F28 43 (by decide)).trans ((F27 43 (by decide)).trans ((F26 43 (by decide)).trans ((F25 43 (by decide)).trans ((F24 43 (by decide)).trans ((F23 43 (by decide)).trans ((F22 43 (by decide)).trans ((F21 43 (by decide)).trans (F20 43 (by decide)))))))))))))))))))))))))
  have z44 : ν44 44 = ν21 44 := (F44 44 (by decide)).trans ((F43 44 (by decide)).trans ((F42 44 (by decide)).trans ((F41 44 (by decide)).trans ((F40 44 (by decide)).trans ((F39 44 (by decide)).trans ((F38 44 (by decide)).trans ((F37 44 (by decide)).trans ((F36 44 (by decide)).trans ((F35 44 (by decide)).trans ((F34 44 (by decide)).trans ((F33 44 (by decide)).trans ((F32 44 (by decide)).trans ((F31 44 (by decide)).trans ((F30 44 (by decide)).trans ((F29 44 (by decide)).trans ((F28 44 (by decide)).trans ((F27 44 (by decide)).trans ((F26 44 (by decide)).trans ((F25 44 (by decide)).trans ((F24 44 (by decide)).trans ((F23 44 (by decide)).trans (F22 44 (by decide)))))))))))))))))))))))
  have z45 : ν44 45 = ν21 45 := (F44 45 (by decide)).trans ((F43 45 (by decide)).trans ((F42 45 (by decide)).trans ((F41 45 (by decide)).trans ((F40 45 (by decide)).trans ((F39 45 (by decide)).trans ((F38 45 (by decide)).trans ((F37 45 (by decide)).trans ((F36 45 (by decide)).trans ((F35 45 (by decide)).trans ((F34 45 (by decide)).trans ((F33 45 (by decide)).trans ((F32 45 (by decide)).trans ((F31 45 (by decide)).trans ((F30 45 (by decide)).trans ((F29 45 (by decide)).trans ((F28 45 (by decide)).trans ((F27 45 (by decide)).trans ((F26 45 (by decide)).trans ((F25 45 (by decide)).trans ((F24 45 (by decide)).trans ((F23 45 (by decide)).trans (F22 45 (by decide)))))))))))))))))))))))
  have z46 : ν44 46 = ν21 46 := (F44 46 (by decide)).trans ((F43 46 (by decide)).trans ((F42 46 (by decide)).trans ((F41 46 (by decide)).trans ((F40 46 (by decide)).trans ((F39 46 (by decide)).trans ((F38 46 (by decide)).trans ((F37 46 (by decide)).trans ((F36 46 (by decide)).trans ((F35 46 (by decide)).trans ((F34 46 (by decide)).trans ((F33 46 (by decide)).trans ((F32 46 (by decide)).trans ((F31 46 (by decide)).trans ((F30 46 (by decide)).trans ((F29 46 (by decide)).trans ((F28 46 (by decide)).trans ((F27 46 (by decide)).trans ((F26 46 (by decide)).trans ((F25 46 (by decide)).trans ((F24 46 (by decide)).trans ((F23 46 (by decide)).trans (F22 46 (by decide)))))))))))))))))))))))
  have z47 : ν44 47 = ν21 47 := (F44 47 (by decide)).trans ((F43 47 (by decide)).trans ((F42 47 (by decide)).trans ((F41 47 (by decide)).trans ((F40 47 (by decide)).trans ((F39 47 (by decide)).trans ((F38 47 (by decide)).trans ((F37 47 (by decide)).trans ((F36 47 (by decide)).trans ((F35 47 (by decide)).trans ((F34 47 (by decide)).trans ((F33 47 (by decide)).trans ((F32 47 (by decide)).trans ((F31 47 (by decide)).trans ((F30 47 (by decide)).trans ((F29 47 (by decide)).trans ((F28 47 (by decide)).trans ((F27 47 (by decide)).trans ((F26 47 (by decide)).trans ((F25 47 (by decide)).trans ((F24 47 (by decide)).trans ((F23 47 (by decide)).trans (F22 47 (by decide)))))))))))))))))))))))
  have z48 : ν44 48 = ν21 48 := (F44 48 (by decide)).trans ((F43 48 (by decide)).trans ((F42 48 (by decide)).trans ((F41 48 (by decide)).trans ((F40 48 (by decide)).trans ((F39 48 (by decide)).trans ((F38 48 (by decide)).trans ((F37 48 (by decide)).trans ((F36 48 (by decide)).trans ((F35 48 (by decide)).trans ((F34 48 (by decide)).trans ((F33 48 (by decide)).trans ((F32 48 (by decide)).trans ((F31 48 (by decide)).trans ((F30 48 (by decide)).trans ((F29 48 (by decide)).trans ((F28 48 (by decide)).trans ((F27 48 (by decide)).trans ((F26 48 (by decide)).trans ((F25 48 (by decide)).trans ((F24 48 (by decide)).trans ((F23 48 (by decide)).trans (F22 48 (by decide)))))))))))))))))))))))
  have z49 : ν44 49 = ν21 49 := (F44 49 (by decide)).trans ((F43 49 (by decide)).trans ((F42 49 (by decide)).trans ((F41 49 (by decide)).trans ((F40 49 (by decide)).trans ((F39 49 (by decide)).trans ((F38 49 (by decide)).trans ((F37 49 (by decide)).trans ((F36 49 (by decide)).trans ((F35 49 (by decide)).trans ((F34 49 (by decide)).trans ((F33 49 (by decide)).trans ((F32 49 (by decide)).trans ((F31 49 (by decide)).trans ((F30 49 (by decide)).trans ((F29 49 (by decide)).trans ((F28 49 (by decide)).trans ((F27 49 (by decide)).trans ((F26 49 (by decide)).trans ((F25 49 (by decide)).trans ((F24 49 (by decide)).trans ((F23 49 (by decide)).trans (F22 49 (by decide)))))))))))))))))))))))
  have z50 : ν44 50 = ν21 50 := (F44 50 (by decide)).trans ((F43 50 (by decide)).trans ((F42 50 (by decide)).trans ((F41 50 (by decide)).trans ((F40 50 (by decide)).trans ((F39 50 (by decide)).trans ((F38 50 (by decide)).trans ((F37 50 (by decide)).trans ((F36 50 (by decide)).trans ((F35 50 (by decide)).trans ((F34 50 (by decide)).trans ((F33 50 (by decide)).trans ((F32 50 (by decide)).trans ((F31 50 (by decide)).trans ((F30 50 (by decide)).trans ((F29 50 (by decide)).trans ((F28 50 (by decide)).trans ((F27 50 (by decide)).trans ((F26 50 (by decide)).trans ((F25 50 (by decide)).trans ((F24 50 (by decide)).trans ((F23 50 (by decide)).trans (F22 50 (by decide)))))))))))))))))))))))
  have z58 : ν44 58 = ν23 58 := (F44 58 (by decide)).trans ((F43 58 (by decide)).trans ((F42 58 (by decide)).trans ((F41 58 (by decide)).trans ((F40 58 (by decide)).trans ((F39 58 (by decide)).trans ((F38 58 (by decide)).trans ((F37 58 (by decide)).trans ((F36 58 (by decide)).trans ((F35 58 (by decide)).trans ((F34 58 (by decide)).trans ((F33 58 (by decide)).trans ((F32 58 (by decide)).trans ((F31 58 (by decide)).trans ((F30 58 (by decide)).trans ((F29 58 (by decide)).trans ((F28 58 (by decide)).trans ((F27 58 (by decide)).trans ((F26 58 (by decide)).trans ((F25 58 (by decide)).trans (F24 58 (by decide)))))))))))))))))))))
  have z60 : ν44 60 = ν25 60 := (F44 60 (by decide)).trans ((F43 60 (by decide)).trans ((F42 60 (by decide)).trans ((F41 60 (by decide)).trans ((F40 60 (by decide)).trans ((F39 60 (by decide)).trans ((F38 60 (by decide)).trans ((F37 60 (by decide)).trans ((F36 60 (by decide)).trans ((F35 60 (by decide)).trans ((F34 60 (by decide)).trans ((F33 60 (by decide)).trans ((F32 60 (by decide)).trans ((F31 60 (by decide)).trans ((F30 60 (by decide)).trans ((F29 60 (by decide)).trans ((F28 60 (by decide)).trans ((F27 60 (by decide)).trans (F26 60 (by decide)))))))))))))))))))
  have z62 : ν44 62 = ν27 62 := (F44 62 (by decide)).trans ((F43 62 (by decide)).trans ((F42 62 (by decide)).trans ((F41 62 (by decide)).trans ((F40 62 (by decide)).trans ((F39 62 (by decide)).trans ((F38 62 (by decide)).trans ((F37 62 (by decide)).trans ((F36 62 (by decide)).trans ((F35 62 (by decide)).trans ((F34 62 (by decide)).trans ((F33 62 (by decide)).trans ((F32 62 (by decide)).trans ((F31 62 (by decide)).trans ((F30 62 (by decide)).trans ((F29 62 (by decide)).trans (F28 62 (by decide)))))))))))))))))
  have z64 : ν44 64 = ν29 64 := (F44 64 (by decide)).trans ((F43 64 (by decide)).trans ((F42 64 (by decide)).trans ((F41 64 (by decide)).trans ((F40 64 (by decide)).trans ((F39 64 (by decide)).trans ((F38 64 (by decide)).trans ((F37 64 (by decide)).trans ((F36 64 (by decide)).trans ((F35 64 (by decide)).trans ((F34 64 (by decide)).trans ((F33 64 (by decide)).trans ((F32 64 (by decide)).trans ((F31 64 (by decide)).trans (F30 64 (by decide)))))))))))))))
  have z66 : ν44 66 = ν31 66 := (F44 66 (by decide)).trans ((F43 66 (by decide)).trans ((F42 66 (by decide)).trans ((F41 66 (by decide)).trans ((F40 66 (by decide)).trans ((F39 66 (by decide)).trans ((F38 66 (by decide)).trans ((F37 66 (by decide)).trans ((F36 66 (by decide)).trans ((F35 66 (by decide)).trans ((F34 66 (by decide)).trans ((F33 66 (by decide)).trans (F32 66 (by decide)))))))))))))
  have z68 : ν44 68 = ν33 68 := (F44 68 (by decide)).trans ((F43 68 (by decide)).trans ((F42 68 (by decide)).trans ((F41 68 (by decide)).trans ((F40 68 (by decide)).trans ((F39 68 (by decide)).trans ((F38 68 (by decide)).trans ((F37 68 (by decide)).trans ((F36 68 (by decide)).trans ((F35 68 (by decide)).trans (F34 68 (by decide)))))))))))
  have z70 : ν44 70 = ν35 70 := (F44 70 (by decide)).trans ((F43 70 (by decide)).trans ((F42 70 (by decide)).trans ((F41 70 (by decide)).trans ((F40 70 (by decide)).trans ((F39 70 (by decide)).trans ((F38 70 (by decide)).trans ((F37 70 (by decide)).trans (F36 70 (by decide)))))))))
  have z72 : ν44 72 = ν37 72 := (F44 72 (by decide)).trans ((F43 72 (by decide)).trans ((F42 72 (by decide)).trans ((F41 72 (by decide)).trans ((F40 72 (by decide)).trans ((F39 72 (by decide)).trans (F38 72 (by decide)))))))
  have z74 : ν44 74 = ν39 74 := (F44 74 (by decide)).trans ((F43 74 (by decide)).trans ((F42 74 (by decide)).trans ((F41 74 (by decide)).trans (F40 74 (by decide)))))
  have z75 : ν44 75 = ν39 75 := (F44 75 (by decide)).trans ((F43 75 (by decide)).trans ((F42 75 (by decide)).trans ((F41 75 (by decide)).trans (F40 75 (by decide)))))
  have z76 : ν44 76 = ν39 76 := (F44 76 (by decide)).trans ((F43 76 (by decide)).trans ((F42 76 (by decide)).trans ((F41 76 (by decide)).trans (F40 76 (by decide)))))
  have z77 : ν44 77 = ν39 77 := (F44 77 (by decide)).trans ((F43 77 (by decide)).trans ((F42 77 (by decide)).trans ((F41 77 (by decide)).trans (F40 77 (by decide)))))
  have z78 : ν44 78 = ν41 78 := (F44 78 (by decide)).trans ((F43 78 (by decide)).trans (F42 78 (by decide)))
  have z79 : ν44 79 = ν41 79 := (F44 79 (by decide)).trans ((F43 79 (by decide)).trans (F42 79 (by decide)))
  have z80 : ν44 80 = ν41 80 := (F44 80 (by decide)).trans ((F43 80 (by decide)).trans (F42 80 (by decide)))
  have z81 : ν44 81 = ν41 81 := (F44 81 (by decide)).trans ((F43 81 (by decide)).trans (F42 81 (by decide)))
  have z82 : ν44 82 = ν43 82 := F44 82 (by decide)
  have z83 : ν44 83 = ν43 83 := F44 83 (by decide)
  have z84 : ν44 84 = ν43 84 := F44 84 (by decide)
  have z85 : ν44 85 = ν43 85 := F44 85 (by decide)
  have far : ∀ k, 85 < k → ∀ i, ν44 k i = 0 := by
    intro k hk i
    rw [F44 k (by simp only [List.mem_cons, List.not_mem_nil, or_false, not_or]; omega)]
    rw [F43 k (by simp only [List.mem_cons, List.not_mem_nil, or_false, not_or]; omega)]
    rw [F42 k (by simp only [List.mem_cons, List.not_mem_nil, or_false, not_or]; omega)]
    rw [F41 k (by simp only [List.mem_cons, List.not_mem_nil, or_false, not_or]; omega)]
    rw [F40 k (by simp only [List.mem_cons, List.not_mem_nil, or_false, not_or]; omega)]
    rw [F39 k (by simp only [List.mem_cons, List.not_mem_nil, or_false, not_or]; omega)]
    rw [F38 k (by simp only [List.mem_cons, List.not_mem_nil, or_false, not_or]; omega)]
    rw [F37 k (by simp only [List.mem_cons, List.not_mem_nil, or_false, not_or]; omega)]
    rw [F36 k (by simp only [List.mem_cons, List.not_mem_nil, or_false, not_or]; omega)]
    rw [F35 k (by simp only [List.mem_cons, List.not_mem_nil, or_false, not_or]; omega)]
    rw [F34 k (by simp only [List.mem_cons, List.not_mem_nil, or_false, not_or]; omega)]
    rw [F33 k (by simp only [List.mem_cons, List.not_mem_nil, or_false, not_or]; omega)]
    rw [F32 k (by simp only [List.mem_cons, List.not_mem_nil, or_false, not_or]; omega)]
    rw [F31 k (by simp only [List.mem_cons, List.not_mem_nil, or_false, not_or]; omega)]
    rw [F30 k (by simp only [List.mem_cons, List.not_mem_nil, or_false, not_or]; omega)]
    rw [F29 k (by simp only [List.mem_cons, List.not_mem_nil, or_false, not_or]; omega)]
    rw [F28 k (by simp only [List.mem_cons, List.not_mem_nil, or_false, not_or]; omega)]
    rw [F27 k (by simp only [List.mem_cons, List.not_mem_nil, or_false, not_or]; omega)]
    rw [F26 k (by simp only [List.mem_cons, List.not_mem_nil, or_false, not_or]; omega)]
    rw [F25 k (by simp only [List.mem_cons, List.not_mem_nil, or_false, not_or]; omega)]
    rw [F24 k (by simp only [List.mem_cons, List.not_mem_nil, or_false, not_or]; omega)]
    rw [F23 k (by simp only [List.mem_cons, List.not_mem_nil, or_false, not_or]; omega)]
    rw [F22 k (by simp only [List.mem_cons, List.not_mem_nil, or_false, not_or]; omega)]
    rw [F21 k (by simp only [List.mem_cons, List.not_mem_nil, or_false, not_or]; omega)]
    rw [F20 k (by simp only [List.mem_cons, List.not_mem_nil, or_false, not_or]; omega)]
    rw [F19 k (by simp only [List.mem_cons, List.not_mem_nil, or_false, not_or]; omega)]
    rw [F18 k (by simp only [List.mem_cons, List.not_mem_nil, or_false, not_or]; omega)]
    rw [F17 k (by simp only [List.mem_cons, List.not_mem_nil, or_false, not_or]; omega)]
    rw [F16 k (by simp only [List.mem_cons, List.not_mem_nil, or_false, not_or]; omega)]
    rw [F15 k (by simp only [List.mem_cons, List.not_mem_nil, or_false, not_or]; omega)]
    rw [F14 k (by simp only [List.mem_cons, List.not_mem_nil, or_false, not_or]; omega)]
    rw [F13 k (by simp only [List.mem_cons, List.not_mem_nil, or_false, not_or]; omega)]
    rw [F12 k (by simp only [List.mem_cons, List.not_mem_nil, or_false, not_or]; omega)]
    rw [F11 k (by simp only [List.mem_cons, List.not_mem_nil, or_false, not_or]; omega)]
    rw [F10 k (by simp only [List.mem_cons, List.not_mem_nil, or_false, not_or]; omega)]
    rw [F9 k (by simp only [List.mem_cons, List.not_mem_nil, or_false, not_or]; omega)]
    rw [F8 k (by simp only [List.mem_cons, List.not_mem_nil, or_false, not_or]; omega)]
    rw [F7 k (by simp only [List.mem_cons, List.not_mem_nil, or_false, not_or]; omega)]
    rw [F6 k (by simp only [List.mem_cons, List.not_mem_nil, or_false, not_or]; omega)]
    rw [F5 k (by simp only [List.mem_cons, List.not_mem_nil, or_false, not_or]; omega)]
    rw [F4 k (by simp only [List.mem_cons, List.not_mem_nil, or_false, not_or]; omega)]
    rw [F3 k (by simp only [List.mem_cons, List.not_mem_nil, or_false, not_or]; omega)]
    rw [F2 k (by simp only [List.mem_cons, List.not_mem_nil, or_false, not_or]; omega)]
    rw [F1 k (by simp only [List.mem_cons, List.not_mem_nil, or_false, not_or]; omega)]
    rfl
  have w1_10 : ν44 1 10 = 51 := by rw [z1, e18, zup_s, up1_s]
  have w2_0 : ν44 2 0 = 37 := by rw [z2, e22, zup_s, up1_n _ _ (by decide), (F21 2 (by decide)), e20, zup_s, up1_s]
  have w2_1 : ν44 2 1 = 44 := by rw [z2, e22, zup_s, up1_s]
  have w16_0 : ν44 16 0 = 58 := by rw [z16, e30, zup_s, up1_n _ _ (by decide), (F29 16 (by decide)), e28, zup_s, up1_n _ _ (by decide), (F27 16 (by decide)), e26, zup_s, up1_n _ _ (by decide), (F25 16 (by decide)), e24, zup_s, up1_s]
  have w17_0 : ν44 17 0 = 66 := by rw [z17, e38, zup_s, up1_n _ _ (by decide), (F37 17 (by decide)), e36, zup_s, up1_n _ _ (by decide), (F35 17 (by decide)), e34, zup_s, up1_n _ _ (by decide), (F33 17 (by decide)), e32, zup_s, up1_s]
  have w16_1 : ν44 16 1 = 60 := by rw [z16, e30, zup_s, up1_n _ _ (by decide), (F29 16 (by decide)), e28, zup_s, up1_n _ _ (by decide), (F27 16 (by decide)), e26, zup_s, up1_s]
  have w17_1 : ν44 17 1 = 68 := by rw [z17, e38, zup_s, up1_n _ _ (by decide), (F37 17 (by decide)), e36, zup_s, up1_n _ _ (by decide), (F35 17 (by decide)), e34, zup_s, up1_s]
  have w16_2 : ν44 16 2 = 62 := by rw [z16, e30, zup_s, up1_n _ _ (by decide), (F29 16 (by decide)), e28, zup_s, up1_s]
  have w17_2 : ν44 17 2 = 70 := by rw [z17, e38, zup_s, up1_n _ _ (by decide), (F37 17 (by decide)), e36, zup_s, up1_s]
  have w16_3 : ν44 16 3 = 64 := by rw [z16, e30, zup_s, up1_s]
  have w17_3 : ν44 17 3 = 72 := by rw [z17, e38, zup_s, up1_s]
  have w18_2 : ν44 18 2 = 74 := by rw [z18, e44, zup_s, up1_n _ _ (by decide), (F43 18 (by decide)), e42, zup_s, up1_n _ _ (by decide), (F41 18 (by decide)), e40, zup_s, up1_s]
  have w18_3 : ν44 18 3 = 78 := by rw [z18, e44, zup_s, up1_n _ _ (by decide), (F43 18 (by decide)), e42, zup_s, up1_s]
  have w18_4 : ν44 18 4 = 82 := by rw [z18, e44, zup_s, up1_s]
  have w58 : ν44 58 1 = -1 := by rw [z58, e23, zup_s, up1_s]
  have w60 : ν44 60 1 = -1 := by rw [z60, e25, zup_s, up1_s]
  have w62 : ν44 62 1 = -1 := by rw [z62, e27, zup_s, up1_s]
  have w64 : ν44 64 1 = -1 := by rw [z64, e29, zup_s, up1_s]
  have w66 : ν44 66 1 = -1 := by rw [z66, e31, zup_s, up1_s]
  have w68 : ν44 68 1 = -1 := by rw [z68, e33, zup_s, up1_s]
  have w70 : ν44 70 1 = -1 := by rw [z70, e35, zup_s, up1_s]
  have w72 : ν44 72 1 = -1 := by rw [z72, e37, zup_s, up1_s]
  have w19 : ν44 19 1 = 0 := by
    rw [z19, e7, zup_s, up1_n _ _ (by decide), ((F6 19 (by decide)).trans ((F5 19 (by decide)).trans ((F4 19 (by decide)).trans ((F3 19 (by decide)).trans ((F2 19 (by decide)).trans (F1 19 (by decide)))))))]
    rfl
  have w3 : ν44 3 8 = 0 := by
    rw [z3, e2]
    simp only [zup_s]
    rw [up1_n _ _ (by decide), up1_n _ _ (by decide), up1_n _ _ (by decide), up1_n _ _ (by decide), up1_n _ _ (by decide), up1_n _ _ (by decide), up1_n _ _ (by decide), g2 3 (by decide), F1 3 (by decide)]
    rfl
  have sh : ShT ν44 := by
    intro n n0 n1
    rcases n234 ⟨n0, n1⟩ with h | h | h <;> subst h
    · refine ⟨w18_2, ?_, ?_, fun j k j0 j1 k0 k1 => ?_, fun a b a0 a1 b0 b1 => ?_, fun a a0 a1 => ?_⟩
      · exact (congrFun z74 0).trans c39.1
      · exact (congrFun z74 1).trans c39.2
      · exact (congrFun z75 _).trans (s39.1 j k j0 j1 k0 k1)
      · exact (congrFun z76 _).trans (s39.2.1 a b a0 a1 b0 b1)
      · exact (congrFun z77 _).trans (s39.2.2 a a0 a1)
    · refine ⟨w18_3, ?_, ?_, fun j k j0 j1 k0 k1 => ?_, fun a b a0 a1 b0 b1 => ?_, fun a a0 a1 => ?_⟩
      · exact (congrFun z78 0).trans c41.1
      · exact (congrFun z78 1).trans c41.2
      · exact (congrFun z79 _).trans (s41.1 j k j0 j1 k0 k1)
      · exact (congrFun z80 _).trans (s41.2.1 a b a0 a1 b0 b1)
      · exact (congrFun z81 _).trans (s41.2.2 a a0 a1)
    · refine ⟨w18_4, ?_, ?_, fun j k j0 j1 k0 k1 => ?_, fun a b a0 a1 b0 b1 => ?_, fun a a0 a1 => ?_⟩
      · exact (congrFun z82 0).trans c43.1
      · exact (congrFun z82 1).trans c43.2
      · exact (congrFun z83 _).trans (s43.1 j k j0 j1 k0 k1)
      · exact (congrFun z84 _).trans (s43.2.1 a b a0 a1 b0 b1)
      · exact (congrFun z85 _).trans (s43.2.2 a a0 a1)
  have s4 : S4 ν44 := by
    intro q q0 q1
    have : q = 0 ∨ q = 1 ∨ q = 2 ∨ q = 3 := by omega
    rcases this with h | h | h | h <;> subst h
    · exact ⟨w16_0, w17_0⟩
    · exact ⟨w16_1, w17_1⟩
    · exact ⟨w16_2, w17_2⟩
    · exact ⟨w16_3, w17_3⟩
  have cc37 : ∀ k, 37 ≤ k → k ≤ 37 + 6 → ν44 k = ν19 k := by
    intro k k0 k1
    have : k = 37 ∨ k = 38 ∨ k = 39 ∨ k = 40 ∨ k = 41 ∨ k = 42 ∨ k = 43 := by omega
    rcases this with h | h | h | h | h | h | h <;> subst h
    · exact z37
    · exact z38
    · exact z39
    · exact z40
    · exact z41
    · exact z42
    · exact z43
  have cc44 : ∀ k, 44 ≤ k → k ≤ 44 + 6 → ν44 k = ν21 k := by
    intro k k0 k1
    have : k = 44 ∨ k = 45 ∨ k = 46 ∨ k = 47 ∨ k = 48 ∨ k = 49 ∨ k = 50 := by omega
    rcases this with h | h | h | h | h | h | h <;> subst h
    · exact z44
    · exact z45
    · exact z46
    · exact z47
    · exact z48
    · exact z49
    · exact z50
  refine ⟨⟨far, sh, s4, w2_0, w2_1, w1_10⟩, ⟨cs19.congr cc37, cp19.congr cc37, cs21.congr cc44, cp21.congr cc44⟩, w19, w3, fun q q0 q1 => ?_⟩
  have : q = 0 ∨ q = 1 ∨ q = 2 ∨ q = 3 := by omega
  rcases this with h | h | h | h <;> subst h
  · exact ⟨w58, w66⟩
  · exact ⟨w60, w68⟩
  · exact ⟨w62, w70⟩
  · exact ⟨w64, w72⟩
set_option maxHeartbeats 4000000 in
set_option maxRecDepth 100000 in
theorem first_rel {μ : zMem} (hF : Fst μ) : Rel (zup (zup (zup (zup (zup (zup (zup (zup (zup (zup (zup (zup (zup (zup (zup (zup (zup (zup (zup (zup (zup (zup (zup (zup (zup (zup (zup (zup (zup (zup (zup (zup (zup (zup (zup (zup (zup (zup (zup (zup (zup (zup (zup (zup (zup (zup (zup (zup (zup (zup μ 101 0 102) 101 1 103) 101 2 104) 101 3 105) 101 4 106) 101 5 107) 101 6 108) 101 8 110) 101 14 116) 101 15 117) 101 16 118) 101 17 119) 101 18 120) 101 19 121) 101 21 123) 101 22 124) 101 23 125) 101 24 126) 101 25 127) 101 26 128) 101 27 129) 101 31 133) 101 32 134) 101 40 142) 101 41 143) 101 42 144) 101 43 145) 101 44 146) 101 45 147) 101 46 148) 101 47 149) 101 48 150) 101 49 151) 101 50 152) 101 52 154) 101 54 156) 101 55 157) 101 56 158) 101 57 159) 101 58 160) 102 0 1) 102 1 1) 148 0 (-4)) 158 0 (-4)) 148 1 (-4)) 158 1 (-4)) 148 2 (-4)) 158 2 (-4)) 148 3 (-4)) 158 3 (-4)) := by
  obtain ⟨⟨far, sh, s4, w20, w21, w110⟩, ⟨cs0, cp0, cs1, cp1⟩, w19, w3, wq⟩ := hF
  obtain ⟨ν, hν⟩ : ∃ ν : zMem, ν = (zup (zup (zup (zup (zup (zup (zup (zup (zup (zup (zup (zup (zup (zup (zup (zup (zup (zup (zup (zup (zup (zup (zup (zup (zup (zup (zup (zup (zup (zup (zup (zup (zup (zup (zup (zup (zup (zup (zup (zup (zup (zup (zup (zup (zup (zup (zup (zup (zup (zup μ 101 0 102) 101 1 103) 101 2 104) 101 3 105) 101 4 106) 101 5 107) 101 6 108) 101 8 110) 101 14 116) 101 15 117) 101 16 118) 101 17 119) 101 18 120) 101 19 121) 101 21 123) 101 22 124) 101 23 125) 101 24 126) 101 25 127) 101 26 128) 101 27 129) 101 31 133) 101 32 134) 101 40 142) 101 41 143) 101 42 144) 101 43 145) 101 44 146) 101 45 147) 101 46 148) 101 47 149) 101 48 150) 101 49 151) 101 50 152) 101 52 154) 101 54 156) 101 55 157) 101 56 158) 101 57 159) 101 58 160) 102 0 1) 102 1 1) 148 0 (-4)) 158 0 (-4)) 148 1 (-4)) 158 1 (-4)) 148 2 (-4)) 158 2 (-4)) 148 3 (-4)) 158 3 (-4)) := ⟨_, rfl⟩
  rw [← hν]
  have hU : ∀ k, k ≠ 101 → k ≠ 102 → k ≠ 148 → k ≠ 158 → ν k = μ k := by
    intro k h1 h2 h3 h4
    rw [hν]
    simp only [zup_n _ _ _ h1, zup_n _ _ _ h2, zup_n _ _ _ h3, zup_n _ _ _ h4]
  have hV : ∀ k, k ≤ 85 → ν k = μ k := fun k hk => hU k (by omega) (by omega) (by omega) (by omega)
  have a7 : ν 101 7 = 0 := by rw [hν]; simp [zup_eq, far]
  have a9 : ν 101 9 = 0 := by rw [hν]; simp [zup_eq, far]
  have b0 : ν 102 0 = 1 := by rw [hν]; simp [zup_eq]
  have b1 : ν 102 1 = 1 := by rw [hν]; simp [zup_eq]
  have c148 : ∀ q, 0 ≤ q → q < 4 → ν 148 q = -4 := by
    intro q q0 q1
    have : q = 0 ∨ q = 1 ∨ q = 2 ∨ q = 3 := by omega
    rw [hν]
    rcases this with h | h | h | h <;> subst h <;> simp [zup_eq]
  have c158 : ∀ q, 0 ≤ q → q < 4 → ν 158 q = -4 := by
    intro q q0 q1
    have : q = 0 ∨ q = 1 ∨ q = 2 ∨ q = 3 := by omega
    rw [hν]
    rcases this with h | h | h | h <;> subst h <;> simp [zup_eq]
  have ms : ∀ s, 0 ≤ s → s ≤ 1 → MS ν s σ0 := by
    intro s s0 s1
    have hs : s = 0 ∨ s = 1 := by omega
    refine ⟨?_, ?_, ?_, fun e e0 e1 => absurd (show e < 0 from e1) (by omega), fun e e0 e1 => absurd (show e < 0 from e1) (by omega)⟩
    · rcases hs with h | h <;> subst h
      · exact b0
      · exact b1
    · rw [hU 103 (by decide) (by decide) (by decide) (by decide)]; exact far 103 (by decide) s
    · rw [hU 104 (by decide) (by decide) (by decide) (by decide)]; exact far 104 (by decide) s
  have d20 : ν 2 0 = 37 := by rw [hV 2 (by decide)]; exact w20
  have d21 : ν 2 1 = 44 := by rw [hV 2 (by decide)]; exact w21
  have d110 : ν 1 10 = 51 := by rw [hV 1 (by decide)]; exact w110
  have e19 : ν 19 1 = 0 := by rw [hV 19 (by decide)]; exact w19
  refine ⟨⟨sh.congr (fun k hk => hV k (by omega)), ?_, s4.congr (fun k hk => hV k (by omega))⟩, fun s s0 s1 => ⟨σ0, ?_⟩, ?_, fun q q0 q1 => Or.inl ⟨?_, c148 q q0 q1⟩, fun q q0 q1 => Or.inl ⟨?_, c158 q q0 q1⟩, Or.inl ⟨?_, a7⟩⟩
  · unfold K3 PK
    rw [d20, d21, d110]
    decide
  · have hs : s = 0 ∨ s = 1 := by omega
    have hm := ms s s0 s1
    unfold SpR
    rcases hs with h | h <;> subst h
    · rw [d20]
      exact ⟨cs0.congr (fun k _ _ => hV k (by omega)), cp0.congr (fun k _ _ => hV k (by omega)), hm, σ0_E (by decide) (by decide), σ0_P (by decide)⟩
    · rw [d21]
      exact ⟨cs1.congr (fun k _ _ => hV k (by omega)), cp1.congr (fun k _ _ => hV k (by omega)), hm, σ0_E (by decide) (by decide), σ0_P (by decide)⟩
  · refine ⟨by rw [e19, a9], by rw [e19]; decide, by rw [e19]; decide, fun i i0 i1 => ?_⟩
    rw [e19] at i1
    omega
  · rw [hV _ (by omega)]
    exact (wq q q0 q1).1
  · rw [hV _ (by omega)]
    exact (wq q q0 q1).2
  · rw [hV 3 (by decide)]
    exact w3
