/-! the class's table of packed words -/
def hsh (h t : Int) : Int := zw (zlushr (zl ((zlxor (zl (h * (-7046029254386353131))) t) * (-7046029254386353131))) 52)
theorem hsh_rg (h t : Int) : 0 ≤ hsh h t ∧ hsh h t < 4096 := by
  unfold hsh
  generalize (zlxor (zl (h * (-7046029254386353131))) t) * (-7046029254386353131) = x
  have h1 := zlushr_n (Rl.w x) 52 (by decide)
  have e52 : ((52 : Nat) : Int) = 52 := rfl
  rw [e52] at h1
  have h2 : 0 ≤ zl x % 2 ^ 64 ∧ zl x % 2 ^ 64 < 2 ^ 64 := ⟨Int.emod_nonneg _ (by decide), Int.emod_lt_of_pos _ (by decide)⟩
  have h3 : 0 ≤ (zl x % 2 ^ 64) / 2 ^ 52 ∧ (zl x % 2 ^ 64) / 2 ^ 52 < 4096 := by omega
  rw [h1, zl_eq (by omega) (by omega), zw_eq (by omega) (by omega)]
  exact h3
/-- heads h, tails t: taken where the tail isn't 0; keys S -/
def Tbl (h t : Int → Int) (S : List (Int × Int)) : Prop := (∀ j, 0 ≤ j → j < 4096 → t j ≠ 0 → (h j, t j) ∈ S ∧ ∀ i, 0 ≤ i → i < 4096 → (i - hsh (h j) (t j)) % 4096 < (j - hsh (h j) (t j)) % 4096 → t i ≠ 0) ∧ (∀ K ∈ S, K.2 ≠ 0 ∧ ∃ j, 0 ≤ j ∧ j < 4096 ∧ h j = K.1 ∧ t j = K.2) ∧ cnt (fun i => !(decide (t i = 0))) 4096 ≤ S.length
theorem cnt_all {r : Int → Bool} : ∀ n : Nat, (∀ c : Int, 0 ≤ c → c < n → r c = true) → cnt r n = n := by
  intro n
  induction n with
  | zero => intro _; rfl
  | succ n ih =>
    intro h
    unfold cnt
    rw [ih (fun c a b => h c a (by omega)), h n (by omega) (by omega)]
    show (n : Int) + 1 = _
    omega
/-- place i is what the search for K ends at -/
def Plc (h t : Int → Int) (K : Int × Int) (i : Int) : Prop := 0 ≤ i ∧ i < 4096 ∧ (t i = 0 ∨ (h i = K.1 ∧ t i = K.2)) ∧ ∀ c, 0 ≤ c → c < 4096 → (c - hsh K.1 K.2) % 4096 < (i - hsh K.1 K.2) % 4096 → t c ≠ 0 ∧ ¬ (h c = K.1 ∧ t c = K.2)
theorem tbl_has {h t : Int → Int} {S : List (Int × Int)} {K : Int × Int} {i : Int} (hT : Tbl h t S) (hp : Plc h t K i) : t i ≠ 0 ↔ K ∈ S := by
  obtain ⟨t1, t2, t3⟩ := hT
  obtain ⟨p1, p2, p3, p4⟩ := hp
  constructor
  · intro hn
    rcases p3 with e | ⟨e1, e2⟩
    · exact absurd e hn
    · have := (t1 i p1 p2 hn).1
      rw [e1, e2] at this
      exact this
  · intro hK hn
    obtain ⟨k1, j, j1, j2, j3, j4⟩ := t2 K hK
    have hj := (t1 j j1 j2 (by omega)).2
    rw [j3, j4] at hj
    by_cases hlt : (i - hsh K.1 K.2) % 4096 < (j - hsh K.1 K.2) % 4096
    · exact hj i p1 p2 hlt hn
    · by_cases hgt : (j - hsh K.1 K.2) % 4096 < (i - hsh K.1 K.2) % 4096
      · exact (p4 j j1 j2 hgt).2 ⟨j3, j4⟩
      · have : i = j := by omega
        rw [this] at hn
        omega
theorem tbl_put {h t : Int → Int} {S : List (Int × Int)} {K : Int × Int} {i : Int} (hT : Tbl h t S) (hp : Plc h t K i) (hK : K.2 ≠ 0) : Tbl (up1 h i K.1) (up1 t i K.2) (S ++ [K]) := by
  obtain ⟨t1, t2, t3⟩ := hT
  obtain ⟨p1, p2, p3, p4⟩ := hp
  have keep : ∀ c, t c ≠ 0 → up1 t i K.2 c ≠ 0 := by
    intro c hc
    by_cases e : c = i
    · rw [e, up1_s]; exact hK
    · rw [up1_n _ _ e]; exact hc
  refine ⟨fun j j0 j1 hj => ?_, fun K' hK' => ?_, ?_⟩
  · by_cases e : j = i
    · subst e
      rw [up1_s, up1_s]
      refine ⟨List.mem_append_right _ (List.mem_singleton.mpr rfl), fun c c0 c1 hc => keep c (p4 c c0 c1 hc).1⟩
    · rw [up1_n _ _ e] at hj ⊢
      rw [up1_n _ _ e]
      obtain ⟨a1, a2⟩ := t1 j j0 j1 hj
      exact ⟨List.mem_append_left _ a1, fun c c0 c1 hc => keep c (a2 c c0 c1 hc)⟩
  · rcases List.mem_append.mp hK' with hm | hm
    · obtain ⟨k1, j, j0, j1, j2, j3⟩ := t2 K' hm
      refine ⟨k1, ?_⟩
      by_cases e : j = i
      · subst e
        refine ⟨j, j0, j1, ?_, ?_⟩
        · rw [up1_s]
          rcases p3 with q | ⟨q, _⟩
          · omega
          · omega
        · rw [up1_s]
          rcases p3 with q | ⟨_, q⟩
          · omega
          · omega
      · exact ⟨j, j0, j1, by rw [up1_n _ _ e]; exact j2, by rw [up1_n _ _ e]; exact j3⟩
    · rw [List.mem_singleton.mp hm]
      exact ⟨hK, i, p1, p2, up1_s _ _ _, up1_s _ _ _⟩
  · rw [List.length_append]
    show _ ≤ ((S.length + 1 : Nat) : Int)
    by_cases hz : t i = 0
    · have := cnt_set (r := fun c => !(decide (t c = 0))) (q := fun c => !(decide (up1 t i K.2 c = 0))) (x := i) 4096 p1 p2 (by simp [hz]) (by simp [up1_s, hK]) (fun c hc => by rw [up1_n _ _ hc])
      omega
    · have := cnt_congr (r := fun c => !(decide (up1 t i K.2 c = 0))) (q := fun c => !(decide (t c = 0))) 4096 (fun c a b => by
        by_cases e : c = i
        · subst e
          rw [up1_s]
          simp [hz, hK]
        · rw [up1_n _ _ e])
      omega
theorem c_placeOf {μ : zMem} {S : List (Int × Int)} (hT : Tbl (μ 34) (μ 35) S) (hS : S.length < 4096) (K : Int × Int) (h4 : μ 33 4 = K.1) (h5 : μ 33 5 = K.2) : ∃ i, f_X0_placeOf μ = some i ∧ Plc (μ 34) (μ 35) K i := by
  have hr := hsh_rg K.1 K.2
  obtain ⟨t1, t2, t3⟩ := hT
  have key : ∀ (m fu : Nat) (x : Int), m < fu → 0 ≤ x → x + m = 4096 → (∀ d, 0 ≤ d → d < x → μ 35 ((hsh K.1 K.2 + d) % 4096) ≠ 0 ∧ ¬ (μ 34 ((hsh K.1 K.2 + d) % 4096) = K.1 ∧ μ 35 ((hsh K.1 K.2 + d) % 4096) = K.2)) → ∃ i, f_X0_placeOf_L24 μ fu ((hsh K.1 K.2 + x) % 4096) x = some i ∧ Plc (μ 34) (μ 35) K i := by
    intro m
    induction m with
    | zero =>
      intro fu x hfu x0 hx hd
      exfalso
      have := cnt_all (r := fun i => !(decide (μ 35 i = 0))) 4096 (fun c a b => by
        have := (hd ((c - hsh K.1 K.2) % 4096) (by omega) (by omega)).1
        rw [show (hsh K.1 K.2 + (c - hsh K.1 K.2) % 4096) % 4096 = c by omega] at this
        simp [this])
      omega
    | succ m ih =>
      intro fu x hfu x0 hx hd
      cases fu with
      | zero => omega
      | succ fu =>
        have hat : 0 ≤ (hsh K.1 K.2 + x) % 4096 ∧ (hsh K.1 K.2 + x) % 4096 < 4096 := by omega
        have hP : (μ 35 ((hsh K.1 K.2 + x) % 4096) = 0 ∨ (μ 34 ((hsh K.1 K.2 + x) % 4096) = K.1 ∧ μ 35 ((hsh K.1 K.2 + x) % 4096) = K.2)) → Plc (μ 34) (μ 35) K ((hsh K.1 K.2 + x) % 4096) := by
          intro hh
          refine ⟨hat.1, hat.2, hh, fun c c0 c1 hc => ?_⟩
          have := hd ((c - hsh K.1 K.2) % 4096) (by omega) (by omega)
          rw [show (hsh K.1 K.2 + (c - hsh K.1 K.2) % 4096) % 4096 = c by omega] at this
          exact this
        have hgo : ¬ μ 35 ((hsh K.1 K.2 + x) % 4096) = 0 → ¬ (μ 34 ((hsh K.1 K.2 + x) % 4096) = K.1 ∧ μ 35 ((hsh K.1 K.2 + x) % 4096) = K.2) → ∃ i, f_X0_placeOf_J72 ((hsh K.1 K.2 + x) % 4096) x (f_X0_placeOf_L24 μ fu) = some i ∧ Plc (μ 34) (μ 35) K i := by
          intro n1 n2
          have hand : zand ((hsh K.1 K.2 + x) % 4096 + 1) 4095 = (hsh K.1 K.2 + (x + 1)) % 4096 := by
            have := zand_nat (a := ((hsh K.1 K.2 + x) % 4096 + 1).toNat) (b := 4095) (by omega) (by omega)
            rw [show ((((hsh K.1 K.2 + x) % 4096 + 1).toNat : Nat) : Int) = (hsh K.1 K.2 + x) % 4096 + 1 by omega] at this
            have h2 := Nat.and_two_pow_sub_one_eq_mod ((hsh K.1 K.2 + x) % 4096 + 1).toNat 12
            rw [show (2 : Nat) ^ 12 - 1 = 4095 by decide] at h2
            rw [show ((4095 : Nat) : Int) = 4095 from rfl] at this
            rw [this, h2]
            omega
          unfold f_X0_placeOf_J72
          simp only [zlet]
          rw [zw_eq (x := (hsh K.1 K.2 + x) % 4096 + 1) (by omega) (by omega), hand, zw_eq (x := x + 1) (by omega) (by omega)]
          refine ih fu (x + 1) (by omega) (by omega) (by omega) fun d d0 d1 => ?_
          by_cases e : d = x
          · rw [e]; exact ⟨n1, n2⟩
          · exact hd d d0 (by omega)
        unfold f_X0_placeOf_L24
        rw [if_pos (by omega), chk_pos hat, chk_pos hat, chk_pos hat, h4, h5]
        by_cases q1 : μ 35 ((hsh K.1 K.2 + x) % 4096) = 0
        · rw [if_pos q1]
          exact ⟨_, rfl, hP (Or.inl q1)⟩
        · rw [if_neg q1]
          by_cases q2 : μ 35 ((hsh K.1 K.2 + x) % 4096) = K.2
          · rw [if_pos q2]
            by_cases q3 : μ 34 ((hsh K.1 K.2 + x) % 4096) = K.1
            · rw [if_pos q3]
              exact ⟨_, rfl, hP (Or.inr ⟨q3, q2⟩)⟩
            · rw [if_neg q3]
              exact hgo q1 fun q => q3 q.1
          · rw [if_neg q2]
            exact hgo q1 fun q => q2 q.2
  obtain ⟨i, i1, i2⟩ := key 4096 zfu 0 (by unfold zfu; omega) (by omega) (by omega) (fun d a b => by omega)
  refine ⟨i, ?_, i2⟩
  unfold f_X0_placeOf
  simp only [zlet]
  rw [h4, h5]
  show f_X0_placeOf_L24 μ zfu (hsh K.1 K.2) 0 = some i
  rw [show (hsh K.1 K.2 + 0) % 4096 = hsh K.1 K.2 by omega] at i1
  exact i1
