/-- what can be told by bits of the edges below k -/
def Tld (σ : Sp) (k : Nat) (v : Nat) : Prop := ∃ x : Int, 0 ≤ x ∧ x < 2 ^ k ∧ odN σ x (sP σ).toNat = v
theorem Tld_succ {σ : Sp} (hw : WfP σ 8) (k v : Nat) : Tld σ (k + 1) v ↔ Tld σ k v ∨ Tld σ k (v ^^^ odN σ (2 ^ k) (sP σ).toNat) := by
  have hr : ∀ f i : Int, 0 ≤ f → f < (sP σ).toNat → 0 ≤ i → i < sL σ f → 0 ≤ sR σ f i := fun f i a b c d => ((hw.2.2 f a (by omega)).2.2.1 i c d).1
  have h2 : (2 : Int) ^ (k + 1) = 2 ^ k * 2 := Int.pow_succ ..
  constructor
  · rintro ⟨x, x0, x1, x2⟩
    by_cases hx : x < 2 ^ k
    · exact Or.inl ⟨x, x0, hx, x2⟩
    · refine Or.inr ⟨x - 2 ^ k, by omega, by omega, ?_⟩
      have := odN_add σ (x := x - 2 ^ k) (k := k) ⟨by omega, by omega⟩ (sP σ).toNat hr
      rw [show x - 2 ^ k + 2 ^ k = x by omega, x2] at this
      rw [this, Nat.xor_assoc, Nat.xor_self, Nat.xor_zero]
  · rintro (⟨x, x0, x1, x2⟩ | ⟨x, x0, x1, x2⟩)
    · exact ⟨x, x0, by omega, x2⟩
    · refine ⟨x + 2 ^ k, by omega, by omega, ?_⟩
      rw [odN_add σ ⟨x0, x1⟩ _ hr, x2, Nat.xor_assoc, Nat.xor_self, Nat.xor_zero]
theorem c_isSum {μ : zMem} {t : Int} {σ : Sp} {v : Nat} (hs : CS μ t σ) (ht : 37 ≤ t) (hz : SZ t 8 12 8) (hw : WfP σ 8) (hE : 0 ≤ sE σ ∧ sE σ ≤ 12) (hv : v < 256) : Ok (f_X2_isSumOfEdges t (v : Int) μ) (fun w => (w.1 = 0 ∨ w.1 = 1) ∧ (w.1 = 1 ↔ Tld σ (sE σ).toNat v) ∧ ∀ k, k ≠ 26 → w.2 k = μ k) := by
  have p8 : (sP σ).toNat ≤ 8 := by have := hw.2.1; omega
  have olt : ∀ x, odN σ x (sP σ).toNat < 256 := fun x => Nat.lt_of_lt_of_le (odN_lt σ x _) (Nat.pow_le_pow_right (by decide) p8)
  have fin : ∀ μ1 : zMem, (∀ k, k ≠ 26 → μ1 k = μ k) → (∀ i : Int, 0 ≤ i → i < 8 → 0 ≤ μ1 26 i ∧ μ1 26 i < 256) → (∀ v, v < 256 → (red (bas (μ1 26)) 8 v = 0 ↔ Tld σ (sE σ).toNat v)) → Ok (f_X2_isSumOfEdges_K52 (v : Int) μ1) (fun w => (w.1 = 0 ∨ w.1 = 1) ∧ (w.1 = 1 ↔ Tld σ (sE σ).toNat v) ∧ ∀ k, k ≠ 26 → w.2 k = μ k) := by
    intro μ1 f1 f2 f3
    unfold f_X2_isSumOfEdges_K52
    rw [(c_clear hv f2).1, bnd_pos rfl]
    have h3 := f3 v hv
    by_cases h0 : red (bas (μ1 26)) 8 v = 0
    · rw [if_pos (by rw [h0]; rfl)]
      exact ok_some.mpr ⟨Or.inr rfl, ⟨fun _ => h3.mp h0, fun _ => rfl⟩, f1⟩
    · rw [if_neg (fun e => h0 (by exact_mod_cast e))]
      exact ok_some.mpr ⟨Or.inl rfl, ⟨fun e => by simp at e, fun e => absurd (h3.mpr e) h0⟩, f1⟩
  have key : ∀ (n : Nat) (e : Int) (μ1 : zMem), 0 ≤ e → e ≤ sE σ → (sE σ - e).toNat < n → (∀ k, k ≠ 26 → μ1 k = μ k) → (∀ i : Int, 0 ≤ i → i < 8 → 0 ≤ μ1 26 i ∧ μ1 26 i < 256) → Gd (bas (μ1 26)) → (∀ v, v < 256 → (red (bas (μ1 26)) 8 v = 0 ↔ Tld σ e.toNat v)) → Ok (f_X2_isSumOfEdges_L10 t (f_X2_isSumOfEdges_K52 (v : Int)) n e μ1) (fun w => (w.1 = 0 ∨ w.1 = 1) ∧ (w.1 = 1 ↔ Tld σ (sE σ).toNat v) ∧ ∀ k, k ≠ 26 → w.2 k = μ k) := by
    intro n
    induction n with
    | zero => intro e μ1 _ _ h; omega
    | succ n ih =>
      intro e μ1 e0 e1 e2 f1 f2 fg f3
      have cs1 : CS μ1 t σ := hs.congr fun k a b => f1 k (by omega)
      unfold f_X2_isSumOfEdges_L10
      rw [cs1.2.1]
      by_cases he : e < sE σ
      · rw [if_pos he, c_oddPanes cs1 hz hw hE ⟨e0, by omega⟩, bnd_pos rfl, ← odN_c]
        have hst := Tld_succ hw e.toNat
        have hen : (e + 1).toNat = e.toNat + 1 := by omega
        generalize hρ0 : odN σ (2 ^ e.toNat) (sP σ).toNat = o at *
        have ho : o < 256 := by rw [← hρ0]; exact olt _
        obtain ⟨c1, c2⟩ := c_clear ho f2
        rw [c1, bnd_pos rfl]
        simp only [zlet]
        rw [zw_eq (by omega) (by omega)]
        have hlin : ∀ v, red (bas (μ1 26)) 8 (v ^^^ o) = red (bas (μ1 26)) 8 v ^^^ red (bas (μ1 26)) 8 o := fun v => red_lin _ 8 v o
        generalize hρ : red (bas (μ1 26)) 8 o = ρ at *
        have hvo : ∀ v, v < 256 → v ^^^ o < 256 := fun v hv => Nat.xor_lt_two_pow (n := 8) hv ho
        by_cases h0 : ρ = 0
        · rw [if_pos (by rw [h0]; rfl)]
          refine ih (e + 1) μ1 (by omega) (by omega) (by omega) f1 f2 fg (fun v hv => ?_)
          rw [hen, hst v, ← f3 v hv, ← f3 _ (hvo v hv), hlin v, h0, Nat.xor_zero]
          exact ⟨Or.inl, fun q => q.elim id id⟩
        · rw [if_neg (fun q => h0 (by exact_mod_cast q))]
          obtain ⟨h, h1, h2, h3, h4⟩ := c_highest c2 h0
          rw [h1, bnd_pos rfl, chk_pos (by omega)]
          have hnb : Nb (bas (μ1 26)) 8 ρ := by rw [← hρ]; exact (red_nb fg 8 o).1
          obtain ⟨u1, u2, u3⟩ := red_upd fg h2 hnb h3 h4
          have hbas : bas (zup μ1 26 (h : Int) (ρ : Int) 26) = fun i => if i = h then ρ else bas (μ1 26) i := by
            funext i
            unfold bas
            rw [zup_s, up1_e]
            by_cases hi : i = h
            · subst hi
              rw [if_pos h2, if_pos rfl, if_pos rfl]
              omega
            · rw [if_neg (show ¬ (i : Int) = (h : Int) by omega), if_neg hi]
          refine ih (e + 1) _ (by omega) (by omega) (by omega) (fun k a => by rw [zup_n _ _ _ a]; exact f1 k a) (fun i a b => ?_) (by rw [hbas]; exact u1) (fun v hv => ?_)
          · rw [zup_s, up1_e]
            split
            · omega
            · exact f2 i a b
          · rw [hbas, u3 v, hen, hst v, ← f3 v hv, ← f3 _ (hvo v hv), hlin v]
            generalize red (bas (μ1 26)) 8 v = r at *
            have hx : r ^^^ ρ = 0 ↔ r = ρ := by
              constructor
              · intro q
                have := congrArg (fun z => z ^^^ ρ) q
                simpa [Nat.xor_assoc] using this
              · intro q; rw [q, Nat.xor_self]
            by_cases hb : r.testBit h = true
            · rw [if_pos hb]
              refine ⟨Or.inr, fun q => q.elim (fun q => ?_) id⟩
              rw [q, Nat.zero_testBit] at hb
              cases hb
            · rw [if_neg hb]
              refine ⟨Or.inl, fun q => q.elim id (fun q => ?_)⟩
              rw [hx.mp q] at hb
              exact absurd h3 hb
      · rw [if_neg he]
        have : e = sE σ := by omega
        subst this
        exact fin μ1 f1 f2 f3
  unfold f_X2_isSumOfEdges
  refine ok_bnd.mpr (c_fill.imp fun μ1 f => ?_)
  have hz26 : zlen 26 = 8 := by decide
  have hz0 : ∀ i : Int, 0 ≤ i → i < 8 → μ1 26 i = 0 := fun i a b => by rw [f.2, if_pos (by omega)]
  have hb0 : bas (μ1 26) = fun _ => 0 := by
    funext i
    unfold bas
    split
    · rw [hz0 i (by omega) (by omega)]; rfl
    · rfl
  refine key zfu 0 μ1 (by omega) hE.1 (by unfold zfu; omega) f.1 (fun i a b => by rw [hz0 i a b]; omega) (by rw [hb0]; exact fun i h => absurd rfl h) (fun v hv => ?_)
  rw [hb0, red_fix 8 v (fun i _ h => absurd rfl h)]
  constructor
  · intro h0
    refine ⟨0, by omega, by show (0 : Int) < 1; decide, ?_⟩
    rw [h0]
    have hz : ∀ n, odf σ 0 n = 0 := fun n => (odf_0 σ 0 n).mpr (fun f _ _ => by
      have : ∀ m, nby σ 0 f m = 0 := by
        intro m
        induction m with
        | zero => rfl
        | succ m ih => unfold nby; rw [ih]; unfold bt; simp
      unfold pry
      rw [this]
      rfl)
    unfold odN
    rw [hz]
    rfl
  · rintro ⟨x, x0, x1, x2⟩
    have hx : x = 0 := by
      have : (2 : Int) ^ (0 : Int).toNat = 1 := rfl
      omega
    subst hx
    rw [← x2]
    have hz : ∀ n, odf σ 0 n = 0 := fun n => (odf_0 σ 0 n).mpr (fun f _ _ => by
      have : ∀ m, nby σ 0 f m = 0 := by
        intro m
        induction m with
        | zero => rfl
        | succ m ih => unfold nby; rw [ih]; unfold bt; simp
      unfold pry
      rw [this]
      rfl)
    unfold odN
    rw [hz]
    rfl
theorem sim_nought {μ : zMem} {a b : Int} (h : Rel μ) : Ok (f_X9_nought a b μ) (fun v => f_X10_nought a b v.2 = some v.1 ∧ Rel v.2) := by
  by_cases h1 : 0 ≤ a ∧ a ≤ 1
  rotate_left
  · unfold f_X9_nought f_X10_nought
    rw [if_pos (isOwn0.mpr h1)]
    exact ok_some.mpr ⟨by rw [if_pos (isSpace0.mpr h1)], h⟩
  have hk := h.own h1
  have hb := hk.b
  have hz := hk.sz
  obtain ⟨σ, s1, s2, s3, s4, s5⟩ := h.2.1 a h1.1 h1.2
  have hE : 0 ≤ sE σ ∧ sE σ ≤ 12 := ⟨s4.2.2.1, s4.2.2.2.1⟩
  have hP0 := s5.1
  have hP8 := s5.2.1
  have hB := areB (x := b) (m := sP σ) ⟨by omega, by omega⟩
  have hEE := areB (x := 0) hE
  have h3 : 0 ≤ a ∧ a < 3 := by omega
  have hshl : zshl 1 (sE σ) = 2 ^ (sE σ).toNat := by
    have hp : (2 : Nat) ^ (sE σ).toNat ≤ 2 ^ 12 := Nat.pow_le_pow_right (by decide) (by omega)
    have := zshl_nat (a := 1) (n := (sE σ).toNat) (by omega) (by omega)
    rw [show (((sE σ).toNat : Nat) : Int) = sE σ by omega, show ((1 : Nat) : Int) = 1 from rfl] at this
    rw [this]
    push_cast
    omega
  by_cases h4 : 0 ≤ b ∧ b < 2 ^ (sP σ).toNat
  rotate_left
  · unfold f_X9_nought
    rw [if_neg (fun e => isOwn0.mp e h1), chk_pos (by omega), chk_pos (by omega)]
    simp only [zlet]
    rw [s1.2.2.1, if_pos (hB.1.mpr h4)]
    refine ok_some.mpr ⟨?_, h⟩
    show f_X10_nought a b μ = some (-1)
    unfold f_X10_nought
    rw [if_neg (fun e => isSpace0.mp e h1), chk_pos h3, s3.2.2.1, if_pos (hB.2.1.mpr h4)]
  have hb256 : b < 256 := by
    have := ipow (a := (sP σ).toNat) (b := 8) (by omega)
    have e : (2 : Int) ^ 8 = 256 := by decide
    omega
  have hbn : ((b.toNat : Nat) : Int) = b := by omega
  unfold f_X9_nought
  rw [if_neg (fun e => isOwn0.mp e h1), chk_pos (by omega), chk_pos (by omega)]
  simp only [zlet]
  rw [s1.2.2.1, if_neg (fun e => hB.1.mp e h4), chk_pos (by omega), chk_pos (by omega)]
  have hsum := c_isSum (v := b.toNat) s1 hb.1 hz s5 hE (by omega)
  rw [hbn] at hsum
  refine ok_bnd2.mpr (hsum.imp fun w q => ?_)
  obtain ⟨q1, q2, q3⟩ := q
  have hR : Rel w.2 := h.scr ⟨fun k hk _ => q3 k (by unfold rlv at hk; omega), by rw [q3 1 (by decide)], by rw [q3 19 (by decide)], fun i _ => by rw [q3 101 (by decide)]⟩
  have msw : MS w.2 a σ := s3.congr fun k x y => q3 k (by omega)
  -- the reference goes through all bits
  have mk : ∀ (n : Nat) (x : Int), 0 ≤ x → x ≤ 2 ^ (sE σ).toNat → (2 ^ (sE σ).toNat - x).toNat < n → (∀ y : Int, 0 ≤ y → y < x → odf σ y (sP σ).toNat ≠ b) → f_X10_nought_L24 a b w.2 n x = some w.1 := by
    intro n
    induction n with
    | zero => intro x _ _ h; omega
    | succ n ih =>
      intro x x0 x1 x2 x3
      unfold f_X10_nought_L24
      rw [chk_pos h3, msw.2.1, hshl]
      by_cases hx : x < 2 ^ (sE σ).toNat
      · have hx4 : x < 4096 := by have := hEE.2.2; omega
        rw [if_pos hx, m_oddFaces msw h3 s5 hE ⟨x0, hx4⟩, bnd_pos rfl]
        by_cases hq : odf σ x (sP σ).toNat = b
        · rw [if_pos hq, q2.mpr ⟨x, x0, hx, by unfold odN; rw [hq]⟩]
        · rw [if_neg hq]
          simp only [zlet]
          rw [zw_eq (by omega) (by omega)]
          refine ih (x + 1) (by omega) (by omega) (by omega) (fun y y0 y1 => ?_)
          by_cases hy : y = x
          · rw [hy]; exact hq
          · exact x3 y y0 (by omega)
      · rw [if_neg hx]
        have hw1 : w.1 ≠ 1 := by
          intro e
          obtain ⟨y, y0, y1, y2⟩ := q2.mp e
          refine x3 y y0 (by omega) ?_
          have := odN_c σ y (sP σ).toNat
          rw [y2] at this
          omega
        rcases q1 with e | e
        · rw [e]
        · exact absurd e hw1
  have hm : f_X10_nought a b w.2 = some w.1 := by
    unfold f_X10_nought
    rw [if_neg (fun e => isSpace0.mp e h1), chk_pos h3, msw.2.2.1, if_neg (fun e => hB.2.1.mp e h4)]
    refine mk zfu 0 (by omega) ?_ ?_ (fun y _ _ => by omega)
    · have := Int.pow_pos (n := 2) (m := (sE σ).toNat) (by decide); omega
    · have := hEE.2.2; unfold zfu; omega
  rcases q1 with e | e
  · rw [e] at hm ⊢
    rw [if_pos rfl]
    exact ok_some.mpr ⟨hm, hR⟩
  · rw [e] at hm ⊢
    rw [if_neg (by decide)]
    exact ok_some.mpr ⟨hm, hR⟩
