/-! as many have one behind them as have one before them -/
theorem cpv_cnt (K : Int → Int → Prop) (W : Int) : ∀ (n k : Nat), cnt (pvB K W) (k + n) = cnt (pvB K W) k + cpv K W n k := by
  intro n
  induction n with
  | zero => intro k; show cnt _ k = cnt _ k + 0; omega
  | succ n ih =>
    intro k
    have h1 := ih (k + 1)
    have e : k + (n + 1) = (k + 1) + n := by omega
    rw [e, h1]
    show cnt (pvB K W) k + b2i (pvB K W k) + cpv K W n ((k + 1 : Nat) : Int) = cnt (pvB K W) k + (b2i (pvB K W k) + cpv K W n ((k : Int) + 1))
    rw [show ((k + 1 : Nat) : Int) = (k : Int) + 1 by omega]
    omega
noncomputable def bfB (K : Int → Int → Prop) (c : Int) : Bool := @decide (∃ d, 0 ≤ d ∧ d < c ∧ K d c) (Classical.propDecidable _)
theorem bfB_iff {K : Int → Int → Prop} {c : Int} : bfB K c = true ↔ ∃ d, 0 ≤ d ∧ d < c ∧ K d c := @decide_eq_true_iff _ (Classical.propDecidable _)
theorem last_one {Q : Int → Prop} : ∀ n : Nat, (∃ d : Int, 0 ≤ d ∧ d < n ∧ Q d) → ∃ d : Int, 0 ≤ d ∧ d < n ∧ Q d ∧ ∀ e, d < e → e < n → ¬ Q e := by
  intro n
  induction n with
  | zero => rintro ⟨d, a, b, _⟩; omega
  | succ n ih =>
    rintro ⟨d, a, b, c⟩
    by_cases h : Q n
    · exact ⟨n, by omega, by omega, h, fun e x y => by omega⟩
    · by_cases hd : d = n
      · rw [hd] at c; exact absurd c h
      · obtain ⟨d', a', b', c', e'⟩ := ih ⟨d, a, by omega, c⟩
        refine ⟨d', a', by omega, c', fun e x y => ?_⟩
        by_cases he : e = n
        · rw [he]; exact h
        · exact e' e x (by omega)
theorem cnt_pv_bf {K : Int → Int → Prop} (hs : ∀ a b, K a b → K b a) (ht : ∀ a b c, K a b → K b c → K a c) : ∀ n : Nat, cnt (pvB K n) n = cnt (bfB K) n := by
  intro n
  induction n with
  | zero => rfl
  | succ n ih =>
    have e1 : cnt (pvB K ((n + 1 : Nat) : Int)) (n + 1) = cnt (pvB K ((n + 1 : Nat) : Int)) n := by
      show cnt _ n + b2i (pvB K ((n + 1 : Nat) : Int) n) = _
      have : pvB K ((n + 1 : Nat) : Int) n = false := by
        rw [Bool.eq_false_iff, Ne, pvB_iff]
        rintro ⟨d, a, b, _⟩
        omega
      rw [this]
      show cnt _ n + 0 = _
      omega
    have e2 : cnt (bfB K) (n + 1) = cnt (bfB K) n + b2i (bfB K n) := rfl
    rw [e1, e2, ← ih]
    by_cases hb : bfB K n = true
    · rw [hb]
      obtain ⟨d, d0, d1, d2, d3⟩ := last_one (Q := fun d => K d n) n (by obtain ⟨d, a, b, c⟩ := bfB_iff.mp hb; exact ⟨d, a, b, c⟩)
      have := cnt_set (r := fun c => if 0 ≤ c ∧ c < (n : Int) then pvB K n c else false) (q := fun c => if 0 ≤ c ∧ c < (n : Int) then pvB K ((n + 1 : Nat) : Int) c else false) (x := d) n d0 d1 ?_ ?_ ?_
      · rw [cnt_congr n (q := fun c => if 0 ≤ c ∧ c < (n : Int) then pvB K ((n + 1 : Nat) : Int) c else false) (fun c a b => by rw [if_pos ⟨a, b⟩]), this, cnt_congr n (r := fun c => if 0 ≤ c ∧ c < (n : Int) then pvB K n c else false) (q := pvB K n) (fun c a b => by rw [if_pos ⟨a, b⟩])]
        rfl
      · rw [if_pos ⟨d0, d1⟩, Bool.eq_false_iff, Ne, pvB_iff]
        rintro ⟨e, a, b, c⟩
        exact d3 e a b (ht _ _ _ (hs _ _ c) d2)
      · rw [if_pos ⟨d0, d1⟩, pvB_iff]
        exact ⟨n, d1, by omega, d2⟩
      · intro c hc
        by_cases h : 0 ≤ c ∧ c < (n : Int)
        · rw [if_pos h, if_pos h, Bool.eq_iff_iff, pvB_iff, pvB_iff]
          constructor
          · rintro ⟨e, a, b, k⟩
            by_cases he : e = n
            · subst he
              by_cases hcd : c < d
              · exact ⟨d, hcd, d1, ht _ _ _ k (hs _ _ d2)⟩
              · exact absurd k (d3 c (by omega) h.2)
            · exact ⟨e, a, by omega, k⟩
          · rintro ⟨e, a, b, k⟩
            exact ⟨e, a, by omega, k⟩
        · rw [if_neg h, if_neg h]
    · rw [Bool.eq_false_iff.mpr hb]
      have : cnt (pvB K ((n + 1 : Nat) : Int)) n = cnt (pvB K n) n := cnt_congr n fun c a b => by
        rw [Bool.eq_iff_iff, pvB_iff, pvB_iff]
        constructor
        · rintro ⟨e, x, y, k⟩
          by_cases he : e = n
          · subst he
            exact absurd (bfB_iff.mpr ⟨c, a, b, k⟩) hb
          · exact ⟨e, x, by omega, k⟩
        · rintro ⟨e, x, y, k⟩
          exact ⟨e, x, by omega, k⟩
      rw [this]
      show _ = _ + 0
      omega
/-- edges of a space: what hangs together -/
def KG (σ : Sp) (a b : Int) : Prop := Cnn (fun x y => ∃ e, 0 ≤ e ∧ e < sE σ ∧ x = sF σ e ∧ y = sT σ e) a b
/-- the rank of a space's edges -/
noncomputable def rkE (σ : Sp) : Int := cnt (bfB (KG σ)) (sC σ).toNat
theorem rkE_cpv {σ : Sp} (hC : 0 ≤ sC σ) : cpv (KG σ) (sC σ) (sC σ).toNat 0 = rkE σ := by
  have h1 := cpv_cnt (KG σ) (sC σ) (sC σ).toNat 0
  have h2 := cnt_pv_bf (K := KG σ) (fun _ _ h => h.symm) (fun _ _ _ h h' => h.trans h') (sC σ).toNat
  rw [show (((sC σ).toNat : Nat) : Int) = sC σ by omega] at h2
  rw [Nat.zero_add] at h1
  have h0 : cnt (pvB (KG σ) (sC σ)) 0 = 0 := rfl
  have e0 : ((0 : Nat) : Int) = 0 := rfl
  rw [e0] at h1
  unfold rkE
  omega
theorem opP {p : Int} (hp : Pr p) : VO (fun x => 0 < x ∧ x < p) (fun x => p - x) ∧ OpO (fP p) (fun _ => True) (fun x => 0 < x ∧ x < p) (fun x => p - x) := by
  have hpb := hp.b
  refine ⟨fun x hx => ⟨by omega, (show 0 < p - x ∧ p - x < p by omega), (show p - (p - x) = x by omega)⟩, fun m x _ hx => ⟨trivial, fun P => ?_, fun y P P' hy => ?_, fun h hh => ?_⟩⟩
  · unfold fP; rw [if_pos rfl]
  · unfold fP; rw [if_pos rfl, if_pos rfl]; exact ⟨hy, rfl⟩
  · have n0 : ¬ h = 0 := by omega
    unfold fP
    rw [if_neg n0, if_neg n0, if_neg n0, if_neg n0]
    have key : ∀ p : Fin 8, (p.val = 2 ∨ p.val = 3 ∨ p.val = 5 ∨ p.val = 7) → ∀ x h : Fin 8, 0 < x.val → x.val < p.val → 0 < h.val → h.val < p.val → (0 < (((x.val : Nat) : Int) * 0 - ((h.val : Nat) : Int) * (((p.val : Nat) : Int) - ((x.val : Nat) : Int))) % ((p.val : Nat) : Int)) ∧ (((x.val : Nat) : Int) * (((p.val : Nat) : Int) - ((h.val : Nat) : Int)) - ((h.val : Nat) : Int) * 0) % ((p.val : Nat) : Int) = ((p.val : Nat) : Int) - (((x.val : Nat) : Int) * 0 - ((h.val : Nat) : Int) * (((p.val : Nat) : Int) - ((x.val : Nat) : Int))) % ((p.val : Nat) : Int) ∧ (((x.val : Nat) : Int) * (((p.val : Nat) : Int) - ((h.val : Nat) : Int)) - ((h.val : Nat) : Int) * (((p.val : Nat) : Int) - ((x.val : Nat) : Int))) % ((p.val : Nat) : Int) = 0 := by decide +kernel
    have k := key ⟨p.toNat, by omega⟩ (by unfold Pr at hp; simp only; omega) ⟨x.toNat, by omega⟩ ⟨h.toNat, by omega⟩ (by simp only; omega) (by simp only; omega) (by simp only; omega) (by simp only; omega)
    simp only at k
    rw [show ((p.toNat : Nat) : Int) = p by omega, show ((x.toNat : Nat) : Int) = x by omega, show ((h.toNat : Nat) : Int) = h by omega] at k
    refine ⟨by simp, ⟨k.1, Int.emod_lt_of_pos _ (by omega)⟩, k.2.1, k.2.2⟩
theorem opZ : VO (fun x => x = 1 ∨ x = -1) (fun x => -x) ∧ OpO fZ (fun m => m = 1 ∨ m = -1) (fun x => x = 1 ∨ x = -1) (fun x => -x) := by
  refine ⟨fun x hx => ⟨by omega, (show -x = 1 ∨ -x = -1 by omega), (show -(-x) = x by omega)⟩, fun m x hm hx => ⟨hx, fun P => ?_, fun y P P' hy => ?_, fun h hh => ?_⟩⟩
  · unfold fZ
    rw [Int.zero_mul, Int.mul_zero]
    simp
  · unfold fZ
    rw [Int.zero_mul, Int.zero_mul]
    rcases hm with e | e <;> rcases hx with e' | e' <;> rcases hy with e'' | e'' <;> subst e <;> subst e' <;> subst e'' <;> decide
  · unfold fZ
    rcases hm with e | e <;> rcases hx with e' | e' <;> rcases hh with e'' | e'' <;> subst e <;> subst e' <;> subst e'' <;> decide
