/-! the lattice of rows modulo a number, and what its forms are divided by -/
def LA (n : Nat) (M : Int) (R : Vc → Prop) (v : Vc) : Prop := ∀ L : Vc → Prop, (∀ a b x y, L x → L y → L (fun e => a * x e + b * y e)) → (∀ x y, L x → (∀ e, e < n → M ∣ y e - x e) → L y) → L (fun _ => 0) → (∀ x, R x → L x) → L v
theorem LA.lin {n : Nat} {M : Int} {R : Vc → Prop} {x y : Vc} (a b : Int) (hx : LA n M R x) (hy : LA n M R y) : LA n M R (fun e => a * x e + b * y e) := fun L h1 h2 h3 h4 => h1 a b x y (hx L h1 h2 h3 h4) (hy L h1 h2 h3 h4)
theorem LA.cong {n : Nat} {M : Int} {R : Vc → Prop} {x y : Vc} (hx : LA n M R x) (h : ∀ e, e < n → M ∣ y e - x e) : LA n M R y := fun L h1 h2 h3 h4 => h2 x y (hx L h1 h2 h3 h4) h
theorem LA.zero {n : Nat} {M : Int} {R : Vc → Prop} : LA n M R (fun _ => 0) := fun _ _ _ h3 _ => h3
theorem LA.row {n : Nat} {M : Int} {R : Vc → Prop} {x : Vc} (h : R x) : LA n M R x := fun _ _ _ _ h4 => h4 x h
theorem LA.sub {n : Nat} {M : Int} {R R' : Vc → Prop} (h : ∀ x, R x → LA n M R' x) {v : Vc} (hv : LA n M R v) : LA n M R' v := hv (LA n M R') (fun a b _ _ p q => p.lin a b q) (fun _ _ p q => p.cong q) LA.zero h
def Rw (n : Nat) (H : Int) (A : Mx) : Vc → Prop := fun x => ∃ i, 0 ≤ i ∧ i < H ∧ x = vA n A i
abbrev LAm (n : Nat) (M H : Int) (A : Mx) : Vc → Prop := LA n M (Rw n H A)
def DvS (n : Nat) (M H : Int) (A B : Mx) : Prop := ∀ k d, Dv n (LAm n M H A) k d ↔ Dv n (LAm n M H B) k d
theorem DvS.refl (n : Nat) (M H : Int) (A : Mx) : DvS n M H A A := fun _ _ => Iff.rfl
theorem DvS.trans {n : Nat} {M H : Int} {A B C : Mx} (h : DvS n M H A B) (h' : DvS n M H B C) : DvS n M H A C := fun k d => (h k d).trans (h' k d)
theorem DvS.rows {n : Nat} {M H : Int} {A B : Mx} (h1 : ∀ i, 0 ≤ i → i < H → LAm n M H B (vA n A i)) (h2 : ∀ i, 0 ≤ i → i < H → LAm n M H A (vA n B i)) : DvS n M H A B := by
  have s1 : ∀ v, LAm n M H A v → LAm n M H B v := fun v hv => LA.sub (fun x ⟨i, a, b, e⟩ => e ▸ h1 i a b) hv
  have s2 : ∀ v, LAm n M H B v → LAm n M H A v := fun v hv => LA.sub (fun x ⟨i, a, b, e⟩ => e ▸ h2 i a b) hv
  exact fun k d => ⟨fun h => h.sub s2, fun h => h.sub s1⟩
/-- a linear change of columns that can be undone -/
theorem DvS.cols {n : Nat} {M H : Int} {A B : Mx} (v v' : Nat → Nat → Int) (hv : ∀ u e, e < n → lpr v' n (lpr v n u) e = u e) (hv' : ∀ u e, e < n → lpr v n (lpr v' n u) e = u e) (hlin : ∀ w : Nat → Nat → Int, (w = v ∨ w = v') → (∀ a b x y e, lpr w n (fun e => a * x e + b * y e) e = a * lpr w n x e + b * lpr w n y e) ∧ (∀ x y, (∀ e, e < n → M ∣ y e - x e) → ∀ e, e < n → M ∣ lpr w n y e - lpr w n x e) ∧ ∀ e, lpr w n (fun _ => 0) e = 0) (hAB : ∀ i, 0 ≤ i → i < H → ∀ e, e < n → M ∣ B i e - lpr v n (vA n A i) e) (hBA : ∀ i, 0 ≤ i → i < H → ∀ e, e < n → M ∣ A i e - lpr v' n (vA n B i) e) : DvS n M H A B := by
  have go : ∀ (A B : Mx) (w w' : Nat → Nat → Int), (∀ u e, e < n → lpr w n (lpr w' n u) e = u e) → (w' = v ∨ w' = v') → (∀ i, 0 ≤ i → i < H → ∀ e, e < n → M ∣ A i e - lpr w' n (vA n B i) e) → ∀ k d, Dv n (LAm n M H A) k d → Dv n (LAm n M H B) k d := by
    intro A B w w' hww hw' hAB k d h
    refine h.map w fun u hu => ⟨lpr w' n u, ?_, fun e he => (hww u e he).symm⟩
    obtain ⟨l1, l2, l3⟩ := hlin w' hw'
    refine hu (fun u => LAm n M H A (lpr w' n u)) (fun a b x y hx hy => ?_) (fun x y hx hxy => hx.cong (l2 x y hxy)) ?_ (fun x ⟨i, a, b, e⟩ => ?_)
    · have : lpr w' n (fun e => a * x e + b * y e) = fun e => a * lpr w' n x e + b * lpr w' n y e := funext fun e => l1 a b x y e
      show LAm n M H A (lpr w' n (fun e => a * x e + b * y e))
      rw [this]
      exact hx.lin a b hy
    · have : lpr w' n (fun _ => 0) = fun _ => 0 := funext l3
      show LAm n M H A (lpr w' n (fun _ => 0))
      rw [this]
      exact LA.zero
    · show LAm n M H A (lpr w' n x)
      rw [e]
      refine (LA.row ⟨i, a, b, rfl⟩ : LAm n M H A (vA n A i)).cong fun e' he' => ?_
      have h1 := hAB i a b e' he'
      have ev : vA n A i e' = A i e' := by unfold vA; rw [if_pos he']
      rw [ev]
      have h2 : lpr w' n (vA n B i) e' - A i e' = -(A i e' - lpr w' n (vA n B i) e') := by omega
      rw [h2]
      exact Int.dvd_neg.mpr h1
  exact fun k d => ⟨go A B v v' (fun u e he => hv' u e he) (Or.inr rfl) hBA k d, go B A v' v (fun u e he => hv u e he) (Or.inl rfl) hAB k d⟩
theorem lpr_lin (w : Nat → Nat → Int) (m : Nat) (a b : Int) (x y : Vc) (e : Nat) : lpr w m (fun e => a * x e + b * y e) e = a * lpr w m x e + b * lpr w m y e := by
  induction m with
  | zero => show (0 : Int) = a * 0 + b * 0; omega
  | succ m ih =>
    show lpr w m _ e + (a * x m + b * y m) * w m e = a * (lpr w m x e + x m * w m e) + b * (lpr w m y e + y m * w m e)
    rw [ih]
    grind
theorem lpr_mod {M : Int} (w : Nat → Nat → Int) (m : Nat) (x y : Vc) (h : ∀ e, e < m → M ∣ y e - x e) (e : Nat) : M ∣ lpr w m y e - lpr w m x e := by
  induction m with
  | zero => show M ∣ 0 - 0; exact Int.dvd_zero M
  | succ m ih =>
    show M ∣ lpr w m y e + y m * w m e - (lpr w m x e + x m * w m e)
    have e1 : lpr w m y e + y m * w m e - (lpr w m x e + x m * w m e) = (lpr w m y e - lpr w m x e) + (y m - x m) * w m e := by grind
    rw [e1]
    exact Int.dvd_add (ih fun e he => h e (by omega)) (Int.dvd_mul_of_dvd_left (h m (by omega)))
theorem lpr_z (w : Nat → Nat → Int) (m e : Nat) : lpr w m (fun _ => 0) e = 0 := by
  induction m with
  | zero => rfl
  | succ m ih => show lpr w m _ e + 0 * w m e = 0; rw [ih]; omega
theorem lpr_hl {n : Nat} {M : Int} {v v' : Nat → Nat → Int} : ∀ w : Nat → Nat → Int, (w = v ∨ w = v') → (∀ a b x y e, lpr w n (fun e => a * x e + b * y e) e = a * lpr w n x e + b * lpr w n y e) ∧ (∀ x y, (∀ e, e < n → M ∣ y e - x e) → ∀ e, e < n → M ∣ lpr w n y e - lpr w n x e) ∧ ∀ e, lpr w n (fun _ => 0) e = 0 := fun w _ => ⟨fun a b x y e => lpr_lin w n a b x y e, fun x y h e _ => lpr_mod w n x y h e, fun e => lpr_z w n e⟩
/-- every column so often column t more -/
def cvT (t : Nat) (c : Nat → Int) : Nat → Nat → Int := fun j e => (if j = e then 1 else 0) + (if j = t then c e else 0)
theorem lpr_cvT {t : Nat} {c : Nat → Int} {n : Nat} (ht : t < n) (u : Vc) (e : Nat) (he : e < n) : lpr (cvT t c) n u e = u e + u t * c e := by
  have key : ∀ m, lpr (cvT t c) m u e = (if e < m then u e else 0) + (if t < m then u t * c e else 0) := by
    intro m
    induction m with
    | zero => rfl
    | succ m ih =>
      show lpr (cvT t c) m u e + u m * ((if m = e then 1 else 0) + (if m = t then c e else 0)) = _
      rw [ih]
      by_cases h1 : m = e <;> by_cases h2 : m = t
      · subst h1; subst h2
        rw [if_neg (by omega), if_neg (by omega), if_pos rfl, if_pos rfl, if_pos (by omega), if_pos (by omega)]
        grind
      · subst h1
        rw [if_neg (by omega), if_pos rfl, if_neg h2, if_pos (by omega : m < m + 1)]
        by_cases h3 : t < m
        · rw [if_pos h3, if_pos (by omega)]; grind
        · rw [if_neg h3, if_neg (by omega)]; grind
      · subst h2
        rw [if_neg h1, if_pos rfl, if_pos (by omega : m < m + 1), if_neg (by omega : ¬ m < m)]
        by_cases h3 : e < m
        · rw [if_pos h3, if_pos (by omega)]; grind
        · rw [if_neg h3, if_neg (by omega)]; grind
      · rw [if_neg h1, if_neg h2]
        by_cases h3 : e < m <;> by_cases h4 : t < m
        · rw [if_pos h3, if_pos h4, if_pos (by omega), if_pos (by omega)]; omega
        · rw [if_pos h3, if_neg h4, if_pos (by omega), if_neg (by omega)]; omega
        · rw [if_neg h3, if_pos h4, if_neg (by omega), if_pos (by omega)]; omega
        · rw [if_neg h3, if_neg h4, if_neg (by omega), if_neg (by omega)]; omega
  rw [key n, if_pos he, if_pos ht]
def cvS (τ : Nat → Nat) : Nat → Nat → Int := fun j e => if j = τ e then 1 else 0
theorem lpr_cvS {τ : Nat → Nat} {n : Nat} (u : Vc) (e : Nat) (he : τ e < n) : lpr (cvS τ) n u e = u (τ e) := by
  have key : ∀ m, lpr (cvS τ) m u e = if τ e < m then u (τ e) else 0 := by
    intro m
    induction m with
    | zero => rfl
    | succ m ih =>
      show lpr (cvS τ) m u e + u m * (if m = τ e then 1 else 0) = _
      rw [ih]
      by_cases h1 : m = τ e
      · rw [if_neg (by omega), if_pos h1, if_pos (by omega), h1]; omega
      · rw [if_neg h1]
        by_cases h2 : τ e < m
        · rw [if_pos h2, if_pos (by omega)]; omega
        · rw [if_neg h2, if_neg (by omega)]; omega
  rw [key n, if_pos he]
/-- off the diagonal all is 0 in rows and columns before t -/
def Dg (H W t : Int) (A : Mx) : Prop := ∀ i k, 0 ≤ i → i < H → 0 ≤ k → k < W → (i < t ∨ k < t) → i ≠ k → A i k = 0
theorem mod_dvd (a M : Int) : M ∣ a - a % M := by
  have := Int.mul_ediv_add_emod a M
  exact ⟨a / M, by omega⟩
theorem mod_dvd' (a M : Int) : M ∣ a % M - a := by
  have h := mod_dvd a M
  have : a % M - a = -(a - a % M) := by omega
  rw [this]
  exact Int.dvd_neg.mpr h
theorem dvs_swp {n : Nat} {M H a b : Int} {A : Mx} (ha : 0 ≤ a ∧ a < H) (hb : 0 ≤ b ∧ b < H) : DvS n M H A (swp A a b) := by
  refine DvS.rows (fun i i0 i1 => ?_) (fun i i0 i1 => ?_)
  · refine LA.row ⟨if i = a then b else if i = b then a else i, by split <;> (try split) <;> omega, by split <;> (try split) <;> omega, ?_⟩
    funext e
    unfold vA swp
    by_cases q : i = a
    · rw [if_pos q]
      by_cases q' : b = a
      · rw [if_pos q', q', q]
      · rw [if_neg q', if_pos rfl, q]
    · rw [if_neg q]
      by_cases q' : i = b
      · rw [if_pos q', if_pos rfl, q']
      · rw [if_neg q', if_neg q, if_neg q']
  · refine LA.row ⟨if i = a then b else if i = b then a else i, by split <;> (try split) <;> omega, by split <;> (try split) <;> omega, ?_⟩
    funext e
    unfold vA swp
    by_cases q : i = a
    · rw [if_pos q, if_pos q]
    · rw [if_neg q, if_neg q]
      by_cases q' : i = b
      · rw [if_pos q', if_pos q']
      · rw [if_neg q', if_neg q']
theorem dvs_swc {n : Nat} {M H a b : Int} {A : Mx} (ha : 0 ≤ a ∧ a < n) (hb : 0 ≤ b ∧ b < n) : DvS n M H A (swc A a b) := by
  have τn : ∀ e : Nat, e < n → (if (e : Int) = a then b.toNat else if (e : Int) = b then a.toNat else e) < n := by
    intro e he
    split
    · omega
    · split <;> omega
  have inv : ∀ e : Nat, (if ((if (e : Int) = a then b.toNat else if (e : Int) = b then a.toNat else e : Nat) : Int) = a then b.toNat else if ((if (e : Int) = a then b.toNat else if (e : Int) = b then a.toNat else e : Nat) : Int) = b then a.toNat else (if (e : Int) = a then b.toNat else if (e : Int) = b then a.toNat else e)) = e := by
    intro e
    by_cases q : (e : Int) = a
    · rw [if_pos q]
      by_cases q' : ((b.toNat : Nat) : Int) = a
      · rw [if_pos q']; omega
      · rw [if_neg q', if_pos (by omega)]; omega
    · rw [if_neg q]
      by_cases q' : (e : Int) = b
      · rw [if_pos q', if_pos (by omega)]; omega
      · rw [if_neg q', if_neg q, if_neg q']
  let τ : Nat → Nat := fun e => if (e : Int) = a then b.toNat else if (e : Int) = b then a.toNat else e
  have hh : ∀ u e, e < n → lpr (cvS τ) n (lpr (cvS τ) n u) e = u e := by
    intro u e he
    rw [lpr_cvS _ e (τn e he), lpr_cvS _ (τ e) (τn _ (τn e he))]
    exact congrArg u (inv e)
  have val : ∀ (B : Mx) i e, e < n → lpr (cvS τ) n (vA n B i) e = swc B a b i e := by
    intro B i e he
    rw [lpr_cvS _ e (τn e he)]
    unfold vA swc
    rw [if_pos (τn e he)]
    show B i ((if (e : Int) = a then b.toNat else if (e : Int) = b then a.toNat else e : Nat) : Int) = _
    by_cases q : (e : Int) = a
    · rw [if_pos q, if_pos q, show ((b.toNat : Nat) : Int) = b by omega]
    · rw [if_neg q, if_neg q]
      by_cases q' : (e : Int) = b
      · rw [if_pos q', if_pos q', show ((a.toNat : Nat) : Int) = a by omega]
      · rw [if_neg q', if_neg q']
  have sw2 : ∀ i k, swc (swc A a b) a b i k = A i k := by
    intro i k
    unfold swc
    by_cases q : k = a
    · rw [if_pos q]
      by_cases q' : b = a
      · rw [if_pos q', q', q]
      · rw [if_neg q', if_pos rfl, q]
    · rw [if_neg q]
      by_cases q' : k = b
      · rw [if_pos q', if_pos rfl, q']
      · rw [if_neg q', if_neg q, if_neg q']
  refine DvS.cols (cvS τ) (cvS τ) hh hh lpr_hl (fun i i0 i1 e he => ?_) (fun i i0 i1 e he => ?_)
  · rw [val A i e he, Int.sub_self]; exact Int.dvd_zero M
  · rw [val (swc A a b) i e he, sw2, Int.sub_self]; exact Int.dvd_zero M
