/-! forms by masks of columns: the wedge with a row -/
def wdg : Nat → (Nat → Int) → (Nat → Int) → Nat → Int
  | 0, _, _, _ => 0
  | n + 1, w, r, S => if S < 2 ^ n then wdg n w r S else r n * w (S - 2 ^ n) - wdg n (fun T => w (T + 2 ^ n)) r (S - 2 ^ n)
theorem wdg_lo {n : Nat} {w r : Nat → Int} {S : Nat} (h : S < 2 ^ n) : wdg (n + 1) w r S = wdg n w r S := if_pos h
theorem wdg_hi {n : Nat} {w r : Nat → Int} (S : Nat) : wdg (n + 1) w r (S + 2 ^ n) = r n * w S - wdg n (fun T => w (T + 2 ^ n)) r S := by
  have h : ¬ S + 2 ^ n < 2 ^ n := by omega
  show (if S + 2 ^ n < 2 ^ n then _ else _) = _
  rw [if_neg h, Nat.add_sub_cancel]
/-- a mask over one column more: without it, or with it -/
theorem wdg_mask {n : Nat} {P : Nat → Prop} (h0 : ∀ S, S < 2 ^ n → P S) (h1 : ∀ S, S < 2 ^ n → P (S + 2 ^ n)) : ∀ S, S < 2 ^ (n + 1) → P S := by
  intro S hS
  have h2 : 2 ^ (n + 1) = 2 ^ n + 2 ^ n := by rw [Nat.pow_succ]; omega
  by_cases h : S < 2 ^ n
  · exact h0 S h
  · have h3 := h1 (S - 2 ^ n) (by omega)
    rwa [Nat.sub_add_cancel (by omega)] at h3
theorem wdg_congr {n : Nat} : ∀ {w w' r r' : Nat → Int}, (∀ T, T < 2 ^ n → w T = w' T) → (∀ e, e < n → r e = r' e) → ∀ S, S < 2 ^ n → wdg n w r S = wdg n w' r' S := by
  induction n with
  | zero => intro w w' r r' _ _ S _; rfl
  | succ n ih =>
    intro w w' r r' hw hr
    have h2 : 2 ^ (n + 1) = 2 ^ n + 2 ^ n := by rw [Nat.pow_succ]; omega
    refine wdg_mask (fun S hS => ?_) (fun S hS => ?_)
    · rw [wdg_lo hS, wdg_lo hS]
      exact ih (fun T hT => hw T (by omega)) (fun e he => hr e (by omega)) S hS
    · rw [wdg_hi, wdg_hi, hw S (by omega), hr n (by omega), ih (w' := fun T => w' (T + 2 ^ n)) (r' := r') (fun T hT => hw (T + 2 ^ n) (by omega)) (fun e he => hr e (by omega)) S hS]
theorem wdg_addr (n : Nat) : ∀ (w r s : Nat → Int) (a b : Int) (S : Nat), wdg n w (fun e => a * r e + b * s e) S = a * wdg n w r S + b * wdg n w s S := by
  induction n with
  | zero => intro w r s a b S; simp [wdg]
  | succ n ih =>
    intro w r s a b S
    unfold wdg
    split
    · exact ih ..
    · rw [ih]
      grind
theorem wdg_addw (n : Nat) : ∀ (w v r : Nat → Int) (a b : Int) (S : Nat), wdg n (fun T => a * w T + b * v T) r S = a * wdg n w r S + b * wdg n v r S := by
  induction n with
  | zero => intro w v r a b S; simp [wdg]
  | succ n ih =>
    intro w v r a b S
    unfold wdg
    split
    · exact ih ..
    · rw [ih (fun T => w (T + 2 ^ n)) (fun T => v (T + 2 ^ n))]
      grind
theorem wdg_0r (n : Nat) (w : Nat → Int) (S : Nat) : wdg n w (fun _ => 0) S = 0 := by
  have := wdg_addr n w (fun _ => 0) (fun _ => 0) 0 0 S
  simpa using this
theorem wdg_0w (n : Nat) (r : Nat → Int) (S : Nat) : wdg n (fun _ => 0) r S = 0 := by
  have := wdg_addw n (fun _ => 0) (fun _ => 0) r 0 0 S
  simpa using this
/-- a row twice: nothing -/
theorem wdg_alt {n : Nat} : ∀ (w r : Nat → Int) (S : Nat), S < 2 ^ n → wdg n (wdg n w r) r S = 0 := by
  induction n with
  | zero => intro w r S _; rfl
  | succ n ih =>
    intro w r
    refine wdg_mask (fun S hS => ?_) (fun S hS => ?_)
    · rw [wdg_lo hS, wdg_congr (w' := wdg n w r) (r' := r) (fun T hT => wdg_lo hT) (fun _ _ => rfl) S hS]
      exact ih w r S hS
    · rw [wdg_hi, wdg_lo hS, wdg_congr (w := fun T => wdg (n + 1) w r (T + 2 ^ n)) (w' := fun T => r n * w T + (-1) * wdg n (fun T => w (T + 2 ^ n)) r T) (r' := r) (fun T hT => by rw [wdg_hi]; omega) (fun _ _ => rfl) S hS, wdg_addw, ih _ r S hS]
      omega
/-- two rows change places -/
theorem wdg_anti {n : Nat} (w r s : Nat → Int) (S : Nat) (hS : S < 2 ^ n) : wdg n (wdg n w r) s S = - wdg n (wdg n w s) r S := by
  have h := wdg_alt (n := n) w (fun e => 1 * r e + 1 * s e) S hS
  have h1 : wdg n w (fun e => 1 * r e + 1 * s e) = fun T => 1 * wdg n w r T + 1 * wdg n w s T := by
    funext T
    exact wdg_addr n w r s 1 1 T
  rw [h1, wdg_addw, wdg_addr, wdg_addr, wdg_alt w r S hS, wdg_alt w s S hS] at h
  omega
theorem wdg_dvd {n : Nat} {d : Int} : ∀ {w r : Nat → Int}, (∀ T, T < 2 ^ n → d ∣ w T) → ∀ S, S < 2 ^ n → d ∣ wdg n w r S := by
  induction n with
  | zero => intro w r _ S _; exact Int.dvd_zero d
  | succ n ih =>
    intro w r hw
    have h2 : 2 ^ (n + 1) = 2 ^ n + 2 ^ n := by rw [Nat.pow_succ]; omega
    refine wdg_mask (fun S hS => ?_) (fun S hS => ?_)
    · rw [wdg_lo hS]
      exact ih (fun T hT => hw T (by omega)) S hS
    · rw [wdg_hi]
      exact Int.dvd_sub (Int.dvd_mul_of_dvd_right (hw S (by omega))) (ih (w := fun T => w (T + 2 ^ n)) (fun T hT => hw (T + 2 ^ n) (by omega)) S hS)
/-- the wedge with several rows, one behind the other -/
def wdl (n : Nat) (w : Nat → Int) (us : List (Nat → Int)) : Nat → Int := us.foldl (wdg n) w
theorem wdl_cons (n : Nat) (w u : Nat → Int) (us : List (Nat → Int)) : wdl n w (u :: us) = wdl n (wdg n w u) us := rfl
theorem wdl_congr {n : Nat} (us : List (Nat → Int)) : ∀ {w w' : Nat → Int}, (∀ T, T < 2 ^ n → w T = w' T) → ∀ S, S < 2 ^ n → wdl n w us S = wdl n w' us S := by
  induction us with
  | nil => intro w w' h S hS; exact h S hS
  | cons u us ih =>
    intro w w' h S hS
    exact ih (fun T hT => wdg_congr h (fun _ _ => rfl) T hT) S hS
theorem wdl_addw (n : Nat) (us : List (Nat → Int)) : ∀ (w v : Nat → Int) (a b : Int) (S : Nat), wdl n (fun T => a * w T + b * v T) us S = a * wdl n w us S + b * wdl n v us S := by
  induction us with
  | nil => intro w v a b S; rfl
  | cons u us ih =>
    intro w v a b S
    rw [wdl_cons, show wdg n (fun T => a * w T + b * v T) u = fun T => a * wdg n w u T + b * wdg n v u T from funext fun T => wdg_addw n w v u a b T, ih]
    rfl
theorem wdl_dvd {n : Nat} {d : Int} (us : List (Nat → Int)) : ∀ {w : Nat → Int}, (∀ T, T < 2 ^ n → d ∣ w T) → ∀ S, S < 2 ^ n → d ∣ wdl n w us S := by
  induction us with
  | nil => intro w h S hS; exact h S hS
  | cons u us ih =>
    intro w h S hS
    exact ih (fun T hT => wdg_dvd h T hT) S hS
theorem wdl_0 (n : Nat) (us : List (Nat → Int)) (S : Nat) : wdl n (fun _ => 0) us S = 0 := by
  have := wdl_addw n us (fun _ => 0) (fun _ => 0) 0 0 S
  simpa using this
/-- a linear change of columns, on forms -/
def lph (m : Nat) (v : Nat → Nat → Int) : Nat → (Nat → Int) → Nat → Int
  | 0, w, S => if S = 0 then w 0 else 0
  | n + 1, w, S => lph m v n w S + wdg m (lph m v n (fun T => w (T + 2 ^ n))) (v n) S
def lpr (v : Nat → Nat → Int) : Nat → (Nat → Int) → Nat → Int
  | 0, _, _ => 0
  | n + 1, r, j => lpr v n r j + r n * v n j
theorem lph_addw (m : Nat) (v : Nat → Nat → Int) (n : Nat) : ∀ (w u : Nat → Int) (a b : Int) (S : Nat), lph m v n (fun T => a * w T + b * u T) S = a * lph m v n w S + b * lph m v n u S := by
  induction n with
  | zero => intro w u a b S; unfold lph; split <;> simp
  | succ n ih =>
    intro w u a b S
    unfold lph
    rw [ih, show lph m v n (fun T => (fun T => a * w T + b * u T) (T + 2 ^ n)) = fun T => a * lph m v n (fun T => w (T + 2 ^ n)) T + b * lph m v n (fun T => u (T + 2 ^ n)) T from funext fun T => ih (fun T => w (T + 2 ^ n)) (fun T => u (T + 2 ^ n)) a b T, wdg_addw]
    grind
theorem lph_congr {m : Nat} {v : Nat → Nat → Int} {n : Nat} : ∀ {w u : Nat → Int}, (∀ T, T < 2 ^ n → w T = u T) → lph m v n w = lph m v n u := by
  induction n with
  | zero => intro w u h; funext S; unfold lph; rw [h 0 (by decide)]
  | succ n ih =>
    intro w u h
    have h2 : 2 ^ (n + 1) = 2 ^ n + 2 ^ n := by rw [Nat.pow_succ]; omega
    funext S
    unfold lph
    rw [ih (w := w) (u := u) (fun T hT => h T (by omega)), ih (w := fun T => w (T + 2 ^ n)) (u := fun T => u (T + 2 ^ n)) (fun T hT => h (T + 2 ^ n) (by omega))]
theorem lph_0 (m : Nat) (v : Nat → Nat → Int) (n S : Nat) : lph m v n (fun _ => 0) S = 0 := by
  have := lph_addw m v n (fun _ => 0) (fun _ => 0) 0 0 S
  simpa using this
theorem lph_wdg (m : Nat) (v : Nat → Nat → Int) (n : Nat) : ∀ (w r : Nat → Int) (S : Nat), S < 2 ^ m → lph m v n (wdg n w r) S = wdg m (lph m v n w) (lpr v n r) S := by
  induction n with
  | zero =>
    intro w r S hS
    have h1 : lpr v 0 r = fun _ => 0 := rfl
    rw [h1, wdg_0r]
    show (if S = 0 then (0 : Int) else 0) = 0
    split <;> rfl
  | succ n ih =>
    intro w r S hS
    have e1 : lph m v n (wdg (n + 1) w r) = lph m v n (wdg n w r) := lph_congr fun T hT => wdg_lo hT
    have e2 : lph m v n (fun T => wdg (n + 1) w r (T + 2 ^ n)) = fun T => r n * lph m v n w T + (-1) * lph m v n (wdg n (fun T => w (T + 2 ^ n)) r) T := by
      rw [show (fun T => wdg (n + 1) w r (T + 2 ^ n)) = fun T => r n * w T + (-1) * wdg n (fun T => w (T + 2 ^ n)) r T from funext fun T => by rw [wdg_hi]; omega]
      funext T
      exact lph_addw m v n _ _ _ _ T
    have e3 : lpr v (n + 1) r = fun j => 1 * lpr v n r j + r n * v n j := by
      funext j
      show lpr v n r j + r n * v n j = _
      omega
    have e4 : lph m v (n + 1) w = fun T => 1 * lph m v n w T + 1 * wdg m (lph m v n (fun T => w (T + 2 ^ n))) (v n) T := by
      funext T
      show lph m v n w T + wdg m (lph m v n (fun T => w (T + 2 ^ n))) (v n) T = _
      omega
    show lph m v n (wdg (n + 1) w r) S + wdg m (lph m v n (fun T => wdg (n + 1) w r (T + 2 ^ n))) (v n) S = _
    rw [e1, e2, wdg_addw, e4, wdg_addw, e3, wdg_addr, wdg_addr, wdg_alt _ _ S hS, wdg_anti _ (v n) _ S hS, ih w r S hS]
    have e5 := wdg_congr (n := m) (w := lph m v n (wdg n (fun T => w (T + 2 ^ n)) r)) (w' := wdg m (lph m v n (fun T => w (T + 2 ^ n))) (lpr v n r)) (r := v n) (r' := v n) (fun T hT => ih _ r T hT) (fun _ _ => rfl) S hS
    rw [e5]
    omega
theorem lph_dvd {m : Nat} {v : Nat → Nat → Int} {n : Nat} {d : Int} : ∀ {w : Nat → Int}, (∀ T, T < 2 ^ n → d ∣ w T) → ∀ S, S < 2 ^ m → d ∣ lph m v n w S := by
  induction n with
  | zero =>
    intro w h S hS
    show d ∣ (if S = 0 then w 0 else 0)
    split
    · exact h 0 (by decide)
    · exact Int.dvd_zero d
  | succ n ih =>
    intro w h S hS
    have h2 : 2 ^ (n + 1) = 2 ^ n + 2 ^ n := by rw [Nat.pow_succ]; omega
    refine Int.dvd_add (ih (fun T hT => h T (by omega)) S hS) (wdg_dvd (fun T hT => ih (w := fun T => w (T + 2 ^ n)) (fun T hT => h (T + 2 ^ n) (by omega)) T hT) S hS)
/-- the form of no row -/
def wd1 : Nat → Int := fun S => if S = 0 then 1 else 0
theorem lph_wd1 (m : Nat) (v : Nat → Nat → Int) (n : Nat) : lph m v n wd1 = wd1 := by
  induction n with
  | zero => funext S; rfl
  | succ n ih =>
    funext S
    unfold lph
    rw [ih, show (fun T => wd1 (T + 2 ^ n)) = fun _ => 0 from funext fun T => if_neg (by have := Nat.pow_pos (n := n) (show 0 < 2 by decide); omega), show lph m v n (fun _ => 0) = fun _ => 0 from funext (lph_0 m v n), wdg_0w]
    omega
theorem lph_wdl (m : Nat) (v : Nat → Nat → Int) (n : Nat) (us : List (Nat → Int)) : ∀ (w : Nat → Int) (S : Nat), S < 2 ^ m → lph m v n (wdl n w us) S = wdl m (lph m v n w) (us.map (lpr v n)) S := by
  induction us with
  | nil => intro w S _; rfl
  | cons u us ih =>
    intro w S hS
    rw [wdl_cons, ih _ S hS, List.map_cons, wdl_cons]
    exact wdl_congr _ (fun T hT => lph_wdg m v n w u T hT) S hS
/-! a lattice's divisors of k-forms -/
def Dv (n : Nat) (L : (Nat → Int) → Prop) (k : Nat) (d : Int) : Prop := ∀ us : List (Nat → Int), us.length = k → (∀ u ∈ us, L u) → ∀ S, S < 2 ^ n → d ∣ wdl n wd1 us S
theorem wdl_congrs {n : Nat} : ∀ (us vs : List (Nat → Int)) (w : Nat → Int), us.length = vs.length → (∀ i (h : i < us.length) (h' : i < vs.length), ∀ e, e < n → us[i] e = vs[i] e) → ∀ S, S < 2 ^ n → wdl n w us S = wdl n w vs S := by
  intro us
  induction us with
  | nil => intro vs w hl _ S _; cases vs with
    | nil => rfl
    | cons v vs => cases hl
  | cons u us ih =>
    intro vs w hl h S hS
    cases vs with
    | nil => cases hl
    | cons v vs =>
      rw [wdl_cons, wdl_cons, wdl_congr us (w' := wdg n w v) (fun T hT => wdg_congr (fun _ _ => rfl) (fun e he => h 0 (by simp) (by simp) e he) T hT) S hS]
      exact ih vs _ (by simpa using hl) (fun i hi hi' e he => by have := h (i + 1) (by simpa using hi) (by simpa using hi') e he; simpa using this) S hS
/-- the rows of L' come of those of L by a linear change of columns -/
theorem Dv.map {n : Nat} {L L' : (Nat → Int) → Prop} {k : Nat} {d : Int} (h : Dv n L k d) (v : Nat → Nat → Int) (hL : ∀ u, L' u → ∃ u0, L u0 ∧ ∀ e, e < n → u e = lpr v n u0 e) : Dv n L' k d := by
  intro us hk hu S hS
  have hx : ∃ vs : List (Nat → Int), vs.length = k ∧ (∀ u ∈ vs, L u) ∧ ∀ w S, S < 2 ^ n → wdl n w us S = wdl n w (vs.map (lpr v n)) S := by
    clear hS S h
    subst hk
    induction us with
    | nil => exact ⟨[], rfl, fun _ h => absurd h List.not_mem_nil, fun _ _ _ => rfl⟩
    | cons u us ih =>
      obtain ⟨vs, h1, h2, h3⟩ := ih (fun x hx => hu x (List.mem_cons_of_mem _ hx))
      obtain ⟨u0, h4, h5⟩ := hL u (hu u List.mem_cons_self)
      refine ⟨u0 :: vs, by simp [h1], fun x hx => ?_, fun w S hS => ?_⟩
      · rcases List.mem_cons.mp hx with h | h
        · exact h ▸ h4
        · exact h2 x h
      · rw [wdl_cons, List.map_cons, wdl_cons, h3 _ S hS]
        exact wdl_congr _ (fun T hT => wdg_congr (fun _ _ => rfl) h5 T hT) S hS
  obtain ⟨vs, h1, h2, h3⟩ := hx
  rw [h3 _ S hS, show wd1 = lph n v n wd1 from (lph_wd1 n v n).symm, ← lph_wdl n v n vs wd1 S hS]
  exact lph_dvd (fun T hT => h vs h1 h2 T hT) S hS
theorem Dv.sub {n : Nat} {L L' : (Nat → Int) → Prop} {k : Nat} {d : Int} (h : Dv n L k d) (hL : ∀ u, L' u → L u) : Dv n L' k d := fun us hk hu => h us hk (fun u hm => hL u (hu u hm))
