/-! lattices of rows, forms of them -/
abbrev Vc : Type := Nat → Int
def ZS : List Vc → Vc → Prop
  | [], v => ∀ e, v e = 0
  | u :: us, v => ∃ (a : Int) (v' : Vc), ZS us v' ∧ ∀ e, v e = a * u e + v' e
theorem ZS.zero : ∀ (us : List Vc), ZS us (fun _ => 0)
  | [] => fun _ => rfl
  | u :: us => ⟨0, fun _ => 0, ZS.zero us, fun e => by simp⟩
theorem ZS.lin : ∀ {us : List Vc} {v w : Vc} (a b : Int), ZS us v → ZS us w → ZS us (fun e => a * v e + b * w e)
  | [], v, w, a, b, hv, hw => fun e => by
    show a * v e + b * w e = 0
    rw [hv e, hw e]; simp
  | u :: us, v, w, a, b, hv, hw => by
    obtain ⟨x, v', h1, h2⟩ := hv
    obtain ⟨y, w', h3, h4⟩ := hw
    refine ⟨a * x + b * y, _, ZS.lin a b h1 h3, fun e => ?_⟩
    show a * v e + b * w e = (a * x + b * y) * u e + (a * v' e + b * w' e)
    rw [h2 e, h4 e]
    grind
theorem ZS.congr : ∀ {us : List Vc} {v w : Vc}, ZS us v → (∀ e, w e = v e) → ZS us w
  | [], v, w, hv, h => fun e => by rw [h e]; exact hv e
  | u :: us, v, w, hv, h => by
    obtain ⟨x, v', h1, h2⟩ := hv
    exact ⟨x, v', h1, fun e => by rw [h e]; exact h2 e⟩
theorem ZS.mem : ∀ {us : List Vc} {u : Vc}, u ∈ us → ZS us u
  | v :: us, u, h => by
    rcases List.mem_cons.mp h with e | e
    · exact ⟨1, fun _ => 0, ZS.zero us, fun x => by rw [e]; simp⟩
    · exact ⟨0, u, ZS.mem e, fun x => by simp⟩
theorem ZS.app {us vs : List Vc} : ∀ {v : Vc}, ZS us v → ZS (us ++ vs) v := by
  induction us with
  | nil =>
    intro v h
    exact (ZS.zero vs).congr h
  | cons u us ih =>
    intro v h
    obtain ⟨x, v', h1, h2⟩ := h
    exact ⟨x, v', ih h1, h2⟩
theorem wdl_app (n : Nat) (w : Vc) (us vs : List Vc) : wdl n w (us ++ vs) = wdl n (wdl n w us) vs := List.foldl_append ..
theorem wdl_scal (n : Nat) (us : List Vc) (w : Vc) (a : Int) (S : Nat) : wdl n (fun T => a * w T) us S = a * wdl n w us S := by
  have := wdl_addw n us w (fun _ => 0) a 0 S
  simpa using this
/-- a row moves through others -/
theorem wdl_mv {n : Nat} : ∀ (us : List Vc) (w u : Vc), ∃ ε : Int, (ε = 1 ∨ ε = -1) ∧ ∀ S, S < 2 ^ n → wdl n (wdg n w u) us S = ε * wdg n (wdl n w us) u S := by
  intro us
  induction us with
  | nil => intro w u; exact ⟨1, Or.inl rfl, fun S _ => by show wdg n w u S = 1 * wdg n w u S; omega⟩
  | cons b us ih =>
    intro w u
    obtain ⟨ε, h1, h2⟩ := ih (wdg n w b) u
    refine ⟨-ε, by omega, fun S hS => ?_⟩
    rw [wdl_cons, wdl_cons, wdl_congr us (w' := fun T => (-1) * wdg n (wdg n w b) u T) (fun T hT => by rw [wdg_anti w u b T hT]; omega) S hS, wdl_scal, h2 S hS]
    grind
theorem wdg_lin {n : Nat} {w u v' v : Vc} {a : Int} (h : ∀ e, v e = a * u e + v' e) (S : Nat) : wdg n w v S = a * wdg n w u S + 1 * wdg n w v' S := by
  have : v = fun e => a * u e + 1 * v' e := funext fun e => by rw [h e]; omega
  rw [this]
  exact wdg_addr n w u v' a 1 S
theorem dv_repl {n : Nat} {u : Vc} {us : List Vc} : ∀ (vs : List Vc) (X : Vc), (∀ v ∈ vs, ZS (u :: us) v) → ∃ vs', vs'.length = vs.length ∧ (∀ v ∈ vs', ZS us v) ∧ ∀ S, S < 2 ^ n → wdl n (wdg n X u) vs S = wdl n (wdg n X u) vs' S := by
  intro vs
  induction vs with
  | nil => intro X _; exact ⟨[], rfl, fun v h => absurd h (by simp), fun S _ => rfl⟩
  | cons v vs ih =>
    intro X h
    obtain ⟨a, v', h1, h2⟩ := h v (List.mem_cons_self ..)
    obtain ⟨vs', e1, e2, e3⟩ := ih (wdg n X v') (fun x hx => h x (List.mem_cons_of_mem _ hx))
    refine ⟨v' :: vs', by simp [e1], fun x hx => ?_, fun S hS => ?_⟩
    · rcases List.mem_cons.mp hx with q | q
      · rw [q]; exact h1
      · exact e2 x q
    · rw [wdl_cons, wdl_cons]
      have k1 : ∀ T, T < 2 ^ n → wdg n (wdg n X u) v T = (-1) * wdg n (wdg n X v') u T := fun T hT => by
        rw [wdg_lin h2 T, wdg_alt X u T hT, wdg_anti X u v' T hT]
        omega
      have k2 : ∀ T, T < 2 ^ n → wdg n (wdg n X u) v' T = (-1) * wdg n (wdg n X v') u T := fun T hT => by
        rw [wdg_anti X u v' T hT]
        omega
      rw [wdl_congr vs (w' := fun T => (-1) * wdg n (wdg n X v') u T) k1 S hS, wdl_congr vs' (w' := fun T => (-1) * wdg n (wdg n X v') u T) k2 S hS, wdl_scal, wdl_scal, e3 S hS]
/-- what divides the forms of rows in their order divides those of the lattice -/
theorem dv_span {n : Nat} {d : Int} : ∀ (us : List Vc) (w : Vc) (k : Nat), (∀ vs, List.Sublist vs us → vs.length = k → ∀ S, S < 2 ^ n → d ∣ wdl n w vs S) → ∀ vs, vs.length = k → (∀ v ∈ vs, ZS us v) → ∀ S, S < 2 ^ n → d ∣ wdl n w vs S := by
  intro us
  induction us with
  | nil =>
    intro w k h vs hk hv S hS
    cases vs with
    | nil => exact h [] (List.Sublist.refl _) hk S hS
    | cons v vs =>
      have hz : ∀ e, v e = 0 := hv v (List.mem_cons_self ..)
      have : v = fun _ => 0 := funext hz
      rw [wdl_cons, this, wdl_congr vs (w' := fun _ => 0) (fun T _ => wdg_0r n w T) S hS, wdl_0]
      exact Int.dvd_zero d
  | cons u us ih =>
    intro w k h
    have inner : ∀ (vs ps : List Vc), (∀ v ∈ ps, ZS us v) → (∀ v ∈ vs, ZS (u :: us) v) → ps.length + vs.length = k → ∀ S, S < 2 ^ n → d ∣ wdl n (wdl n w ps) vs S := by
      intro vs
      induction vs with
      | nil =>
        intro ps hp _ hk S hS
        exact ih w k (fun vs' s l => h vs' (List.Sublist.cons _ s) l) ps (by simpa using hk) hp S hS
      | cons v vs ihv =>
        intro ps hp hv hk S hS
        obtain ⟨a, v', h1, h2⟩ := hv v (List.mem_cons_self ..)
        have hv' : ∀ x ∈ vs, ZS (u :: us) x := fun x hx => hv x (List.mem_cons_of_mem _ hx)
        rw [wdl_cons, wdl_congr vs (w' := fun T => a * wdg n (wdl n w ps) u T + 1 * wdg n (wdl n w ps) v' T) (fun T _ => wdg_lin h2 T) S hS, wdl_addw]
        have t2 : d ∣ wdl n (wdg n (wdl n w ps) v') vs S := by
          have e : wdg n (wdl n w ps) v' = wdl n w (ps ++ [v']) := by rw [wdl_app]; rfl
          rw [e]
          refine ihv (ps ++ [v']) (fun x hx => ?_) hv' (by simp at hk ⊢; omega) S hS
          rcases List.mem_append.mp hx with q | q
          · exact hp x q
          · rw [List.mem_singleton.mp q]; exact h1
        have t1 : d ∣ wdl n (wdg n (wdl n w ps) u) vs S := by
          obtain ⟨vs', e1, e2, e3⟩ := dv_repl (n := n) vs (wdl n w ps) hv'
          obtain ⟨ε, f1, f2⟩ := wdl_mv (n := n) vs' (wdl n w ps) u
          obtain ⟨ε', f1', f2'⟩ := wdl_mv (n := n) (ps ++ vs') w u
          have hd := ih (wdg n w u) (k - 1) (fun vs'' s l T hT => h (u :: vs'') (s.cons_cons u) (by rw [List.length_cons, l]; simp at hk; omega) T hT) (ps ++ vs') (by rw [List.length_append, e1]; simp at hk; omega) (fun x hx => by
            rcases List.mem_append.mp hx with q | q
            · exact hp x q
            · exact e2 x q) S hS
          rw [f2' S hS, wdl_app] at hd
          rw [e3 S hS, f2 S hS]
          have hd2 : d ∣ wdg n (wdl n (wdl n w ps) vs') u S := by
            rcases f1' with q | q
            · rw [q, Int.one_mul] at hd; exact hd
            · rw [q] at hd
              rw [Int.neg_mul, Int.one_mul] at hd
              exact Int.dvd_neg.mp hd
          exact Int.dvd_mul_of_dvd_right hd2
        exact Int.dvd_add (Int.dvd_mul_of_dvd_right t1) (Int.dvd_mul_of_dvd_right t2)
    intro vs hk hv S hS
    exact inner vs [] (fun v hx => absurd hx (by simp)) hv (by simpa using hk) S hS
/-- more rows than the lattice has: nothing -/
theorem wdl_more {n : Nat} {us vs : List Vc} (w : Vc) (h : us.length < vs.length) (hv : ∀ v ∈ vs, ZS us v) (S : Nat) (hS : S < 2 ^ n) : wdl n w vs S = 0 := by
  have := dv_span (d := 0) us w vs.length (fun vs' s l => by
    have := s.length_le
    omega) vs rfl hv S hS
  exact Int.zero_dvd.mp this
theorem wdg_low {n j : Nat} (hj : j ≤ n) {w r : Vc} {S : Nat} (hS : S < 2 ^ j) : wdg n w r S = wdg j w r S := by
  induction n with
  | zero => rw [show j = 0 by omega]
  | succ n ih =>
    by_cases h : j = n + 1
    · rw [h]
    · rw [wdg_lo (Nat.lt_of_lt_of_le hS (Nat.pow_le_pow_right (by decide) (by omega)))]
      exact ih (by omega)
theorem wdg_van {n : Nat} : ∀ {w v : Vc} (C : Nat), C < 2 ^ n → (∀ e, e < n → C.testBit e = true → v e = 0) → wdg n w v C = 0 := by
  induction n with
  | zero => intro w v C _ _; rfl
  | succ n ih =>
    intro w v C hC
    revert C
    refine wdg_mask (fun S hS h => ?_) (fun S hS h => ?_)
    · rw [wdg_lo hS]
      exact ih S hS fun e he hb => h e (by omega) hb
    · have hb : ∀ e, e < n → (S + 2 ^ n).testBit e = S.testBit e := fun e he => by
        rw [Nat.add_comm, Nat.testBit_two_pow_add_gt he]
      rw [wdg_hi, h n (by omega) (by rw [Nat.add_comm, Nat.testBit_two_pow_add_eq, Nat.testBit_lt_two_pow hS]; rfl), ih S hS fun e he hbt => h e (by omega) (by rw [hb e he]; exact hbt)]
      omega
/-- a row that is 0 on a mask, at one column more above it -/
theorem wdg_top {n k : Nat} {w v : Vc} {C : Nat} (hk : k < n) (hC : C < 2 ^ k) (h : ∀ e, e < k → C.testBit e = true → v e = 0) : wdg n w v (C + 2 ^ k) = v k * w C := by
  have h2 : 2 ^ (k + 1) = 2 ^ k + 2 ^ k := by rw [Nat.pow_succ]; omega
  rw [wdg_low (j := k + 1) (by omega) (by omega), wdg_hi, wdg_van C hC h]
  omega
def l1 (v : Vc) : Nat → Int
  | 0 => 0
  | n + 1 => l1 v n + (v n).natAbs
theorem l1_nn (v : Vc) (n : Nat) : 0 ≤ l1 v n := by
  induction n with
  | zero => exact Int.le_refl 0
  | succ n ih =>
    show 0 ≤ l1 v n + ((v n).natAbs : Int)
    omega
theorem wdg_bd {n : Nat} {v : Vc} {B : Int} (hB : 0 ≤ B) : ∀ {w : Vc}, (∀ T, T < 2 ^ n → -B ≤ w T ∧ w T ≤ B) → ∀ S, S < 2 ^ n → -(B * l1 v n) ≤ wdg n w v S ∧ wdg n w v S ≤ B * l1 v n := by
  induction n with
  | zero =>
    intro w h S hS
    show -(B * 0) ≤ 0 ∧ 0 ≤ B * 0
    omega
  | succ n ih =>
    intro w h
    have h2 : 2 ^ (n + 1) = 2 ^ n + 2 ^ n := by rw [Nat.pow_succ]; omega
    have e : B * l1 v (n + 1) = B * l1 v n + B * (v n).natAbs := Int.mul_add ..
    have hnn : 0 ≤ B * ((v n).natAbs : Int) := Int.mul_nonneg hB (by omega)
    rw [e]
    refine wdg_mask (fun S hS => ?_) (fun S hS => ?_)
    · rw [wdg_lo hS]
      have := ih (w := w) (fun T hT => h T (by omega)) S hS
      omega
    · rw [wdg_hi]
      have h1 := ih (w := fun T => w (T + 2 ^ n)) (fun T hT => h (T + 2 ^ n) (by omega)) S hS
      have hw := h S (by omega)
      have hp : -(B * ((v n).natAbs : Int)) ≤ v n * w S ∧ v n * w S ≤ B * ((v n).natAbs : Int) := by
        have ha : v n = ((v n).natAbs : Int) ∨ v n = -((v n).natAbs : Int) := by omega
        generalize hN : ((v n).natAbs : Int) = N at *
        have hN0 : 0 ≤ N := by omega
        have m1 : N * w S ≤ N * B := Int.mul_le_mul_of_nonneg_left hw.2 hN0
        have m2 : N * (-B) ≤ N * w S := Int.mul_le_mul_of_nonneg_left hw.1 hN0
        rw [Int.mul_neg] at m2
        rw [Int.mul_comm B N]
        rcases ha with q | q
        · rw [q]; omega
        · rw [q, Int.neg_mul]; omega
      omega
/-- how many columns a mask has -/
def pcb : Nat → Nat → Nat
  | 0, _ => 0
  | n + 1, S => pcb n S + (if S.testBit n then 1 else 0)
theorem pcb_hi {n S : Nat} (hS : S < 2 ^ n) : pcb (n + 1) (S + 2 ^ n) = pcb n S + 1 := by
  have hb : ∀ j, j ≤ n → pcb j (S + 2 ^ n) = pcb j S := by
    intro j
    induction j with
    | zero => intro _; rfl
    | succ j ih =>
      intro hj
      unfold pcb
      rw [ih (by omega), Nat.add_comm S, Nat.testBit_two_pow_add_gt (by omega)]
  have h1 : pcb (n + 1) (S + 2 ^ n) = pcb n (S + 2 ^ n) + (if (S + 2 ^ n).testBit n then 1 else 0) := rfl
  rw [h1, hb n (by omega), Nat.add_comm S, Nat.testBit_two_pow_add_eq, Nat.testBit_lt_two_pow hS]
  rfl
theorem pcb_lo {n S : Nat} (hS : S < 2 ^ n) : pcb (n + 1) S = pcb n S := by
  have h1 : pcb (n + 1) S = pcb n S + (if S.testBit n then 1 else 0) := rfl
  rw [h1, Nat.testBit_lt_two_pow hS]
  rfl
theorem wdg_deg {n : Nat} {v : Vc} : ∀ {w : Vc} (j : Nat), (∀ T, T < 2 ^ n → pcb n T ≠ j → w T = 0) → ∀ S, S < 2 ^ n → pcb n S ≠ j + 1 → wdg n w v S = 0 := by
  induction n with
  | zero => intro w j _ S _ _; rfl
  | succ n ih =>
    intro w j h
    have h2 : 2 ^ (n + 1) = 2 ^ n + 2 ^ n := by rw [Nat.pow_succ]; omega
    refine wdg_mask (fun S hS hd => ?_) (fun S hS hd => ?_)
    · rw [pcb_lo hS] at hd
      rw [wdg_lo hS]
      exact ih j (fun T hT hj => h T (by omega) (by rw [pcb_lo hT]; exact hj)) S hS hd
    · rw [pcb_hi hS] at hd
      have e1 : w S = 0 := h S (by omega) (by rw [pcb_lo hS]; omega)
      rw [wdg_hi, e1]
      have e2 : wdg n (fun T => w (T + 2 ^ n)) v S = 0 := by
        cases j with
        | zero =>
          rw [wdg_congr (w' := fun _ => 0) (r' := v) (fun T hT => h (T + 2 ^ n) (by omega) (by rw [pcb_hi hT]; omega)) (fun _ _ => rfl) S hS]
          exact wdg_0w n v S
        | succ j => exact ih j (fun T hT hj => h (T + 2 ^ n) (by omega) (by rw [pcb_hi hT]; omega)) S hS (by omega)
      rw [e2]
      omega
theorem pcb_0 (n : Nat) : pcb n 0 = 0 := by
  induction n with
  | zero => rfl
  | succ n ih => unfold pcb; rw [ih]; simp
theorem wdl_deg {n : Nat} (us : List Vc) (S : Nat) (hS : S < 2 ^ n) (h : pcb n S ≠ us.length) : wdl n wd1 us S = 0 := by
  have key : ∀ (us : List Vc) (w : Vc) (j : Nat), (∀ T, T < 2 ^ n → pcb n T ≠ j → w T = 0) → ∀ S, S < 2 ^ n → pcb n S ≠ j + us.length → wdl n w us S = 0 := by
    intro us
    induction us with
    | nil => intro w j hw S hS h; exact hw S hS (by simpa using h)
    | cons u us ih =>
      intro w j hw S hS h
      refine ih (wdg n w u) (j + 1) (fun T hT hj => wdg_deg j hw T hT hj) S hS ?_
      rw [List.length_cons] at h
      omega
  refine key us wd1 0 (fun T hT hj => ?_) S hS (by omega)
  unfold wd1
  by_cases q : T = 0
  · rw [q, pcb_0] at hj; exact absurd rfl hj
  · rw [if_neg q]
