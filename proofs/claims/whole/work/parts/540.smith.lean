/-! lattices modulo a number -/
def LM (n : Nat) (M : Int) (us : List Vc) (v : Vc) : Prop := ∃ v', ZS us v' ∧ ∀ e, e < n → M ∣ v e - v' e
theorem wdg_mod {n : Nat} {M : Int} : ∀ {w w' v v' : Vc}, (∀ T, T < 2 ^ n → M ∣ w T - w' T) → (∀ e, e < n → M ∣ v e - v' e) → ∀ S, S < 2 ^ n → M ∣ wdg n w v S - wdg n w' v' S := by
  induction n with
  | zero =>
    intro w w' v v' _ _ S _
    show M ∣ 0 - 0
    exact Int.dvd_zero M
  | succ n ih =>
    intro w w' v v' hw hv
    have h2 : 2 ^ (n + 1) = 2 ^ n + 2 ^ n := by rw [Nat.pow_succ]; omega
    refine wdg_mask (fun S hS => ?_) (fun S hS => ?_)
    · rw [wdg_lo hS, wdg_lo hS]
      exact ih (fun T hT => hw T (by omega)) (fun e he => hv e (by omega)) S hS
    · rw [wdg_hi, wdg_hi]
      have h1 := ih (w := fun T => w (T + 2 ^ n)) (w' := fun T => w' (T + 2 ^ n)) (v := v) (v' := v') (fun T hT => hw (T + 2 ^ n) (by omega)) (fun e he => hv e (by omega)) S hS
      have h3 := hw S (by omega)
      have h4 := hv n (by omega)
      have e : v n * w S - wdg n (fun T => w (T + 2 ^ n)) v S - (v' n * w' S - wdg n (fun T => w' (T + 2 ^ n)) v' S) = ((v n - v' n) * w S + v' n * (w S - w' S)) - (wdg n (fun T => w (T + 2 ^ n)) v S - wdg n (fun T => w' (T + 2 ^ n)) v' S) := by grind
      rw [e]
      exact Int.dvd_sub (Int.dvd_add (Int.dvd_mul_of_dvd_left h4) (Int.dvd_mul_of_dvd_right h3)) h1
theorem wdl_mod {n : Nat} {M : Int} {us : List Vc} : ∀ (vs : List Vc), (∀ v ∈ vs, LM n M us v) → ∃ vs', vs'.length = vs.length ∧ (∀ v ∈ vs', ZS us v) ∧ ∀ w w', (∀ T, T < 2 ^ n → M ∣ w T - w' T) → ∀ S, S < 2 ^ n → M ∣ wdl n w vs S - wdl n w' vs' S := by
  intro vs
  induction vs with
  | nil => intro _; exact ⟨[], rfl, fun v h => absurd h (by simp), fun w w' h S hS => h S hS⟩
  | cons v vs ih =>
    intro h
    obtain ⟨vs', a1, a2, a3⟩ := ih fun x hx => h x (List.mem_cons_of_mem _ hx)
    obtain ⟨v', b1, b2⟩ := h v (List.mem_cons_self ..)
    refine ⟨v' :: vs', by simp [a1], fun x hx => ?_, fun w w' hw S hS => ?_⟩
    · rcases List.mem_cons.mp hx with q | q
      · rw [q]; exact b1
      · exact a2 x q
    · rw [wdl_cons, wdl_cons]
      exact a3 _ _ (fun T hT => wdg_mod hw b2 T hT) S hS
theorem dv_LM {n : Nat} {M d : Int} {us : List Vc} {k : Nat} (hd : d ∣ M) (h : ∀ vs, List.Sublist vs us → vs.length = k → ∀ S, S < 2 ^ n → d ∣ wdl n wd1 vs S) : Dv n (LM n M us) k d := by
  intro vs hk hv S hS
  obtain ⟨vs', a1, a2, a3⟩ := wdl_mod (n := n) (M := M) vs hv
  have h1 := dv_span us wd1 k h vs' (by omega) a2 S hS
  have h2 := a3 wd1 wd1 (fun T _ => by rw [Int.sub_self]; exact Int.dvd_zero M) S hS
  have e : wdl n wd1 vs S = (wdl n wd1 vs S - wdl n wd1 vs' S) + wdl n wd1 vs' S := by omega
  rw [e]
  exact Int.dvd_add (Int.dvd_trans hd h2) h1
/-- the product of numbers over a mask -/
def pg (g : Nat → Int) : Nat → Nat → Int
  | 0, _ => 1
  | n + 1, S => pg g n S * (if S.testBit n then g n else 1)
theorem pg_lo {g : Nat → Int} {n S : Nat} (hS : S < 2 ^ n) : pg g (n + 1) S = pg g n S := by
  show pg g n S * _ = _
  rw [Nat.testBit_lt_two_pow hS]
  simp
theorem pg_lw {g : Nat → Int} {n S : Nat} : ∀ j, j ≤ n → pg g j (S + 2 ^ n) = pg g j S := by
  intro j
  induction j with
  | zero => intro _; rfl
  | succ j ih =>
    intro hj
    show pg g j (S + 2 ^ n) * _ = pg g j S * _
    rw [ih (by omega), Nat.add_comm S, Nat.testBit_two_pow_add_gt (by omega)]
theorem pg_hi {g : Nat → Int} {n S : Nat} (hS : S < 2 ^ n) : pg g (n + 1) (S + 2 ^ n) = pg g n S * g n := by
  show pg g n (S + 2 ^ n) * _ = _
  rw [pg_lw n (by omega), Nat.add_comm S, Nat.testBit_two_pow_add_eq, Nat.testBit_lt_two_pow hS]
  rfl
theorem pg_wdg {n : Nat} {g : Nat → Int} {v : Vc} (c : Int) : ∀ {w : Vc}, (∀ e, e < n → g e ∣ v e) → (∀ T, T < 2 ^ n → c * pg g n T ∣ w T) → ∀ S, S < 2 ^ n → c * pg g n S ∣ wdg n w v S := by
  induction n generalizing c with
  | zero => intro w _ _ S _; exact Int.dvd_zero _
  | succ n ih =>
    intro w hv hw
    have h2 : 2 ^ (n + 1) = 2 ^ n + 2 ^ n := by rw [Nat.pow_succ]; omega
    refine wdg_mask (fun S hS => ?_) (fun S hS => ?_)
    · rw [wdg_lo hS, pg_lo hS]
      exact ih c (fun e he => hv e (by omega)) (fun T hT => by have := hw T (by omega); rw [pg_lo hT] at this; exact this) S hS
    · rw [wdg_hi, pg_hi hS]
      have h1 := hw S (by omega)
      rw [pg_lo hS] at h1
      have h3 := hv n (by omega)
      have h4 := ih (c * g n) (w := fun T => w (T + 2 ^ n)) (fun e he => hv e (by omega)) (fun T hT => by
        have := hw (T + 2 ^ n) (by omega)
        rw [pg_hi hT] at this
        rw [show c * g n * pg g n T = c * (pg g n T * g n) by grind]
        exact this) S hS
      rw [show c * g n * pg g n S = c * (pg g n S * g n) by grind] at h4
      refine Int.dvd_sub ?_ h4
      rw [show c * (pg g n S * g n) = g n * (c * pg g n S) by grind]
      exact Int.mul_dvd_mul h3 h1
theorem pg_wdl {n : Nat} {g : Nat → Int} (vs : List Vc) (hv : ∀ v ∈ vs, ∀ e, e < n → g e ∣ v e) (S : Nat) (hS : S < 2 ^ n) : pg g n S ∣ wdl n wd1 vs S := by
  have key : ∀ (vs : List Vc) (w : Vc), (∀ v ∈ vs, ∀ e, e < n → g e ∣ v e) → (∀ T, T < 2 ^ n → 1 * pg g n T ∣ w T) → ∀ S, S < 2 ^ n → 1 * pg g n S ∣ wdl n w vs S := by
    intro vs
    induction vs with
    | nil => intro w _ hw S hS; exact hw S hS
    | cons v vs ih =>
      intro w hv hw S hS
      rw [wdl_cons]
      exact ih _ (fun x hx => hv x (List.mem_cons_of_mem _ hx)) (fun T hT => pg_wdg 1 (hv v (List.mem_cons_self ..)) hw T hT) S hS
  have := key vs wd1 hv (fun T hT => ?_) S hS
  · rw [Int.one_mul] at this
    exact this
  · unfold wd1
    by_cases q : T = 0
    · have : ∀ j, pg g j 0 = 1 := by
        intro j
        induction j with
        | zero => rfl
        | succ j ih => show pg g j 0 * _ = 1; rw [ih]; simp
      rw [q, this, if_pos rfl]
      exact Int.dvd_refl _
    · rw [if_neg q]; exact Int.dvd_zero _
/-- f 0 times f 1 .. -/
def pf (f : Nat → Int) : Nat → Int
  | 0 => 1
  | k + 1 => pf f k * f k
theorem pf_pg {f g : Nat → Int} {t : Nat} (h : ∀ p e, p ≤ e → p < t → f p ∣ g e) : ∀ (n S : Nat), S < 2 ^ n → pcb n S ≤ t → pf f (pcb n S) ∣ pg g n S := by
  intro n
  induction n with
  | zero => intro S _ _; exact Int.dvd_refl _
  | succ n ih =>
    refine wdg_mask (fun S hS => ?_) (fun S hS => ?_)
    · intro hp
      rw [pcb_lo hS] at hp ⊢
      rw [pg_lo hS]
      exact ih S hS hp
    · intro hp
      rw [pcb_hi hS] at hp ⊢
      rw [pg_hi hS]
      have hle := pcb_le n S
      exact Int.mul_dvd_mul (ih S hS (by omega)) (h _ n hle (by omega))
/-- the last step: rows that are diagonal -/
theorem diag_dv {n : Nat} {L : Vc → Prop} {f : Nat → Int} {t : Nat} (ht : t ≤ n) (hd : ∀ i, i < t → L (fun e => if e = i then f i else 0)) (hv : ∀ v, L v → ∀ e, e < n → ∀ p, p ≤ e → p < t → f p ∣ v e) (hch : ∀ p q, p ≤ q → q < t → f p ∣ f q) (k : Nat) (hk : k ≤ t) (d : Int) : Dv n L k d ↔ d ∣ pf f k := by
  constructor
  · intro h
    have hl : ∀ j, j ≤ t → wdl n wd1 ((List.range' 0 j).map fun (i : Nat) => (fun (e : Nat) => if e = i then f i else 0)) (2 ^ j - 1) = pf f j := by
      intro j
      induction j with
      | zero => intro _; rfl
      | succ j ih =>
        intro hj
        have e1 : (List.range' 0 (j + 1)) = List.range' 0 j ++ [j] := by
          rw [List.range'_concat]; simp
        have hp := Nat.two_pow_pos j
        have e2 : 2 ^ (j + 1) - 1 = (2 ^ j - 1) + 2 ^ j := by rw [Nat.pow_succ]; omega
        rw [e1, List.map_append, wdl_app, e2]
        show wdg n _ (fun (e : Nat) => if e = j then f j else 0) (2 ^ j - 1 + 2 ^ j) = _
        rw [wdg_top (by omega) (by omega) (fun e he _ => if_neg (by omega)), ih (by omega), if_pos rfl]
        exact Int.mul_comm _ _
    have := h ((List.range' 0 k).map fun (i : Nat) => (fun (e : Nat) => if e = i then f i else 0)) (by simp) (fun u hu => by
      rw [List.mem_map] at hu
      obtain ⟨i, hi, e⟩ := hu
      rw [List.mem_range'_1] at hi
      rw [← e]
      exact hd i (by omega)) (2 ^ k - 1) (by
        have h1 : (2 : Nat) ^ k ≤ 2 ^ n := Nat.pow_le_pow_right (by decide) (by omega)
        have h2 := Nat.two_pow_pos k
        omega)
    rw [hl k hk] at this
    exact this
  · intro h us' hl hu S hS
    by_cases hp : pcb n S = k
    · have h1 := pg_wdl (g := fun e => if e < t then f e else if t = 0 then 1 else f (t - 1)) us' (fun v hv' e he => by
        show (if e < t then f e else if t = 0 then 1 else f (t - 1)) ∣ v e
        split
        · exact hv v (hu v hv') e he e (by omega) (by assumption)
        · split
          · exact Int.one_dvd _
          · exact hv v (hu v hv') e he (t - 1) (by omega) (by omega)) S hS
      have h2 := pf_pg (f := f) (g := fun e => if e < t then f e else if t = 0 then 1 else f (t - 1)) (t := t) (fun p e hpe hpt => by
        show f p ∣ (if e < t then f e else if t = 0 then 1 else f (t - 1))
        split
        · exact hch p e hpe (by assumption)
        · split
          · omega
          · exact hch p (t - 1) (by omega) (by omega)) n S hS (by omega)
      rw [hp] at h2
      exact Int.dvd_trans h (Int.dvd_trans h2 h1)
    · rw [wdl_deg us' S hS (by omega)]
      exact Int.dvd_zero d
