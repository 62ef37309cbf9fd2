/-! the class draws words -/
def Fw (cs ss : List Int) (μ μ' : zMem) : Prop := (∀ k, k ∉ cs → k ≠ 33 → μ' k = μ k) ∧ (∀ i, i ∉ ss → μ' 33 i = μ 33 i)
theorem Fw.refl (cs ss : List Int) (μ : zMem) : Fw cs ss μ μ := ⟨fun _ _ _ => rfl, fun _ _ => rfl⟩
theorem Fw.trans {cs ss : List Int} {μ μ1 μ2 : zMem} (h : Fw cs ss μ μ1) (h' : Fw cs ss μ1 μ2) : Fw cs ss μ μ2 := ⟨fun k a b => (h'.1 k a b).trans (h.1 k a b), fun i a => (h'.2 i a).trans (h.2 i a)⟩
theorem Fw.up {cs ss : List Int} {μ μ1 : zMem} (h : Fw cs ss μ μ1) {k : Int} (hk : k ∈ cs) (h1 : k ≠ 33) (i v : Int) : Fw cs ss μ (zup μ1 k i v) := ⟨fun k' a b => by rw [zup_n _ _ _ (fun e : k' = k => a (by rw [e]; exact hk))]; exact h.1 k' a b, fun i a => by rw [zup_n _ _ _ (Ne.symm h1)]; exact h.2 i a⟩
theorem Fw.upo {cs ss : List Int} {μ μ1 : zMem} (h : Fw cs ss μ μ1) {i : Int} (hi : i ∈ ss) (v : Int) : Fw cs ss μ (zup μ1 33 i v) := ⟨fun k' a b => by rw [zup_n _ _ _ b]; exact h.1 k' a b, fun j a => by rw [zup_s, up1_n _ _ (fun e : j = i => a (by rw [e]; exact hi))]; exact h.2 j a⟩
theorem Fw.sub {cs ss cs' ss' : List Int} {μ μ1 : zMem} (h : Fw cs ss μ μ1) (h1 : ∀ k ∈ cs, k ∈ cs') (h2 : ∀ k ∈ ss, k ∈ ss') : Fw cs' ss' μ μ1 := ⟨fun k a b => h.1 k (fun q => a (h1 k q)) b, fun i a => h.2 i (fun q => a (h2 i q))⟩
def pshs (r : Wr) (w : Int → Int) : Nat → Wr
  | 0 => r
  | m + 1 => psh (pshs r w m) (w m)
theorem pshs_rb {r : Wr} {w : Int → Int} {E : Int} (hr : Rb r E) (m : Nat) (h : ∀ i : Int, 0 ≤ i → i < m → 0 ≤ w i ∧ w i < 2 * E) : Rb (pshs r w m) E ∧ (pshs r w m).1 ≤ r.1 + m := by
  induction m with
  | zero => exact ⟨hr, by show r.1 ≤ r.1 + 0; omega⟩
  | succ m ih =>
    have h1 := ih (fun i a b => h i a (by omega))
    have h2 := h1.1.push (h m (by omega) (by omega))
    refine ⟨h2.1, ?_⟩
    have := h2.2
    show (psh (pshs r w m) (w m)).1 ≤ _
    omega
theorem pshs_cg {r : Wr} {w w' : Int → Int} (m : Nat) (h : ∀ i : Int, 0 ≤ i → i < m → w i = w' i) : pshs r w m = pshs r w' m := by
  induction m with
  | zero => rfl
  | succ m ih =>
    unfold pshs
    rw [ih (fun i a b => h i a (by omega)), h m (by omega) (by omega)]
theorem c_dpush {μ : zMem} {r : Wr} {c : Int} (h : CRw μ 33 36 3 r) (hr : Rb r 12) (hc : 0 ≤ c ∧ c < 24) (hl : r.1 < 24) : Ok (f_X0_push c μ) (fun μ' => Fw [36] [3] μ μ' ∧ CRw μ' 33 36 3 (psh r c)) := by
  obtain ⟨m1, m2⟩ := h
  have hr0 := hr.1
  have j37 : ¬ (0 < r.1 ∧ r.2 (r.1 - 1) = bck c) → Ok (f_X0_push_J37 c μ) (fun μ' => Fw [36] [3] μ μ' ∧ CRw μ' 33 36 3 (psh r c)) := by
    intro hn
    unfold f_X0_push_J37
    simp only [zlet]
    rw [m1, if_pos (by omega), chk_pos (by omega), zup_n _ _ _ (by decide), m1, zw_eq (by omega) (by omega)]
    refine ok_some.mpr ⟨((Fw.refl _ _ μ).up (by decide) (by decide) _ _).upo (by decide) _, ?_⟩
    unfold psh
    rw [if_neg hn]
    refine ⟨by rw [zup_s, up1_s], fun i a b => ?_⟩
    simp only at b ⊢
    rw [zup_n _ _ _ (by decide), zup_s]
    by_cases hi : i = r.1
    · rw [hi, up1_s, up1_s]
    · rw [up1_n _ _ hi, up1_n _ _ hi]; exact m2 i a (by omega)
  unfold f_X0_push
  rw [m1]
  by_cases h0 : r.1 ≤ 0
  · rw [if_pos h0]
    exact j37 (by omega)
  · rw [if_neg h0, zw_eq (x := r.1 - 1) (by omega) (by omega), chk_pos (by omega), m2 (r.1 - 1) (by omega) (by omega), zxor1 ⟨by omega, by omega⟩]
    by_cases h1 : r.2 (r.1 - 1) = bck c
    · rw [if_pos h1]
      simp only [zlet]
      refine ok_some.mpr ⟨(Fw.refl _ _ μ).upo (by decide) _, ?_⟩
      unfold psh
      rw [if_pos ⟨by omega, h1⟩]
      exact ⟨by rw [zup_s, up1_s], fun i a b => by rw [zup_n _ _ _ (by decide)]; exact m2 i a (by simp only at b; omega)⟩
    · rw [if_neg h1]
      exact j37 fun q => h1 q.2
/-- a slot of the class holds the word w of L steps -/
def Slt (μ : zMem) (x L : Int) (w : Int → Int) : Prop := μ x 2 = L ∧ (∀ i, 0 ≤ i → i < L → μ (x + 1) i = w i) ∧ 0 ≤ L ∧ L ≤ 16 ∧ zlen (x + 1) = 16 ∧ 58 ≤ x ∧ x < 66 ∧ (∀ i, 0 ≤ i → i < L → 0 ≤ w i ∧ w i < 24)
theorem Slt.cg {μ μ' : zMem} {x L : Int} {w : Int → Int} (h : Slt μ x L w) (he : ∀ k, 58 ≤ k → k < 67 → μ' k = μ k) : Slt μ' x L w := by
  obtain ⟨a, b, c, d, e, f, g, i⟩ := h
  refine ⟨by rw [he x f (by omega)]; exact a, fun j j0 j1 => by rw [he (x + 1) (by omega) (by omega)]; exact b j j0 j1, c, d, e, f, g, i⟩
theorem c_pushAll {μ : zMem} {r : Wr} {x L a b : Int} {w : Int → Int} (hs : Slt μ x L w) (h : CRw μ 33 36 3 r) (hr : Rb r 12) (ha : 0 ≤ a ∧ a ≤ b) (hb : b ≤ L) (hl : r.1 + (b - a) ≤ 24) : Ok (f_X0_pushAll x a b μ) (fun μ' => Fw [36] [3] μ μ' ∧ CRw μ' 33 36 3 (pshs r (fun i => w (a + i)) (b - a).toNat)) := by
  obtain ⟨s1, s2, s3, s4, s5, s6, s7, s8⟩ := hs
  have key : ∀ (m fu k : Nat) (μ1 : zMem), m < fu → a + k + m = b → Fw [36] [3] μ μ1 → CRw μ1 33 36 3 (pshs r (fun i => w (a + i)) k) → Ok (f_X0_pushAll_L3 x b fu (a + k) μ1) (fun μ' => Fw [36] [3] μ μ' ∧ CRw μ' 33 36 3 (pshs r (fun i => w (a + i)) (b - a).toNat)) := by
    intro m
    induction m with
    | zero =>
      intro fu k μ1 hfu hk g1 g2
      cases fu with
      | zero => omega
      | succ fu =>
        unfold f_X0_pushAll_L3
        rw [if_neg (by omega)]
        rw [show k = (b - a).toNat by omega] at g2
        exact ok_some.mpr ⟨g1, g2⟩
    | succ m ih =>
      intro fu k μ1 hfu hk g1 g2
      cases fu with
      | zero => omega
      | succ fu =>
        have hrb := pshs_rb (w := fun i => w (a + i)) hr k (fun i p q => s8 (a + i) (by omega) (by omega))
        unfold f_X0_pushAll_L3
        simp only [zlet]
        rw [if_pos (by omega), chk_pos (by omega), g1.1 (x + 1) (by simp; omega) (by omega), s2 (a + k) (by omega) (by omega), zw_eq (by omega) (by omega)]
        refine ok_bnd.mpr ((c_dpush g2 hrb.1 (s8 (a + k) (by omega) (by omega)) (by omega)).imp fun μ2 q => ?_)
        obtain ⟨q1, q2⟩ := q
        rw [show a + (k : Int) + 1 = a + ((k + 1 : Nat) : Int) by omega]
        exact ih fu (k + 1) μ2 (by omega) (by omega) (g1.trans q1) q2
  unfold f_X0_pushAll
  have := key (b - a).toNat zfu 0 μ (by unfold zfu; omega) (by omega) (Fw.refl _ _ _) h
  rw [show a + ((0 : Nat) : Int) = a by omega] at this
  exact this
/-- places of a rim, from one of them on and round it -/
def iF (n b i : Int) : Int := if b + i < n then b + i else b + i - n
def iC (n a i : Int) : Int := if i ≤ a then a - i else a - i + n
def rotF (σ : Sp) (f b i : Int) : Int := sR σ f (iF (sL σ f) b i)
def rotC (σ : Sp) (f a i : Int) : Int := bck (sR σ f (iC (sL σ f) a i))
def nxw (σ : Sp) (w : Int → Int) (L at' f : Int) (rot : Int → Int) : Wr := pshs (pshs (pshs (0, fun _ => 0) w at'.toNat) rot (sL σ f).toNat) (fun i => w (at' + i)) (L - at').toNat
theorem nxw_rb {σ : Sp} {w : Int → Int} {L at' f : Int} {rot : Int → Int} (hw : ∀ i, 0 ≤ i → i < L → 0 ≤ w i ∧ w i < 24) (hr : ∀ i, 0 ≤ i → i < sL σ f → 0 ≤ rot i ∧ rot i < 24) (ha : 0 ≤ at' ∧ at' ≤ L) (hl : 0 ≤ sL σ f) : Rb (nxw σ w L at' f rot) 12 ∧ (nxw σ w L at' f rot).1 ≤ L + sL σ f := by
  have r0 : Rb (0, fun _ => 0) 12 := ⟨Int.le_refl 0, fun i a b => by have : i < 0 := b; omega⟩
  have h1 := pshs_rb (w := w) r0 at'.toNat (fun i a b => hw i a (by omega))
  have h2 := pshs_rb (w := rot) h1.1 (sL σ f).toNat (fun i a b => hr i a (by omega))
  have h3 := pshs_rb (w := fun i => w (at' + i)) h2.1 (L - at').toNat (fun i a b => hw (at' + i) (by omega) (by omega))
  refine ⟨h3.1, ?_⟩
  have e1 := h1.2
  have e2 := h2.2
  have e3 := h3.2
  unfold nxw
  have : ((0 : Int), fun (_ : Int) => (0 : Int)).1 = 0 := rfl
  omega
theorem c_draw {μ : zMem} {u x L at' f a k : Int} {σ : Sp} {w : Int → Int} (hu : 36 < u ∧ u < 58) (hc : CS μ u σ) (hz : SZ u 8 12 8) (hw : WfE σ 8 12) (hp : WfP σ 8) (hs : Slt μ x L w) (hat : 0 ≤ at' ∧ at' ≤ L) (hf : 0 ≤ f ∧ f < sP σ) (ha : 0 ≤ a ∧ a < sL σ f) (hk : k = 0 ∨ k = 1) : Ok (f_X0_draw u x at' f a k μ) (fun μ' => Fw [36] [3] μ μ' ∧ CRw μ' 33 36 3 (nxw σ w L at' f (if k = 0 then rotF σ f a else rotC σ f a))) := by
  obtain ⟨p1, p2, p3, _⟩ := hp.2.2 f hf.1 hf.2
  have hE := hw.2.2.2.1
  have hP := hp.2.1
  have hlen := (hc.2.2.2.2 f hf.1 hf.2).1
  have hs' := hs
  obtain ⟨s1, s2, s3, s4, s5, s6, s7, s8⟩ := hs'
  have hz' := hz
  obtain ⟨z1, z2, z3, z4, z5, z6, z7, z8, z9⟩ := hz'
  have bF : ∀ i, 0 ≤ i → i < sL σ f → 0 ≤ iF (sL σ f) a i ∧ iF (sL σ f) a i < sL σ f := by
    intro i i0 i1
    unfold iF
    split <;> omega
  have bC : ∀ i, 0 ≤ i → i < sL σ f → 0 ≤ iC (sL σ f) a i ∧ iC (sL σ f) a i < sL σ f := by
    intro i i0 i1
    unfold iC
    split <;> omega
  have hrot : ∀ i, 0 ≤ i → i < sL σ f → 0 ≤ (if k = 0 then rotF σ f a else rotC σ f a) i ∧ (if k = 0 then rotF σ f a else rotC σ f a) i < 24 := by
    intro i i0 i1
    by_cases h0 : k = 0
    · rw [if_pos h0]
      have b := bF i i0 i1
      have := p3 _ b.1 b.2
      unfold rotF
      omega
    · rw [if_neg h0]
      have b := bC i i0 i1
      have := p3 _ b.1 b.2
      unfold rotC bck
      split <;> omega
  have r0 : Rb (0, fun _ => 0) 12 := ⟨Int.le_refl 0, fun i a b => by have : i < 0 := b; omega⟩
  have q0 : ((0 : Int), fun (_ : Int) => (0 : Int)).1 = 0 := rfl
  have hr1 := pshs_rb (w := w) r0 at'.toNat (fun i x y => s8 i x (by omega))
  have hr2 := pshs_rb (w := (if k = 0 then rotF σ f a else rotC σ f a)) hr1.1 (sL σ f).toNat (fun i x y => hrot i x (by omega))
  have hb1 := hr1.2
  have hb2 := hr2.2
  unfold f_X0_draw
  simp only [zlet]
  rw [chk_pos (by omega), hlen]
  have g1 : Fw [36] [3] μ (zup μ 33 3 0) := (Fw.refl _ _ μ).upo (by decide) _
  have c1 : CRw (zup μ 33 3 0) 33 36 3 (0, fun _ => 0) := ⟨by rw [zup_s, up1_s], fun i x y => by simp only at y; omega⟩
  generalize zup μ 33 3 0 = μ1 at *
  refine ok_bnd.mpr ((c_pushAll (hs.cg fun k x y => g1.1 k (by simp; omega) (by omega)) c1 r0 (a := 0) (b := at') ⟨by omega, hat.1⟩ hat.2 (by omega)).imp fun μ2 q => ?_)
  obtain ⟨q1, q2⟩ := q
  have eq2 : pshs (0, fun _ => 0) (fun i => w (0 + i)) (at' - 0).toNat = pshs (0, fun _ => 0) w at'.toNat := by
    rw [show (at' - 0).toNat = at'.toNat by omega]
    exact pshs_cg _ fun i x y => by rw [Int.zero_add]
  rw [eq2] at q2
  have g2 := g1.trans q1
  have key : ∀ (m fu i : Nat) (μ3 : zMem), m < fu → (i : Int) + m = sL σ f → Fw [36] [3] μ μ3 → CRw μ3 33 36 3 (pshs (pshs (0, fun _ => 0) w at'.toNat) (if k = 0 then rotF σ f a else rotC σ f a) i) → Ok (f_X0_draw_L28 u f k (sL σ f) (f_X0_draw_K114 x at') fu (if k = 0 then iF (sL σ f) a i else iC (sL σ f) a i) (i : Int) μ3) (fun μ' => Fw [36] [3] μ μ' ∧ CRw μ' 33 36 3 (nxw σ w L at' f (if k = 0 then rotF σ f a else rotC σ f a))) := by
    intro m
    induction m with
    | zero =>
      intro fu i μ3 hfu hi h1 h2
      cases fu with
      | zero => omega
      | succ fu =>
        unfold f_X0_draw_L28
        rw [if_neg (by omega)]
        unfold f_X0_draw_K114
        rw [show i = (sL σ f).toNat by omega] at h2
        have hs3 : Slt μ3 x L w := hs.cg fun k x y => h1.1 k (by simp; omega) (by omega)
        rw [hs3.1]
        refine ok_bnd.mpr ((c_pushAll hs3 h2 hr2.1 hat (by omega) (by omega)).imp fun μ4 r => ok_some.mpr ?_)
        exact ⟨h1.trans r.1, r.2⟩
    | succ m ih =>
      intro fu i μ3 hfu hi h1 h2
      cases fu with
      | zero => omega
      | succ fu =>
        have hri := pshs_rb (w := (if k = 0 then rotF σ f a else rotC σ f a)) hr1.1 i (fun j x y => hrot j x (by omega))
        have hc3 : CS μ3 u σ := hc.congr fun k x y => h1.1 k (by simp; omega) (by omega)
        have hb3 := hri.2
        unfold f_X0_draw_L28
        rw [if_pos (by omega)]
        rcases hk with hk | hk
        · subst hk
          have b := bF i (by omega) (by omega)
          rw [if_pos rfl] at h2 hri hb3 hrot
          simp only [if_true] at ih
          rw [if_pos rfl, if_pos rfl, bnd_pos (c_rimStep hc3 hz hp hf b)]
          unfold f_X0_draw_J60
          refine ok_bnd.mpr ((c_dpush h2 hri.1 (hrot i (by omega) (by omega)) (by omega)).imp fun μ4 r => ?_)
          obtain ⟨r1, r2⟩ := r
          unfold f_X0_draw_J106
          simp only [zlet]
          have e : (if iF (sL σ f) a (i : Int) = zw (sL σ f - 1) then (0 : Int) else zw (iF (sL σ f) a i + 1)) = iF (sL σ f) a ((i + 1 : Nat) : Int) := by
            rw [zw_eq (x := sL σ f - 1) (by omega) (by omega), zw_eq (x := iF (sL σ f) a i + 1) (by omega) (by omega)]
            unfold iF
            split <;> split <;> split <;> omega
          rw [if_pos trivial, e, zw_eq (x := (i : Int) + 1) (by omega) (by omega), show (i : Int) + 1 = ((i + 1 : Nat) : Int) by omega]
          exact ih fu (i + 1) μ4 (by omega) (by omega) (h1.trans r1) r2
        · subst hk
          have b := bC i (by omega) (by omega)
          have hcode := p3 _ b.1 b.2
          rw [if_neg (by decide)] at h2 hri hb3 hrot
          simp only [if_neg (show ¬ (1 : Int) = 0 by decide)] at ih
          rw [if_neg (by decide), if_neg (by decide), bnd_pos (c_rimStep hc3 hz hp hf b), zxor1 ⟨by omega, by omega⟩]
          unfold f_X0_draw_J60
          refine ok_bnd.mpr ((c_dpush h2 hri.1 (hrot i (by omega) (by omega)) (by omega)).imp fun μ4 r => ?_)
          obtain ⟨r1, r2⟩ := r
          unfold f_X0_draw_J84
          simp only [zlet]
          have e : (if iC (sL σ f) a (i : Int) = 0 then zw (sL σ f - 1) else zw (iC (sL σ f) a i - 1)) = iC (sL σ f) a ((i + 1 : Nat) : Int) := by
            rw [zw_eq (x := sL σ f - 1) (by omega) (by omega), zw_eq (x := iC (sL σ f) a i - 1) (by omega) (by omega)]
            unfold iC
            split <;> split <;> split <;> omega
          rw [if_neg (by decide), e, zw_eq (x := (i : Int) + 1) (by omega) (by omega), show (i : Int) + 1 = ((i + 1 : Nat) : Int) by omega]
          exact ih fu (i + 1) μ4 (by omega) (by omega) (h1.trans r1) r2
  have := key (sL σ f).toNat zfu 0 μ2 (by unfold zfu; omega) (by omega) g2 q2
  have e0 : (if k = 0 then iF (sL σ f) a ((0 : Nat) : Int) else iC (sL σ f) a ((0 : Nat) : Int)) = a := by
    unfold iF iC
    split <;> split <;> omega
  rw [e0] at this
  exact this
