/-! rims hold: the reference -/
/-- the table as the reference writes it -/
def MTb (μ : zMem) (n N : Int) (t : Int → Int) : Prop := ∀ j k, 0 ≤ j → j < N → 0 ≤ k → k < n → μ 128 (4 * j + k) = prm n (t j) k ∧ μ 129 (4 * j + k) = prm n (bak n (t j)) k
theorem m_stepMoves {μ : zMem} {σ : Sp} {n : Int} {t : Int → Int} (hm : MT μ σ) (hE : sE σ ≤ 48) (hn : 2 ≤ n ∧ n ≤ 4) (hN : sN σ ≤ 16) (hb : MTb μ n (sN σ) t) {c k : Int} (h : 0 ≤ c ∧ c < 2 * sE σ) (hk : 0 ≤ k ∧ k < n) : f_X10_stepMoves (stp c) k μ = some (if isTn σ (c / 2) then prm n (tdo n t (tcd σ c)) k else k) := by
  have h1 := stp_pos h.1
  have he := hm.2.2.2 (c / 2) (by omega) (by omega)
  unfold f_X10_stepMoves f_X10_stepMoves_J18
  simp only [zlet]
  have hq : (if stp c ≤ 0 then zw (zw (-stp c) - 1) else zw (stp c - 1)) = c / 2 := by
    have h2 := stp_edge h.1
    by_cases hp : 0 < stp c
    · rw [if_pos hp] at h2
      rw [if_neg (by omega), zw_eq (by omega) (by omega)]
      exact h2
    · rw [if_neg hp] at h2
      rw [if_pos (by omega), zw_eq (x := -stp c) (by omega) (by omega), zw_eq (by omega) (by omega)]
      exact h2
  rw [hq, chk_pos (by omega), he]
  by_cases hi : isTn σ (c / 2) = true
  · have hcn := cnt_in (σ := σ) (e := c / 2) (by omega) hi
    obtain ⟨b1, b2⟩ := hb _ k hcn.1 hcn.2 hk.1 hk.2
    rw [if_pos hi, if_neg (by omega), if_pos hi]
    rw [zw_eq (x := 4 * cnt (isTn σ) (c / 2).toNat) (by omega) (by omega), zw_eq (by omega) (by omega)]
    unfold tdo tcd
    rw [show (2 * cnt (isTn σ) (c / 2).toNat + c % 2) / 2 = cnt (isTn σ) (c / 2).toNat by omega, show (2 * cnt (isTn σ) (c / 2).toNat + c % 2) % 2 = c % 2 by omega]
    by_cases hc : c % 2 = 0
    · rw [if_neg (by omega), chk_pos (by omega), b1, if_pos hc]
    · rw [if_pos (by omega), chk_pos (by omega), b2, if_neg hc]
  · rw [if_neg hi, if_pos (by omega), if_neg hi]
theorem mvs_rg {n N : Int} {t : Int → Int} (hn : 2 ≤ n ∧ n ≤ 4) (ht : TbR n N t) (ws : List Int) (hw : WdR N ws) : ∀ k, 0 ≤ k ∧ k < n → 0 ≤ mvs n t ws k ∧ mvs n t ws k < n := by
  induction ws with
  | nil => intro k hk; exact hk
  | cons c ws ih =>
    intro k hk
    exact ih (fun x h => hw x (List.mem_cons_of_mem _ h)) _ (prm_rg hn (tdo_rg hn ht (hw c (List.mem_cons_self ..))) hk)
def inP (σ : Sp) (f : Int) : Bool := tR σ (sA σ (sR σ f 0))
theorem sA_rg {σ : Sp} {mC mE : Int} (hw : WfE σ mC mE) {c : Int} (h : 0 ≤ c ∧ c < 2 * sE σ) : 0 ≤ sA σ c ∧ sA σ c < sC σ := by
  obtain ⟨a, b, d, e⟩ := hw.2.2.2.2 (c / 2) (by omega) (by omega)
  unfold sA
  split <;> omega
theorem m_isFaceInPart {μ : zMem} {s : Int} {σ : Sp} (hc : MS μ s σ) (hs : 0 ≤ s ∧ s < 3) (hw : WfE σ 32 48) (hp : WfP σ 32) (hm : MT μ σ) {f : Int} (hf : 0 ≤ f ∧ f < sP σ) : f_X10_isFaceInPart s f μ = some (b2i (inP σ f)) := by
  obtain ⟨p1, p2, p3, _⟩ := hp.2.2 f hf.1 hf.2
  have hr := p3 0 (by omega) (by omega)
  have ha := sA_rg hw hr
  have hC := hw.2.1
  unfold f_X10_isFaceInPart
  rw [bnd_pos (m_rimAt hc hs hp hf (by omega)), bnd_pos (m_fromOf hc hs hw hr), chk_pos (by omega), hm.1 _ ha.1 (by omega)]
  rfl
/-- the rims of the panes from f on hold -/
def hld (σ : Sp) (n : Int) (t : Int → Int) (f : Int) : Prop := ∀ g, f ≤ g → g < sP σ → inP σ g = true → ∀ k, 0 ≤ k → k < n → mvs n t (rmW σ g) k = k
theorem m_holds {μ : zMem} {s n : Int} {σ : Sp} {t : Int → Int} (hc : MS μ s σ) (hs : 0 ≤ s ∧ s < 3) (hw : WfE σ 32 48) (hp : WfP σ 32) (hm : MT μ σ) (hn : 2 ≤ n ∧ n ≤ 4) (h28 : μ 101 28 = n) (hN : sN σ ≤ 16) (ht : TbR n (sN σ) t) (hb : MTb μ n (sN σ) t) : Ok (f_X10_holds s μ) (fun v => (v = 1 ∧ hld σ n t 0) ∨ (v = 0 ∧ ¬ hld σ n t 0)) := by
  have k37 : ∀ (f : Int) (g : Int → Option Int), 0 ≤ f ∧ f < sP σ → ∀ (m fu : Nat) (k i : Int), m < fu → 0 ≤ i → i + m = sL σ f → 0 ≤ k ∧ k < n → f_X10_holds_L37 s μ f g fu k i = g (mvs n t (rmw σ f m i) k) := by
    intro f g hf m
    obtain ⟨p1, p2, p3, _⟩ := hp.2.2 f hf.1 hf.2
    have hP := hp.2.1
    have hl := (hc.2.2.2.2 f hf.1 hf.2).1
    induction m with
    | zero =>
      intro fu k i hfu i0 hi hk
      cases fu with
      | zero => omega
      | succ fu =>
        unfold f_X10_holds_L37
        rw [zw_eq (x := 32 * s) (by omega) (by omega), zw_eq (by omega) (by omega), chk_pos (by omega), hl, if_neg (by omega)]
        rfl
    | succ m ih =>
      intro fu k i hfu i0 hi hk
      cases fu with
      | zero => omega
      | succ fu =>
        have hr := p3 i i0 (by omega)
        unfold f_X10_holds_L37
        simp only [zlet]
        rw [zw_eq (x := 32 * s) (by omega) (by omega), zw_eq (by omega) (by omega), chk_pos (by omega), hl, if_pos (by omega), bnd_pos (m_rimAt hc hs hp hf ⟨i0, by omega⟩), bnd_pos (m_stepMoves hm hw.2.2.2.1 hn hN hb hr hk), zw_eq (by omega) (by omega)]
        unfold rmw
        by_cases hi' : isTn σ (sR σ f i / 2) = true
        · rw [if_pos hi', if_pos hi']
          rw [ih fu _ (i + 1) (by omega) (by omega) (by omega) (prm_rg hn (tdo_rg hn ht (tcd_rg hr hi')) hk)]
          rfl
        · rw [if_neg hi', if_neg hi']
          exact ih fu _ (i + 1) (by omega) (by omega) (by omega) hk
  have k14 : ∀ (f : Int) (g : Option Int), 0 ≤ f ∧ f < sP σ → inP σ f = true → ∀ (m fu : Nat) (k : Int), m < fu → 0 ≤ k → k + m = n → ((∀ k', k ≤ k' → k' < n → mvs n t (rmW σ f) k' = k') → f_X10_holds_L14 s μ f g fu k = g) ∧ (¬ (∀ k', k ≤ k' → k' < n → mvs n t (rmW σ f) k' = k') → f_X10_holds_L14 s μ f g fu k = some 0) := by
    intro f g hf hin m
    obtain ⟨p1, p2, p3, _⟩ := hp.2.2 f hf.1 hf.2
    induction m with
    | zero =>
      intro fu k hfu k0 hk
      cases fu with
      | zero => omega
      | succ fu =>
        unfold f_X10_holds_L14
        rw [h28, if_neg (by omega)]
        exact ⟨fun _ => rfl, fun h => absurd (fun k' a b => by omega) h⟩
    | succ m ih =>
      intro fu k hfu k0 hk
      cases fu with
      | zero => omega
      | succ fu =>
        unfold f_X10_holds_L14
        rw [h28, if_pos (by omega), bnd_pos (m_isFaceInPart hc hs hw hp hm hf), hin, if_neg (by decide)]
        rw [k37 f _ hf (sL σ f).toNat zfu k 0 (by unfold zfu; omega) (by omega) (by omega) ⟨k0, by omega⟩]
        unfold f_X10_holds_K75
        simp only [zlet]
        rw [zw_eq (by omega) (by omega)]
        have hi := ih fu (k + 1) (by omega) (by omega) (by omega)
        by_cases he : mvs n t (rmw σ f (sL σ f).toNat 0) k = k
        · rw [if_pos he]
          refine ⟨fun h => hi.1 fun k' a b => h k' (by omega) b, fun h => hi.2 fun h' => h fun k' a b => ?_⟩
          by_cases hkk : k' = k
          · rw [hkk]; exact he
          · exact h' k' (by omega) b
        · rw [if_neg he]
          exact ⟨fun h => absurd (h k (by omega) (by omega)) he, fun _ => rfl⟩
  have key : ∀ (m fu : Nat) (f : Int), m < fu → 0 ≤ f → f + m = sP σ → Ok (f_X10_holds_L2 s μ fu f) (fun v => (v = 1 ∧ hld σ n t f) ∨ (v = 0 ∧ ¬ hld σ n t f)) := by
    intro m
    have hP := hp.2.1
    induction m with
    | zero =>
      intro fu f hfu f0 hf
      cases fu with
      | zero => omega
      | succ fu =>
        unfold f_X10_holds_L2
        rw [chk_pos hs, hc.2.2.1, if_neg (by omega)]
        exact ok_some.mpr (Or.inl ⟨rfl, fun g a b => by omega⟩)
    | succ m ih =>
      intro fu f hfu f0 hf
      cases fu with
      | zero => omega
      | succ fu =>
        unfold f_X10_holds_L2
        rw [chk_pos hs, hc.2.2.1, if_pos (by omega)]
        have hi := ih fu (f + 1) (by omega) (by omega) (by omega)
        have hfP : 0 ≤ f ∧ f < sP σ := ⟨f0, by omega⟩
        have hg : f_X10_holds_K89 f (f_X10_holds_L2 s μ fu) = f_X10_holds_L2 s μ fu (f + 1) := by
          unfold f_X10_holds_K89
          simp only [zlet]
          rw [zw_eq (by omega) (by omega)]
        rw [hg]
        have hstep : ∀ (_ : inP σ f = true → ∀ k, 0 ≤ k → k < n → mvs n t (rmW σ f) k = k), hld σ n t (f + 1) ↔ hld σ n t f := by
          intro hh
          constructor
          · intro h g a b
            by_cases hgf : g = f
            · rw [hgf]; exact hh
            · exact h g (by omega) b
          · intro h g a b
            exact h g (by omega) b
        by_cases hin : inP σ f = true
        · have h14 := k14 f (f_X10_holds_L2 s μ fu (f + 1)) hfP hin n.toNat zfu 0 (by unfold zfu; omega) (by omega) (by omega)
          by_cases hall : ∀ k', 0 ≤ k' → k' < n → mvs n t (rmW σ f) k' = k'
          · rw [h14.1 hall]
            refine hi.imp fun v q => ?_
            rw [hstep (fun _ => hall)] at q
            exact q
          · rw [h14.2 hall]
            exact ok_some.mpr (Or.inr ⟨rfl, fun h => hall (h f (by omega) (by omega) hin)⟩)
        · have e : f_X10_holds_L14 s μ f (f_X10_holds_L2 s μ fu (f + 1)) zfu 0 = f_X10_holds_L2 s μ fu (f + 1) := by
            have hz : ∃ z, zfu = z + 1 := ⟨zfu - 1, by unfold zfu; omega⟩
            obtain ⟨z, hz⟩ := hz
            rw [hz]
            unfold f_X10_holds_L14
            rw [h28, if_pos (by omega), bnd_pos (m_isFaceInPart hc hs hw hp hm hfP), Bool.eq_false_iff.mpr hin, if_pos (by decide)]
          rw [e]
          refine hi.imp fun v q => ?_
          rw [hstep (fun h => absurd h hin)] at q
          exact q
  unfold f_X10_holds
  exact key (sP σ).toNat zfu 0 (by have := hp.2.1; unfold zfu; omega) (by omega) (by have := hp.1; omega)
