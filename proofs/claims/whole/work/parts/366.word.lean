/-! reduced words -/
def psh (r : Int × (Int → Int)) (c : Int) : Int × (Int → Int) := if 0 < r.1 ∧ r.2 (r.1 - 1) = bck c then (r.1 - 1, r.2) else (r.1 + 1, up1 r.2 r.1 c)
def rdu (w : Int → Int) : Nat → Int × (Int → Int)
  | 0 => (0, fun _ => 0)
  | n + 1 => psh (rdu w n) (w n)
/-- steps below a bound, as far as they go -/
def Rb (r : Int × (Int → Int)) (E : Int) : Prop := 0 ≤ r.1 ∧ ∀ i, 0 ≤ i → i < r.1 → 0 ≤ r.2 i ∧ r.2 i < 2 * E
theorem Rb.push {r : Int × (Int → Int)} {E c : Int} (h : Rb r E) (hc : 0 ≤ c ∧ c < 2 * E) : Rb (psh r c) E ∧ (psh r c).1 ≤ r.1 + 1 := by
  unfold psh
  split
  · exact ⟨⟨by simp only; omega, fun i a b => h.2 i a (by simp only at b; omega)⟩, by simp only; omega⟩
  · refine ⟨⟨by have := h.1; simp only; omega, fun i a b => ?_⟩, by simp only; omega⟩
    simp only at b ⊢
    by_cases hi : i = r.1
    · rw [hi, up1_s]; exact hc
    · rw [up1_n _ _ hi]; exact h.2 i a (by omega)
theorem rdu_rb {w : Int → Int} {E : Int} (n : Nat) (h : ∀ i : Int, 0 ≤ i → i < n → 0 ≤ w i ∧ w i < 2 * E) : Rb (rdu w n) E ∧ (rdu w n).1 ≤ n := by
  induction n with
  | zero => exact ⟨⟨Int.le_refl 0, fun i a b => by have : i < 0 := b; omega⟩, Int.le_refl 0⟩
  | succ n ih =>
    have h1 := ih (fun i a b => h i a (by omega))
    have h2 := h1.1.push (h n (by omega) (by omega))
    refine ⟨h2.1, ?_⟩
    have := h2.2
    show (psh (rdu w n) (w n)).1 ≤ _
    omega
/-- the class's steps and count at some cell -/
def CRw (μ : zMem) (a b j : Int) (r : Int × (Int → Int)) : Prop := μ a j = r.1 ∧ ∀ i, 0 ≤ i → i < r.1 → μ b i = r.2 i
/-- the reference's word that is made -/
def MMd (μ : zMem) (r : Int × (Int → Int)) : Prop := μ 101 51 = r.1 ∧ ∀ i, 0 ≤ i → i < r.1 → μ 154 i = stp (r.2 i)
theorem m_put {μ : zMem} {r : Int × (Int → Int)} {c E : Int} (h : MMd μ r) (hr : Rb r E) (hE : E ≤ 50) (hc : 0 ≤ c ∧ c < 2 * E) (hl : r.1 < 24) : Ok (f_X10_put (stp c) μ) (fun μ' => Fm [154] [51] μ μ' ∧ MMd μ' (psh r c)) := by
  obtain ⟨m1, m2⟩ := h
  have hr0 := hr.1
  have hst : -200 ≤ stp c ∧ stp c ≤ 200 := by unfold stp; split <;> omega
  have j36 : ¬ (0 < r.1 ∧ r.2 (r.1 - 1) = bck c) → Ok (f_X10_put_J36 (stp c) μ) (fun μ' => Fm [154] [51] μ μ' ∧ MMd μ' (psh r c)) := by
    intro hn
    unfold f_X10_put_J36
    simp only [zlet]
    rw [m1, chk_pos (by omega), zup_n _ _ _ (by decide), m1, zw_eq (by omega) (by omega)]
    refine ok_some.mpr ⟨((Fm.refl _ _ μ).up (by decide) (by decide) _ _).upo (by decide) _, ?_⟩
    unfold psh
    rw [if_neg hn]
    refine ⟨by rw [zup_s, up1_s], fun i a b => ?_⟩
    simp only at b ⊢
    rw [zup_n _ _ _ (by decide), zup_s]
    by_cases hi : i = r.1
    · rw [hi, up1_s, up1_s]
    · rw [up1_n _ _ hi, up1_n _ _ hi]; exact m2 i a (by omega)
  unfold f_X10_put
  rw [m1]
  by_cases h0 : r.1 ≤ 0
  · rw [if_pos h0]
    exact j36 (by omega)
  · have hb := hr.2 (r.1 - 1) (by omega) (by omega)
    rw [if_neg h0, zw_eq (x := r.1 - 1) (by omega) (by omega), chk_pos (by omega), m2 (r.1 - 1) (by omega) (by omega), zw_eq (x := -stp c) (by omega) (by omega), ← stp_bck hc.1]
    by_cases h1 : r.2 (r.1 - 1) = bck c
    · rw [if_pos (by rw [h1])]
      simp only [zlet]
      refine ok_some.mpr ⟨(Fm.refl _ _ μ).upo (by decide) _, ?_⟩
      unfold psh
      rw [if_pos ⟨by omega, h1⟩]
      refine ⟨by rw [zup_s, up1_s], fun i a b => ?_⟩
      simp only at b ⊢
      rw [zup_n _ _ _ (by decide)]
      exact m2 i a (by omega)
    · rw [if_neg (fun e => h1 (stp_inj hb.1 (bck_rg hc).1 e))]
      exact j36 (fun e => h1 e.2)
theorem c_takeReduced {μ : zMem} {q k E : Int} {w : Int → Int} (hq : 0 ≤ q ∧ q < 4) (hk : 0 ≤ k ∧ k ≤ 16) (hE : E ≤ 50) (h2 : μ 21 2 = k) (hs : ∀ i, 0 ≤ i → i < k → μ 22 i = w i ∧ 0 ≤ w i ∧ w i < 2 * E) : Ok (f_X8_takeReduced (58 + 2 * q) 21 μ) (fun μ' => (∀ c, c ≠ 58 + 2 * q → c ≠ 58 + 2 * q + 1 → μ' c = μ c) ∧ μ' (58 + 2 * q) 3 = μ 21 3 ∧ μ' (58 + 2 * q) 4 = μ 21 4 ∧ CRw μ' (58 + 2 * q) (58 + 2 * q + 1) 2 (rdu w k.toNat)) := by
  have hzl := zlen_sl hq
  have hz2 : zlen (21 + 1) = 16 := by decide
  have key : ∀ (n : Nat) (x : Int) (μ1 : zMem), 0 ≤ x → x ≤ k → (k - x).toNat < n → (∀ c, c ≠ 58 + 2 * q → c ≠ 58 + 2 * q + 1 → μ1 c = μ c) → μ1 (58 + 2 * q) 3 = μ 21 3 → μ1 (58 + 2 * q) 4 = μ 21 4 → CRw μ1 (58 + 2 * q) (58 + 2 * q + 1) 2 (rdu w x.toNat) → Ok (f_X8_takeReduced_L23 (58 + 2 * q) 21 n x μ1) (fun μ' => (∀ c, c ≠ 58 + 2 * q → c ≠ 58 + 2 * q + 1 → μ' c = μ c) ∧ μ' (58 + 2 * q) 3 = μ 21 3 ∧ μ' (58 + 2 * q) 4 = μ 21 4 ∧ CRw μ' (58 + 2 * q) (58 + 2 * q + 1) 2 (rdu w k.toNat)) := by
    intro n
    induction n with
    | zero => intro x μ1 _ _ h; omega
    | succ n ih =>
      intro x μ1 x0 x1 x2 f1 f3 f4 f5
      unfold f_X8_takeReduced_L23
      rw [f1 21 (by omega) (by omega), h2]
      by_cases hx : x < k
      · obtain ⟨s1, s2, s3⟩ := hs x x0 hx
        obtain ⟨r1, r2⟩ := f5
        have hrb := rdu_rb (E := E) (w := w) x.toNat (fun i a b => (hs i a (by omega)).2)
        have hstep : rdu w (x + 1).toNat = psh (rdu w x.toNat) (w x) := by
          rw [show (x + 1).toNat = x.toNat + 1 by omega]
          show psh (rdu w x.toNat) (w ((x.toNat : Nat) : Int)) = _
          rw [show ((x.toNat : Nat) : Int) = x by omega]
        have hr0 := hrb.1.1
        have hr16 := hrb.2
        generalize rdu w x.toNat = r at *
        have e22 : μ1 (21 + 1) x = w x := by
          show μ1 22 x = w x
          rw [f1 22 (by omega) (by omega)]; exact s1
        have j73 : ¬ (0 < r.1 ∧ r.2 (r.1 - 1) = bck (w x)) → Ok (f_X8_takeReduced_J73 (58 + 2 * q) 21 x (f_X8_takeReduced_L23 (58 + 2 * q) 21 n) μ1) (fun μ' => (∀ c, c ≠ 58 + 2 * q → c ≠ 58 + 2 * q + 1 → μ' c = μ c) ∧ μ' (58 + 2 * q) 3 = μ 21 3 ∧ μ' (58 + 2 * q) 4 = μ 21 4 ∧ CRw μ' (58 + 2 * q) (58 + 2 * q + 1) 2 (rdu w k.toNat)) := by
          intro hn
          unfold f_X8_takeReduced_J73
          simp only [zlet]
          rw [chk_pos (by omega), r1, chk_pos (by omega), e22, zup_n _ _ _ (by omega), r1, zw_eq (by omega) (by omega), zw_eq (by omega) (by omega)]
          refine ih (x + 1) _ (by omega) (by omega) (by omega) (fun c a b => by rw [zup_n _ _ _ a, zup_n _ _ _ b]; exact f1 c a b) ?_ ?_ ⟨?_, fun i a b => ?_⟩
          · rw [zup_s, up1_n _ _ (by decide), zup_n _ _ _ (by omega)]; exact f3
          · rw [zup_s, up1_n _ _ (by decide), zup_n _ _ _ (by omega)]; exact f4
          · rw [zup_s, up1_s, hstep]; unfold psh; rw [if_neg hn]
          · rw [hstep] at b ⊢
            unfold psh at b ⊢
            rw [if_neg hn] at b ⊢
            simp only at b ⊢
            rw [zup_n _ _ _ (by omega), zup_s]
            by_cases hi : i = r.1
            · rw [hi, up1_s, up1_s]
            · rw [up1_n _ _ hi, up1_n _ _ hi]; exact r2 i a (by omega)
        rw [if_pos hx, r1]
        by_cases h0 : r.1 ≤ 0
        · rw [if_pos h0]
          exact j73 (by omega)
        · rw [if_neg h0, zw_eq (x := r.1 - 1) (by omega) (by omega), chk_pos (by omega), chk_pos (by omega), r2 (r.1 - 1) (by omega) (by omega), e22, zxor1 (by omega)]
          by_cases h1 : r.2 (r.1 - 1) = bck (w x)
          · rw [if_pos h1]
            simp only [zlet]
            rw [zw_eq (by omega) (by omega)]
            refine ih (x + 1) _ (by omega) (by omega) (by omega) (fun c a b => by rw [zup_n _ _ _ a]; exact f1 c a b) ?_ ?_ ⟨?_, fun i a b => ?_⟩
            · rw [zup_s, up1_n _ _ (by decide)]; exact f3
            · rw [zup_s, up1_n _ _ (by decide)]; exact f4
            · rw [zup_s, up1_s, hstep]; unfold psh; rw [if_pos ⟨by omega, h1⟩]
            · rw [hstep] at b ⊢
              unfold psh at b ⊢
              rw [if_pos ⟨by omega, h1⟩] at b ⊢
              simp only at b ⊢
              rw [zup_n _ _ _ (by omega)]
              exact r2 i a (by omega)
          · rw [if_neg h1]
            exact j73 (fun e => h1 e.2)
      · rw [if_neg hx]
        have : x = k := by omega
        subst this
        exact ok_some.mpr ⟨f1, f3, f4, f5⟩
  unfold f_X8_takeReduced
  simp only [zlet]
  refine key zfu 0 _ (by omega) hk.1 (by unfold zfu; omega) (fun c a b => ?_) ?_ ?_ ⟨?_, fun i a b => ?_⟩
  · simp (disch := omega) only [zup_n]
  · simp (disch := omega) only [zup_s, zup_n, up1_n, up1_s]
  · simp (disch := omega) only [zup_s, zup_n, up1_s]
  · simp (disch := omega) only [zup_s, up1_n, up1_s]; rfl
  · have : i < 0 := b
    omega
theorem c_keepReduced {μ : zMem} {q s k E : Int} {w : Int → Int} (h4 : S4 μ) (hq : 0 ≤ q ∧ q < 4) (hk : 0 ≤ k ∧ k ≤ 16) (hE : E ≤ 50) (h2 : μ 21 2 = k) (hs : ∀ i, 0 ≤ i → i < k → μ 22 i = w i ∧ 0 ≤ w i ∧ w i < 2 * E) : Ok (f_X9_keepReduced q s μ) (fun v => v.1 = (rdu w k.toNat).1 ∧ (∀ c, c ≠ 58 + 2 * q → c ≠ 58 + 2 * q + 1 → v.2 c = μ c) ∧ v.2 (58 + 2 * q) 1 = s ∧ v.2 (58 + 2 * q) 3 = μ 21 3 ∧ v.2 (58 + 2 * q) 4 = μ 21 4 ∧ CRw v.2 (58 + 2 * q) (58 + 2 * q + 1) 2 (rdu w k.toNat)) := by
  unfold f_X9_keepReduced
  rw [chk_pos hq, (h4 q hq.1 hq.2).1, chk_pos (by omega)]
  simp only [zlet]
  refine ok_bnd.mpr ((c_takeReduced hq hk hE h2 hs).imp fun μ1 f => ?_)
  obtain ⟨f1, f3, f4, f5⟩ := f
  rw [chk_pos hq, f1 16 (by omega) (by omega), (h4 q hq.1 hq.2).1, chk_pos (by omega), chk_pos hq, zup_n _ _ _ (by omega), f1 16 (by omega) (by omega), (h4 q hq.1 hq.2).1, chk_pos (by omega)]
  refine ok_some.mpr ⟨?_, fun c a b => ?_, ?_, ?_, ?_, ?_, fun i a b => ?_⟩
  · simp only; rw [zup_s, up1_n _ _ (by decide)]; exact f5.1
  · simp only; rw [zup_n _ _ _ a]; exact f1 c a b
  · simp only; rw [zup_s, up1_s]
  · simp only; rw [zup_s, up1_n _ _ (by decide)]; exact f3
  · simp only; rw [zup_s, up1_n _ _ (by decide)]; exact f4
  · simp only; rw [zup_s, up1_n _ _ (by decide)]; exact f5.1
  · simp only; rw [zup_n _ _ _ (by omega)]; exact f5.2 i a b
/-- the reference keeps a word -/
theorem m_keepWord {μ : zMem} {q s k : Int} {w : Int → Int} {σ : Sp} (hs : MS μ s σ) (h3 : 0 ≤ s ∧ s < 3) (hw : WfE σ 32 48) (hq : 0 ≤ q ∧ q < 4) (hk : 0 ≤ k ∧ k ≤ 16) (hr : MRd μ k w) (hwd : Wd σ k w) : Ok (f_X10_keepWord q s μ) (fun v => v.1 = (rdu w k.toNat).1 ∧ Fm [148, 149, 150, 151, 152, 154] [51] μ v.2 ∧ v.2 148 = up1 (μ 148) q s ∧ v.2 149 = up1 (μ 149) q (rdu w k.toNat).1 ∧ v.2 150 = up1 (μ 150) q (if k = 0 then 0 else sA σ (w 0)) ∧ v.2 151 = up1 (μ 151) q (if k = 0 then 0 else sB σ (w (k - 1))) ∧ ∀ i, v.2 152 i = if 16 * q ≤ i ∧ i < 16 * q + (rdu w k.toNat).1 then stp ((rdu w k.toNat).2 (i - 16 * q)) else μ 152 i) := by
  obtain ⟨r1, r2⟩ := hr
  have hE := hw.2.2.2.1
  have hrb := rdu_rb (E := sE σ) (w := w) k.toNat (fun i a b => hwd.1 i a (by omega))
  have hr0 := hrb.1.1
  have hr16 := hrb.2
  have e13 : (13 : Int) ∉ [(51 : Int)] := by decide
  -- copying
  have k111 : ∀ (n : Nat) (x : Int) (μ1 : zMem), 0 ≤ x → x ≤ (rdu w k.toNat).1 → ((rdu w k.toNat).1 - x).toNat < n → Fm [148, 149, 150, 151, 152, 154] [51] μ μ1 → MMd μ1 (rdu w k.toNat) → μ1 148 = up1 (μ 148) q s → μ1 149 = up1 (μ 149) q (rdu w k.toNat).1 → μ1 150 = up1 (μ 150) q (if k = 0 then 0 else sA σ (w 0)) → μ1 151 = up1 (μ 151) q (if k = 0 then 0 else sB σ (w (k - 1))) → (∀ i, μ1 152 i = if 16 * q ≤ i ∧ i < 16 * q + x then stp ((rdu w k.toNat).2 (i - 16 * q)) else μ 152 i) → Ok (f_X10_keepWord_L111 q n x μ1) (fun v => v.1 = (rdu w k.toNat).1 ∧ Fm [148, 149, 150, 151, 152, 154] [51] μ v.2 ∧ v.2 148 = up1 (μ 148) q s ∧ v.2 149 = up1 (μ 149) q (rdu w k.toNat).1 ∧ v.2 150 = up1 (μ 150) q (if k = 0 then 0 else sA σ (w 0)) ∧ v.2 151 = up1 (μ 151) q (if k = 0 then 0 else sB σ (w (k - 1))) ∧ ∀ i, v.2 152 i = if 16 * q ≤ i ∧ i < 16 * q + (rdu w k.toNat).1 then stp ((rdu w k.toNat).2 (i - 16 * q)) else μ 152 i) := by
    generalize rdu w k.toNat = r at *
    intro n
    induction n with
    | zero => intro x μ1 _ _ h; omega
    | succ n ih =>
      intro x μ1 x0 x1 x2 f1 f2 g8 g9 g10 g11 f3
      unfold f_X10_keepWord_L111
      rw [f2.1]
      by_cases hx : x < r.1
      · rw [if_pos hx, chk_pos (by omega), zw_eq (x := 16 * q) (by omega) (by omega), zw_eq (x := 16 * q + x) (by omega) (by omega), chk_pos (by omega), f2.2 x x0 hx]
        simp only [zlet]
        rw [zw_eq (by omega) (by omega)]
        refine ih (x + 1) _ (by omega) (by omega) (by omega) (f1.up (by decide) (by decide) _ _) ?_ ?_ ?_ ?_ ?_ (fun i => ?_)
        · unfold MMd at *
          rw [zup_n _ _ _ (by decide), zup_n _ _ _ (by decide)]
          exact f2
        · rw [zup_n _ _ _ (by decide)]; exact g8
        · rw [zup_n _ _ _ (by decide)]; exact g9
        · rw [zup_n _ _ _ (by decide)]; exact g10
        · rw [zup_n _ _ _ (by decide)]; exact g11
        · rw [zup_s, up1_e]
          by_cases hi : i = 16 * q + x
          · rw [if_pos hi, if_pos (by omega), hi, show 16 * q + x - 16 * q = x by omega]
          · rw [if_neg hi, f3]
            by_cases hi2 : 16 * q ≤ i ∧ i < 16 * q + x
            · rw [if_pos hi2, if_pos (by omega)]
            · rw [if_neg hi2, if_neg (by omega)]
      · rw [if_neg hx]
        have : x = r.1 := by omega
        subst this
        exact ok_some.mpr ⟨rfl, f1, g8, g9, g10, g11, f3⟩
  -- what is told of it
  have k31 : ∀ (μ1 : zMem), Fm [154] [51] μ μ1 → MMd μ1 (rdu w k.toNat) → Ok (f_X10_keepWord_K31 q s μ1) (fun v => v.1 = (rdu w k.toNat).1 ∧ Fm [148, 149, 150, 151, 152, 154] [51] μ v.2 ∧ v.2 148 = up1 (μ 148) q s ∧ v.2 149 = up1 (μ 149) q (rdu w k.toNat).1 ∧ v.2 150 = up1 (μ 150) q (if k = 0 then 0 else sA σ (w 0)) ∧ v.2 151 = up1 (μ 151) q (if k = 0 then 0 else sB σ (w (k - 1))) ∧ ∀ i, v.2 152 i = if 16 * q ≤ i ∧ i < 16 * q + (rdu w k.toNat).1 then stp ((rdu w k.toNat).2 (i - 16 * q)) else μ 152 i) := by
    intro μ1 f1 f2
    have ff : Fm [148, 149, 150, 151, 152, 154] [51] μ μ1 := f1.sub (by decide) (by decide)
    unfold f_X10_keepWord_K31
    rw [chk_pos hq]
    simp only [zlet]
    rw [chk_pos hq, zup_n _ _ _ (show (101 : Int) ≠ 148 by decide), f2.1, zup_n _ _ _ (show (101 : Int) ≠ 149 by decide), zup_n _ _ _ (show (101 : Int) ≠ 148 by decide), f1.2 13 e13, r1]
    have g2 : Fm [148, 149, 150, 151, 152, 154] [51] μ (zup (zup μ1 148 q s) 149 q (rdu w k.toNat).1) := (ff.up (by decide) (by decide) _ _).up (by decide) (by decide) _ _
    have ms2 : MS (zup (zup μ1 148 q s) 149 q (rdu w k.toNat).1) s σ := g2.ms (by unfold noSp; decide) hs
    have j75 : ∀ x, x = (if k = 0 then 0 else sA σ (w 0)) → Ok (f_X10_keepWord_J75 q s x (zup (zup μ1 148 q s) 149 q (rdu w k.toNat).1)) (fun v => v.1 = (rdu w k.toNat).1 ∧ Fm [148, 149, 150, 151, 152, 154] [51] μ v.2 ∧ v.2 148 = up1 (μ 148) q s ∧ v.2 149 = up1 (μ 149) q (rdu w k.toNat).1 ∧ v.2 150 = up1 (μ 150) q (if k = 0 then 0 else sA σ (w 0)) ∧ v.2 151 = up1 (μ 151) q (if k = 0 then 0 else sB σ (w (k - 1))) ∧ ∀ i, v.2 152 i = if 16 * q ≤ i ∧ i < 16 * q + (rdu w k.toNat).1 then stp ((rdu w k.toNat).2 (i - 16 * q)) else μ 152 i) := by
      intro x hx
      unfold f_X10_keepWord_J75
      rw [chk_pos hq]
      simp only [zlet]
      have g3 : Fm [148, 149, 150, 151, 152, 154] [51] μ (zup (zup (zup μ1 148 q s) 149 q (rdu w k.toNat).1) 150 q x) := g2.up (by decide) (by decide) _ _
      have ms3 := g3.ms (by unfold noSp; decide) hs
      have j108 : ∀ y, y = (if k = 0 then 0 else sB σ (w (k - 1))) → Ok (f_X10_keepWord_J108 q y (zup (zup (zup μ1 148 q s) 149 q (rdu w k.toNat).1) 150 q x)) (fun v => v.1 = (rdu w k.toNat).1 ∧ Fm [148, 149, 150, 151, 152, 154] [51] μ v.2 ∧ v.2 148 = up1 (μ 148) q s ∧ v.2 149 = up1 (μ 149) q (rdu w k.toNat).1 ∧ v.2 150 = up1 (μ 150) q (if k = 0 then 0 else sA σ (w 0)) ∧ v.2 151 = up1 (μ 151) q (if k = 0 then 0 else sB σ (w (k - 1))) ∧ ∀ i, v.2 152 i = if 16 * q ≤ i ∧ i < 16 * q + (rdu w k.toNat).1 then stp ((rdu w k.toNat).2 (i - 16 * q)) else μ 152 i) := by
        intro y hy
        unfold f_X10_keepWord_J108
        rw [chk_pos hq]
        simp only [zlet]
        refine k111 zfu 0 _ (by omega) hr0 (by unfold zfu; omega) (g3.up (by decide) (by decide) _ _) ?_ ?_ ?_ ?_ ?_ (fun i => ?_)
        · unfold MMd at *
          simp (disch := omega) only [zup_n]
          exact f2
        · simp (disch := omega) only [zup_n, zup_s]
          rw [f1.1 148 (by decide) (by decide)]
        · simp (disch := omega) only [zup_n, zup_s]
          rw [f1.1 149 (by decide) (by decide)]
        · simp (disch := omega) only [zup_n, zup_s]
          rw [f1.1 150 (by decide) (by decide), hx]
        · simp (disch := omega) only [zup_n, zup_s]
          rw [f1.1 151 (by decide) (by decide), hy]
        · simp (disch := omega) only [zup_n]
          rw [if_neg (by omega), f1.1 152 (by decide) (by decide)]
      rw [g3.2 13 e13, r1]
      by_cases h0 : k = 0
      · rw [if_pos h0]
        exact j108 0 (by rw [if_pos h0])
      · have hwk := hwd.1 (k - 1) (by omega) (by omega)
        rw [if_neg h0, zw_eq (by omega) (by omega), chk_pos (by omega), g3.1 116 (by decide) (by decide), r2 (k - 1) (by omega) (by omega), m_toOf ms3 h3 hw hwk, bnd_pos rfl]
        exact j108 _ (by rw [if_neg h0])
    by_cases h0 : k = 0
    · rw [if_pos h0]
      exact j75 0 (by rw [if_pos h0])
    · have hwk := hwd.1 0 (by omega) (by omega)
      rw [if_neg h0, g2.1 116 (by decide) (by decide), r2 0 (by omega) (by omega), m_fromOf ms2 h3 hw hwk, bnd_pos rfl]
      exact j75 _ (by rw [if_neg h0])
  have k7 : ∀ (n : Nat) (x : Int) (μ1 : zMem), 0 ≤ x → x ≤ k → (k - x).toNat < n → Fm [154] [51] μ μ1 → MMd μ1 (rdu w x.toNat) → Ok (f_X10_keepWord_L7 (f_X10_keepWord_K31 q s) n x μ1) (fun v => v.1 = (rdu w k.toNat).1 ∧ Fm [148, 149, 150, 151, 152, 154] [51] μ v.2 ∧ v.2 148 = up1 (μ 148) q s ∧ v.2 149 = up1 (μ 149) q (rdu w k.toNat).1 ∧ v.2 150 = up1 (μ 150) q (if k = 0 then 0 else sA σ (w 0)) ∧ v.2 151 = up1 (μ 151) q (if k = 0 then 0 else sB σ (w (k - 1))) ∧ ∀ i, v.2 152 i = if 16 * q ≤ i ∧ i < 16 * q + (rdu w k.toNat).1 then stp ((rdu w k.toNat).2 (i - 16 * q)) else μ 152 i) := by
    intro n
    induction n with
    | zero => intro x μ1 _ _ h; omega
    | succ n ih =>
      intro x μ1 x0 x1 x2 f1 f2
      unfold f_X10_keepWord_L7
      rw [f1.2 13 e13, r1]
      by_cases hx : x < k
      · have hrx := rdu_rb (E := sE σ) (w := w) x.toNat (fun i a b => hwd.1 i a (by omega))
        have := hrx.2
        rw [if_pos hx, chk_pos (by omega), f1.1 116 (by decide) (by decide), r2 x x0 hx]
        refine ok_bnd.mpr ((m_put f2 hrx.1 (by omega) (hwd.1 x x0 hx) (by omega)).imp fun μ2 g => ?_)
        simp only [zlet]
        rw [zw_eq (by omega) (by omega)]
        refine ih (x + 1) μ2 (by omega) (by omega) (by omega) (f1.trans g.1) ?_
        rw [show (x + 1).toNat = x.toNat + 1 by omega]
        have g2 := g.2
        rw [show w x = w ((x.toNat : Nat) : Int) by rw [show ((x.toNat : Nat) : Int) = x by omega]] at g2
        exact g2
      · rw [if_neg hx]
        have : x = k := by omega
        subst this
        exact k31 μ1 f1 f2
  unfold f_X10_keepWord
  simp only [zlet]
  exact k7 zfu 0 _ (by omega) hk.1 (by unfold zfu; omega) ((Fm.refl _ _ μ).upo (by decide) _) ⟨by rw [zup_s, up1_s]; rfl, fun i a b => by have : i < 0 := b; omega⟩
