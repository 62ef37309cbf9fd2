/-! what a call that changes a space leaves, put together -/
def Cf (X : Int → Prop) (μ μ' : zMem) : Prop := (∀ c, 101 ≤ c → μ' c = μ c) ∧ (∀ c, rlv c → c < 101 → ¬ X c → μ' c = μ c)
def Mf (X : Int → Prop) (μ μ' : zMem) : Prop := (∀ c, c < 101 → μ' c = μ c) ∧ (∀ c, rlv c → 101 < c → ¬ X c → μ' c = μ c) ∧ (∀ i, i = 7 ∨ i = 37 ∨ i = 38 ∨ i = 39 → μ' 101 i = μ 101 i)
theorem Mf.refl (X : Int → Prop) (μ : zMem) : Mf X μ μ := ⟨fun _ _ => rfl, fun _ _ _ _ => rfl, fun _ _ => rfl⟩
theorem Mf.trans {X : Int → Prop} {μ μ1 μ2 : zMem} (h : Mf X μ μ1) (h' : Mf X μ1 μ2) : Mf X μ μ2 := ⟨fun k a => (h'.1 k a).trans (h.1 k a), fun k a b c => (h'.2.1 k a b c).trans (h.2.1 k a b c), fun i a => (h'.2.2 i a).trans (h.2.2 i a)⟩
theorem Cf.refl (X : Int → Prop) (μ : zMem) : Cf X μ μ := ⟨fun _ _ => rfl, fun _ _ _ _ => rfl⟩
theorem Cf.trans {X : Int → Prop} {μ μ1 μ2 : zMem} (h : Cf X μ μ1) (h' : Cf X μ1 μ2) : Cf X μ μ2 := ⟨fun k a => (h'.1 k a).trans (h.1 k a), fun k a b c => (h'.2 k a b c).trans (h.2 k a b c)⟩
/-- the reference's rows of spaces but of s -/
def Ms (s : Int) (μ μ' : zMem) : Prop := (∀ x, x ≠ s → μ' 102 x = μ 102 x ∧ μ' 103 x = μ 103 x ∧ μ' 104 x = μ 104 x) ∧ (∀ i, ¬ (48 * s ≤ i ∧ i < 48 * s + 48) → μ' 105 i = μ 105 i ∧ μ' 106 i = μ 106 i) ∧ (∀ i, ¬ (32 * s ≤ i ∧ i < 32 * s + 32) → μ' 107 i = μ 107 i) ∧ (∀ i, ¬ (256 * s ≤ i ∧ i < 256 * s + 256) → μ' 108 i = μ 108 i)
theorem Ms.refl (s : Int) (μ : zMem) : Ms s μ μ := ⟨fun _ _ => ⟨rfl, rfl, rfl⟩, fun _ _ => ⟨rfl, rfl⟩, fun _ _ => rfl, fun _ _ => rfl⟩
theorem Ms.trans {s : Int} {μ μ1 μ2 : zMem} (h : Ms s μ μ1) (h' : Ms s μ1 μ2) : Ms s μ μ2 := by
  obtain ⟨a1, a2, a3, a4⟩ := h
  obtain ⟨b1, b2, b3, b4⟩ := h'
  exact ⟨fun x hx => ⟨(b1 x hx).1.trans (a1 x hx).1, (b1 x hx).2.1.trans (a1 x hx).2.1, (b1 x hx).2.2.trans (a1 x hx).2.2⟩, fun i hi => ⟨(b2 i hi).1.trans (a2 i hi).1, (b2 i hi).2.trans (a2 i hi).2⟩, fun i hi => (b3 i hi).trans (a3 i hi), fun i hi => (b4 i hi).trans (a4 i hi)⟩
theorem Ms.of {s : Int} {μ μ' : zMem} (h : ∀ c, 102 ≤ c → c ≤ 108 → μ' c = μ c) : Ms s μ μ' := ⟨fun x _ => by rw [h 102 (by decide) (by decide), h 103 (by decide) (by decide), h 104 (by decide) (by decide)]; exact ⟨rfl, rfl, rfl⟩, fun i _ => by rw [h 105 (by decide) (by decide), h 106 (by decide) (by decide)]; exact ⟨rfl, rfl⟩, fun i _ => by rw [h 107 (by decide) (by decide)], fun i _ => by rw [h 108 (by decide) (by decide)]⟩
theorem Ms.ms {s s' : Int} {μ μ' : zMem} {σ : Sp} (h : Ms s μ μ') (hn : s' ≠ s) (hw : WfE σ 32 48) (hp : WfP σ 32) (c : MS μ s' σ) : MS μ' s' σ := by
  obtain ⟨a1, a2, a3, a4⟩ := h
  obtain ⟨c1, c2, c3, c4, c5⟩ := c
  have hE := hw.2.2.2.1
  obtain ⟨p1, p2, p3⟩ := hp
  have hss : s' < s ∨ s < s' := by omega
  refine ⟨by rw [(a1 s' hn).1, c1], by rw [(a1 s' hn).2.1, c2], by rw [(a1 s' hn).2.2, c3], fun e h0 h1 => ?_, fun f h0 h1 => ⟨?_, fun i i0 i1 => ?_⟩⟩
  · rw [(a2 _ (by omega)).1, (a2 _ (by omega)).2]
    exact c4 e h0 h1
  · rw [a3 _ (by omega)]
    exact (c5 f h0 h1).1
  · have := p3 f h0 h1
    rw [a4 _ (by omega)]
    exact (c5 f h0 h1).2 i i0 i1
/-- slots of a space are emptied, on the class's side, on the reference's -/
def CEm (s : Int) (μ μ' : zMem) : Prop := ∀ q, 0 ≤ q → q < 4 → μ' (58 + 2 * q) 1 = (if μ (58 + 2 * q) 1 = s then -1 else μ (58 + 2 * q) 1) ∧ (∀ i, i ≠ 1 → μ' (58 + 2 * q) i = μ (58 + 2 * q) i) ∧ μ' (58 + 2 * q + 1) = μ (58 + 2 * q + 1)
def MEm (s : Int) (μ μ' : zMem) : Prop := ∀ q, 0 ≤ q → q < 4 → μ' 148 q = (if μ 148 q = s then -4 else μ 148 q)
theorem SlR.emp {μ μ1 μ2 : zMem} {s q : Int} (h : SlR μ q) (hq : 0 ≤ q ∧ q < 4) (hs : 0 ≤ s ∧ s ≤ 1) (hc : CEm s μ μ1) (hc2 : ∀ k, 58 ≤ k → k ≤ 65 → μ2 k = μ1 k) (h8 : μ1 148 = μ 148) (hm : MEm s μ1 μ2) (h9 : ∀ k, 149 ≤ k → k ≤ 152 → μ2 k = μ k) (h3 : ∀ x, x ≠ s → μ2 103 x = μ 103 x) : SlR μ2 q := by
  obtain ⟨e1, e2, e3⟩ := hc q hq.1 hq.2
  have m1 := hm q hq.1 hq.2
  unfold SlR at *
  rw [hc2 (58 + 2 * q) (by omega) (by omega), hc2 (58 + 2 * q + 1) (by omega) (by omega), e1, e2 2 (by decide), e2 3 (by decide), e2 4 (by decide), e3, m1, h8, h9 149 (by decide) (by decide), h9 150 (by decide) (by decide), h9 151 (by decide) (by decide), h9 152 (by decide) (by decide)]
  rcases h with ⟨a, b⟩ | ⟨a1, a2, a3, a4, a5, a6, a7, a8, a9⟩
  · exact Or.inl ⟨by omega, by omega⟩
  · by_cases hx : μ (58 + 2 * q) 1 = s
    · exact Or.inl ⟨by omega, by omega⟩
    · rw [if_neg hx, if_neg (by omega), h3 _ hx]
      exact Or.inr ⟨a1, a2, a3, a4, a5, a6, a7, a8, a9⟩
theorem SlR.grow {μ μ2 : zMem} {q : Int} (h : SlR μ q) (hq : 0 ≤ q ∧ q < 4) (hc : ∀ k, (58 ≤ k ∧ k ≤ 65) ∨ (148 ≤ k ∧ k ≤ 152) → μ2 k = μ k) (h3 : ∀ x, 0 ≤ x → x ≤ 1 → μ 103 x ≤ μ2 103 x) : SlR μ2 q := by
  unfold SlR at *
  rw [hc (58 + 2 * q) (by omega), hc (58 + 2 * q + 1) (by omega), hc 148 (by omega), hc 149 (by omega), hc 150 (by omega), hc 151 (by omega), hc 152 (by omega)]
  rcases h with h | ⟨a1, a2, a3, a4, a5, a6, a7, a8, a9⟩
  · exact Or.inl h
  · have := h3 _ a1 a2
    exact Or.inr ⟨a1, a2, a3, a4, a5, a6, a7, a8, fun i i0 i1 => ⟨(a9 i i0 i1).1, (a9 i i0 i1).2.1, by have := (a9 i i0 i1).2.2; omega⟩⟩
def spcX (ko : Int) (c : Int) : Prop := (37 ≤ c ∧ c ≤ 57 ∧ ¬ (ko ≤ c ∧ c ≤ ko + 6)) ∨ (58 ≤ c ∧ c ≤ 65) ∨ c = 2 ∨ c = 20
def spmX (c : Int) : Prop := (102 ≤ c ∧ c ≤ 108) ∨ c = 110 ∨ c = 148
theorem Rel.spc {μ μ1 μ2 : zMem} (h : Rel μ) {s : Int} (hs : 0 ≤ s ∧ s ≤ 1) (cf : Cf (spcX (μ 2 (1 - s))) μ μ1) (k3 : K3 μ1) (ho : μ1 2 (1 - s) = μ 2 (1 - s)) (mf : Mf spmX μ1 μ2) (hm : Ms s μ1 μ2) {σ : Sp} (n1 : CS μ1 (μ1 2 s) σ) (n2 : CP μ1 (μ1 2 s) σ) (n3 : MS μ2 s σ) (n4 : WfE σ 8 12) (n5 : WfP σ 8) (tp : TpR μ2) (sl : ∀ q, 0 ≤ q → q < 4 → SlR μ2 q) : Rel μ2 := by
  obtain ⟨⟨r1, r2, r3⟩, r4, r5, r6, r7, r8⟩ := h
  have hko : PK (μ 2 (1 - s)) := by
    have h01 : s = 0 ∨ s = 1 := by omega
    rcases h01 with h | h <;> subst h
    · exact r2.2.1
    · exact r2.1
  have hkb := hko.b
  have hks : PK (μ1 2 s) := by
    have h01 : s = 0 ∨ s = 1 := by omega
    rcases h01 with h | h <;> subst h
    · exact k3.1
    · exact k3.2.1
  have hkb2 := hks.b
  have c1 : ∀ c, rlv c → c < 101 → ¬ spcX (μ 2 (1 - s)) c → μ2 c = μ c := fun c a b d => (mf.1 c b).trans (cf.2 c a b d)
  have m1 : ∀ c, rlv c → 101 < c → ¬ spmX c → μ2 c = μ c := fun c a b d => (mf.2.1 c a b d).trans (cf.1 c (by omega))
  have o1 : ∀ i, i = 7 ∨ i = 37 ∨ i = 38 ∨ i = 39 → μ2 101 i = μ 101 i := fun i a => by rw [mf.2.2 i a, cf.1 101 (by decide)]
  have hm0 : Ms s μ μ2 := (Ms.of fun c a b => cf.1 c (by omega)).trans hm
  unfold rlv spcX at c1
  unfold rlv spmX at m1
  refine ⟨⟨r1.congr fun k a => c1 k (by omega) (by omega) (by omega), k3.congr (mf.1 2 (by decide)) (by rw [mf.1 1 (by decide)]), r3.congr fun k a => c1 k (by omega) (by omega) (by omega)⟩, fun s' a b => ?_, tp, sl, fun q a b => (r7 q a b).congr ⟨a, b⟩ (fun k c => ?_), ?_⟩
  · by_cases hss : s' = s
    · subst hss
      have e2 : μ2 2 = μ1 2 := mf.1 2 (by decide)
      refine ⟨σ, ?_⟩
      unfold SpR
      rw [e2]
      exact ⟨n1.congr fun k a b => mf.1 k (by omega), n2.congr fun k a b => mf.1 k (by omega), n3, n4, n5⟩
    · have hs' : s' = 1 - s := by omega
      obtain ⟨σ', q1, q2, q3, q4, q5⟩ := r4 s' a b
      rw [hs'] at q1 q2 q3 ⊢
      refine ⟨σ', ?_⟩
      unfold SpR
      rw [mf.1 2 (by decide), ho]
      refine ⟨q1.congr fun k a b => c1 k (by omega) (by omega) (by omega), q2.congr fun k a b => c1 k (by omega) (by omega) (by omega), hm0.ms (by omega) (q4.mono (by decide) (by decide)) (q5.mono (by decide)) q3, q4, q5⟩
  · rcases c with c | c
    · exact c1 k (by omega) (by omega) (by omega)
    · exact m1 k (by omega) (by omega) (by omega)
  · rcases r8 with ⟨e1, e2⟩ | ⟨n, a, b, c, d, e, f, g, i, j, k, l, m, σ', p1, p2, p3, p4, p5⟩
    · exact Or.inl ⟨by rw [c1 3 (by omega) (by omega) (by omega)]; exact e1, by rw [o1 7 (by omega)]; exact e2⟩
    · have hT : LyT μ2 n := by
        unfold LyT at *
        rw [c1 3 (by omega) (by omega) (by omega), c1 11 (by omega) (by omega) (by omega), c1 12 (by omega) (by omega) (by omega), m1 142 (by omega) (by omega) (by omega), m1 143 (by omega) (by omega) (by omega), m1 144 (by omega) (by omega) (by omega), m1 145 (by omega) (by omega) (by omega)]
        exact m
      refine Or.inr ⟨n, a, b, ?_⟩
      rw [c1 3 (by omega) (by omega) (by omega), o1 7 (by omega), o1 37 (by omega), o1 38 (by omega), o1 39 (by omega)]
      exact ⟨c, d, e, f, g, i, j, k, l, hT, σ', p1.congr fun k a b => c1 k (by omega) (by omega) (by omega), p2.congr fun k a b => c1 k (by omega) (by omega) (by omega), hm0.ms (by omega) p4 p5 p3, p4, p5⟩
theorem c_emptySlots {μ : zMem} {s : Int} (h4 : S4 μ) (hs : 0 ≤ s) : Ok (f_X9_emptySlots s μ) (fun μ' => (∀ k, ¬ (58 ≤ k ∧ k ≤ 65) → μ' k = μ k) ∧ CEm s μ μ') := by
  have key : ∀ (n : Nat) (x : Int) (μ1 : zMem), 0 ≤ x → x ≤ 4 → (4 - x).toNat < n → (∀ k, ¬ (58 ≤ k ∧ k ≤ 65) → μ1 k = μ k) → (∀ q, 0 ≤ q → q < 4 → μ1 (58 + 2 * q) 1 = (if q < x ∧ μ (58 + 2 * q) 1 = s then -1 else μ (58 + 2 * q) 1) ∧ (∀ i, i ≠ 1 → μ1 (58 + 2 * q) i = μ (58 + 2 * q) i) ∧ μ1 (58 + 2 * q + 1) = μ (58 + 2 * q + 1)) → Ok (f_X9_emptySlots_L2 s n x μ1) (fun μ' => (∀ k, ¬ (58 ≤ k ∧ k ≤ 65) → μ' k = μ k) ∧ CEm s μ μ') := by
    intro n
    induction n with
    | zero => intro x μ1 _ _ h; omega
    | succ n ih =>
      intro x μ1 h0 h1 h2 f1 f2
      unfold f_X9_emptySlots_L2
      by_cases hx : x < 4
      · have hq : μ1 (58 + 2 * x) 1 = μ (58 + 2 * x) 1 := by rw [(f2 x h0 hx).1, if_neg (by omega)]
        rw [if_pos hx, chk_pos (by omega), f1 16 (by omega), (h4 x h0 hx).1, chk_pos (by omega)]
        simp only [zlet]
        rw [hq]
        by_cases hc : μ (58 + 2 * x) 1 = s
        · rw [if_pos hc, chk_pos (by omega), chk_pos (by omega), zw_eq (by omega) (by omega)]
          refine ih (x + 1) _ (by omega) (by omega) (by omega) (fun k a => by rw [zup_n _ _ _ (by omega)]; exact f1 k a) (fun q a b => ?_)
          have hq2 := f2 q a b
          by_cases hqx : q = x
          · subst hqx
            rw [zup_s, up1_s, zup_n _ _ _ (by omega)]
            exact ⟨by rw [if_pos (by omega)], fun i hi => by rw [up1_n _ _ hi]; exact hq2.2.1 i hi, hq2.2.2⟩
          · rw [zup_n _ _ _ (by omega), zup_n _ _ _ (by omega), hq2.1]
            refine ⟨?_, hq2.2⟩
            by_cases hqs : q < x ∧ μ (58 + 2 * q) 1 = s
            · rw [if_pos hqs, if_pos (by omega)]
            · rw [if_neg hqs, if_neg (by omega)]
        · rw [if_neg hc, zw_eq (by omega) (by omega)]
          refine ih (x + 1) _ (by omega) (by omega) (by omega) f1 (fun q a b => ?_)
          have hq2 := f2 q a b
          refine ⟨?_, hq2.2⟩
          rw [hq2.1]
          by_cases hqx : q = x
          · subst hqx
            rw [if_neg (by omega), if_neg (by omega)]
          · by_cases hqs : q < x ∧ μ (58 + 2 * q) 1 = s
            · rw [if_pos hqs, if_pos (by omega)]
            · rw [if_neg hqs, if_neg (by omega)]
      · rw [if_neg hx]
        refine ok_some.mpr ⟨f1, fun q a b => ?_⟩
        have hq2 := f2 q a b
        refine ⟨?_, hq2.2⟩
        rw [hq2.1]
        by_cases hqs : μ (58 + 2 * q) 1 = s
        · rw [if_pos (by omega), if_pos hqs]
        · rw [if_neg (by omega), if_neg hqs]
  exact key zfu 0 μ (by omega) (by omega) (by decide) (fun _ _ => rfl) (fun q a b => ⟨by rw [if_neg (by omega)], fun _ _ => rfl, rfl⟩)
theorem m_emptySlots {μ : zMem} {s : Int} : Ok (f_X10_emptySlots s μ) (fun μ' => (∀ k, k ≠ 148 → μ' k = μ k) ∧ MEm s μ μ') := by
  have key : ∀ (n : Nat) (x : Int) (μ1 : zMem), 0 ≤ x → x ≤ 4 → (4 - x).toNat < n → (∀ k, k ≠ 148 → μ1 k = μ k) → (∀ q, 0 ≤ q → q < 4 → μ1 148 q = (if q < x ∧ μ 148 q = s then -4 else μ 148 q)) → Ok (f_X10_emptySlots_L2 s n x μ1) (fun μ' => (∀ k, k ≠ 148 → μ' k = μ k) ∧ MEm s μ μ') := by
    intro n
    induction n with
    | zero => intro x μ1 _ _ h; omega
    | succ n ih =>
      intro x μ1 h0 h1 h2 f1 f2
      unfold f_X10_emptySlots_L2
      by_cases hx : x < 4
      · have hq : μ1 148 x = μ 148 x := by rw [f2 x h0 hx, if_neg (by omega)]
        rw [if_pos hx, chk_pos (by omega), hq, chk_pos (by omega)]
        unfold f_X10_emptySlots_J33
        simp only [zlet]
        rw [chk_pos (by omega), chk_pos (by omega), zw_eq (by omega) (by omega)]
        have go : ∀ v, v = (if μ 148 x = s then -4 else μ 148 x) → Ok (f_X10_emptySlots_L2 s n (x + 1) (zup μ1 148 x v)) (fun μ' => (∀ k, k ≠ 148 → μ' k = μ k) ∧ MEm s μ μ') := by
          intro v hv
          refine ih (x + 1) _ (by omega) (by omega) (by omega) (fun k a => by rw [zup_n _ _ _ (by omega)]; exact f1 k a) (fun q a b => ?_)
          have hq2 := f2 q a b
          rw [zup_s]
          by_cases hqx : q = x
          · subst hqx
            rw [up1_s, hv]
            by_cases hqs : μ 148 q = s
            · rw [if_pos hqs, if_pos (by omega)]
            · rw [if_neg hqs, if_neg (by omega)]
          · rw [up1_n _ _ hqx, hq2]
            by_cases hqs : q < x ∧ μ 148 q = s
            · rw [if_pos hqs, if_pos (by omega)]
            · rw [if_neg hqs, if_neg (by omega)]
        by_cases hc : μ 148 x = s
        · rw [if_pos hc]
          exact go _ (by rw [if_pos hc])
        · rw [if_neg hc]
          exact go _ (by rw [if_neg hc])
      · rw [if_neg hx]
        refine ok_some.mpr ⟨f1, fun q a b => ?_⟩
        rw [f2 q a b]
        by_cases hqs : μ 148 q = s
        · rw [if_pos (by omega), if_pos hqs]
        · rw [if_neg (by omega), if_neg hqs]
  exact key zfu 0 μ (by omega) (by omega) (by decide) (fun _ _ => rfl) (fun q a b => by rw [if_neg (by omega)])
