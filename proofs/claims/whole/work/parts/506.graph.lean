/-! rows that are edges: pivots and what hangs together -/
def Cnn (E : Int → Int → Prop) (a b : Int) : Prop := ∀ S : Int → Prop, S a → (∀ x y, E x y → (S x ↔ S y)) → S b
theorem Cnn.refl (E : Int → Int → Prop) (a : Int) : Cnn E a a := fun _ h _ => h
theorem Cnn.symm {E : Int → Int → Prop} {a b : Int} (h : Cnn E a b) : Cnn E b a := by
  intro S hb hS
  have := h (fun x => S x → S a) (fun q => q) (fun x y e => by rw [hS x y e])
  exact this hb
theorem Cnn.trans {E : Int → Int → Prop} {a b c : Int} (h : Cnn E a b) (h' : Cnn E b c) : Cnn E a c := fun S ha hS => h' S (h S ha hS) hS
theorem Cnn.one {E : Int → Int → Prop} {a b : Int} (h : E a b) : Cnn E a b := fun S ha hS => (hS a b h).mp ha
theorem Cnn.mono {E E' : Int → Int → Prop} {a b : Int} (h : Cnn E a b) (hE : ∀ x y, E x y → Cnn E' x y) : Cnn E' a b := fun S ha hS => h S ha fun x y e => ⟨fun q => hE x y e S q hS, fun q => (hE x y e).symm S q hS⟩
def AdG (A : Mx) (r H c W x y : Int) : Prop := ∃ i, r ≤ i ∧ i < H ∧ c ≤ x ∧ x < W ∧ c ≤ y ∧ y < W ∧ A i x ≠ 0 ∧ A i y ≠ 0
/-- a row that is an edge: two cells, each the other's opposite -/
def ELr (U : Int → Prop) (ng : Int → Int) (c W : Int) (ρ : Int → Int) : Prop := (∀ k, c ≤ k → k < W → ρ k = 0) ∨ ∃ a b, c ≤ a ∧ a < W ∧ c ≤ b ∧ b < W ∧ a ≠ b ∧ U (ρ a) ∧ ρ b = ng (ρ a) ∧ ∀ k, c ≤ k → k < W → k ≠ a → k ≠ b → ρ k = 0
def VO (U : Int → Prop) (ng : Int → Int) : Prop := ∀ x, U x → x ≠ 0 ∧ U (ng x) ∧ ng (ng x) = x
def OpO (f : Int → Int → Int → Int → Int → Int) (M U : Int → Prop) (ng : Int → Int) : Prop := ∀ m x, M m → U x → M x ∧ (∀ P, f m x 0 P 0 = 0) ∧ (∀ y P P', U y → U (f m x 0 P y) ∧ f m x 0 P' (ng y) = ng (f m x 0 P y)) ∧ (∀ h, U h → f m x h 0 0 = 0 ∧ U (f m x h (ng x) 0) ∧ f m x h 0 (ng h) = ng (f m x h (ng x) 0) ∧ f m x h (ng x) (ng h) = 0)
theorem ELr.at {U : Int → Prop} {ng : Int → Int} {c W : Int} {ρ : Int → Int} (hv : VO U ng) (h : ELr U ng c W ρ) (hc : c < W) (h0 : ρ c ≠ 0) : ∃ b, c < b ∧ b < W ∧ U (ρ c) ∧ ρ b = ng (ρ c) ∧ ∀ k, c < k → k < W → k ≠ b → ρ k = 0 := by
  rcases h with h | ⟨a, b, a0, a1, b0, b1, hab, hU, hb, hk⟩
  · exact absurd (h c (by omega) hc) h0
  · by_cases e : a = c
    · subst e
      exact ⟨b, by omega, b1, hU, hb, fun k k0 k1 k2 => hk k (by omega) k1 (by omega) k2⟩
    · by_cases e' : b = c
      · subst e'
        have := hv _ hU
        refine ⟨a, by omega, a1, by rw [hb]; exact this.2.1, by rw [hb]; exact this.2.2.symm, fun k k0 k1 k2 => hk k (by omega) k1 k2 (by omega)⟩
      · exact absurd (hk c (by omega) hc (Ne.symm e) (Ne.symm e')) h0
theorem ELr.drop {U : Int → Prop} {ng : Int → Int} {c W : Int} {ρ : Int → Int} (hv : VO U ng) (h : ELr U ng c W ρ) (h0 : ρ c = 0) : ELr U ng (c + 1) W ρ := by
  rcases h with h | ⟨a, b, a0, a1, b0, b1, hab, hU, hb, hk⟩
  · exact Or.inl fun k k0 k1 => h k (by omega) k1
  · have v := hv _ hU
    have ha : a ≠ c := fun e => v.1 (by rw [e]; exact h0)
    have hb' : b ≠ c := fun e => (hv _ v.2.1).1 (by rw [← hb, e]; exact h0)
    exact Or.inr ⟨a, b, by omega, a1, by omega, b1, hab, hU, hb, fun k k0 k1 => hk k (by omega) k1⟩
/-- a pivot's step -/
theorem el_step {f : Int → Int → Int → Int → Int → Int} {M U : Int → Prop} {ng : Int → Int} {H W r c m : Int} {B : Mx} (hv : VO U ng) (hf : OpO f M U ng) (hm : M m) (hr : r < H) (hc : c < W) (hB : ∀ i, r ≤ i → i < H → ELr U ng c W (B i)) (h0 : B r c ≠ 0) : M (B r c) ∧ (∀ i, r + 1 ≤ i → i < H → ELr U ng (c + 1) W (nwR f m B r c i)) ∧ (∀ a b, c < a → a < W → c < b → b < W → (Cnn (AdG B r H c W) a b ↔ Cnn (AdG (nwR f m B r c) (r + 1) H (c + 1) W) a b)) := by
  obtain ⟨b, b0, b1, hU, hb, hk⟩ := (hB r (by omega) hr).at hv hc h0
  have o := hf m (B r c) hm hU
  have nv : ∀ i k, r < i → c < k → nwR f m B r c i k = f m (B r c) (B i c) (B r k) (B i k) := fun i k hi hk => by unfold nwR; rw [if_pos ⟨hi, by omega⟩]
  -- what a row below becomes
  have row0 : ∀ i, r < i → i < H → B i c = 0 → ELr U ng (c + 1) W (nwR f m B r c i) ∧ ∀ k, c < k → k < W → (nwR f m B r c i k ≠ 0 ↔ B i k ≠ 0) := by
    intro i i0 i1 hz
    have hE := (hB i (by omega) i1).drop hv hz
    rcases hE with hE | ⟨x, y, x0, x1, y0, y1, hxy, hUx, hy, hkk⟩
    · have z : ∀ k, c < k → k < W → nwR f m B r c i k = 0 := fun k k0 k1 => by rw [nv i k i0 k0, hz, hE k (by omega) k1]; exact o.2.1 _
      exact ⟨Or.inl fun k k0 k1 => z k (by omega) k1, fun k k0 k1 => ⟨fun q => absurd (z k k0 k1) q, fun q => absurd (hE k (by omega) k1) q⟩⟩
    · have z : ∀ k, c < k → k < W → k ≠ x → k ≠ y → nwR f m B r c i k = 0 := fun k k0 k1 k2 k3 => by rw [nv i k i0 k0, hz, hkk k (by omega) k1 k2 k3]; exact o.2.1 _
      have ex : nwR f m B r c i x = f m (B r c) 0 (B r x) (B i x) := by rw [nv i x i0 (by omega), hz]
      have ey : nwR f m B r c i y = f m (B r c) 0 (B r y) (ng (B i x)) := by rw [nv i y i0 (by omega), hz, hy]
      have o1 := o.2.2.1 (B i x) (B r x) (B r y) hUx
      refine ⟨Or.inr ⟨x, y, x0, x1, y0, y1, hxy, by rw [ex]; exact o1.1, by rw [ex, ey]; exact o1.2, fun k k0 k1 => z k (by omega) k1⟩, fun k k0 k1 => ?_⟩
      by_cases e : k = x
      · rw [e, ex]
        exact ⟨fun _ => (hv _ hUx).1, fun _ => (hv _ o1.1).1⟩
      · by_cases e' : k = y
        · rw [e', ey, o1.2, hy]
          exact ⟨fun _ => (hv _ (hv _ hUx).2.1).1, fun _ => (hv _ (hv _ o1.1).2.1).1⟩
        · exact ⟨fun q => absurd (z k k0 k1 e e') q, fun q => absurd (hkk k (by omega) k1 e e') q⟩
  have row1 : ∀ i, r < i → i < H → B i c ≠ 0 → ∃ d, c < d ∧ d < W ∧ B i d ≠ 0 ∧ (∀ k, c < k → k < W → k ≠ d → B i k = 0) ∧ ELr U ng (c + 1) W (nwR f m B r c i) ∧ (d ≠ b → nwR f m B r c i b ≠ 0 ∧ nwR f m B r c i d ≠ 0) ∧ (∀ k, c < k → k < W → (k ≠ b ∧ k ≠ d) ∨ d = b → nwR f m B r c i k = 0) := by
    intro i i0 i1 hz
    obtain ⟨d, d0, d1, hUi, hd, hkk⟩ := (hB i (by omega) i1).at hv hc hz
    have o1 := o.2.2.2 (B i c) hUi
    have ez : ∀ k, c < k → k < W → (k ≠ b ∧ k ≠ d) ∨ d = b → nwR f m B r c i k = 0 := by
      intro k k0 k1 hh
      rw [nv i k i0 k0]
      by_cases e : k = b ∨ k = d
      · have hdb : d = b := by omega
        have ek : k = b := by omega
        rw [ek, hb, ← hdb, hd]
        exact o1.2.2.2
      · rw [hk k k0 k1 (by omega), hkk k k0 k1 (by omega)]
        exact o1.1
    refine ⟨d, d0, d1, by rw [hd]; exact (hv _ (hv _ hUi).2.1).1, hkk, ?_, ?_, ez⟩
    · by_cases e : d = b
      · exact Or.inl fun k k0 k1 => ez k (by omega) k1 (Or.inr e)
      · have eb : nwR f m B r c i b = f m (B r c) (B i c) (ng (B r c)) 0 := by rw [nv i b i0 b0, hb, hkk b b0 b1 (Ne.symm e)]
        have ed : nwR f m B r c i d = f m (B r c) (B i c) 0 (ng (B i c)) := by rw [nv i d i0 d0, hd, hk d d0 d1 e]
        exact Or.inr ⟨b, d, by omega, b1, by omega, d1, Ne.symm e, by rw [eb]; exact o1.2.1, by rw [eb, ed]; exact o1.2.2.1, fun k k0 k1 k2 k3 => ez k (by omega) k1 (Or.inl ⟨k2, k3⟩)⟩
    · intro e
      have eb : nwR f m B r c i b = f m (B r c) (B i c) (ng (B r c)) 0 := by rw [nv i b i0 b0, hb, hkk b b0 b1 (Ne.symm e)]
      have ed : nwR f m B r c i d = f m (B r c) (B i c) 0 (ng (B i c)) := by rw [nv i d i0 d0, hd, hk d d0 d1 e]
      exact ⟨by rw [eb]; exact (hv _ o1.2.1).1, by rw [ed, o1.2.2.1]; exact (hv _ (hv _ o1.2.1).2.1).1⟩
  refine ⟨o.1, fun i i0 i1 => ?_, fun x y x0 x1 y0 y1 => ⟨fun h S hx hS => ?_, fun h => ?_⟩⟩
  · by_cases hz : B i c = 0
    · exact (row0 i (by omega) i1 hz).1
    · obtain ⟨d, _, _, _, _, he, _⟩ := row1 i (by omega) i1 hz
      exact he
  · have := h (fun z => if z = c then S b else S z) (by rw [if_neg (by omega)]; exact hx) (fun p q e => ?_)
    · rw [if_neg (by omega)] at this
      exact this
    · obtain ⟨i, i0, i1, p0, p1, q0, q1, hp, hq⟩ := e
      by_cases hir : i = r
      · subst hir
        have s : ∀ z, c ≤ z → z < W → B i z ≠ 0 → ((if z = c then S b else S z) ↔ S b) := by
          intro z z0 z1 hz
          by_cases e : z = c
          · rw [if_pos e]
          · rw [if_neg e]
            by_cases e' : z = b
            · rw [e']
            · exact absurd (hk z (by omega) z1 e') hz
        rw [s p p0 p1 hp, s q q0 q1 hq]
      · by_cases hz : B i c = 0
        · have rw0 := (row0 i (by omega) i1 hz).2
          have hpc : p ≠ c := fun e => hp (by rw [e]; exact hz)
          have hqc : q ≠ c := fun e => hq (by rw [e]; exact hz)
          rw [if_neg hpc, if_neg hqc]
          exact hS p q ⟨i, by omega, i1, by omega, p1, by omega, q1, (rw0 p (by omega) p1).mpr hp, (rw0 q (by omega) q1).mpr hq⟩
        · obtain ⟨d, d0, d1, hdn, hkk, _, hne, _⟩ := row1 i (by omega) i1 hz
          have s : ∀ z, c ≤ z → z < W → B i z ≠ 0 → ((if z = c then S b else S z) ↔ S b) := by
            intro z z0 z1 hzz
            by_cases e : z = c
            · rw [if_pos e]
            · rw [if_neg e]
              by_cases e' : z = d
              · subst e'
                by_cases e2 : z = b
                · rw [e2]
                · have n1 := hne e2
                  exact hS z b ⟨i, by omega, i1, by omega, z1, by omega, b1, n1.2, n1.1⟩
              · exact absurd (hkk z (by omega) z1 e') hzz
          rw [s p p0 p1 hp, s q q0 q1 hq]
  · refine h.mono fun p q e => ?_
    obtain ⟨i, i0, i1, p0, p1, q0, q1, hp, hq⟩ := e
    by_cases hz : B i c = 0
    · have rw0 := (row0 i (by omega) i1 hz).2
      exact Cnn.one ⟨i, by omega, i1, by omega, p1, by omega, q1, (rw0 p (by omega) p1).mp hp, (rw0 q (by omega) q1).mp hq⟩
    · obtain ⟨d, d0, d1, hdn, hkk, _, hne, hzz⟩ := row1 i (by omega) i1 hz
      have cb : Cnn (AdG B r H c W) c b := Cnn.one ⟨r, by omega, hr, by omega, hc, by omega, b1, h0, by rw [hb]; exact (hv _ (hv _ hU).2.1).1⟩
      have cd : Cnn (AdG B r H c W) c d := Cnn.one ⟨i, by omega, i1, by omega, hc, by omega, d1, hz, hdn⟩
      have s : ∀ z, c + 1 ≤ z → z < W → nwR f m B r c i z ≠ 0 → Cnn (AdG B r H c W) c z := by
        intro z z0 z1 hn
        by_cases e : z = b
        · rw [e]; exact cb
        · by_cases e' : z = d
          · rw [e']; exact cd
          · exact absurd (hzz z (by omega) z1 (Or.inl ⟨e, e'⟩)) hn
      exact (s p p0 p1 hp).symm.trans (s q q0 q1 hq)
noncomputable def pvB (K : Int → Int → Prop) (W c : Int) : Bool := @decide (∃ d, c < d ∧ d < W ∧ K c d) (Classical.propDecidable _)
theorem pvB_iff {K : Int → Int → Prop} {W c : Int} : pvB K W c = true ↔ ∃ d, c < d ∧ d < W ∧ K c d := @decide_eq_true_iff _ (Classical.propDecidable _)
noncomputable def cpv (K : Int → Int → Prop) (W : Int) : Nat → Int → Int
  | 0, _ => 0
  | n + 1, c => b2i (pvB K W c) + cpv K W n (c + 1)
theorem el_edges {f : Int → Int → Int → Int → Int → Int} {M U : Int → Prop} {ng : Int → Int} {H W : Int} {K : Int → Int → Prop} (hv : VO U ng) (hf : OpO f M U ng) : ∀ (n : Nat) (m r c : Int) (A : Mx), M m → 0 ≤ r → r ≤ H → c + n = W → (∀ i, r ≤ i → i < H → ELr U ng c W (A i)) → (∀ a b, c ≤ a → a < W → c ≤ b → b < W → (K a b ↔ Cnn (AdG A r H c W) a b)) → elG f H n m r c A = r + cpv K W n c := by
  intro n
  induction n with
  | zero =>
    intro m r c A hm r0 r1 hc hA hK
    show r = r + 0
    omega
  | succ n ih =>
    intro m r c A hm r0 r1 hc hA hK
    have piv : (∃ i, r ≤ i ∧ i < H ∧ A i c ≠ 0) ↔ pvB K W c = true := by
      rw [pvB_iff]
      constructor
      · rintro ⟨i, i0, i1, hi⟩
        obtain ⟨b, b0, b1, hU, hb, _⟩ := (hA i i0 i1).at hv (by omega) hi
        exact ⟨b, b0, b1, (hK c b (by omega) (by omega) (by omega) b1).mpr (Cnn.one ⟨i, i0, i1, by omega, by omega, by omega, b1, hi, by rw [hb]; exact (hv _ (hv _ hU).2.1).1⟩)⟩
      · rintro ⟨d, d0, d1, hd⟩
        by_cases hh : ∃ i, r ≤ i ∧ i < H ∧ A i c ≠ 0
        · exact hh
        · exfalso
          have := (hK c d (by omega) (by omega) (by omega) d1).mp hd (fun z => z = c) rfl (fun x y e => by
            obtain ⟨i, i0, i1, _, _, _, _, hx, hy⟩ := e
            constructor
            · intro e1; exact absurd ⟨i, i0, i1, by rw [← e1]; exact hx⟩ hh
            · intro e1; exact absurd ⟨i, i0, i1, by rw [← e1]; exact hy⟩ hh)
          omega
    unfold elG cpv
    by_cases hrH : r < H
    · rw [if_pos hrH]
      have hs := fsR_spec A c (H - r).toNat r r0
      generalize fsR A c (H - r).toNat r = v at *
      rcases hs with ⟨q, q'⟩ | ⟨q1, q2, q3⟩
      · have hno : pvB K W c = false := by
          rw [Bool.eq_false_iff]
          intro hh
          obtain ⟨i, i0, i1, hi⟩ := piv.mpr hh
          exact hi (q' i i0 (by omega))
        rw [if_pos q, hno]
        have := ih m r (c + 1) A hm r0 r1 (by omega) (fun i i0 i1 => (hA i i0 i1).drop hv (q' i i0 (by omega))) (fun a b a0 a1 b0 b1 => by
          rw [hK a b (by omega) a1 (by omega) b1]
          constructor
          · intro h S ha hS
            refine h S ha fun x y e => ?_
            obtain ⟨i, i0, i1, x0, x1, y0, y1, hx, hy⟩ := e
            have hxc : x ≠ c := fun e => hx (by rw [e]; exact q' i i0 (by omega))
            have hyc : y ≠ c := fun e => hy (by rw [e]; exact q' i i0 (by omega))
            exact hS x y ⟨i, i0, i1, by omega, x1, by omega, y1, hx, hy⟩
          · intro h
            refine h.mono fun x y e => ?_
            obtain ⟨i, i0, i1, x0, x1, y0, y1, hx, hy⟩ := e
            exact Cnn.one ⟨i, i0, i1, by omega, x1, by omega, y1, hx, hy⟩)
        rw [this]
        show r + cpv K W n (c + 1) = r + (0 + cpv K W n (c + 1))
        omega
      · have hyes : pvB K W c = true := piv.mp ⟨v, q1, by omega, q3⟩
        rw [if_neg (by omega), hyes]
        have hsw : ∀ i, r ≤ i → i < H → ∃ j, r ≤ j ∧ j < H ∧ ∀ k, swp A v r i k = A j k := by
          intro i i0 i1
          by_cases e : i = v
          · exact ⟨r, by omega, hrH, fun k => by unfold swp; rw [if_pos e]⟩
          · by_cases e' : i = r
            · exact ⟨v, q1, by omega, fun k => by unfold swp; rw [if_neg e, if_pos e']⟩
            · exact ⟨i, i0, i1, fun k => by unfold swp; rw [if_neg e, if_neg e']⟩
        have hsw2 : ∀ i, r ≤ i → i < H → ∃ j, r ≤ j ∧ j < H ∧ ∀ k, A i k = swp A v r j k := by
          intro i i0 i1
          by_cases e : i = v
          · by_cases e' : v = r
            · exact ⟨i, i0, i1, fun k => by unfold swp; rw [if_pos e, e, e']⟩
            · exact ⟨r, by omega, hrH, fun k => by unfold swp; rw [if_neg (by omega), if_pos rfl, e]⟩
          · by_cases e' : i = r
            · exact ⟨v, q1, by omega, fun k => by unfold swp; rw [if_pos rfl, e']⟩
            · exact ⟨i, i0, i1, fun k => by unfold swp; rw [if_neg e, if_neg e']⟩
        have hrc : swp A v r r c = A v c := by
          unfold swp
          by_cases e : r = v
          · rw [if_pos e, e]
          · rw [if_neg e, if_pos rfl]
        have hB : ∀ i, r ≤ i → i < H → ELr U ng c W (swp A v r i) := by
          intro i i0 i1
          obtain ⟨j, j0, j1, hj⟩ := hsw i i0 i1
          have : swp A v r i = A j := funext hj
          rw [this]
          exact hA j j0 j1
        obtain ⟨s1, s2, s3⟩ := el_step hv hf hm hrH (by omega) hB (by rw [hrc]; exact q3)
        rw [hrc] at s1
        have := ih (A v c) (r + 1) (c + 1) (nwR f m (swp A v r) r c) s1 (by omega) (by omega) (by omega) s2 (fun a b a0 a1 b0 b1 => by
          rw [hK a b (by omega) a1 (by omega) b1, ← s3 a b (by omega) a1 (by omega) b1]
          constructor
          · intro h
            refine h.mono fun x y e => ?_
            obtain ⟨i, i0, i1, x0, x1, y0, y1, hx, hy⟩ := e
            obtain ⟨j, j0, j1, hj⟩ := hsw2 i i0 i1
            exact Cnn.one ⟨j, j0, j1, x0, x1, y0, y1, by rw [← hj]; exact hx, by rw [← hj]; exact hy⟩
          · intro h
            refine h.mono fun x y e => ?_
            obtain ⟨i, i0, i1, x0, x1, y0, y1, hx, hy⟩ := e
            obtain ⟨j, j0, j1, hj⟩ := hsw i i0 i1
            exact Cnn.one ⟨j, j0, j1, x0, x1, y0, y1, by rw [← hj]; exact hx, by rw [← hj]; exact hy⟩)
        refine Eq.trans this ?_
        show r + 1 + cpv K W n (c + 1) = r + (1 + cpv K W n (c + 1))
        omega
    · rw [if_neg hrH]
      have hall : ∀ (n : Nat) (c' : Int), c ≤ c' → c' + n = W → cpv K W n c' = 0 := by
        intro n
        induction n with
        | zero => intro c' _ _; rfl
        | succ n ihn =>
          intro c' c0 c1
          have hno : pvB K W c' = false := by
            rw [Bool.eq_false_iff, Ne, pvB_iff]
            rintro ⟨d, d0, d1, hd⟩
            have := (hK c' d c0 (by omega) (by omega) d1).mp hd (fun z => z = c') rfl (fun x y e => by
              obtain ⟨i, i0, i1, _⟩ := e
              omega)
            omega
          show b2i (pvB K W c') + cpv K W n (c' + 1) = 0
          rw [hno, ihn (c' + 1) (by omega) (by omega)]
          rfl
      have := hall (n + 1) c (by omega) (by omega)
      have e : cpv K W (n + 1) c = b2i (pvB K W c) + cpv K W n (c + 1) := rfl
      omega
