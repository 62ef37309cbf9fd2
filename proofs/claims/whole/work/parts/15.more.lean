def zfu : Nat := 4000000
def zlet {α β : Type} (x : α) (k : α → β) : β := k x
theorem zlet_elim {α β : Type} {x : α} {k : α → β} {res : β} {P : Prop} (h : zlet x k = res) (kk : ∀ y, y = x → k y = res → P) : P := kk x rfl h
def bnd2 {β : Type} (x : Option (Int × zMem)) (k : Int → zMem → Option β) : Option β := x.bind (fun q => k q.1 q.2)
theorem bnd2_some {β : Type} {x : Option (Int × zMem)} {k : Int → zMem → Option β} {r : β} (h : bnd2 x k = some r) : ∃ v μ, x = some (v, μ) ∧ k v μ = some r := by
  cases x with
  | none => cases h
  | some v => exact ⟨v.1, v.2, rfl, h⟩
theorem bnd2_pos {β : Type} {x : Option (Int × zMem)} {k : Int → zMem → Option β} {v : Int} {μ : zMem} (h : x = some (v, μ)) : bnd2 x k = k v μ := by rw [h]; rfl
def zIc (Ω : zO) : Prop := (∀ k : Int, 1 ≤ k ∧ k ≤ 85 → k ∈ Ω.2.2.1.1) ∧ ∀ k : Int, 1 ≤ k ∧ k ≤ 85 → k ∈ Ω.2.2.1.2
def zIm (Ω : zO) : Prop := (∀ k : Int, 101 ≤ k ∧ k ≤ 160 ∧ (zsh k).1 ≠ 0 → k ∈ Ω.2.2.1.1) ∧ 101 ∈ Ω.2.2.1.2
theorem rgz {x : Int} (h : 0 ≤ x ∧ x ≤ 1) : Rg x := ⟨by omega, by omega⟩
theorem rgc {x : Int} (h : 0 ≤ x ∧ x ≤ 65535) : Rg x := ⟨by omega, by omega⟩
theorem zlen_rg (k : Int) : Rg (zlen k) := by
  have := zsh_small k
  exact ⟨by unfold zlen; omega, by unfold zlen; omega⟩
theorem zroom {d D maxL : Nat} (h : d < D) (hL : maxL ≤ 41) : d + 1 + 1 ≤ (zrm D).frames ∧ 8 + (maxL + 11) + (60 * d + 60) ≤ (zrm D).locals := by
  show d + 1 + 1 ≤ D + 1 ∧ 8 + (maxL + 11) + (60 * d + 60) ≤ 60 * D + 60
  omega
/-! what memory holds -/
section ZG
variable {ids : List Int × List Int} {μ : zMem} {k i v : Int}
theorem zrg1 (hT : zT ids μ) (hk : k ∈ ids.1) (hs : (zsh k).1 = 1) : Rg (μ k i) := by have := hT k hk i; unfold zok at this; rw [hs] at this; exact this
theorem zrg2 (hT : zT ids μ) (hk : k ∈ ids.1) (hs : (zsh k).1 = 2) : Rl (μ k i) := by have := hT k hk i; unfold zok at this; rw [hs] at this; exact this
theorem zrg3 (hT : zT ids μ) (hk : k ∈ ids.1) (hs : (zsh k).1 = 3) : 0 ≤ μ k i ∧ μ k i ≤ 1 := by have := hT k hk i; unfold zok at this; rw [hs] at this; exact this
theorem zrg4 (hT : zT ids μ) (hk : k ∈ ids.1) (hs : (zsh k).1 = 4) : 0 ≤ μ k i ∧ μ k i ≤ 65535 := by have := hT k hk i; unfold zok at this; rw [hs] at this; exact this
theorem zrg5 (hT : zT ids μ) (hk : k ∈ ids.1) (hs : (zsh k).1 = 5) : μ k i = 0 ∨ zob ids 5 (μ k i) := by have := hT k hk i; unfold zok at this; rw [hs] at this; exact this
theorem zrg6 (hT : zT ids μ) (hk : k ∈ ids.1) (hs : (zsh k).1 = 6) : μ k i = 0 ∨ zob ids 8 (μ k i) := by have := hT k hk i; unfold zok at this; rw [hs] at this; exact this
theorem zrg7 (hT : zT ids μ) (hk : k ∈ ids.1) (hs : (zsh k).1 = 7) : μ k i = 0 ∨ zob ids 3 (μ k i) := by have := hT k hk i; unfold zok at this; rw [hs] at this; exact this
theorem zrg8 (hT : zT ids μ) (hk : k ∈ ids.1) (hs : (zsh k).1 = 8) : μ k i = 0 ∨ zob ids 4 (μ k i) := by have := hT k hk i; unfold zok at this; rw [hs] at this; exact this
theorem zok_obj {ci N : Nat} (hs : zsh k = (10 + ci, N)) : zok ids k i v ↔ (match (zfk ci i.toNat).1 with | 0 => Rg v | 1 => Rl v | 2 => 0 ≤ v ∧ v ≤ 1 | 3 => (v = 0 ∨ v ∈ ids.1) ∧ (0 ≤ i → k ∈ ids.2 → v = k + (zfk ci i.toNat).2) | _ => v = 0 ∨ zob ids (zfk ci i.toNat).2.toNat v) := by
  unfold zok
  rw [hs]
  have h : (10 + ci) - 10 = ci := by omega
  split <;> first | (rename_i h0; exact absurd h0 (by simp only []; omega)) | (rw [h]; exact Iff.rfl)
theorem zrgf0 (hT : zT ids μ) (hk : k ∈ ids.1) {ci N : Nat} (hs : zsh k = (10 + ci, N)) (j : Nat) (hf : (zfk ci j).1 = 0) : Rg (μ k (j : Int)) := by have := (zok_obj hs).mp (hT k hk (j : Int)); rw [Int.toNat_natCast, hf] at this; exact this
theorem zrgf1 (hT : zT ids μ) (hk : k ∈ ids.1) {ci N : Nat} (hs : zsh k = (10 + ci, N)) (j : Nat) (hf : (zfk ci j).1 = 1) : Rl (μ k (j : Int)) := by have := (zok_obj hs).mp (hT k hk (j : Int)); rw [Int.toNat_natCast, hf] at this; exact this
theorem zrgf2 (hT : zT ids μ) (hk : k ∈ ids.1) {ci N : Nat} (hs : zsh k = (10 + ci, N)) (j : Nat) (hf : (zfk ci j).1 = 2) : 0 ≤ μ k (j : Int) ∧ μ k (j : Int) ≤ 1 := by have := (zok_obj hs).mp (hT k hk (j : Int)); rw [Int.toNat_natCast, hf] at this; exact this
theorem zrgf4 (hT : zT ids μ) (hk : k ∈ ids.1) {ci N : Nat} (hs : zsh k = (10 + ci, N)) (j co : Nat) (hf : (zfk ci j).1 = 4) (hg : (zfk ci j).2.toNat = co) : μ k (j : Int) = 0 ∨ zob ids co (μ k (j : Int)) := by have := (zok_obj hs).mp (hT k hk (j : Int)); rw [Int.toNat_natCast, hf, hg] at this; exact this
theorem zok1 (hs : (zsh k).1 = 1) (g : Rg v) : zok ids k i v := by unfold zok; rw [hs]; exact g
theorem zok2 (hs : (zsh k).1 = 2) (g : Rl v) : zok ids k i v := by unfold zok; rw [hs]; exact g
theorem zz_01 (x : Int) : 0 ≤ zz x ∧ zz x ≤ 1 := by
  have h : ∀ w : Int32, 0 ≤ (w &&& 1).toInt ∧ (w &&& 1).toInt ≤ 1 := by
    intro w
    have h1 : (w &&& 1) = 0 ∨ (w &&& 1) = 1 := by
      have h3 : (w.toBitVec &&& 1#32).toNat = w.toBitVec.toNat % 2 := by rw [BitVec.toNat_and]; exact Nat.and_one_is_mod _
      have : (w.toBitVec &&& 1#32) = 0#32 ∨ (w.toBitVec &&& 1#32) = 1#32 := by
        rcases Nat.mod_two_eq_zero_or_one w.toBitVec.toNat with h | h
        · exact Or.inl (BitVec.eq_of_toNat_eq (by rw [h3, h]; rfl))
        · exact Or.inr (BitVec.eq_of_toNat_eq (by rw [h3, h]; rfl))
      rcases this with h | h
      · exact Or.inl (Int32.toBitVec_inj.mp h)
      · exact Or.inr (Int32.toBitVec_inj.mp h)
    rcases h1 with h | h <;> rw [h] <;> decide
  exact h (Int32.ofInt x)
theorem zc_16 (x : Int) : 0 ≤ zc x ∧ zc x ≤ 65535 := by
  have h : ∀ w : Int32, 0 ≤ (w.toUInt32.toUInt16.toUInt32.toInt32).toInt ∧ (w.toUInt32.toUInt16.toUInt32.toInt32).toInt ≤ 65535 := by
    intro w
    generalize w.toUInt32.toUInt16 = u
    have hu : u.toNat < 65536 := u.toNat_lt
    have h2 : (u.toUInt32.toInt32).toInt = (u.toNat : Int) := by
      rw [show (u.toUInt32.toInt32).toInt = u.toUInt32.toBitVec.toInt from rfl, BitVec.toInt_eq_toNat_of_lt]
      · rfl
      · show 2 * u.toUInt32.toNat < 2 ^ 32
        rw [UInt16.toNat_toUInt32]
        omega
    omega
  exact h (Int32.ofInt x)
theorem zok3 (hs : (zsh k).1 = 3) : zok ids k i (zz v) := by unfold zok; rw [hs]; exact zz_01 v
theorem zok4 (hs : (zsh k).1 = 4) : zok ids k i (zc v) := by unfold zok; rw [hs]; exact zc_16 v
theorem zok5 (hs : (zsh k).1 = 5) (h : zob ids 5 v) : zok ids k i v := by unfold zok; rw [hs]; exact Or.inr h
theorem zob.self {ci : Nat} (h : zob ids ci k) : k ∈ ids.1 := by
  have := h.2.1 0 (by decide) (by
    unfold zsz
    split
    · decide
    · split <;> decide)
  rwa [Int.add_zero] at this
theorem zob.ne {ci : Nat} (h : zob ids ci k) : k ≠ 0 := by
  intro e
  subst e
  have h1 : (zsh 0).1 = 10 + ci := h.1
  rw [show (zsh 0).1 = 0 from rfl] at h1
  omega
/-- the numbers of the cells of a shape -/
theorem zsh_inv {a : Nat} (ha : a ≠ 0) (h : (zsh k).1 = a) : ∃ n : Nat, k = (n : Int) ∧ n < zshL.length ∧ (zshL.getD n (0, 0)).1 = a := by
  have hk : 0 ≤ k := by
    rcases Int.lt_or_le k 0 with h0 | h0
    · exfalso
      have : k.toNat = 0 := by omega
      unfold zsh at h
      rw [this] at h
      exact ha h.symm
    · exact h0
  refine ⟨k.toNat, by omega, ?_, h⟩
  rcases Nat.lt_or_ge k.toNat zshL.length with h0 | h0
  · exact h0
  · exfalso
    unfold zsh at h
    rw [List.getD_eq_getElem?_getD, List.getElem?_eq_none h0] at h
    exact ha h.symm
theorem zin5 (h : (zsh k).1 = 10 + 5) : k = 4 ∨ k = 37 ∨ k = 44 ∨ k = 51 := by
  obtain ⟨n, rfl, hn, h1⟩ := zsh_inv (a := 15) (by decide) h
  have h2 : n = 4 ∨ n = 37 ∨ n = 44 ∨ n = 51 := (by decide +kernel : ∀ n, n < zshL.length → (zshL.getD n (0, 0)).1 = 15 → n = 4 ∨ n = 37 ∨ n = 44 ∨ n = 51) n hn h1
  omega
theorem zo5 (h : zob ids 5 k) : zsh k = (10 + 5, 11) := by
  rcases zin5 h.1 with h | h | h | h <;> subst h <;> rfl
theorem zo5_1 (h : zob ids 5 k) : (zsh (k + 1)).1 = 1 := by
  rcases zin5 h.1 with h | h | h | h <;> subst h <;> rfl
theorem zo5_2 (h : zob ids 5 k) : (zsh (k + 2)).1 = 1 := by
  rcases zin5 h.1 with h | h | h | h <;> subst h <;> rfl
theorem zo5_3 (h : zob ids 5 k) : (zsh (k + 3)).1 = 1 := by
  rcases zin5 h.1 with h | h | h | h <;> subst h <;> rfl
theorem zo5_4 (h : zob ids 5 k) : (zsh (k + 4)).1 = 3 := by
  rcases zin5 h.1 with h | h | h | h <;> subst h <;> rfl
theorem zo5_5 (h : zob ids 5 k) : (zsh (k + 5)).1 = 1 := by
  rcases zin5 h.1 with h | h | h | h <;> subst h <;> rfl
theorem zo5_6 (h : zob ids 5 k) : (zsh (k + 6)).1 = 1 := by
  rcases zin5 h.1 with h | h | h | h <;> subst h <;> rfl
theorem zoc5 {Ω : zO} (hI : zIc Ω) (k : Int) (hs : (zsh k).1 = 10 + 5) (hb : 1 ≤ k ∧ k + 6 ≤ 85) : zob Ω.2.2.1 5 k := ⟨hs, fun j h0 h1 => hI.1 (k + j) ⟨by omega, by have : j < 7 := h1; omega⟩, hI.2 k ⟨by omega, by omega⟩⟩
theorem zin8 (h : (zsh k).1 = 10 + 8) : k = 21 ∨ k = 58 ∨ k = 60 ∨ k = 62 ∨ k = 64 := by
  obtain ⟨n, rfl, hn, h1⟩ := zsh_inv (a := 18) (by decide) h
  have h2 : n = 21 ∨ n = 58 ∨ n = 60 ∨ n = 62 ∨ n = 64 := (by decide +kernel : ∀ n, n < zshL.length → (zshL.getD n (0, 0)).1 = 18 → n = 21 ∨ n = 58 ∨ n = 60 ∨ n = 62 ∨ n = 64) n hn h1
  omega
theorem zo8 (h : zob ids 8 k) : zsh k = (10 + 8, 5) := by
  rcases zin8 h.1 with h | h | h | h | h <;> subst h <;> rfl
theorem zo8_1 (h : zob ids 8 k) : (zsh (k + 1)).1 = 1 := by
  rcases zin8 h.1 with h | h | h | h | h <;> subst h <;> rfl
theorem zoc8 {Ω : zO} (hI : zIc Ω) (k : Int) (hs : (zsh k).1 = 10 + 8) (hb : 1 ≤ k ∧ k + 1 ≤ 85) : zob Ω.2.2.1 8 k := ⟨hs, fun j h0 h1 => hI.1 (k + j) ⟨by omega, by have : j < 2 := h1; omega⟩, hI.2 k ⟨by omega, by omega⟩⟩
theorem zin3 (h : (zsh k).1 = 10 + 3) : k = 66 ∨ k = 68 ∨ k = 70 ∨ k = 72 := by
  obtain ⟨n, rfl, hn, h1⟩ := zsh_inv (a := 13) (by decide) h
  have h2 : n = 66 ∨ n = 68 ∨ n = 70 ∨ n = 72 := (by decide +kernel : ∀ n, n < zshL.length → (zshL.getD n (0, 0)).1 = 13 → n = 66 ∨ n = 68 ∨ n = 70 ∨ n = 72) n hn h1
  omega
theorem zo3 (h : zob ids 3 k) : zsh k = (10 + 3, 3) := by
  rcases zin3 h.1 with h | h | h | h <;> subst h <;> rfl
theorem zo3_1 (h : zob ids 3 k) : (zsh (k + 1)).1 = 1 := by
  rcases zin3 h.1 with h | h | h | h <;> subst h <;> rfl
theorem zoc3 {Ω : zO} (hI : zIc Ω) (k : Int) (hs : (zsh k).1 = 10 + 3) (hb : 1 ≤ k ∧ k + 1 ≤ 85) : zob Ω.2.2.1 3 k := ⟨hs, fun j h0 h1 => hI.1 (k + j) ⟨by omega, by have : j < 2 := h1; omega⟩, hI.2 k ⟨by omega, by omega⟩⟩
theorem zin4 (h : (zsh k).1 = 10 + 4) : k = 74 ∨ k = 78 ∨ k = 82 := by
  obtain ⟨n, rfl, hn, h1⟩ := zsh_inv (a := 14) (by decide) h
  have h2 : n = 74 ∨ n = 78 ∨ n = 82 := (by decide +kernel : ∀ n, n < zshL.length → (zshL.getD n (0, 0)).1 = 14 → n = 74 ∨ n = 78 ∨ n = 82) n hn h1
  omega
theorem zo4 (h : zob ids 4 k) : zsh k = (10 + 4, 5) := by
  rcases zin4 h.1 with h | h | h <;> subst h <;> rfl
theorem zo4_1 (h : zob ids 4 k) : (zsh (k + 1)).1 = 1 := by
  rcases zin4 h.1 with h | h | h <;> subst h <;> rfl
theorem zo4_2 (h : zob ids 4 k) : (zsh (k + 2)).1 = 1 := by
  rcases zin4 h.1 with h | h | h <;> subst h <;> rfl
theorem zo4_3 (h : zob ids 4 k) : (zsh (k + 3)).1 = 1 := by
  rcases zin4 h.1 with h | h | h <;> subst h <;> rfl
theorem zoc4 {Ω : zO} (hI : zIc Ω) (k : Int) (hs : (zsh k).1 = 10 + 4) (hb : 1 ≤ k ∧ k + 3 ≤ 85) : zob Ω.2.2.1 4 k := ⟨hs, fun j h0 h1 => hI.1 (k + j) ⟨by omega, by have : j < 4 := h1; omega⟩, hI.2 k ⟨by omega, by omega⟩⟩
theorem zsh_ne (h : (zsh k).1 ≠ 0) : k ≠ 0 := fun e => h (by rw [e]; rfl)
theorem zfvF {Ω : zO} (hT : zT Ω.2.2.1 μ) (hk : k ∈ Ω.2.2.1.1) (hf : k ∈ Ω.2.2.1.2) {ci N j : Nat} {off : Int} (hs : zsh k = (10 + ci, N)) (hz : zfk ci j = (3, off)) (h0 : (zsh (k + off)).1 ≠ 0) : zfv Ω μ k ci j = zR Ω (k + off) := by
  have h := (zok_obj hs).mp (hT k hk (j : Int))
  rw [Int.toNat_natCast, hz] at h
  have h1 : μ k (j : Int) = k + off := h.2 (by omega) hf
  unfold zfv
  rw [hz]
  show zQ Ω (μ k (j : Int)) = zR Ω (k + off)
  rw [h1, zQ_pos Ω (zsh_ne h0)]
end ZG
def zmin (x y : Int) : Int := if y < x then y else x
def zmax (x y : Int) : Int := if y < x then x else y
def zmaxi (x y : Int) : Int := if x < y then y else x
def zlabs (x : Int) : Int := if 0 < x then x else zl (-x)
theorem zmin_rg {x y : Int} (hx : Rg x) (hy : Rg y) : Rg (zmin x y) := Rg.i hy hx
theorem zmaxi_rg {x y : Int} (hx : Rg x) (hy : Rg y) : Rg (zmaxi x y) := Rg.i hy hx
theorem zmax_rl {x y : Int} (hx : Rl x) (hy : Rl y) : Rl (zmax x y) := Rl.i hx hy
theorem zlabs_rl {x : Int} (hx : Rl x) : Rl (zlabs x) := Rl.i hx (Rl.w _)
theorem zltL {x y : Int} (hx : Rl x) (hy : Rl y) : Int64.ofInt x < Int64.ofInt y ↔ x < y := by rw [Int64.lt_iff_toInt_lt, hx.v, hy.v]
theorem zk0 : zCl 0 RX0 TX0 10 tyX0 := ⟨fun w h => zg (inX0 w h) ((by decide +kernel : ∀ w ∈ wsX00, goodWord w = true) w h), rfl, tyX0_ok, nmX0⟩
theorem zk1 : zCl 1 RX1 TX1 9 tyX1 := ⟨fun w h => zg (inX1 w h) ((by decide +kernel : ∀ w ∈ wsX10, goodWord w = true) w h), rfl, tyX1_ok, nmX1⟩
theorem zk2 : zCl 2 RX2 TX2 7 tyX2 := ⟨fun w h => zg (inX2 w h) ((by decide +kernel : ∀ w ∈ wsX20, goodWord w = true) w h), rfl, tyX2_ok, nmX2⟩
theorem zk3 : zCl 3 RX3 TX3 3 tyX3 := ⟨fun w h => zg (inX3 w h) ((by decide +kernel : ∀ w ∈ wsX30, goodWord w = true) w h), rfl, tyX3_ok, nmX3⟩
theorem zk4 : zCl 4 RX4 TX4 5 tyX4 := ⟨fun w h => zg (inX4 w h) ((by decide +kernel : ∀ w ∈ wsX40, goodWord w = true) w h), rfl, tyX4_ok, nmX4⟩
theorem zk5 : zCl 5 RX5 TX5 11 tyX5 := ⟨fun w h => zg (inX5 w h) ((by decide +kernel : ∀ w ∈ wsX50, goodWord w = true) w h), rfl, tyX5_ok, nmX5⟩
theorem zk6 : zCl 6 RX6 TX6 10 tyX6 := ⟨fun w h => zg (inX6 w h) ((by decide +kernel : ∀ w ∈ wsX60, goodWord w = true) w h), rfl, tyX6_ok, nmX6⟩
theorem zk7 : zCl 7 RX7 TX7 3 tyX7 := ⟨fun w h => zg (inX7 w h) ((by decide +kernel : ∀ w ∈ wsX70, goodWord w = true) w h), rfl, tyX7_ok, nmX7⟩
theorem zk8 : zCl 8 RX8 TX8 5 tyX8 := ⟨fun w h => zg (inX8 w h) ((by decide +kernel : ∀ w ∈ wsX80, goodWord w = true) w h), rfl, tyX8_ok, nmX8⟩
theorem zk9 : zCl 9 RX9 TX9 11 tyX9 := ⟨fun w h => zg (inX9 w h) ((by decide +kernel : ∀ w ∈ wsX90, goodWord w = true) w h), rfl, tyX9_ok, nmX9⟩
theorem zk10 : zCl 10 RX10 TX10 59 tyX10 := ⟨fun w h => zg (inX10 w h) ((by decide +kernel : ∀ w ∈ wsX100, goodWord w = true) w h), rfl, tyX10_ok, nmX10⟩
section ZP
variable {p : Program} {l : Launch} {e : Env} {R : Room} {s : State} {m : MethodId} {args : Array Value} {below : List Frame} {meth : Method} {c : Code} {H : Heap} {locs : List Loc} {cells slots : Nat} {Q : State → Prop}
variable {cc : ByteArray} {pc : Nat} {ls : Array Slot} {rest : List Value} {own : String} {nL : Nat} {Ω : zO} {μ μ1 : zMem} {A : Nat → Prop} {k i v x y : Int}
theorem zup_self : zup μ k i v k i = v := if_pos ⟨rfl, rfl⟩
theorem z_putI (C : zC p s m args c cc own nL Ω) {H0 : Heap} (X : zX Ω μ A H0 H locs) {C0 : String} {T : u_T} {N ci index : Nat} {ty : Nat → FieldType} (K : zCl ci C0 T N ty) (hk : k ∈ Ω.2.2.1.1) (hs : zsh k = (10 + ci, N)) (j : Nat) (hj : j < N) (hl : Cond.fieldLink own index (T j).1 (T j).2.1 (T j).2.2.1 ∈ lw_tbl) (hfin : (T j).2.2.2 = false) (hf : (zfk ci j).1 = 0) (hty : ty j = .int) (hi : i = (j : Int)) (g : Rg v) (em : μ1 = zup μ k i v) (hd : decode cc pc = .ok (.putfield index, 3))
    (kk : ∀ (H1 : Heap) (locs1 : List Loc), zX Ω μ1 A H0 H1 locs1 → W p l e R s m args below meth c H1 locs1 cells slots Q (F0 m (pc + 3) ls rest)) : W p l e R s m args below meth c H locs cells slots Q (F0 m pc ls (zI v :: zR Ω k :: rest)) := by
  subst em
  subst hi
  have hv : zfv Ω (zup μ k j v) k ci j = zI v := by
    unfold zfv
    rw [hf]
    show zI (zup μ k j v k j) = zI v
    rw [zup_self]
  refine z_put C X K hk hs j hj hl (v := v) hfin ?_ ?_ ((zok_obj hs).mpr (by rw [Int.toNat_natCast, hf]; exact g)) _ hv hd kk
  · rw [hv, hty]
    exact rfl
  · rw [hv, hty]
    rfl
theorem z_putJ (C : zC p s m args c cc own nL Ω) {H0 : Heap} (X : zX Ω μ A H0 H locs) {C0 : String} {T : u_T} {N ci index : Nat} {ty : Nat → FieldType} (K : zCl ci C0 T N ty) (hk : k ∈ Ω.2.2.1.1) (hs : zsh k = (10 + ci, N)) (j : Nat) (hj : j < N) (hl : Cond.fieldLink own index (T j).1 (T j).2.1 (T j).2.2.1 ∈ lw_tbl) (hfin : (T j).2.2.2 = false) (hf : (zfk ci j).1 = 1) (hty : ty j = .long) (hi : i = (j : Int)) (g : Rl v) (em : μ1 = zup μ k i v) (hd : decode cc pc = .ok (.putfield index, 3))
    (kk : ∀ (H1 : Heap) (locs1 : List Loc), zX Ω μ1 A H0 H1 locs1 → W p l e R s m args below meth c H1 locs1 cells slots Q (F0 m (pc + 3) ls rest)) : W p l e R s m args below meth c H locs cells slots Q (F0 m pc ls (zJ v :: zR Ω k :: rest)) := by
  subst em
  subst hi
  have hv : zfv Ω (zup μ k j v) k ci j = zJ v := by
    unfold zfv
    rw [hf]
    show zJ (zup μ k j v k j) = zJ v
    rw [zup_self]
  refine z_put C X K hk hs j hj hl (v := v) hfin ?_ ?_ ((zok_obj hs).mpr (by rw [Int.toNat_natCast, hf]; exact g)) _ hv hd kk
  · rw [hv, hty]
    exact rfl
  · rw [hv, hty]
    rfl
theorem z_putZ (C : zC p s m args c cc own nL Ω) {H0 : Heap} (X : zX Ω μ A H0 H locs) {C0 : String} {T : u_T} {N ci index : Nat} {ty : Nat → FieldType} (K : zCl ci C0 T N ty) (hk : k ∈ Ω.2.2.1.1) (hs : zsh k = (10 + ci, N)) (j : Nat) (hj : j < N) (hl : Cond.fieldLink own index (T j).1 (T j).2.1 (T j).2.2.1 ∈ lw_tbl) (hfin : (T j).2.2.2 = false) (hf : (zfk ci j).1 = 2) (hty : ty j = .boolean) (hi : i = (j : Int)) (g : 0 ≤ v ∧ v ≤ 1) (em : μ1 = zup μ k i v) (hd : decode cc pc = .ok (.putfield index, 3))
    (kk : ∀ (H1 : Heap) (locs1 : List Loc), zX Ω μ1 A H0 H1 locs1 → W p l e R s m args below meth c H1 locs1 cells slots Q (F0 m (pc + 3) ls rest)) : W p l e R s m args below meth c H locs cells slots Q (F0 m pc ls (zI v :: zR Ω k :: rest)) := by
  subst em
  subst hi
  have hv : zfv Ω (zup μ k j v) k ci j = zI v := by
    unfold zfv
    rw [hf]
    show zI (zup μ k j v k j) = zI v
    rw [zup_self]
  refine z_put C X K hk hs j hj hl (v := v) hfin ?_ ?_ ((zok_obj hs).mpr (by rw [Int.toNat_natCast, hf]; exact g)) _ hv hd kk
  · rw [hv, hty]
    exact znar g
  · rw [hv, hty]
    have h01 : v = 0 ∨ v = 1 := by omega
    rcases h01 with h | h <;> subst h <;> rfl
theorem z_putQ (C : zC p s m args c cc own nL Ω) {H0 : Heap} (X : zX Ω μ A H0 H locs) {C0 C1 : String} {T : u_T} {N ci co index : Nat} {ty : Nat → FieldType} (K : zCl ci C0 T N ty) (hk : k ∈ Ω.2.2.1.1) (hs : zsh k = (10 + ci, N)) (j : Nat) (hj : j < N) (hl : Cond.fieldLink own index (T j).1 (T j).2.1 (T j).2.2.1 ∈ lw_tbl) (hfin : (T j).2.2.2 = false) (hf : zfk ci j = (4, (co : Int))) (hty : ty j = .object C1) (hi : i = (j : Int)) (ho : zob Ω.2.2.1 co v) (h0 : v ≠ 0) (em : μ1 = zup μ k i v) (hd : decode cc pc = .ok (.putfield index, 3))
    (kk : ∀ (H1 : Heap) (locs1 : List Loc), zX Ω μ1 A H0 H1 locs1 → W p l e R s m args below meth c H1 locs1 cells slots Q (F0 m (pc + 3) ls rest)) : W p l e R s m args below meth c H locs cells slots Q (F0 m pc ls (zR Ω v :: zR Ω k :: rest)) := by
  subst em
  subst hi
  have hv : zfv Ω (zup μ k j v) k ci j = zR Ω v := by
    unfold zfv
    rw [hf]
    show zQ Ω (zup μ k j v k j) = zR Ω v
    rw [zup_self, zQ_pos Ω h0]
  refine z_put C X K hk hs j hj hl (v := v) hfin ?_ ?_ ((zok_obj hs).mpr (by rw [Int.toNat_natCast, hf]; exact Or.inr ho)) _ hv hd kk
  · rw [hv, hty]
    rfl
  · rw [hv, hty]
    rfl
theorem z_istore (C : zC p s m args c cc own nL Ω) (ex : x = y) {i : Nat} {lv lv' : List (Nat × Value)} (hd : decode cc pc = .ok (.istore i, 2)) (h : lv_has ls nL lv) (hn : i < nL) (hl : (i, zI x) :: lv.filter (fun q => !(q.1 == i) && !(q.1 + 1 == i && q.2.category == 2)) = lv') (kk : ∀ ls' : Array Slot, lv_has ls' nL lv' → W p l e R s m args below meth c H locs cells slots Q (F0 m (pc + 2) ls' rest)) : W p l e R s m args below meth c H locs cells slots Q (F0 m pc ls (zI y :: rest)) := by
  subst ex
  exact lv_istore C.1 C.2.1 hd h hn hl kk
theorem z_istore_n (C : zC p s m args c cc own nL Ω) (ex : x = y) {kf : Fin 4} {i : Nat} {lv lv' : List (Nat × Value)} (hd : decode cc pc = .ok (.istore_n kf, 1)) (hi : (kf : Nat) = i) (h : lv_has ls nL lv) (hn : i < nL) (hl : (i, zI x) :: lv.filter (fun q => !(q.1 == i) && !(q.1 + 1 == i && q.2.category == 2)) = lv') (kk : ∀ ls' : Array Slot, lv_has ls' nL lv' → W p l e R s m args below meth c H locs cells slots Q (F0 m (pc + 1) ls' rest)) : W p l e R s m args below meth c H locs cells slots Q (F0 m pc ls (zI y :: rest)) := by
  subst ex
  exact lv_istore_n C.1 C.2.1 hd hi h hn hl kk
theorem z_lstore (C : zC p s m args c cc own nL Ω) (ex : x = y) {i : Nat} {lv lv' : List (Nat × Value)} (hd : decode cc pc = .ok (.lstore i, 2)) (h : lv_has ls nL lv) (hn : i + 1 < nL) (hl : (i, zJ x) :: lv.filter (fun q => !(q.1 == i) && (!(q.1 == i + 1) && !(q.1 + 1 == i && q.2.category == 2))) = lv') (kk : ∀ ls' : Array Slot, lv_has ls' nL lv' → W p l e R s m args below meth c H locs cells slots Q (F0 m (pc + 2) ls' rest)) : W p l e R s m args below meth c H locs cells slots Q (F0 m pc ls (zJ y :: rest)) := by
  subst ex
  exact lv_lstore C.1 C.2.1 hd h hn hl kk
theorem z_lstore_n (C : zC p s m args c cc own nL Ω) (ex : x = y) {kf : Fin 4} {i : Nat} {lv lv' : List (Nat × Value)} (hd : decode cc pc = .ok (.lstore_n kf, 1)) (hi : (kf : Nat) = i) (h : lv_has ls nL lv) (hn : i + 1 < nL) (hl : (i, zJ x) :: lv.filter (fun q => !(q.1 == i) && (!(q.1 == i + 1) && !(q.1 + 1 == i && q.2.category == 2))) = lv') (kk : ∀ ls' : Array Slot, lv_has ls' nL lv' → W p l e R s m args below meth c H locs cells slots Q (F0 m (pc + 1) ls' rest)) : W p l e R s m args below meth c H locs cells slots Q (F0 m pc ls (zJ y :: rest)) := by
  subst ex
  exact lv_lstore_n C.1 C.2.1 hd hi h hn hl kk
theorem z_iinc (C : zC p s m args c cc own nL Ω) {n : Int} (ex : y = zw (x + n)) {i k : Nat} {lv lv' : List (Nat × Value)} (hd : decode cc pc = .ok (.iinc i n, 3)) (h : lv_has ls nL lv) (hk : lv[k]? = some (i, zI x)) (hn : i < nL) (hl : (i, zI y) :: lv.filter (fun q => !(q.1 == i) && !(q.1 + 1 == i && q.2.category == 2)) = lv') (kk : ∀ ls' : Array Slot, lv_has ls' nL lv' → W p l e R s m args below meth c H locs cells slots Q (F0 m (pc + 3) ls' rest)) : W p l e R s m args below meth c H locs cells slots Q (F0 m pc ls rest) := by
  subst ex
  exact lv_iinc C.1 C.2.1 hd h hk (by rw [zI_w, Int32.ofInt_add]) hn hl kk
theorem z_tabI (C : zC p s m args c cc own nL Ω) (hx : Rg x) {v : Int} (hv : x = v) {dflt lo hi : Int} {offs : Array Int} {len : Nat} {off : Int} {tgt : Nat} (hd : decode cc pc = .ok (.tableswitch dflt lo hi offs, len)) (h1 : ¬ v < lo) (h2 : ¬ hi < v) (ho : offs[(v - lo).toNat]? = some off) (ht : (pc : Int) + off = (tgt : Int)) (kk : W p l e R s m args below meth c H locs cells slots Q (F0 m tgt ls rest)) : W p l e R s m args below meth c H locs cells slots Q (F0 m pc ls (zI x :: rest)) := by
  subst hv
  exact lv_tableIn C.1 C.2.1 hd (by rw [hx.v]; exact h1) (by rw [hx.v]; exact h2) (by rw [hx.v]; exact ho) ht kk
theorem z_tabO (C : zC p s m args c cc own nL Ω) (hx : Rg x) {dflt lo hi : Int} {offs : Array Int} {len : Nat} {tgt : Nat} (hd : decode cc pc = .ok (.tableswitch dflt lo hi offs, len)) (h1 : x < lo ∨ hi < x) (ht : (pc : Int) + dflt = (tgt : Int)) (kk : W p l e R s m args below meth c H locs cells slots Q (F0 m tgt ls rest)) : W p l e R s m args below meth c H locs cells slots Q (F0 m pc ls (zI x :: rest)) := by
  exact lv_tableOut C.1 C.2.1 hd (by rw [hx.v]; exact h1) ht kk
theorem z_mmin (C : zC p s m args c cc own nL Ω) (hx : Rg x) (hy : Rg y) (hsz : ls.size = nL) {index : Nat} (h1 : Cond.methodLink own index Lib.Math.min.name ∈ lw_tbl) (h2 : Cond.static Lib.Math.min.name ∈ lw_tbl) (h3 : Cond.initialized "java/lang/Math" ∈ lw_tbl) (h4 : Cond.code Lib.Math.min.name Lib.Math.min.code 2 (some .int) ∈ lw_tbl) (hf : 1 ≤ R.frames) (hlo : (rest.map fun v => v.category).sum + 13 ≤ R.locals) (hc : cells ≤ R.cells) (hs : slots ≤ R.slots) (hd : decode cc pc = .ok (.invokestatic index, 3)) (kk : W p l e R s m args below meth c H locs cells slots Q (F0 m (pc + 3) ls (zI (zmin x y) :: rest))) : W p l e R s m args below meth c H locs cells slots Q (F0 m pc ls (zI y :: zI x :: rest)) := by
  refine va_mmin C.1 C.2.1 (C.2.2.1.trans hsz.symm) C.2.2.2.1 (C.2.2.2.2.1 _ (zg h1 rfl)) (C.2.2.2.2.1 _ (zg h2 rfl)) (C.2.2.2.2.1 _ (zg h3 rfl)) (C.2.2.2.2.1 _ (zg h4 rfl)) hf hlo hc hs hd ?_
  unfold zmin at kk
  by_cases hlt : y < x
  · rw [if_pos hlt] at kk
    rw [if_pos ((zlt hy hx).mpr hlt)]
    exact kk
  · rw [if_neg hlt] at kk
    rw [if_neg (fun g => hlt ((zlt hy hx).mp g))]
    exact kk
theorem z_mmax (C : zC p s m args c cc own nL Ω) (hx : Rg x) (hy : Rg y) (hsz : ls.size = nL) {index : Nat} (h1 : Cond.methodLink own index Lib.Math.max.name ∈ lw_tbl) (h2 : Cond.static Lib.Math.max.name ∈ lw_tbl) (h3 : Cond.initialized "java/lang/Math" ∈ lw_tbl) (h4 : Cond.code Lib.Math.max.name Lib.Math.max.code 2 (some .int) ∈ lw_tbl) (hf : 1 ≤ R.frames) (hlo : (rest.map fun v => v.category).sum + 13 ≤ R.locals) (hc : cells ≤ R.cells) (hs : slots ≤ R.slots) (hd : decode cc pc = .ok (.invokestatic index, 3)) (kk : W p l e R s m args below meth c H locs cells slots Q (F0 m (pc + 3) ls (zI (zmaxi x y) :: rest))) : W p l e R s m args below meth c H locs cells slots Q (F0 m pc ls (zI y :: zI x :: rest)) := by
  refine va_mmax C.1 C.2.1 (C.2.2.1.trans hsz.symm) C.2.2.2.1 (C.2.2.2.2.1 _ (zg h1 rfl)) (C.2.2.2.2.1 _ (zg h2 rfl)) (C.2.2.2.2.1 _ (zg h3 rfl)) (C.2.2.2.2.1 _ (zg h4 rfl)) hf hlo hc hs hd ?_
  unfold zmaxi at kk
  by_cases hlt : x < y
  · rw [if_pos hlt] at kk
    rw [if_pos ((zlt hx hy).mpr hlt)]
    exact kk
  · rw [if_neg hlt] at kk
    rw [if_neg (fun g => hlt ((zlt hx hy).mp g))]
    exact kk
theorem z_mmaxl (C : zC p s m args c cc own nL Ω) (hx : Rl x) (hy : Rl y) (hsz : ls.size = nL) {index : Nat} (h1 : Cond.methodLink own index Lib.MathLoose.max_long.x ∈ lw_tbl) (h2 : Cond.static Lib.MathLoose.max_long.x ∈ lw_tbl) (h3 : Cond.initialized "java/lang/Math" ∈ lw_tbl) (h4 : Cond.code Lib.MathLoose.max_long.x Lib.MathLoose.max_long.code 4 (some .long) ∈ lw_tbl) (hf : 1 ≤ R.frames) (hlo : (rest.map fun v => v.category).sum + 15 ≤ R.locals) (hc : cells ≤ R.cells) (hs : slots ≤ R.slots) (hd : decode cc pc = .ok (.invokestatic index, 3)) (kk : W p l e R s m args below meth c H locs cells slots Q (F0 m (pc + 3) ls (zJ (zmax x y) :: rest))) : W p l e R s m args below meth c H locs cells slots Q (F0 m pc ls (zJ y :: zJ x :: rest)) := by
  refine va_mmax_long C.1 C.2.1 (C.2.2.1.trans hsz.symm) C.2.2.2.1 (C.2.2.2.2.1 _ (zg h1 rfl)) (C.2.2.2.2.1 _ (zg h2 rfl)) (C.2.2.2.2.1 _ (zg h3 rfl)) (C.2.2.2.2.1 _ (zg h4 rfl)) hf hlo hc hs hd ?_
  unfold zmax at kk
  by_cases hlt : y < x
  · rw [if_pos hlt] at kk
    rw [if_pos ((zltL hy hx).mpr hlt)]
    exact kk
  · rw [if_neg hlt] at kk
    rw [if_neg (fun g => hlt ((zltL hy hx).mp g))]
    exact kk
theorem z_mabsl (C : zC p s m args c cc own nL Ω) (hx : Rl x) (hsz : ls.size = nL) {index : Nat} (h1 : Cond.methodLink own index Lib.MathLoose.abs_long.x ∈ lw_tbl) (h2 : Cond.static Lib.MathLoose.abs_long.x ∈ lw_tbl) (h3 : Cond.initialized "java/lang/Math" ∈ lw_tbl) (h4 : Cond.code Lib.MathLoose.abs_long.x Lib.MathLoose.abs_long.code 2 (some .long) ∈ lw_tbl) (hf : 1 ≤ R.frames) (hlo : (rest.map fun v => v.category).sum + 13 ≤ R.locals) (hc : cells ≤ R.cells) (hs : slots ≤ R.slots) (hd : decode cc pc = .ok (.invokestatic index, 3)) (kk : W p l e R s m args below meth c H locs cells slots Q (F0 m (pc + 3) ls (zJ (zlabs x) :: rest))) : W p l e R s m args below meth c H locs cells slots Q (F0 m pc ls (zJ x :: rest)) := by
  refine va_mabs_long C.1 C.2.1 (C.2.2.1.trans hsz.symm) C.2.2.2.1 (C.2.2.2.2.1 _ (zg h1 rfl)) (C.2.2.2.2.1 _ (zg h2 rfl)) (C.2.2.2.2.1 _ (zg h3 rfl)) (C.2.2.2.2.1 _ (zg h4 rfl)) hf hlo hc hs hd ?_
  unfold zlabs at kk
  by_cases hlt : 0 < x
  · rw [if_pos hlt] at kk
    rw [if_pos (show (0 : Int64) < Int64.ofInt x from (zltL (x := 0) ⟨by decide, by decide⟩ hx).mpr hlt)]
    exact kk
  · rw [if_neg hlt] at kk
    rw [if_neg (fun g : (0 : Int64) < Int64.ofInt x => hlt ((zltL (x := 0) ⟨by decide, by decide⟩ hx).mp g)), ← Int64.ofInt_neg, ← zJ_w]
    exact kk
end ZP
def zcpy (μ : zMem) (a sp b dp n : Int) : zMem := fun k i => if k = b ∧ dp ≤ i ∧ i < dp + n then μ a (sp + (i - dp)) else μ k i
theorem zws_row {Ω : zO} {μ μ2 : zMem} {A : Nat → Prop} {k : Int} {q : Nat} (hD : va_D A (zws Ω μ)) (hq : Ω.2.2.1.1[q]? = some k) (hrw : ∀ k' : Int, k' ≠ k → ∀ j : Int, μ2 k' j = μ k' j) : zws Ω μ2 = (zws Ω μ).set q (zat Ω μ2 k) := by
  refine List.ext_getElem? fun n => ?_
  rw [List.getElem?_set]
  unfold zws
  rw [List.getElem?_map, List.length_map, List.getElem?_map]
  by_cases hn : q = n
  · subst hn
    have hlt : q < Ω.2.2.1.1.length := (List.getElem?_eq_some_iff.mp hq).1
    rw [if_pos rfl, if_pos hlt, hq]
    rfl
  · rw [if_neg hn]
    cases hk : Ω.2.2.1.1[n]? with
    | none => rfl
    | some k' =>
      have hne : k' ≠ k := by
        intro he
        subst he
        refine hn (hD.1 q n (zat Ω μ k') (zat Ω μ k') ?_ ?_ rfl)
        · unfold zws; rw [List.getElem?_map, hq]; rfl
        · unfold zws; rw [List.getElem?_map, hk]; rfl
      have hrow := hrw k' hne
      have h1 : zai μ2 k' = zai μ k' := by funext j; unfold zai; rw [hrow]
      have h2 : zal μ2 k' = zal μ k' := by funext j; unfold zal; rw [hrow]
      have h3 : zar Ω μ2 k' = zar Ω μ k' := by funext j; unfold zar; rw [hrow]
      have h4 : ∀ ci m, zfs Ω μ2 k' ci m = zfs Ω μ k' ci m := fun ci m => by
        unfold zfs
        refine congrArg (fun f => List.map f (List.range m)) ?_
        funext j
        unfold zfv
        rw [hrow]
      show some (zat Ω μ2 k') = some (zat Ω μ k')
      unfold zat zce
      rw [h1, h2, h3]
      simp only [h4]
section ZCP
variable {p : Program} {l : Launch} {e : Env} {R : Room} {s : State} {m : MethodId} {args : Array Value} {below : List Frame} {meth : Method} {c : Code} {H : Heap} {locs : List Loc} {cells slots : Nat} {Q : State → Prop}
variable {cc : ByteArray} {pc : Nat} {ls : Array Slot} {rest : List Value} {own : String} {nL : Nat} {Ω : zO} {μ μ1 : zMem} {A : Nat → Prop} {a b sp dp n : Int}
theorem z_copy (C : zC p s m args c cc own nL Ω) {H0 : Heap} (X : zX Ω μ A H0 H locs) (hsz : ls.size = nL) (ha : a ∈ Ω.2.2.1.1) (hsa : (zsh a).1 = 1) (hb : b ∈ Ω.2.2.1.1) (hsb : (zsh b).1 = 1) (hc : 0 ≤ sp ∧ 0 ≤ dp ∧ 0 ≤ n ∧ sp + n ≤ zlen a ∧ dp + n ≤ zlen b) {index : Nat} (hl : Cond.methodLink own index arraycopyName ∈ lw_tbl) (em : μ1 = zcpy μ a sp b dp n) (hfr : 1 ≤ R.frames) (hlo : (rest.map fun v => v.category).sum + (nativeFrameWords "java/lang/System" "arraycopy" 5 + 11) ≤ R.locals) (hd : decode cc pc = .ok (.invokestatic index, 3)) (kk : ∀ (H1 : Heap) (locs1 : List Loc), zX Ω μ1 A H0 H1 locs1 → W p l e R s m args below meth c H1 locs1 cells slots Q (F0 m (pc + 3) ls rest)) : W p l e R s m args below meth c H locs cells slots Q (F0 m pc ls (zI n :: zI dp :: zR Ω b :: zI sp :: zR Ω a :: rest)) := by
  subst em
  obtain ⟨qa, -, hqa⟩ := zws_at (μ := μ) ha
  obtain ⟨qb, hqb0, hqb⟩ := zws_at (μ := μ) hb
  rw [zat_arr hsa] at hqa
  rw [zat_arr hsb] at hqb
  have sa := zsh_small a
  have sb := zsh_small b
  have la : zlen a = ((zsh a).2 : Int) := rfl
  have lb : zlen b = ((zsh b).2 : Int) := rfl
  obtain ⟨c1, c2, c3, c4, c5⟩ := hc
  have gs : Rg sp := ⟨by omega, by omega⟩
  have gd : Rg dp := ⟨by omega, by omega⟩
  have gn : Rg n := ⟨by omega, by omega⟩
  have ts : (Int32.ofInt sp).toNatClampNeg = sp.toNat := by rw [← Int32.toNat_toInt, gs.v]
  have td : (Int32.ofInt dp).toNatClampNeg = dp.toNat := by rw [← Int32.toNat_toInt, gd.v]
  have tn : (Int32.ofInt n).toNatClampNeg = n.toNat := by rw [← Int32.toNat_toInt, gn.v]
  refine va_copyi C.1 C.2.1 (C.2.2.1.trans hsz.symm) C.2.2.2.1 (C.2.2.2.2.1 _ (zg hl rfl)) (C.2.2.2.2.1 _ (zg kw_523 rfl)) (C.2.2.2.2.1 _ (zg kw_522 rfl)) (C.2.2.2.2.1 _ (zg kw_13 rfl)) C.2.2.2.2.2 X.1 X.2.1 X.2.2.1 qa qb 1 1 hqa hqb rfl rfl rfl (fun h => ?_) (fun h => ?_) (fun h => ?_) ?_ ?_ (fun _ _ => rfl) hfr hlo hd (fun H1 locs1 hP hD hS => kk H1 locs1 ?_)
  · have := (zlt gs Rg.z).mp h
    omega
  · have := (zlt gd Rg.z).mp h
    omega
  · have := (zlt gn Rg.z).mp h
    omega
  · rw [ts, tn]
    omega
  · rw [td, tn]
    omega
  · rw [ts, td, tn] at hP hD
    have hf : zai (zcpy μ a sp b dp n) b = va_cpy (zai μ a) (zai μ b) sp.toNat dp.toNat n.toNat := by
      funext j
      unfold zai zcpy va_cpy
      by_cases hj : dp.toNat ≤ j ∧ j < dp.toNat + n.toNat
      · rw [if_pos hj, if_pos ⟨rfl, by omega, by omega⟩]
        congr 2
        omega
      · rw [if_neg hj, if_neg (fun h => hj ⟨by omega, by omega⟩)]
    have he := zws_row (μ := μ) (μ2 := zcpy μ a sp b dp n) X.2.1 hqb0 (fun k' hk' j => by unfold zcpy; rw [if_neg (fun h => hk' h.1)])
    rw [zat_arr hsb] at he
    rw [show zce Ω (zcpy μ a sp b dp n) b (1, (zsh b).2) = .inl (Ω.2.1 1, ((zsh b).2, .inl (zai (zcpy μ a sp b dp n) b))) from rfl, hf] at he
    rw [← he] at hP hD
    refine ⟨hP, hD, hS, fun k' hk' i' => ?_⟩
    unfold zcpy
    split
    · rename_i hh
      rw [hh.1]
      exact zok1 hsb (zrg1 X.2.2.2 ha hsa)
    · exact X.2.2.2 k' hk' i'
end ZCP
section ZNQ
variable {p : Program} {l : Launch} {e : Env} {R : Room} {s : State} {m : MethodId} {args : Array Value} {below : List Frame} {meth : Method} {c : Code} {H : Heap} {locs : List Loc} {cells slots : Nat} {Q : State → Prop}
variable {cc : ByteArray} {pc : Nat} {ls : Array Slot} {rest : List Value} {own : String} {nL : Nat} {Ω : zO} {x : Int}
theorem z_astoreQ (C : zC p s m args c cc own nL Ω) {i : Nat} {lv lv' : List (Nat × Value)} (hd : decode cc pc = .ok (.astore i, 2)) (h : lv_has ls nL lv) (hn : i < nL) (hl : (i, zQ Ω x) :: lv.filter (fun q => !(q.1 == i) && !(q.1 + 1 == i && q.2.category == 2)) = lv') (kk : ∀ ls' : Array Slot, lv_has ls' nL lv' → W p l e R s m args below meth c H locs cells slots Q (F0 m (pc + 2) ls' rest)) : W p l e R s m args below meth c H locs cells slots Q (F0 m pc ls (zQ Ω x :: rest)) := by
  by_cases h0 : x = 0
  · rw [zQ_nul Ω h0] at hl ⊢
    exact lv_astoreN C.1 C.2.1 hd h hn hl kk
  · rw [zQ_pos Ω h0] at hl ⊢
    exact lv_astore C.1 C.2.1 hd h hn hl kk
theorem z_aloadQ (C : zC p s m args c cc own nL Ω) {i : Nat} (hd : decode cc pc = .ok (.aload i, 2)) (hl : ls[i]? = some (.val (zQ Ω x))) (kk : W p l e R s m args below meth c H locs cells slots Q (F0 m (pc + 2) ls (zQ Ω x :: rest))) : W p l e R s m args below meth c H locs cells slots Q (F0 m pc ls rest) := by
  by_cases h0 : x = 0
  · rw [zQ_nul Ω h0] at hl kk
    exact lv_aloadN C.1 C.2.1 hd hl kk
  · rw [zQ_pos Ω h0] at hl kk
    exact lv_aload C.1 C.2.1 hd hl kk
theorem z_astore_nQ (C : zC p s m args c cc own nL Ω) {kf : Fin 4} {i : Nat} {lv lv' : List (Nat × Value)} (hd : decode cc pc = .ok (.astore_n kf, 1)) (hi : (kf : Nat) = i) (h : lv_has ls nL lv) (hn : i < nL) (hl : (i, zQ Ω x) :: lv.filter (fun q => !(q.1 == i) && !(q.1 + 1 == i && q.2.category == 2)) = lv') (kk : ∀ ls' : Array Slot, lv_has ls' nL lv' → W p l e R s m args below meth c H locs cells slots Q (F0 m (pc + 1) ls' rest)) : W p l e R s m args below meth c H locs cells slots Q (F0 m pc ls (zQ Ω x :: rest)) := by
  by_cases h0 : x = 0
  · rw [zQ_nul Ω h0] at hl ⊢
    exact lv_astore_nN C.1 C.2.1 hd hi h hn hl kk
  · rw [zQ_pos Ω h0] at hl ⊢
    exact lv_astore_n C.1 C.2.1 hd hi h hn hl kk
theorem z_aload_nQ (C : zC p s m args c cc own nL Ω) {kf : Fin 4} {i : Nat} (hd : decode cc pc = .ok (.aload_n kf, 1)) (hi : (kf : Nat) = i) (hl : ls[i]? = some (.val (zQ Ω x))) (kk : W p l e R s m args below meth c H locs cells slots Q (F0 m (pc + 1) ls (zQ Ω x :: rest))) : W p l e R s m args below meth c H locs cells slots Q (F0 m pc ls rest) := by
  by_cases h0 : x = 0
  · rw [zQ_nul Ω h0] at hl kk
    exact lv_aload_nN C.1 C.2.1 hd hi hl kk
  · rw [zQ_pos Ω h0] at hl kk
    exact lv_aload_n C.1 C.2.1 hd hi hl kk
end ZNQ
section ZM2
variable {p : Program} {l : Launch} {e : Env} {R : Room} {s : State} {m : MethodId} {args : Array Value} {below : List Frame} {meth : Method} {c : Code} {H : Heap} {locs : List Loc} {cells slots : Nat} {Q : State → Prop}
variable {cc : ByteArray} {pc : Nat} {ls : Array Slot} {rest : List Value} {own : String} {nL : Nat} {Ω : zO} {μ μ' : zMem} {k : Int}
theorem z_callV1 (C : zC p s m args c cc own nL Ω) (X : zX Ω μ (zfree Ω) s.heap H locs) {C0 : String} {T : u_T} {N ci index n maxL d : Nat} {ty : Nat → FieldType} (K : zCl ci C0 T N ty) (hk : k ∈ Ω.2.2.1.1) (hs : zsh k = (10 + ci, N)) {y : MethodName} {bytes : ByteArray} {ret : Option FieldType} {As : List Value} {rv : Value} {φ : Prop} {st : List Value}
    (hM : XMet l y bytes maxL ret d Ω (zR Ω k :: As) μ (some rv) φ μ')
    (hw : zcal y bytes maxL ret C0 n) (hml : Cond.methodLink own index y ∈ lw_tbl) (hR : d + 1 + 1 ≤ R.frames ∧ 8 + (maxL + 11) + (60 * d + 60) ≤ R.locals)
    (hn : As.length = n) (hsize : ls.size = nL) (hstack : st = As.reverse ++ zR Ω k :: rest) (hroom : (rest.map fun v => v.category).sum ≤ 8) (hdg : decode cc pc = .ok (.invokevirtual index, 3)) (hc : cells ≤ R.cells ∧ slots ≤ R.slots)
    (kk : ∀ (H1 : Heap) (locs1 : List Loc), φ → zX Ω μ' (zfree Ω) s.heap H1 locs1 → W p l e R s m args below meth c H1 locs1 cells slots Q (F0 m (pc + 3) ls (rv :: rest))) : W p l e R s m args below meth c H locs cells slots Q (F0 m pc ls st) :=
  z_callV C X K hk hs hM hw hml hR hn hsize hstack hroom hdg hc kk
theorem z_callV0 (C : zC p s m args c cc own nL Ω) (X : zX Ω μ (zfree Ω) s.heap H locs) {C0 : String} {T : u_T} {N ci index n maxL d : Nat} {ty : Nat → FieldType} (K : zCl ci C0 T N ty) (hk : k ∈ Ω.2.2.1.1) (hs : zsh k = (10 + ci, N)) {y : MethodName} {bytes : ByteArray} {ret : Option FieldType} {As : List Value}  {φ : Prop} {st : List Value}
    (hM : XMet l y bytes maxL ret d Ω (zR Ω k :: As) μ none φ μ')
    (hw : zcal y bytes maxL ret C0 n) (hml : Cond.methodLink own index y ∈ lw_tbl) (hR : d + 1 + 1 ≤ R.frames ∧ 8 + (maxL + 11) + (60 * d + 60) ≤ R.locals)
    (hn : As.length = n) (hsize : ls.size = nL) (hstack : st = As.reverse ++ zR Ω k :: rest) (hroom : (rest.map fun v => v.category).sum ≤ 8) (hdg : decode cc pc = .ok (.invokevirtual index, 3)) (hc : cells ≤ R.cells ∧ slots ≤ R.slots)
    (kk : ∀ (H1 : Heap) (locs1 : List Loc), φ → zX Ω μ' (zfree Ω) s.heap H1 locs1 → W p l e R s m args below meth c H1 locs1 cells slots Q (F0 m (pc + 3) ls rest)) : W p l e R s m args below meth c H locs cells slots Q (F0 m pc ls st) :=
  z_callV C X K hk hs hM hw hml hR hn hsize hstack hroom hdg hc kk
theorem z_callS1 (C : zC p s m args c cc own nL Ω) (X : zX Ω μ (zfree Ω) s.heap H locs) {index n maxL d : Nat} {y : MethodName} {bytes : ByteArray} {ret : Option FieldType} {As : List Value} {rv : Value} {φ : Prop} {st : List Value}
    (hM : XMet l y bytes maxL ret d Ω As μ (some rv) φ μ')
    (hw : zcas y bytes maxL ret n) (hml : Cond.methodLink own index y ∈ lw_tbl) (hR : d + 1 + 1 ≤ R.frames ∧ 8 + (maxL + 11) + (60 * d + 60) ≤ R.locals)
    (hn : As.length = n) (hsize : ls.size = nL) (hstack : st = As.reverse ++ rest) (hroom : (rest.map fun v => v.category).sum ≤ 8) (hdg : decode cc pc = .ok (.invokestatic index, 3)) (hc : cells ≤ R.cells ∧ slots ≤ R.slots)
    (kk : ∀ (H1 : Heap) (locs1 : List Loc), φ → zX Ω μ' (zfree Ω) s.heap H1 locs1 → W p l e R s m args below meth c H1 locs1 cells slots Q (F0 m (pc + 3) ls (rv :: rest))) : W p l e R s m args below meth c H locs cells slots Q (F0 m pc ls st) :=
  z_callS C X hM hw hml hR hn hsize hstack hroom hdg hc kk
theorem z_callS0 (C : zC p s m args c cc own nL Ω) (X : zX Ω μ (zfree Ω) s.heap H locs) {index n maxL d : Nat} {y : MethodName} {bytes : ByteArray} {ret : Option FieldType} {As : List Value}  {φ : Prop} {st : List Value}
    (hM : XMet l y bytes maxL ret d Ω As μ none φ μ')
    (hw : zcas y bytes maxL ret n) (hml : Cond.methodLink own index y ∈ lw_tbl) (hR : d + 1 + 1 ≤ R.frames ∧ 8 + (maxL + 11) + (60 * d + 60) ≤ R.locals)
    (hn : As.length = n) (hsize : ls.size = nL) (hstack : st = As.reverse ++ rest) (hroom : (rest.map fun v => v.category).sum ≤ 8) (hdg : decode cc pc = .ok (.invokestatic index, 3)) (hc : cells ≤ R.cells ∧ slots ≤ R.slots)
    (kk : ∀ (H1 : Heap) (locs1 : List Loc), φ → zX Ω μ' (zfree Ω) s.heap H1 locs1 → W p l e R s m args below meth c H1 locs1 cells slots Q (F0 m (pc + 3) ls rest)) : W p l e R s m args below meth c H locs cells slots Q (F0 m pc ls st) :=
  z_callS C X hM hw hml hR hn hsize hstack hroom hdg hc kk
end ZM2
