/-! what a memory keeps while cells are made -/
/-- the cells zs are 0, the fields fl of cell 1 are told -/
def Mk (ν : zMem) (zs : List Int) (fl : List (Int × Int)) : Prop := (∀ K ∈ zs, ∀ i, ν K i = 0) ∧ ∀ q ∈ fl, ν 1 q.1 = q.2
theorem Mk.put {ν ν' : zMem} {zs : List Int} {fl : List (Int × Int)} {j v : Int} (h : Mk ν zs fl) (e : ν' = zup ν 1 j v) (h1 : (1 : Int) ∉ zs) (hj : ∀ q ∈ fl, q.1 ≠ j) : Mk ν' zs (fl ++ [(j, v)]) := by
  subst e
  refine ⟨fun K hK i => ?_, fun q hq => ?_⟩
  · unfold zup
    rw [if_neg (fun (z : K = 1 ∧ i = j) => h1 (z.1 ▸ hK))]
    exact h.1 K hK i
  · rcases List.mem_append.mp hq with z | z
    · unfold zup
      rw [if_neg (fun y => hj q z y.2)]
      exact h.2 q z
    · rw [List.mem_singleton.mp z]
      unfold zup
      rw [if_pos ⟨rfl, rfl⟩]
theorem Mk.oth {ν ν' : zMem} {zs : List Int} {fl : List (Int × Int)} {c j v : Int} (h : Mk ν zs fl) (e : ν' = zup ν c j v) (h1 : c ∉ zs) (hc : c ≠ 1) : Mk ν' zs fl := by
  subst e
  refine ⟨fun K hK i => ?_, fun q hq => ?_⟩
  · unfold zup
    rw [if_neg (fun (z : K = c ∧ i = j) => h1 (z.1 ▸ hK))]
    exact h.1 K hK i
  · unfold zup
    rw [if_neg (fun y => hc y.1.symm)]
    exact h.2 q hq
theorem Mk.con {ν ν' : zMem} {zs zs' cs : List Int} {fl : List (Int × Int)} (h : Mk ν zs fl) (hF : ∀ k, k ∉ cs → ν' k = ν k) (hs : ∀ K ∈ zs', K ∈ zs ∧ K ∉ cs) (h1 : (1 : Int) ∉ cs) : Mk ν' zs' fl :=
  ⟨fun K hK i => by rw [hF K (hs K hK).2]; exact h.1 K (hs K hK).1 i, fun q hq => by rw [hF 1 h1]; exact h.2 q hq⟩
theorem Mk.sub {ν : zMem} {zs zs' : List Int} {fl : List (Int × Int)} (h : Mk ν zs fl) (hs : ∀ K ∈ zs', K ∈ zs) : Mk ν zs' fl := ⟨fun K hK => h.1 K (hs K hK), h.2⟩
/-- cells to come: not there, not complete, 0 -/
theorem Grw.hn {Ω w : zO} {nw cm zs js : List Int} {ν : zMem} {fl : List (Int × Int)} (G : Grw Ω w nw cm) (M : Mk ν zs fl) {all : List Int} (ha : ∀ j ∈ all, j ∉ Ω.2.2.1.1 ∧ j ∉ Ω.2.2.1.2) (hs : ∀ j ∈ js, j ∈ all ∧ j ∉ nw ∧ j ∉ cm ∧ j ∈ zs) : ∀ j ∈ js, j ∉ w.2.2.1.1 ∧ j ∉ w.2.2.1.2 ∧ ∀ i, ν j i = 0 :=
  fun j hj => ⟨G.nm (ha j (hs j hj).1).1 (hs j hj).2.1, G.nf (ha j (hs j hj).1).2 (hs j hj).2.2.1, M.1 j (hs j hj).2.2.2⟩
