/-! rims that end at a level -/
theorem lst_ge (ws : List Int) : ∀ a, a ≤ lst ws a ∧ ∀ c ∈ ws, c / 2 ≤ lst ws a := by
  induction ws with
  | nil => intro a; exact ⟨Int.le_refl _, fun c h => by simp at h⟩
  | cons d ws ih =>
    intro a
    obtain ⟨h1, h2⟩ := ih (zmaxi a (d / 2))
    have hm : a ≤ zmaxi a (d / 2) ∧ d / 2 ≤ zmaxi a (d / 2) := by unfold zmaxi; split <;> omega
    refine ⟨Int.le_trans hm.1 h1, fun c hc => ?_⟩
    rcases List.mem_cons.mp hc with e | e
    · rw [e]; exact Int.le_trans hm.2 h1
    · exact h2 c e
theorem lst_lt {N : Int} (hN : 0 ≤ N) (ws : List Int) (hw : WdR N ws) : ∀ a, a < N → lst ws a < N := by
  induction ws with
  | nil => intro a h; exact h
  | cons d ws ih =>
    intro a h
    have hd := hw d (List.mem_cons_self ..)
    refine ih (fun x h => hw x (List.mem_cons_of_mem _ h)) _ ?_
    unfold zmaxi
    split <;> omega
theorem WdR.lst {N L : Int} {ws : List Int} (hw : WdR N ws) (h : lst ws (-1) ≤ L) : WdR (L + 1) ws := by
  intro c hc
  have h1 := (lst_ge ws (-1)).2 c hc
  have h2 := hw c hc
  omega
theorem alg_cg {n N : Int} {t t' : Int → Int} (ws : List Int) (hw : WdR N ws) (h : ∀ j, 0 ≤ j → j < N → t j = t' j) : ∀ a, alg n t ws a = alg n t' ws a := by
  induction ws with
  | nil => intro a; rfl
  | cons c ws ih =>
    intro a
    have hc := hw c (List.mem_cons_self ..)
    unfold alg
    have e : tdo n t c = tdo n t' c := by
      unfold tdo
      rw [h (c / 2) (by omega) (by omega)]
    rw [e]
    exact ih (fun x h => hw x (List.mem_cons_of_mem _ h)) _
def drh (n : Int) (t : Int → Int) (L : Int) (l : List (List Int)) : Bool := l.all fun ws => !(decide (lst ws (-1) = L)) || decide (alg n t ws 0 = 0)
theorem c_doRimsHold {μ : zMem} {n N L : Int} {t : Int → Int} {l : List (List Int)} (hT : ShT μ) (hn : 2 ≤ n ∧ n ≤ 4) (h9 : μ 27 9 = 66 + 4 * n) (h6 : μ 27 6 = L) (hL : 0 ≤ L ∧ L < 12) (ht : TbR n (L + 1) t) (hc : ∀ j, 0 ≤ j → j < L + 1 → μ 28 j = t j) (hR : RMS μ l) (hl8 : l.length ≤ 8) (hw : ∀ ws ∈ l, WdR N ws ∧ ws.length ≤ 8) : f_X6_doRimsHold μ = some (b2i (drh n t L l)) := by
  have hfc := fct_pos hn
  have key : ∀ (m fu q : Nat), m < fu → q + m = l.length → f_X6_doRimsHold_L2 μ fu (q : Int) = some (b2i (drh n t L (l.drop q))) := by
    intro m
    induction m with
    | zero =>
      intro fu q hfu hq
      cases fu with
      | zero => omega
      | succ fu =>
        unfold f_X6_doRimsHold_L2
        rw [hR.1, if_neg (by omega), List.drop_eq_nil_of_le (by omega)]
        rfl
    | succ m ih =>
      intro fu q hfu hq
      cases fu with
      | zero => omega
      | succ fu =>
        have hql : q < l.length := by omega
        obtain ⟨r1, r2, r3⟩ := hR.2 q hql
        obtain ⟨w1, w2⟩ := hw _ (List.getElem_mem hql)
        have hz29 : zlen 29 = 64 := by decide
        have hi := ih fu (q + 1) (by omega) (by omega)
        unfold f_X6_doRimsHold_L2
        simp only [zlet]
        rw [hR.1, if_pos (by omega), chk_pos (by omega), r2, h6, chk_pos (by omega), zw_eq (x := (q : Int) + 1) (by omega) (by omega), zw_eq (x := (q : Int) * 8) (by omega) (by omega), r1]
        rw [List.drop_eq_getElem_cons hql]
        unfold drh
        rw [List.all_cons]
        by_cases he : lst l[q] (-1) = L
        · have hma : f_X6_moveAlong 29 ((q : Int) * 8) (l[q].length : Int) μ = some (alg n t l[q] 0) := by
            unfold f_X6_moveAlong
            refine c_moveAlong (N := L + 1) hT hn h9 (by omega) ht hc (by omega) _ _ ⟨by omega, by omega, by omega⟩ l[q] zfu 0 _ (by unfold zfu; omega) (w1.lst (by omega)) (by omega) rfl (fun i h => ?_) ⟨by omega, by omega⟩
            rw [show (q : Int) * 8 + i = 8 * q + i by omega]
            exact r3 i h
          rw [if_pos he, bnd_pos hma]
          by_cases ha : alg n t l[q] 0 = 0
          · rw [if_pos ha]
            simp only [he, ha, decide_true, Bool.or_true, Bool.true_and]
            exact hi
          · rw [if_neg ha]
            simp [he, ha, b2i]
        · rw [if_neg he]
          simp only [he, decide_false, Bool.not_false, Bool.true_or, Bool.true_and]
          exact hi
  unfold f_X6_doRimsHold
  have := key l.length zfu 0 (by unfold zfu; omega) (by omega)
  exact this
