/-! texts: the class cuts its tape into tokens -/
/-- all but the rows that the class's tokens stand in are a's; the first j tokens stand there -/
def q_lx (f : Nat → Nat) (k : Nat) (a : ic_S) (j : Nat) (g : ic_S) : Prop := (∀ b, ¬ (10 ≤ b ∧ b ≤ 13) → g.1 b = a.1 b) ∧ g.1 10 0 = nI j ∧ ∀ i, i < j → g.1 11 i = nI (q_so f k (q_St f k i)) ∧ g.1 12 i = nI (q_St f k i) ∧ g.1 13 i = q_va f k (q_St f k i)
theorem q_lxt {f : Nat → Nat} {k j : Nat} {a g : ic_S} (h : q_lx f k a j g) (ha : q_tp f k a) : q_tp f k g := by
  obtain ⟨h1, h2, h3⟩ := ha
  refine ⟨?_, h2, fun i hi => ⟨(h3 i hi).1, ?_⟩⟩
  · rw [h.1 8 (by omega)]
    exact h1
  · rw [h.1 9 (by omega)]
    exact (h3 i hi).2
section
variable {f : Nat → Nat} {k : Nat} {a g : ic_S}
theorem c_app {j : Nat} (hj : j < 121) (h : q_lx f k a j g) {x1 x2 x3 : Int32} (e1 : x1 = nI (q_so f k (q_St f k j))) (e2 : x2 = nI (q_St f k j)) (e3 : x3 = q_va f k (q_St f k j)) : ∃ g', fX5_append x1 x2 x3 g = some g' ∧ q_lx f k a (j + 1) g' := by
  obtain ⟨h1, h2, h3⟩ := h
  refine ⟨sB (sB (sB (sB g 11 (rU (g.1 11) j x1)) 12 (rU (g.1 12) j x2)) 13 (rU (g.1 13) j x3)) 10 (rU (g.1 10) 0 (nI (j + 1))), ?_, ?_⟩
  · unfold fX5_append
    have a1 : ¬ (121 : Int32) ≤ nI j := nI_ge (b := 121) hj (by decide)
    rw [h2, if_neg (nI_pos (by omega)), if_neg a1, if_neg a1, if_neg a1, p_in hj (by decide), p_gd, p_let, up_sB, nI_clamp (by omega), Nat.zero_add, sB_ne _ _ (by decide), h2, p_in hj (by decide), p_gd, p_let, up_sB, nI_clamp (by omega), Nat.zero_add, sB_ne _ _ (by decide), sB_ne _ _ (by decide), sB_ne _ _ (by decide), h2, p_in hj (by decide), p_gd, nI_clamp (by omega), Nat.zero_add, p_let, p_let, up_sB, up_sB]
    repeat rw [sB_ne _ _ (by decide)]
    rw [h2, nI_1]
  · refine ⟨fun b hb => ?_, rfl, fun i hi => ?_⟩
    · rw [sB_ne _ _ (by omega), sB_ne _ _ (by omega), sB_ne _ _ (by omega), sB_ne _ _ (by omega)]
      exact h1 b hb
    · show rU (g.1 11) j x1 i = _ ∧ rU (g.1 12) j x2 i = _ ∧ rU (g.1 13) j x3 i = _
      by_cases e : i = j
      · subst e
        rw [rU_s, rU_s, rU_s]
        exact ⟨e1, e2, e3⟩
      · rw [rU_n _ _ e, rU_n _ _ e, rU_n _ _ e]
        exact h3 i (by omega)
/-- one token -/
theorem c_tok (ha : q_tp f k a) {j : Nat} (h : q_lx f k a j g) (hj : j < 121) (hs : q_St f k j < k) : ∃ g', fX5_cutToken (nI (q_St f k j)) g = some (nI (q_E f k (j + 1)), g') ∧ q_lx f k a (j + 1) g' := by
  have hg := q_lxt h ha
  have hk := hg.2.1
  have hE : q_E f k (j + 1) = q_en f k (q_St f k j) := rfl
  have happ := fun x1 x2 x3 => c_app (x1 := x1) (x2 := x2) (x3 := x3) hj h
  rw [hE]
  revert happ
  generalize q_St f k j = s at hs
  intro happ
  have n1 : ¬ k ≤ s := by omega
  unfold fX5_cutToken
  rw [c_ltr hg hs, p_b2]
  by_cases hl : q_lt f s = true
  · have es : q_so f k s = 1 := by
      unfold q_so
      rw [if_neg n1, if_pos hl]
    have ee : q_en f k s = q_ru (q_lt f) (k - (s + 1)) (s + 1) := by
      unfold q_en
      rw [if_neg n1, if_pos hl, show k - s = (k - (s + 1)) + 1 by omega]
      conv => lhs; unfold q_ru
      rw [if_pos hl]
    have ev : q_va f k s = q_oI (q_wi f s (q_en f k s - s)) := by
      unfold q_va
      rw [if_neg n1, if_pos hl]
    have hr := q_ruS (q_lt f) (k - (s + 1)) (s + 1)
    rw [← ee] at hr
    obtain ⟨g', e1, e2⟩ := happ 1 (nI s) (q_oI (q_wi f s (q_en f k s - s))) (by rw [es]; rfl) rfl ev.symm
    refine ⟨g', ?_, e2⟩
    rw [if_pos hl, if_neg (by decide)]
    unfold fX5_cutWord
    rw [nI_1, c_cw hg _ (k - (s + 1)) (s + 1) 1000 (by omega) (by omega), ← ee, p_b2, c_ws hg (by omega) (by omega) (fun i h1 h2 => ?_), p_b2, e1, p_b1, p_b2]
    by_cases e : i = s
    · subst e
      exact hl
    · exact hr.2.2.1 i (by omega) h2
  · rw [if_neg hl, if_pos rfl, c_dgt hg hs, p_b2]
    by_cases hd : q_dg f s = true
    · have es : q_so f k s = 2 := by
        unfold q_so
        rw [if_neg n1, if_neg hl, if_pos hd]
      have ee : q_en f k s = q_ru (q_dg f) (k - s) s := by
        unfold q_en
        rw [if_neg n1, if_neg hl, if_pos hd]
      have ev : q_va f k s = nI (q_nv f (k - s) s 0) := by
        unfold q_va
        rw [if_neg n1, if_neg hl, if_pos hd]
      obtain ⟨g', e1, e2⟩ := happ 2 (nI s) (nI (q_nv f (k - s) s 0)) (by rw [es]; rfl) rfl ev.symm
      refine ⟨g', ?_, e2⟩
      rw [if_pos hd, if_neg (by decide)]
      unfold fX5_cutNumber
      rw [show lX5_cutNumber_4 (nI s) 1000 (nI s) 0 g = _ from c_cn hg (nI s) (k - s) s 1000 0 (by omega) (by omega) (by omega), p_b2, ← ee, e1, p_b1, p_b2]
    · have es : q_so f k s = if f s = 59 then 3 else 4 := by
        unfold q_so
        rw [if_neg n1, if_neg hl, if_neg hd]
      have ee : q_en f k s = s + 1 := by
        unfold q_en
        rw [if_neg n1, if_neg hl, if_neg hd]
      have ev : q_va f k s = 0 := by
        unfold q_va
        rw [if_neg n1, if_neg hl, if_neg hd]
      have hf := (hg.2.2 s hs).1
      rw [if_neg hd, if_pos rfl, c_by hg hs, p_b2, ee]
      by_cases h9 : f s = 59
      · obtain ⟨g', e1, e2⟩ := happ 3 (nI s) 0 (by rw [es, if_pos h9]; rfl) rfl ev.symm
        refine ⟨g', ?_, e2⟩
        rw [if_pos (show nI (f s) = 59 from congrArg nI h9), e1, p_b1, nI_1]
      · obtain ⟨g', e1, e2⟩ := happ 4 (nI s) 0 (by rw [es, if_neg h9]; rfl) rfl ev.symm
        refine ⟨g', ?_, e2⟩
        rw [if_neg (show ¬ nI (f s) = 59 from fun e => h9 ((nI_eq (b := 59) (by omega) (by decide)).mp e)), e1, p_b1, nI_1]
theorem c_cutL (ha : q_tp f k a) : ∀ m p n j (g : ic_S), p + m = k → m < n → q_lx f k a j g → j ≤ q_E f k j → p ≤ q_St f k j → ∃ J g', lX5_cut_9 n (nI (q_E f k j)) (nI p) g = some ((), g') ∧ q_lx f k a J g' ∧ q_St f k J = k ∧ J ≤ q_E f k J := by
  intro m
  induction m with
  | zero =>
    intro p n j g h1 h2 h3 h4 h5
    obtain ⟨n, rfl⟩ : ∃ j, n = j + 1 := ⟨n - 1, by omega⟩
    have hg := q_lxt h3 ha
    have hk := hg.2.1
    refine ⟨j, g, ?_, h3, ?_, h4⟩
    · unfold lX5_cut_9
      rw [hg.1, if_pos (nI_le (by omega) (by omega))]
    · have := q_Stk f k j
      omega
  | succ m ih =>
    intro p n j g h1 h2 h3 h4 h5
    obtain ⟨n, rfl⟩ : ∃ j, n = j + 1 := ⟨n - 1, by omega⟩
    have hg := q_lxt h3 ha
    have hk := hg.2.1
    have hS := q_plS (f := f) (q_Ek f k j)
    have hEk := q_Ek f k j
    unfold lX5_cut_9
    rw [hg.1, if_neg (nI_ge (by omega) (by omega)), nI_1]
    by_cases hp : p < q_E f k j
    · obtain ⟨J, g', e, hh⟩ := ih (p + 1) n j g (by omega) (by omega) h3 h4 (by have := (q_Stk f k j).1; omega)
      refine ⟨J, g', ?_, hh⟩
      rw [if_pos (nI_lt hp (by omega)), e]
    · rw [if_neg (nI_nlt (by omega) (by omega)), c_by hg (by omega), p_b2]
      have hf := (hg.2.2 p (by omega)).1
      by_cases hb : f p = 32
      · have hne : p ≠ q_St f k j := by
          intro e
          have e : p = q_pl f k (q_E f k j) := e
          exact hS.2.2.2 (by omega) (e ▸ hb)
        obtain ⟨J, g', e, hh⟩ := ih (p + 1) n j g (by omega) (by omega) h3 h4 (by omega)
        refine ⟨J, g', ?_, hh⟩
        rw [if_pos (show nI (f p) = 32 from congrArg nI hb), e]
      · have hpS : p = q_St f k j := by
          refine Classical.byContradiction fun hne => hb (hS.2.2.1 p (by omega) ?_)
          show p < q_St f k j
          omega
        obtain ⟨g1, e1, h6⟩ := c_tok ha h3 (by omega) (by omega)
        have h7 := q_Sts (f := f) (k := k) (j := j) (by omega)
        have h8 := (q_Stk f k (j + 1)).1
        have h9 := (q_Stk f k j).1
        obtain ⟨J, g', e, hh⟩ := ih (p + 1) n (j + 1) g1 (by omega) (by omega) h6 (by omega) (by omega)
        refine ⟨J, g', ?_, hh⟩
        rw [if_neg (show ¬ nI (f p) = 32 from fun e => hb ((nI_eq (b := 32) (by omega) (by decide)).mp e))]
        rw [← hpS] at e1
        rw [e1, p_b2, e]
end
/-- the class's tokens of a tape -/
def q_tk (f : Nat → Nat) (k : Nat) (g : ic_S) : Prop := q_tp f k g ∧ ∃ J, J ≤ 120 ∧ q_St f k J = k ∧ g.1 10 0 = nI (J + 1) ∧ ∀ i, i < J + 1 → g.1 11 i = nI (q_so f k (q_St f k i)) ∧ g.1 12 i = nI (q_St f k i) ∧ g.1 13 i = q_va f k (q_St f k i)
section
variable {f : Nat → Nat} {k : Nat} {g : ic_S}
theorem c_cut (h : q_tp f k g) : ∃ g', fX5_cut g = some g' ∧ q_tk f k g' ∧ ∀ b, ¬ (10 ≤ b ∧ b ≤ 13) → g'.1 b = g.1 b := by
  have h0 : q_lx f k g 0 (sB g 10 (rU (g.1 10) 0 0)) := ⟨fun b hb => sB_ne _ _ (by omega), rfl, fun i hi => absurd hi (Nat.not_lt_zero _)⟩
  have hk := h.2.1
  obtain ⟨J, g1, e1, h1, h2, h3⟩ := c_cutL h k 0 1000 0 (sB g 10 (rU (g.1 10) 0 0)) (by omega) (by omega) h0 (Nat.le_refl _) (Nat.zero_le _)
  have hE := q_Ek f k J
  have e0 : q_so f k k = 0 := if_pos (Nat.le_refl _)
  have e0' : q_va f k k = 0 := if_pos (Nat.le_refl _)
  obtain ⟨g2, e2, h4⟩ := c_app (x1 := 0) (x2 := nI k) (x3 := 0) (by omega) h1 (by rw [h2, e0]; rfl) (by rw [h2]) (by rw [h2, e0'])
  refine ⟨g2, ?_, ⟨q_lxt h4 h, J, by omega, h2, h4.2.1, h4.2.2⟩, h4.1⟩
  unfold fX5_cut
  rw [p_let, up_sB]
  rw [show lX5_cut_9 1000 0 0 (sB g 10 (rU (g.1 10) 0 0)) = _ from e1, p_b2, (q_lxt h1 h).1, e2, p_b1]
theorem q_tk.ext {h : ic_S} (hk : q_tk f k g) (e : ∀ b, 8 ≤ b → b ≤ 13 → h.1 b = g.1 b) : q_tk f k h := by
  obtain ⟨⟨h1, h2, h3⟩, J, h4, h5, h6, h7⟩ := hk
  refine ⟨⟨?_, h2, fun i hi => ⟨(h3 i hi).1, ?_⟩⟩, J, h4, h5, ?_, fun i hi => ?_⟩
  · rw [e 8 (by omega) (by omega)]
    exact h1
  · rw [e 9 (by omega) (by omega)]
    exact (h3 i hi).2
  · rw [e 10 (by omega) (by omega)]
    exact h6
  · rw [e 11 (by omega) (by omega), e 12 (by omega) (by omega), e 13 (by omega) (by omega)]
    exact h7 i hi
theorem c_sort (h : q_tk f k g) {j : Nat} (hj : j < 1000) : fX5_sortAt (nI j) g = some (nI (q_so f k (q_St f k j)), g) := by
  obtain ⟨h1, J, h4, h5, h6, h7⟩ := h
  unfold fX5_sortAt
  rw [if_neg (nI_pos (by omega)), h6]
  by_cases hJ : J + 1 ≤ j
  · have e0 : q_so f k k = 0 := if_pos (Nat.le_refl _)
    rw [if_pos (nI_le hJ (by omega)), q_StE h5 j (by omega), e0]
    rfl
  · rw [if_neg (nI_ge (by omega) (by omega)), if_neg (show ¬ 121 ≤ nI j from nI_ge (b := 121) (by omega) (by decide)), p_in (by omega) (by decide), p_gd, nI_clamp (by omega), Nat.zero_add, (h7 j (by omega)).1]
theorem c_plac (h : q_tk f k g) {j : Nat} (hj : j < 1000) : fX5_placeAt (nI j) g = some (nI (q_St f k j), g) := by
  obtain ⟨h1, J, h4, h5, h6, h7⟩ := h
  unfold fX5_placeAt
  rw [if_neg (nI_pos (by omega)), h6]
  by_cases hJ : J + 1 ≤ j
  · rw [if_pos (nI_le hJ (by omega)), q_StE h5 j (by omega), h1.1]
  · rw [if_neg (nI_ge (by omega) (by omega)), if_neg (show ¬ 121 ≤ nI j from nI_ge (b := 121) (by omega) (by decide)), p_in (by omega) (by decide), p_gd, nI_clamp (by omega), Nat.zero_add, (h7 j (by omega)).2.1]
theorem c_val (h : q_tk f k g) {j : Nat} (hj : j < 1000) : fX5_valueAt (nI j) g = some (q_va f k (q_St f k j), g) := by
  obtain ⟨h1, J, h4, h5, h6, h7⟩ := h
  unfold fX5_valueAt
  rw [if_neg (nI_pos (by omega)), h6]
  by_cases hJ : J + 1 ≤ j
  · have e0' : q_va f k k = 0 := if_pos (Nat.le_refl _)
    rw [if_pos (nI_le hJ (by omega)), q_StE h5 j (by omega), e0']
  · rw [if_neg (nI_ge (by omega) (by omega)), if_neg (show ¬ 121 ≤ nI j from nI_ge (b := 121) (by omega) (by decide)), p_in (by omega) (by decide), p_gd, nI_clamp (by omega), Nat.zero_add, (h7 j (by omega)).2.2]
end
