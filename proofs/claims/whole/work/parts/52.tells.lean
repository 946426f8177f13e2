/-! calls that only tell: cart, of, who, now, count, status -/
theorem p_ne {x : Int32} {n j : Nat} (h : x < 0 ∨ nI n ≤ x) (hj : j < n) (hn : n ≤ 10000) : ¬ x = nI j := by
  rintro rfl
  rcases h with h | h
  · exact nI_pos (by omega) h
  · exact nI_ge hj (by omega) h
theorem q_of0 : ¬ (0 : Int32) ≤ -1 := by decide
section
variable {g : ic_S} (hI : q_Inv g)
theorem q_Inv.a (hI : q_Inv g) : q_ok (g.1 0) := hI.2.2.1.1
theorem q_Inv.b (hI : q_Inv g) : q_ok (g.1 3) := hI.2.2.1.2.1
theorem q_Inv.l (hI : q_Inv g) : q_lv (g.1 3) (g.1 0) := hI.2.2.1.2.2.1
theorem q_rf.b {h : ic_S} (hf : q_rf g h) (hI : q_Inv g) : q_ok (h.1 3) := by
  rw [hf.1 3 (by omega)]
  exact hI.b
theorem q_rf.r {h : ic_S} (hf : q_rf g h) : h.1 3 = g.1 3 := hf.1 3 (by omega)
theorem o_cart (hI : q_Inv g) (x : Int32) : q_go (fX6_cart x) (fX7_cart x) g := by
  rcases pk_ix x (n := 4) (by decide) with h | h | ⟨j, hj, rfl⟩
  rotate_right
  · have e7 : ∀ h, q_rf g h → fX7_cart (nI j) h = some (g.1 3 (3 + j), h) := by
      intro h hf
      unfold fX7_cart
      rw [show fX7_in (nI j).toInt64 0 3 h = some (1, h) from r_inY hj (by decide) h, p_b2, if_neg (by decide), show (3 : Int32) = nI 3 from rfl, nI_add, p_in (show 3 + j < 73 by omega) (by decide), p_gd, nI_clamp (by omega), Nat.add_zero, Nat.zero_add, hf.r]
    obtain ⟨n, hn, e⟩ := hI.b (3 + j) (by omega) (by omega)
    have hb := q_bdb (3 + j)
    refine q_tell hI (g.1 3 (3 + j)) ?_ e7
    have e6 : fX2_cartTold 0 (nI j) g = some (g.1 0 (3 + j), g) := by
      match j, hj with
      | 0, _ => rfl
      | 1, _ => rfl
      | 2, _ => rfl
      | 3, _ => rfl
    unfold fX6_cart
    rw [e6, p_b2, hI.l.1 _ (by omega), e, if_pos (nI_pos' (by omega))]
  all_goals
    have h : x < 0 ∨ nI 4 ≤ x := by simp only [h, true_or, or_true]
    refine q_stop hI (c := 0) (by decide) ?_ fun h hf => ?_
    · unfold fX6_cart fX2_cartTold
      have n0 : ¬ x = 0 := p_ne h (j := 0) (by decide) (by decide)
      have n1 : ¬ x = 1 := p_ne h (j := 1) (by decide) (by decide)
      have n2 : ¬ x = 2 := p_ne h (j := 2) (by decide) (by decide)
      have n3 : ¬ x = 3 := p_ne h (j := 3) (by decide) (by decide)
      rw [p_bt (by decide), p_gd, if_neg n0, if_neg n1, if_neg n2, if_neg n3, p_b2, if_neg q_of0, p_eta]
      rfl
    · unfold fX7_cart
      rw [show fX7_in x.toInt64 0 3 h = some (0, h) from r_inN (n := 4) (by decide) (by decide) (by assumption) h, p_b2, if_pos rfl, p_eta]
      rfl
theorem o_who (hI : q_Inv g) (x : Int32) : q_go (fX6_who x) (fX7_who x) g := by
  have hx : (x < 0 ∨ nI 16 ≤ x) ∨ ∃ j, j < 16 ∧ x = nI j := by
    rcases pk_ix x (n := 16) (by decide) with h | h | h
    · exact Or.inl (Or.inl h)
    · exact Or.inl (Or.inr h)
    · exact Or.inr h
  rcases hx with h | ⟨j, hj, rfl⟩
  · refine q_stop hI (c := 0) (by decide) ?_ fun k hf => ?_
    · unfold fX6_who
      rw [c_cellN h, p_b2, if_pos rfl, p_eta]
      rfl
    · unfold fX7_who
      rw [r_cellN h, p_b2, if_pos rfl, p_eta]
      rfl
  · refine q_tell hI (q_lie (g.1 3) (nI j)) ?_ fun k hf => ?_
    · unfold fX6_who
      rw [c_cell hj, p_b2, if_neg (by decide), c_lie (by decide) _ hI.a, p_b2, hI.l.lie]
    · unfold fX7_who
      rw [r_cell hj, p_b2, if_neg (by decide), r_lie _ (hf.b hI), p_b2, hf.r]
theorem q_ix (x : Int32) {n : Nat} (hn : n ≤ 10000) : (x < 0 ∨ nI n ≤ x) ∨ ∃ j, j < n ∧ x = nI j := by
  rcases pk_ix x (n := n) (by omega) with h | h | h
  · exact Or.inl (Or.inl h)
  · exact Or.inl (Or.inr h)
  · exact Or.inr h
theorem o_now (hI : q_Inv g) (x : Int32) : q_go (fX6_now x) (fX7_now x) g := by
  rcases q_ix x (n := 8) (by decide) with h | ⟨j, hj, rfl⟩
  · refine q_stop hI (c := 0) (by decide) ?_ fun k hf => ?_
    · unfold fX6_now
      have n0 : ¬ x = 0 := p_ne h (j := 0) (by decide) (by decide)
      have n1 : ¬ x = 1 := p_ne h (j := 1) (by decide) (by decide)
      have n2 : ¬ x = 2 := p_ne h (j := 2) (by decide) (by decide)
      have n3 : ¬ x = 3 := p_ne h (j := 3) (by decide) (by decide)
      have n4 : ¬ x = 4 := p_ne h (j := 4) (by decide) (by decide)
      have n5 : ¬ x = 5 := p_ne h (j := 5) (by decide) (by decide)
      have n6 : ¬ x = 6 := p_ne h (j := 6) (by decide) (by decide)
      have n7 : ¬ x = 7 := p_ne h (j := 7) (by decide) (by decide)
      rw [if_neg n0, if_neg n1, if_neg n2, if_neg n3, if_neg n4, if_neg n5, if_neg n6, if_neg n7, p_eta]
      rfl
    · unfold fX7_now
      have n0 : ¬ x = 0 := p_ne h (j := 0) (by decide) (by decide)
      have n1 : ¬ x = 1 := p_ne h (j := 1) (by decide) (by decide)
      have n2 : ¬ x = 2 := p_ne h (j := 2) (by decide) (by decide)
      have n3 : ¬ x = 3 := p_ne h (j := 3) (by decide) (by decide)
      have n4 : ¬ x = 4 := p_ne h (j := 4) (by decide) (by decide)
      have n5 : ¬ x = 5 := p_ne h (j := 5) (by decide) (by decide)
      have n6 : ¬ x = 6 := p_ne h (j := 6) (by decide) (by decide)
      have n7 : ¬ x = 7 := p_ne h (j := 7) (by decide) (by decide)
      rw [if_neg n0, if_neg n1, if_neg n2, if_neg n3, if_neg n4, if_neg n5, if_neg n6, if_neg n7, p_eta]
      rfl
  · match j, hj with
    | 0, _ =>
      refine q_tell hI (g.1 3 1) ?_ fun k hf => ?_
      · show some (g.1 0 1, g) = _
        rw [hI.l.1 1 (by decide)]
      · show some (k.1 3 1, k) = _
        rw [hf.r]
    | 1, _ =>
      refine q_tell hI (q_set (g.1 3) 47) ?_ fun k hf => ?_
      · show ic_b2 (fX2_thingsWith 0 5 1 g) (fun v g => some (v, g)) = _
        rw [p_eta, c_set5 (by decide) hI.a, show q_set (g.1 0) 47 = q_set (g.1 3) 47 from hI.l.set (w := 5) (by decide)]
      · show ic_b2 (fX7_setOf 5 k) (fun v g => some (v, g)) = _
        rw [p_eta, r_set_5 (hf.b hI), hf.r]
    | 2, _ =>
      refine q_tell hI (q_sum (g.1 3) 31) ?_ fun k hf => ?_
      · show ic_b2 (fX2_sumOf 0 3 g) (fun v g => some (v, g)) = _
        rw [p_eta, c_sum3 (by decide) hI.a, show q_sum (g.1 0) 31 = q_sum (g.1 3) 31 from hI.l.sum (w := 3) (by decide)]
      · show ic_b2 (fX7_sumOf 3 k) (fun v g => some (v, g)) = _
        rw [p_eta, r_sum3 (hf.b hI), hf.r]
    | 3, _ =>
      refine q_tell hI (q_sum (g.1 3) 55) ?_ fun k hf => ?_
      · show ic_b2 (fX2_sumOf 0 6 g) (fun v g => some (v, g)) = _
        rw [p_eta, c_sum6 (by decide) hI.a, show q_sum (g.1 0) 55 = q_sum (g.1 3) 55 from hI.l.sum (w := 6) (by decide)]
      · show ic_b2 (fX7_sumOf 6 k) (fun v g => some (v, g)) = _
        rw [p_eta, r_sum6 (hf.b hI), hf.r]
    | 4, _ =>
      refine q_tell hI (q_hvy (g.1 3)) ?_ fun k hf => ?_
      · show ic_b2 (fX2_takenHeavy 0 g) (fun v g => some (v, g)) = _
        rw [p_eta, c_hvy (by decide) hI.a, hI.l.hvy]
      · show ic_b2 (fX7_heavyTaken k) (fun v g => some (v, g)) = _
        rw [p_eta, r_hvy (hf.b hI), hf.r]
    | 5, _ =>
      refine q_tell hI (q_sg (g.1 3)) ?_ fun k hf => ?_
      · show ic_b2 (fX2_mostFeeling 0 g) (fun v g => some (v, g)) = _
        rw [p_eta, c_sg (by decide) hI.a, hI.l.sg]
      · show ic_b2 (fX7_strongest k) (fun v g => some (v, g)) = _
        rw [p_eta, r_sg (hf.b hI), hf.r]
    | 6, _ =>
      refine q_tell hI (q_ces (g.1 3)) ?_ fun k hf => ?_
      · show ic_b2 (fX2_cellsInUse 0 g) (fun v g => some (v, g)) = _
        rw [p_eta, c_ces (by decide) hI.a, hI.l.ces]
      · show ic_b2 (fX7_cells k) (fun v g => some (v, g)) = _
        rw [p_eta, r_ces (hf.b hI), hf.r]
    | 7, _ =>
      refine q_tell hI (q_set (g.1 3) 39) ?_ fun k hf => ?_
      · show ic_b2 (fX2_thingsWith 0 4 1 g) (fun v g => some (v, g)) = _
        rw [p_eta, c_set4 (by decide) hI.a, show q_set (g.1 0) 39 = q_set (g.1 3) 39 from hI.l.set (w := 4) (by decide)]
      · show ic_b2 (fX7_setOf 4 k) (fun v g => some (v, g)) = _
        rw [p_eta, r_set_4 (hf.b hI), hf.r]
theorem p_nm1 {n : Nat} (h : n < 2 ^ 31) : ¬ nI n = -1 := by
  intro e
  have a := congrArg Int32.toInt e
  rw [nI_toInt h] at a
  have h1 : (-1 : Int32).toInt = -1 := by decide
  omega
theorem o_useL : ∀ m k n y (g : ic_S) {b : Nat → Int32} (_ : q_R (g.1 0) b), k + m = 10 → m < n → lX2_spotsInUse_13 0 n y (nI k) g = some (q_it (fun j y => if g.1 0 (63 + j) = -1 then y else y + 1) m k y, g) := by
  intro m
  induction m with
  | zero =>
    intro k n y g b hR h1 h2
    obtain ⟨n, rfl⟩ : ∃ j, n = j + 1 := ⟨n - 1, by omega⟩
    obtain rfl : k = 10 := by omega
    unfold lX2_spotsInUse_13
    rw [if_pos (by decide), q_itz]
  | succ m ih =>
    intro k n y g b hR h1 h2
    obtain ⟨n, rfl⟩ : ∃ j, n = j + 1 := ⟨n - 1, by omega⟩
    have a1 : ¬ (10 : Int32) ≤ nI k := nI_ge (b := 10) (by omega) (by decide)
    have a3 : (nI k).toNatClampNeg = k := nI_clamp (by omega)
    unfold lX2_spotsInUse_13
    rw [if_neg a1, p_in (show k < 10 by omega) (by decide), p_gd, p_let, a3, q_its, nI_1]
    split
    · rename_i h
      rw [ih (k + 1) n _ g hR (by omega) (by omega)]
    · rename_i h
      rw [ih (k + 1) n _ g hR (by omega) (by omega)]
theorem r_useL {a : Nat → Int32} : ∀ m k n y (g : ic_S) (_ : q_R a (g.1 3)), k + m = 10 → m < n → lX7_holding_4 n y (nI k) g = some (q_it (fun j y => if a (63 + j) = -1 then y else y + 1) m k y, g) := by
  intro m
  induction m with
  | zero =>
    intro k n y g hR h1 h2
    obtain ⟨n, rfl⟩ : ∃ j, n = j + 1 := ⟨n - 1, by omega⟩
    obtain rfl : k = 10 := by omega
    unfold lX7_holding_4
    rw [if_pos (by decide), q_itz]
  | succ m ih =>
    intro k n y g hR h1 h2
    obtain ⟨n, rfl⟩ : ∃ j, n = j + 1 := ⟨n - 1, by omega⟩
    have a1 : ¬ (10 : Int32) ≤ nI k := nI_ge (b := 10) (by omega) (by decide)
    unfold lX7_holding_4
    rw [if_neg a1, show (63 : Int32) = nI 63 from rfl, nI_add, p_in (show 63 + k < 73 by omega) (by decide), p_gd, nI_clamp (by omega), Nat.add_zero, Nat.zero_add, q_its, nI_1]
    rcases hR.2.2.2 k (by omega) with ⟨h, h'⟩ | ⟨t, ht, h, h'⟩
    · rw [h', if_pos (by decide), ih (k + 1) n _ g hR (by omega) (by omega), if_pos h, Int32.add_zero]
    · have hM := (q_ok0 hR.2.1).2
      rw [h', if_neg (nI_nle (by omega) (by omega)), ih (k + 1) n _ g hR (by omega) (by omega), if_neg (by rw [h]; exact p_nm1 (by omega))]
theorem o_count (hI : q_Inv g) (x : Int32) : q_go (fX6_count x) (fX7_count x) g := by
  rcases q_ix x (n := 8) (by decide) with h | ⟨j, hj, rfl⟩
  · refine q_stop hI (c := 0) (by decide) ?_ fun k hf => ?_
    · unfold fX6_count
      have n0 : ¬ x = 0 := p_ne h (j := 0) (by decide) (by decide)
      have n1 : ¬ x = 1 := p_ne h (j := 1) (by decide) (by decide)
      have n2 : ¬ x = 2 := p_ne h (j := 2) (by decide) (by decide)
      have n3 : ¬ x = 3 := p_ne h (j := 3) (by decide) (by decide)
      have n4 : ¬ x = 4 := p_ne h (j := 4) (by decide) (by decide)
      have n5 : ¬ x = 5 := p_ne h (j := 5) (by decide) (by decide)
      have n6 : ¬ x = 6 := p_ne h (j := 6) (by decide) (by decide)
      have n7 : ¬ x = 7 := p_ne h (j := 7) (by decide) (by decide)
      rw [if_neg n0, if_neg n1, if_neg n2, if_neg n3, if_neg n4, if_neg n5, if_neg n6, if_neg n7, p_eta]
      rfl
    · unfold fX7_count
      have n0 : ¬ x = 0 := p_ne h (j := 0) (by decide) (by decide)
      have n1 : ¬ x = 1 := p_ne h (j := 1) (by decide) (by decide)
      have n2 : ¬ x = 2 := p_ne h (j := 2) (by decide) (by decide)
      have n3 : ¬ x = 3 := p_ne h (j := 3) (by decide) (by decide)
      have n4 : ¬ x = 4 := p_ne h (j := 4) (by decide) (by decide)
      have n5 : ¬ x = 5 := p_ne h (j := 5) (by decide) (by decide)
      have n6 : ¬ x = 6 := p_ne h (j := 6) (by decide) (by decide)
      have n7 : ¬ x = 7 := p_ne h (j := 7) (by decide) (by decide)
      rw [if_neg n0, if_neg n1, if_neg n2, if_neg n3, if_neg n4, if_neg n5, if_neg n6, if_neg n7, p_eta]
      rfl
  · match j, hj with
    | 0, _ =>
      refine q_tell hI (g.1 3 1) ?_ fun k hf => ?_
      · show some (g.1 0 1, g) = _
        rw [hI.l.1 1 (by decide)]
      · show some (k.1 3 1, k) = _
        rw [hf.r]
    | 1, _ =>
      refine q_tell hI (g.1 3 0) ?_ fun k hf => ?_
      · show some (g.1 0 0, g) = _
        rw [hI.l.1 0 (by decide)]
      · show some (k.1 3 0, k) = _
        rw [hf.r]
    | 2, _ =>
      refine q_tell hI (q_sum (g.1 3) 47) ?_ fun k hf => ?_
      · show ic_b2 (fX2_sumOf 0 5 g) (fun v g => some (v, g)) = _
        rw [p_eta, c_sum5 (by decide) hI.a, show q_sum (g.1 0) 47 = q_sum (g.1 3) 47 from hI.l.sum (w := 5) (by decide)]
      · show ic_b2 (fX7_setOf 5 k) (fun v g => ic_b2 (fX7_ones v g) (fun v g => some (v, g))) = _
        obtain ⟨y, hy, e1, e2⟩ := q_setP (r := g.1 3) 47 (q_ok0 hI.b).2 (fun t ht => p_01 (q_okT hI.b ht))
        rw [r_set_5 (hf.b hI), p_b2, hf.r, e1, r_ones hy, p_b2, e2]
    | 3, _ =>
      refine q_tell hI (q_sum (g.1 3) 31) ?_ fun k hf => ?_
      · show ic_b2 (fX2_sumOf 0 3 g) (fun v g => some (v, g)) = _
        rw [p_eta, c_sum3 (by decide) hI.a, show q_sum (g.1 0) 31 = q_sum (g.1 3) 31 from hI.l.sum (w := 3) (by decide)]
      · show ic_b2 (fX7_sumOf 3 k) (fun v g => some (v, g)) = _
        rw [p_eta, r_sum3 (hf.b hI), hf.r]
    | 4, _ =>
      refine q_tell hI (q_sum (g.1 3) 55) ?_ fun k hf => ?_
      · show ic_b2 (fX2_sumOf 0 6 g) (fun v g => some (v, g)) = _
        rw [p_eta, c_sum6 (by decide) hI.a, show q_sum (g.1 0) 55 = q_sum (g.1 3) 55 from hI.l.sum (w := 6) (by decide)]
      · show ic_b2 (fX7_sumOf 6 k) (fun v g => some (v, g)) = _
        rw [p_eta, r_sum6 (hf.b hI), hf.r]
    | 5, _ =>
      refine q_tell hI (g.1 8 0) ?_ fun k hf => ?_
      · show some (g.1 8 0, g) = _
        rfl
      · show some (k.1 24 1, k) = _
        rw [hf.1 24 (by omega), ← hI.2.2.2.2.1.1]
    | 6, _ =>
      refine q_tell hI (g.1 3 2) ?_ fun k hf => ?_
      · show some (g.1 0 2, g) = _
        rw [hI.l.1 2 (by decide)]
      · show some (k.1 3 2, k) = _
        rw [hf.r]
    | 7, _ =>
      refine q_tell hI (q_it (fun j y => if g.1 0 (63 + j) = -1 then y else y + 1) 10 0 0) ?_ fun k hf => ?_
      · show ic_b2 (fX2_spotsInUse 0 g) (fun v g => some (v, g)) = _
        rw [p_eta]
        unfold fX2_spotsInUse
        rw [p_bt (by decide), p_gd, show (0 : Int32) = nI 0 from nI_0.symm, o_useL 10 0 1000 _ g hI.2.2.1 rfl (by decide), p_b2]
      · show ic_b2 (fX7_holding k) (fun v g => some (v, g)) = _
        rw [p_eta]
        unfold fX7_holding
        have hR : q_R (g.1 0) (k.1 3) := by
          rw [hf.r]
          exact hI.2.2.1
        rw [show (0 : Int32) = nI 0 from nI_0.symm, r_useL 10 0 1000 _ k hR rfl (by decide), p_b2]
theorem q_told9 {r : Nat → Int32} {t : Nat} {x : Int32} (h : x < 0 ∨ nI 12 ≤ x) : q_told r t x = -1 := by
  have n0 : ¬ x = 0 := p_ne h (j := 0) (by decide) (by decide)
  have n1 : ¬ x = 1 := p_ne h (j := 1) (by decide) (by decide)
  have n2 : ¬ x = 2 := p_ne h (j := 2) (by decide) (by decide)
  have n3 : ¬ x = 3 := p_ne h (j := 3) (by decide) (by decide)
  have n4 : ¬ x = 4 := p_ne h (j := 4) (by decide) (by decide)
  have n5 : ¬ x = 5 := p_ne h (j := 5) (by decide) (by decide)
  have n6 : ¬ x = 6 := p_ne h (j := 6) (by decide) (by decide)
  have n7 : ¬ x = 7 := p_ne h (j := 7) (by decide) (by decide)
  have n8 : ¬ x = 8 := p_ne h (j := 8) (by decide) (by decide)
  have n9 : ¬ x = 9 := p_ne h (j := 9) (by decide) (by decide)
  have n10 : ¬ x = 10 := p_ne h (j := 10) (by decide) (by decide)
  have n11 : ¬ x = 11 := p_ne h (j := 11) (by decide) (by decide)
  unfold q_told q_t4
  rw [if_neg n7, if_neg n11, if_neg n0, if_neg n1, if_neg n2, if_neg n3, if_neg n4, if_neg n5, if_neg n6, if_neg n8, if_neg n9, if_neg n10]
theorem q_told7 {g : ic_S} (hk : q_ok (g.1 3)) {t : Nat} (ht : t < 8) {w : Nat} (hw : w < 7) : q_told (g.1 3) t (nI w) = g.1 3 (7 + 8 * w + t) := by
  match w, hw with
  | 0, _ => rfl
  | 1, _ => rfl
  | 2, _ => rfl
  | 3, _ => rfl
  | 4, _ => rfl
  | 5, _ => rfl
  | 6, _ => rfl
theorem q_toldN {r : Nat → Int32} (hk : q_ok r) {t : Nat} (ht : t < 8) {j : Nat} (hj : j < 12) : ∃ n, n ≤ 99999 ∧ q_told r t (nI j) = nI n := by
  have w7 : ∀ w, w < 7 → ∃ n, n ≤ 99999 ∧ r (7 + 8 * w + t) = nI n := by
    intro w hw
    obtain ⟨n, hn, e⟩ := hk (7 + 8 * w + t) (by omega) (by omega)
    exact ⟨n, Nat.le_trans hn (q_bdb _), e⟩
  match j, hj with
  | 0, _ => exact w7 0 (by decide)
  | 1, _ => exact w7 1 (by decide)
  | 2, _ => exact w7 2 (by decide)
  | 3, _ => exact w7 3 (by decide)
  | 4, _ => exact w7 4 (by decide)
  | 5, _ => exact w7 5 (by decide)
  | 6, _ => exact w7 6 (by decide)
  | 7, _ =>
    obtain ⟨n, hn, e⟩ := q_feN hk (q_ok3 hk) ht
    exact ⟨n, by omega, e⟩
  | 8, _ =>
    obtain ⟨n, hn, _, e⟩ := q_stN r t
    exact ⟨n, by omega, e⟩
  | 9, _ =>
    rcases q_lk01 r t with e | e
    · exact ⟨0, by decide, e⟩
    · exact ⟨1, by decide, e⟩
  | 10, _ =>
    obtain ⟨n, hn, e⟩ := q_reN r t
    exact ⟨n, by omega, e⟩
  | 11, _ =>
    obtain ⟨n, hn, e⟩ := q_distN hk (q_ok3 hk) ht
    exact ⟨n, by omega, e⟩
theorem o_of (hI : q_Inv g) (x1 x2 : Int32) : q_go (fX6_of x1 x2) (fX7_of x1 x2) g := by
  rcases hI.2.2.1.thing x1 with ⟨ha, hb⟩ | ⟨t, hta, htb, rfl⟩
  · refine q_stop hI (c := 0) (by decide) ?_ fun k hf => ?_
    · unfold fX6_of
      rw [c_toldN (by decide) _ _ ha, p_b2, if_neg q_of0, p_eta]
      rfl
    · unfold fX7_of
      rw [r_hasN (hf.b hI) (by rw [hf.r]; exact hb), p_b2, if_pos rfl, p_eta]
      rfl
  · have ht8 : t < 8 := by have := (q_ok0 hI.b).2; omega
    rcases q_ix x2 (n := 12) (by decide) with h | ⟨j, hj, rfl⟩
    · refine q_stop hI (c := 0) (by decide) ?_ fun k hf => ?_
      · unfold fX6_of
        rw [c_told (by decide) hI.a hta, p_b2, q_told9 h, if_neg q_of0, p_eta]
        rfl
      · unfold fX7_of
        rw [r_has (hf.b hI) (by rw [hf.r]; exact htb), p_b2, if_neg (by decide), show fX7_in x2.toInt64 0 11 k = some (0, k) from r_inN (n := 12) (by decide) (by decide) h k, p_b2, if_pos rfl, p_eta]
        rfl
    · refine q_tell hI (q_told (g.1 3) t (nI j)) ?_ fun k hf => ?_
      · obtain ⟨n, hn, e⟩ := q_toldN hI.b ht8 hj
        unfold fX6_of
        rw [c_told (by decide) hI.a hta, p_b2, hI.l.told _ htb, e, if_pos (nI_pos' (by omega))]
      · unfold fX7_of
        rw [r_has (hf.b hI) (by rw [hf.r]; exact htb), p_b2, if_neg (by decide), show fX7_in (nI j).toInt64 0 11 k = some (1, k) from r_inY hj (by decide) k, p_b2, if_neg (by decide)]
        rw [← hf.r]
        have hw : ∀ w, w < 7 → ic_b2 (fX7_its (nI t) (nI w) k) (fun v g => some (v, g)) = some (q_told (k.1 3) t (nI w), k) := by
          intro w hw
          rw [p_eta, r_its (by omega), q_told7 (hf.b hI) ht8 hw]
        match j, hj with
        | 0, _ => exact hw 0 (by decide)
        | 1, _ => exact hw 1 (by decide)
        | 2, _ => exact hw 2 (by decide)
        | 3, _ => exact hw 3 (by decide)
        | 4, _ => exact hw 4 (by decide)
        | 5, _ => exact hw 5 (by decide)
        | 6, _ => exact hw 6 (by decide)
        | 7, _ =>
          show ic_b2 (fX7_feels (nI t) k) (fun v g => some (v, g)) = _
          rw [p_eta, r_fe ht8 (hf.b hI)]
          rfl
        | 8, _ =>
          show ic_b2 (fX7_steps (nI t) k) (fun v g => some (v, g)) = _
          rw [p_eta, r_st ht8]
          rfl
        | 9, _ =>
          show ic_b2 (fX7_isLiked (nI t) k) (fun v g => if v = 0 then some (0, g) else some (1, g)) = _
          rw [r_lk ht8, p_b2, p_b01 (fun v => some (v, k)) (q_lk01 _ _)]
          rfl
        | 10, _ =>
          show ic_b2 (fX7_rests (nI t) k) (fun v g => some (v, g)) = _
          rw [p_eta, r_re ht8 (hf.b hI)]
          rfl
        | 11, _ =>
          show ic_b2 (fX7_far (nI t) k) (fun v g => some (v, g)) = _
          rw [p_eta, r_far ht8]
          rfl
theorem o_stL : ∀ m k n y (g : ic_S), k + m = 7 → m < n → lX6_status_45 n y (nI k) g = some (q_it (fun i y => y + g.1 23 i) m k y, g) := by
  intro m
  induction m with
  | zero =>
    intro k n y g h1 h2
    obtain ⟨n, rfl⟩ : ∃ j, n = j + 1 := ⟨n - 1, by omega⟩
    obtain rfl : k = 7 := by omega
    unfold lX6_status_45
    rw [if_pos (by decide), q_itz]
  | succ m ih =>
    intro k n y g h1 h2
    obtain ⟨n, rfl⟩ : ∃ j, n = j + 1 := ⟨n - 1, by omega⟩
    have a1 : ¬ (7 : Int32) ≤ nI k := nI_ge (b := 7) (by omega) (by decide)
    unfold lX6_status_45
    rw [if_neg a1, p_in (show k < 7 by omega) (by decide), p_gd, p_let, nI_clamp (by omega), Nat.zero_add, nI_1, ih (k + 1) n _ g (by omega) (by omega), q_its]
theorem r_stL (x : Int32) : ∀ m k n y (g : ic_S), k + m = 7 → m < n → lX7_status_24 x n y (nI k) g = some (q_it (fun i y => y + g.1 25 i) m k y, g) := by
  intro m
  induction m with
  | zero =>
    intro k n y g h1 h2
    obtain ⟨n, rfl⟩ : ∃ j, n = j + 1 := ⟨n - 1, by omega⟩
    obtain rfl : k = 7 := by omega
    unfold lX7_status_24
    rw [if_pos (by decide), q_itz]
  | succ m ih =>
    intro k n y g h1 h2
    obtain ⟨n, rfl⟩ : ∃ j, n = j + 1 := ⟨n - 1, by omega⟩
    have a1 : ¬ (7 : Int32) ≤ nI k := nI_ge (b := 7) (by omega) (by decide)
    unfold lX7_status_24
    rw [if_neg a1, p_in (show k < 7 by omega) (by decide), p_gd, p_let, nI_clamp (by omega), Nat.zero_add, nI_1, ih (k + 1) n _ g (by omega) (by omega), q_its]
theorem q_m1 {x : Int32} (h : ¬ x < -1) (h2 : ¬ x = -1) : ¬ x < 0 := by
  intro h3
  have a := Int32.lt_iff_toInt_lt.mp h3
  have h1 : (-1 : Int32).toInt = -1 := by decide
  have h0 : (0 : Int32).toInt = 0 := by decide
  have b : ¬ x.toInt < -1 := fun e => h (Int32.lt_iff_toInt_lt.mpr (by rw [h1]; exact e))
  have c : ¬ x.toInt = -1 := fun e => h2 (Int32.toInt_inj.mp (by rw [h1]; exact e))
  rw [h0] at a
  omega
theorem o_status (hI : q_Inv g) (x : Int32) : q_go (fX6_status x) (fX7_status x) g := by
  have hs : q_it (fun i y => y + g.1 23 i) 7 0 (nI 0) = q_it (fun i y => y + g.1 25 i) 7 0 (nI 0) := q_itE 7 (fun i y hi => by rw [hI.2.2.2.2.2.2 i hi]) 7 0 _ (by decide)
  have e6 := o_stL 7 0 1000 (nI 0) g rfl (by decide)
  have e7 : ∀ k, q_rf g k → lX7_status_24 x 1000 0 0 k = some (q_it (fun i y => y + g.1 25 i) 7 0 (nI 0), k) := by
    intro k hf
    rw [show (0 : Int32) = nI 0 from nI_0.symm, r_stL x 7 0 1000 (nI 0) k rfl (by decide), hf.1 25 (by omega)]
  by_cases h1 : x < -1
  · refine q_stop hI (c := 0) (by decide) ?_ fun k hf => ?_
    · unfold fX6_status
      rw [if_pos h1, p_eta]
      rfl
    · unfold fX7_status
      rw [show fX7_in x.toInt64 (-1) 6 k = _ from r_in x (-1) 6 k, if_pos h1, p_b2, if_pos rfl, p_eta]
      rfl
  · by_cases h2 : x = -1
    · subst h2
      refine q_tell hI (q_it (fun i y => y + g.1 25 i) 7 0 (nI 0)) ?_ fun k hf => ?_
      rotate_left
      · unfold fX7_status
        rw [show fX7_in (Int32.toInt64 (-1)) (-1) 6 k = some (1, k) from r_in (-1) (-1) 6 k, p_b2, if_neg (by decide), e7 k hf, p_b2, if_neg (by decide)]
      · unfold fX6_status
        rw [if_neg h1, if_pos (by decide), if_pos (by decide), show (0 : Int32) = nI 0 from nI_0.symm, e6, p_b2, hs]
    · have h3 := q_m1 h1 h2
      rcases q_ix x (n := 7) (by decide) with h | ⟨j, hj, rfl⟩
      · have h : nI 7 ≤ x := h.resolve_left h3
        have h4 : ¬ x < 7 := Int32.not_lt.mpr h
        refine q_stop hI (c := 0) (by decide) ?_ fun k hf => ?_
        · unfold fX6_status
          rw [if_neg h1, if_neg h4, p_eta]
          rfl
        · have h5 : (6 : Int32) < x := by
            have a := Int32.le_iff_toInt_le.mp h
            rw [nI_toInt (by decide)] at a
            rw [Int32.lt_iff_toInt_lt, show (6 : Int32) = nI 6 from rfl, nI_toInt (by decide)]
            omega
          unfold fX7_status
          rw [show fX7_in x.toInt64 (-1) 6 k = _ from r_in x (-1) 6 k, if_neg h1, if_pos h5, p_b2, if_pos rfl, p_eta]
          rfl
      · refine q_tell hI (g.1 23 j) ?_ fun k hf => ?_
        · unfold fX6_status
          rw [if_neg h1, if_pos (show nI j < 7 from nI_lt (b := 7) hj (by decide)), if_neg h3, p_in hj (by decide), p_gd, nI_clamp (by omega), Nat.zero_add]
        · unfold fX7_status
          rw [show fX7_in (nI j).toInt64 (-1) 6 k = _ from r_in (nI j) (-1) 6 k, if_neg h1, if_neg (show ¬ 6 < nI j from nI_nlt (b := 6) (a := j) |> fun _ => Int32.not_lt.mpr (nI_le (b := 6) (by omega) (by decide))), p_b2, if_neg (by decide), e7 k hf, p_b2, if_pos (nI_pos' (by omega)), p_in hj (by decide), p_gd, nI_clamp (by omega), Nat.zero_add, hf.1 25 (by omega), hI.2.2.2.2.2.2 j hj]
end
