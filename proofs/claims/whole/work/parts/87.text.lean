/-! texts: an item, the items, text -/
theorem r_kind {f : Nat → Nat} {k s : Nat} {g : ic_S} (ha : q_at f k s g) : (∃ d, d < 7 ∧ q_so f k s = 1 ∧ q_va f k s = nI d ∧ fX7_kindHere g = some (nI d, g)) ∨ ((∀ d, d < 7 → ¬ (q_so f k s = 1 ∧ q_va f k s = nI d)) ∧ fX7_kindHere g = some (-1, g)) := by
  obtain ⟨c0, c1, c2, c3, c4, c5, c6, -⟩ := p_c
  unfold fX7_kindHere
  rcases r_isW (w := 0) ha (by decide) with ⟨w1, w2, w3⟩ | ⟨n0, w3⟩
  · rw [← c0, w3, p_b2, if_neg (by decide)]
    exact Or.inl ⟨0, by decide, w1, w2, rfl⟩
  rw [← c0, w3, p_b2, if_pos rfl]
  rcases r_isW (w := 1) ha (by decide) with ⟨w1, w2, w3⟩ | ⟨n1, w3⟩
  · rw [← c1, w3, p_b2, if_neg (by decide)]
    exact Or.inl ⟨1, by decide, w1, w2, rfl⟩
  rw [← c1, w3, p_b2, if_pos rfl]
  rcases r_isW (w := 2) ha (by decide) with ⟨w1, w2, w3⟩ | ⟨n2, w3⟩
  · rw [← c2, w3, p_b2, if_neg (by decide)]
    exact Or.inl ⟨2, by decide, w1, w2, rfl⟩
  rw [← c2, w3, p_b2, if_pos rfl]
  rcases r_isW (w := 3) ha (by decide) with ⟨w1, w2, w3⟩ | ⟨n3, w3⟩
  · rw [← c3, w3, p_b2, if_neg (by decide)]
    exact Or.inl ⟨3, by decide, w1, w2, rfl⟩
  rw [← c3, w3, p_b2, if_pos rfl]
  rcases r_isW (w := 4) ha (by decide) with ⟨w1, w2, w3⟩ | ⟨n4, w3⟩
  · rw [← c4, w3, p_b2, if_neg (by decide)]
    exact Or.inl ⟨4, by decide, w1, w2, rfl⟩
  rw [← c4, w3, p_b2, if_pos rfl]
  rcases r_isW (w := 5) ha (by decide) with ⟨w1, w2, w3⟩ | ⟨n5, w3⟩
  · rw [← c5, w3, p_b2, if_neg (by decide)]
    exact Or.inl ⟨5, by decide, w1, w2, rfl⟩
  rw [← c5, w3, p_b2, if_pos rfl]
  rcases r_isW (w := 6) ha (by decide) with ⟨w1, w2, w3⟩ | ⟨n6, w3⟩
  · rw [← c6, w3, p_b2, if_neg (by decide)]
    exact Or.inl ⟨6, by decide, w1, w2, rfl⟩
  rw [← c6, w3, p_b2, if_pos rfl]
  refine Or.inr ⟨fun d hd => ?_, rfl⟩
  match d, hd with
  | 0, _ => exact n0
  | 1, _ => exact n1
  | 2, _ => exact n2
  | 3, _ => exact n3
  | 4, _ => exact n4
  | 5, _ => exact n5
  | 6, _ => exact n6
section
variable {f : Nat → Nat} {k : Nat} {a6 a7 g6 g7 : ic_S}
/-- what is no thing -/
theorem s_rest {M j : Nat} (h6 : q_tk f k a6) (h7 : q_tr f k a7) (hG : q_Go f k a6 a7 M j g6 g7) : ∃ g6' g7', ic_b2 (fX0_passWord 11 g6) (fun v10 g8 => (if v10 = 0 then ic_b2 (fX0_passWord 14 g8) (fun v14 g12 => (if v14 = 0 then ic_let (ic_up g12 14 1 1) (fun g16 => some g16) else ic_b2 (fX0_passNumber 0 20 g12) (fun v19 g17 => ic_b1 (fX2_alterCart 1 3 v19 g17) (fun g20 => some g20)))) else ic_b1 (fX0_readCart g8) (fun g22 => some g22))) = some g6' ∧ ic_b2 (fX7_isWord 60284 g7) (fun v7 g5 => (if v7 = 0 then ic_b2 (fX7_isWord 247702 g5) (fun v11 g9 => (if v11 = 0 then ic_b1 (fX7_wrongHere g9) (fun g13 => some g13) else ic_b1 (fX7_next g9) (fun g15 => ic_b2 (fX7_numberHere 0 20 g15) (fun v19 g17 => ic_let (ic_up g17 (3 + 0) 6 v19) (fun g20 => some g20))))) else ic_b1 (fX7_cartHere g5) (fun g21 => some g21))) = some g7' ∧ q_Ou f k a6 a7 j g6' g7' := by
  have hG0 := hG
  obtain ⟨i1, i2, i3, i4, i5, i6, i7, i8⟩ := hG
  obtain ⟨-, -, -, -, -, -, -, -, -, -, -, c11, -, -, c14⟩ := p_c
  rw [← c11, ← c14]
  rcases r_isW (w := 11) i6 (by decide) with ⟨w1, w2, w3⟩ | ⟨w1, w3⟩
  · have e6 : fX0_passWord 11 g6 = _ := c_pw1 (w := 11) (hG0.tk h6) i2 i3 i4 ⟨w1, w2⟩
    obtain ⟨x6, x7, u6, u7, hx⟩ := s_cart h6 h7 hG0 w1
    rw [e6, p_b2, if_neg (by decide), u6, p_b1, w3, p_b2, if_neg (by decide), u7, p_b1]
    exact ⟨_, _, rfl, rfl, hx⟩
  · have e6 : fX0_passWord 11 g6 = _ := c_pw0 (w := 11) (hG0.tk h6) i2 i3 (Or.inl w1)
    rw [e6, p_b2, if_pos rfl, w3, p_b2, if_pos rfl]
    rcases r_isW (w := 14) i6 (by decide) with ⟨v1, v2, v3⟩ | ⟨v1, v3⟩
    · have e6 : fX0_passWord 14 g6 = _ := c_pw1 (w := 14) (hG0.tk h6) i2 i3 i4 ⟨v1, v2⟩
      obtain ⟨g7', en, er, hG1⟩ := s_step h6 h7 hG0 (by omega) (by omega)
      rw [e6, p_b2, if_neg (by decide), v3, p_b2, if_neg (by decide), en, p_b1]
      rcases s_num (lo := 0) (hi := 20) h6 h7 hG1 (by decide) (by decide) with ⟨v, g8, v1, v2, n1, n2, er2, hG2⟩ | ⟨n1, n2⟩
      · rw [show fX0_passNumber 0 20 _ = _ from n1, p_b2, show fX7_numberHere 0 20 g7' = _ from n2, p_b2, show ∀ g, fX2_alterCart 1 3 (nI v) g = some (ic_up g 1 6 (nI v)) from fun _ => rfl, up_sB, p_b1, p_let, up_sB, Nat.add_zero]
        refine ⟨_, _, rfl, rfl, Or.inl ⟨M, j + 1 + 1, by omega, hG2.row ?_ ?_⟩⟩
        · exact hG2.2.2.2.2.2.2.1.U (i := 6) (by decide) (by decide) (fun _ => ⟨v, v2, rfl⟩)
        · exact (q_UM (g8.1 3) (i := 6) (nI v) (by decide)).trans hG2.2.2.2.2.2.2.2
      · rw [show fX0_passNumber 0 20 _ = _ from n1, p_b2, show fX7_numberHere 0 20 g7' = _ from n2, p_b2, show ∀ g, fX2_alterCart 1 3 (nI 0) g = some (ic_up g 1 6 (nI 0)) from fun _ => rfl, up_sB, p_b1, p_let, up_sB, Nat.add_zero]
        refine ⟨_, _, rfl, rfl, Or.inr ((hG1.ba0.s6 ?_).s7 _)⟩
        exact q_okU hG1.2.2.2.2.2.2.1.1 fun _ _ => ⟨0, by decide, rfl⟩
    · have e6 : fX0_passWord 14 g6 = _ := c_pw0 (w := 14) (hG0.tk h6) i2 i3 (Or.inl v1)
      rw [e6, p_b2, if_pos rfl, p_let, up_sB, v3, p_b2, if_pos rfl, r_wr i6.2.1 i5, p_b1]
      exact ⟨_, _, rfl, rfl, Or.inr hG0.ba0⟩
theorem s_item {M j : Nat} (h6 : q_tk f k a6) (h7 : q_tr f k a7) (hG : q_Go f k a6 a7 M j g6 g7) : ∃ g6' g7', fX0_readItem g6 = some g6' ∧ fX7_item g7 = some g7' ∧ q_Ou f k a6 a7 j g6' g7' := by
  have hG0 := hG
  obtain ⟨i1, i2, i3, i4, i5, i6, i7, i8⟩ := hG
  have ht := hG0.tk h6
  have hs4 := q_so4 f k (q_St f k j)
  unfold fX0_readItem fX7_item
  rw [i3, c_val ht (by omega), p_b2, i3, c_sort ht (by omega), p_b2]
  rcases r_kind i6 with ⟨d, hd, w1, w2, w3⟩ | ⟨w1, w3⟩
  · obtain ⟨x6, x7, u6, u7, hx⟩ := s_thing h6 h7 hd hG0 w1
    rw [w1, if_pos (show nI 1 = 1 from rfl), w2, c_kind hd, p_b2, if_neg (by decide), u6, p_b1, w3, p_b2, if_neg (nI_pos (by omega)), u7, p_b1]
    exact ⟨_, _, rfl, rfl, hx⟩
  · rw [w3, p_b2, if_pos (show (-1 : Int32) < 0 by decide)]
    by_cases hs : q_so f k (q_St f k j) = 1
    · have hk : q_va f k (q_St f k j) < 0 ∨ nI 7 ≤ q_va f k (q_St f k j) := by
        have hv := (q_vaW hs).2.2
        revert hv
        unfold q_wi
        rcases q_fstS (p := fun w => decide (q_wv f (q_St f k j) (q_en f k (q_St f k j) - q_St f k j) = q_cd w)) 15 0 with ⟨e, h⟩ | ⟨l, e, h1, h2, h3, h4⟩
        · rw [e]
          intro hv
          rw [hv]
          exact Or.inl (by decide)
        · rw [e]
          intro hv
          by_cases hl : l < 7
          · exact absurd ⟨hs, hv⟩ (w1 l hl)
          · right
            rw [hv]
            exact nI_le (by omega) (by omega)
      rw [hs, if_pos (show nI 1 = 1 from rfl), c_kindN hk, p_b2, if_pos rfl]
      exact s_rest h6 h7 hG0
    · rw [if_neg (show ¬ nI (q_so f k (q_St f k j)) = 1 from fun h => hs ((nI_eq (b := 1) (by omega) (by decide)).mp h))]
      exact s_rest h6 h7 hG0
theorem s_its (h6 : q_tk f k a6) (h7 : q_tr f k a7) : ∀ m M j c n n' (g6 g7 : ic_S), j + m = 121 → m < n → m < n' → c ≤ j ∨ c = 1 → q_Go f k a6 a7 M j g6 g7 → ∃ g6' g7' c', c' ≤ 200 ∧ ic_b1 (fX7_item g7) (fun g => lX7_items_20 n' (nI c) g) = some (nI c', g7') ∧ ((lX0_readItems_12 n (nI c) g6 = some (.inl (nI c', g6')) ∧ ∃ M' j', q_Go f k a6 a7 M' j' g6' g7' ∧ q_so f k (q_St f k j') = 0) ∨ (lX0_readItems_12 n (nI c) g6 = some (.inr ((), g6')) ∧ (q_Ba f k a6 a7 g6' g7' ∨ ∃ M' j', q_Go f k a6 a7 M' j' g6' g7' ∧ q_so f k (q_St f k j') ≠ 0 ∧ q_so f k (q_St f k j') ≠ 3))) := by
  intro m
  induction m using Nat.strongRecOn with
  | ind m ih =>
    intro M j c n n' g6 g7 hm hn hn' hc hG
    have hj := hG.2.1
    obtain ⟨n, rfl⟩ : ∃ x, n = x + 1 := ⟨n - 1, by omega⟩
    obtain ⟨n', rfl⟩ : ∃ x, n' = x + 1 := ⟨n' - 1, by omega⟩
    obtain ⟨x6, x7, u6, u7, hx⟩ := s_item h6 h7 hG
    unfold lX0_readItems_12 lX7_items_20
    rw [if_neg (show ¬ 120 < nI c from nI_nlt (a := 120) (by omega) (by decide)), u6, p_b1, u7, p_b1, nI_1]
    rcases hx with ⟨M', l, hl, hx⟩ | hB
    · have hx0 := hx
      obtain ⟨i1, i2, i3, i4, i5, i6, i7, i8⟩ := hx
      have hs4 := q_so4 f k (q_St f k l)
      have ht := hx0.tk h6
      rw [if_pos i4, i3, c_sort ht (by omega), p_b2, i5, if_neg (by decide), i6.1]
      by_cases h0 : q_so f k (q_St f k l) = 0
      · refine ⟨x6, x7, c, by omega, ?_, Or.inl ⟨?_, M', l, hx0, h0⟩⟩
        · rw [if_neg (show ¬ nI (q_so f k (q_St f k l)) = 3 from fun h => absurd (h0.symm.trans ((nI_eq (b := 3) (by omega) (by decide)).mp h)) (by decide))]
        · rw [if_pos (show nI (q_so f k (q_St f k l)) = 0 from congrArg nI h0)]
      · rw [if_neg (show ¬ nI (q_so f k (q_St f k l)) = 0 from fun h => h0 ((nI_eq (b := 0) (by omega) (by decide)).mp h)), if_pos i4, i3, c_sort ht (by omega), p_b2]
        by_cases h3 : q_so f k (q_St f k l) = 3
        · obtain ⟨g7', en, er, hG1⟩ := s_step h6 h7 hx0 h0 (by omega)
          have e3 : nI (q_so f k (q_St f k l)) = 3 := congrArg nI h3
          rw [if_pos e3, if_pos e3, en, p_b1, p_let, up_sB, i3, nI_1]
          have hl2 := hG1.2.1
          obtain ⟨g6', g7'', c', hc', e7, hh⟩ := ih (121 - (l + 1)) (by omega) M' (l + 1) (c + 1) n n' (sB x6 14 (rU (x6.1 14) 0 (nI (l + 1)))) g7' (by omega) (by omega) (by omega) (by omega) hG1
          exact ⟨g6', g7'', c', hc', e7, hh⟩
        · have e3 : ¬ nI (q_so f k (q_St f k l)) = 3 := fun h => h3 ((nI_eq (b := 3) (by omega) (by decide)).mp h)
          rw [if_neg e3, if_neg e3]
          exact ⟨x6, x7, c, by omega, rfl, Or.inr ⟨rfl, Or.inr ⟨M', l, hx0, h0, h3⟩⟩⟩
    · have hB0 := hB
      obtain ⟨n1, l, n2, n3, n4, n5, n6⟩ := hB
      have hk := h6.1.2.1
      have hS := (q_Stk f k l).2
      have e4 : ¬ x6.1 14 1 = 0 := by
        rw [n4]
        decide
      rw [if_neg e4, if_neg e4, n5, if_pos (nI_pos' (by omega))]
      exact ⟨x6, x7, c, by omega, rfl, Or.inr ⟨rfl, Or.inl hB0⟩⟩
theorem s_run {h : ic_S} (h6 : q_tk f k a6) (h7 : q_tr f k h) (hR : q_R (a6.1 1) (h.1 3)) : ∃ v y g6' g7', fX0_readItems a6 = some (v, g6') ∧ fX7_items h = some (y, g7') ∧ q_Fr a6 h g6' g7' ∧ ((∃ c, c ≤ 200 ∧ v = nI c ∧ y = nI c ∧ g7'.1 24 5 = -1 ∧ q_R (g6'.1 1) (g7'.1 3)) ∨ (∃ s, s ≤ 120 ∧ v = -1 - nI s ∧ g7'.1 24 5 = nI s ∧ q_ok (g6'.1 1))) := by
  have hk := h6.1.2.1
  have t1 : q_tr f k (sB h 24 (rU (rU (h.1 24) 2 0) 5 (-1))) := h7.ext rfl rfl
  obtain ⟨x7, en, f7, x, ha⟩ := r_next t1 (p := 0) (Nat.zero_le _) rfl
  have e3 : x7.1 3 = h.1 3 := f7 3 (by decide)
  have e5 : x7.1 24 5 = -1 := x 5 (by decide) (by decide) (by decide)
  have hG : q_Go f k a6 h (q_M (h.1 3)) 0 (sB a6 14 (rU (rU (a6.1 14) 0 0) 1 0)) x7 := by
    refine ⟨⟨fun b _ h2 => sB_ne _ _ h2, fun b _ h2 => (f7 b h2).trans (sB_ne _ _ h2), x 0 (by decide) (by decide) (by decide), x 1 (by decide) (by decide) (by decide)⟩, by decide, rfl, rfl, e5, ha, ?_, ?_⟩
    · rw [e3]
      exact hR
    · rw [e3]
  obtain ⟨g6', g7', c', hc', e7, hh⟩ := s_its h6 h7 121 _ 0 1 1000 1000 _ _ (by decide) (by decide) (by decide) (Or.inr rfl) hG
  unfold fX0_readItems fX7_items
  rw [p_let, p_let, up_sB, up_sB, sB_self, sB_sB, p_let, p_let, up_sB, up_sB, sB_self, sB_sB, en, p_b1]
  rcases hh with ⟨e6, M', j', hG', h0⟩ | ⟨e6, hh⟩
  · refine ⟨nI c', nI c', g6', g7', ?_, ?_, hG'.1, Or.inl ⟨c', hc', rfl, rfl, hG'.2.2.2.2.1, hG'.2.2.2.2.2.2.1⟩⟩
    · rw [show lX0_readItems_12 1000 1 (sB a6 14 (rU (rU (a6.1 14) 0 0) 1 0)) = _ from e6, p_bsl]
    · revert e7
      rcases fX7_item x7 with _ | z
      · intro e7
        cases e7
      · intro e7
        rw [p_b1] at e7 ⊢
        rw [show lX7_items_20 1000 1 z = _ from e7, p_b2, hG'.2.2.2.2.1, if_neg (by decide), hG'.2.2.2.2.2.1.1, h0, if_pos (show nI 0 = 0 from rfl)]
  · rcases hh with hB | ⟨M', j', hG', h0, h3⟩
    · obtain ⟨n1, l, n2, n3, n4, n5, n6⟩ := id hB
      have hS := (q_Stk f k l).2
      refine ⟨-1 - nI (q_St f k l), nI c', g6', g7', ?_, ?_, hB.1, Or.inr ⟨_, by omega, rfl, n5, n6⟩⟩
      · rw [show lX0_readItems_12 1000 1 (sB a6 14 (rU (rU (a6.1 14) 0 0) 1 0)) = _ from e6, p_bsr, n3, c_plac (n1.tk h6) (by omega), p_b2]
      · revert e7
        rcases fX7_item x7 with _ | z
        · intro e7
          cases e7
        · intro e7
          rw [p_b1] at e7 ⊢
          rw [show lX7_items_20 1000 1 z = _ from e7, p_b2, n5, if_pos (nI_pos' (by omega))]
    · have hb := hG'.ba0
      obtain ⟨i1, i2, i3, i4, i5, i6, i7, i8⟩ := id hG'
      have hS := (q_Stk f k j').2
      have hs4 := q_so4 f k (q_St f k j')
      refine ⟨-1 - nI (q_St f k j'), nI c', g6', sB g7' 24 (rU (g7'.1 24) 5 (nI (q_St f k j'))), ?_, ?_, ?_, Or.inr ⟨_, by omega, rfl, rfl, i7.1⟩⟩
      · rw [show lX0_readItems_12 1000 1 (sB a6 14 (rU (rU (a6.1 14) 0 0) 1 0)) = _ from e6, p_bsr, i3, c_plac (i1.tk h6) (by omega), p_b2]
      · revert e7
        rcases fX7_item x7 with _ | z
        · intro e7
          cases e7
        · intro e7
          rw [p_b1] at e7 ⊢
          rw [show lX7_items_20 1000 1 z = _ from e7, p_b2, i5, if_neg (by decide), i6.1, if_neg (show ¬ nI (q_so f k (q_St f k j')) = 0 from fun h => h0 ((nI_eq (b := 0) (by omega) (by decide)).mp h)), r_wr i6.2.1 i5, p_b1]
      · exact ⟨i1.1, hb.1.2.1, hb.1.2.2.1, hb.1.2.2.2⟩
end
/-! text -/
theorem q_Inv.txt {g g2 : ic_S} (hI : q_Inv g) (h1 : q_ok (g2.1 1)) (hR : q_R (g2.1 0) (g2.1 3)) (e : ∀ b, b = 2 ∨ b = 6 ∨ b = 7 ∨ (15 ≤ b ∧ b ≠ 24 ∧ b ≠ 26) → g2.1 b = g.1 b) (e0 : g2.1 24 0 = g.1 24 0) (e8 : g2.1 8 0 = 0) (e1 : g2.1 24 1 = 0) : q_Inv g2 := by
  obtain ⟨i1, i2, i3, i4, i5, i6, i7⟩ := hI
  refine ⟨h1, ?_, hR, ?_, ⟨e8.trans e1.symm, 0, by decide, e8, fun i hi => absurd hi (Nat.not_lt_zero i)⟩, ?_, ?_⟩
  · rw [e 2 (by omega)]
    exact i2
  · rw [e 7 (by omega), e 2 (by omega), e 6 (by omega), e0]
    exact i4
  · rw [e 15 (by omega), e 16 (by omega), e 17 (by omega), e 18 (by omega), e 19 (by omega), e 20 (by omega), e 21 (by omega), e 22 (by omega), e 27 (by omega), e 28 (by omega), e 29 (by omega)]
    exact i6
  · rw [e 23 (by omega), e 25 (by omega)]
    exact i7
theorem p_neg1 : ∀ s, s ≤ 120 → (-1 : Int32) - nI s < 0 := by decide +kernel
theorem q_R.mt1 {a b d : Nat → Int32} (h : q_R a b) (hd : q_ok d) : q_R (q_mt d a) b := (h.mt hd (e := d)).ext fun i hi => (q_cpI d b hi).symm
section
variable {g : ic_S}
theorem o_text (hI : q_Inv g) : q_go fX6_text fX7_text g := by
  obtain ⟨i8, k, hk, ek, hT⟩ := hI.2.2.2.2.1
  have hR0 := hI.2.2.1
  have hRt : q_R (q_mt (g.1 1) (g.1 0)) (g.1 3) := hR0.mt1 hI.1
  have hf : ∀ i, i < k → (g.1 9 i).toNatClampNeg < 256 ∧ g.1 9 i = nI (g.1 9 i).toNatClampNeg ∧ g.1 26 i = q_sy (g.1 9 i).toNatClampNeg := by
    intro i hi
    obtain ⟨b, hb, e1, e2⟩ := hT i hi
    rw [e1, nI_clamp (by omega)]
    exact ⟨hb, rfl, e2⟩
  have tp : q_tp (fun i => (g.1 9 i).toNatClampNeg) k (sB g 1 (q_mt (g.1 1) (g.1 0))) := ⟨ek, hk, fun i hi => ⟨(hf i hi).1, (hf i hi).2.1⟩⟩
  revert tp
  have trg : ∀ h : ic_S, h.1 24 1 = g.1 24 1 → h.1 26 = g.1 26 → q_tr (fun i => (g.1 9 i).toNatClampNeg) k h := by
    intro h e1 e2
    refine ⟨(e1.trans i8.symm).trans ek, hk, fun i hi => ⟨(hf i hi).1, ?_⟩⟩
    rw [e2]
    exact (hf i hi).2.2
  revert trg
  generalize (fun i => (g.1 9 i).toNatClampNeg) = f
  intro trg tp
  obtain ⟨a6, ec, h6, fr6⟩ := c_cut tp
  have a1 : a6.1 1 = q_mt (g.1 1) (g.1 0) := (fr6 1 (by omega)).trans (sB_self _ _ _)
  have af : ∀ b, ¬ (10 ≤ b ∧ b ≤ 13) → b ≠ 1 → a6.1 b = g.1 b := fun b h1 h2 => (fr6 b h1).trans (sB_ne _ _ h2)
  obtain ⟨v, y0, g6, z0, r6, _, F0, hcase⟩ := s_run h6 (trg g rfl rfl) (by rw [a1]; exact hRt)
  have gf : ∀ b, ¬ (10 ≤ b ∧ b ≤ 14) → b ≠ 1 → g6.1 b = g.1 b := fun b h1 h2 => (F0.1 b h2 (by omega)).trans (af b (by omega) h2)
  have k6 : q_ok (g6.1 1) := by
    rcases hcase with ⟨c, _, _, _, _, h⟩ | ⟨s, _, _, _, h⟩
    · exact h.1
    · exact h
  have e6 : fX6_text g = (if v < 0 then some (v, sB g6 8 (rU (g6.1 8) 0 0)) else some (v, sB (sB g6 8 (rU (g6.1 8) 0 0)) 0 (q_mt (g6.1 0) (g6.1 1)))) := by
    unfold fX6_text
    rw [c_trial hI.a, p_b1, ec, p_b1, r6, p_b2, p_let, up_sB, c_match (g := sB g6 8 (rU (g6.1 8) 0 0)) (s := 0) (s1 := 1) (by decide) (by decide) (by decide) k6, p_b1]
    rfl
  -- the reference on any store that the class leaves
  have run7 : ∀ g1 : ic_S, (∀ b, ¬ (10 ≤ b ∧ b ≤ 14) → b ≠ 0 → b ≠ 1 → b ≠ 8 → g1.1 b = g.1 b) → ∃ y g7, fX7_items (sB g1 4 (q_cp (g1.1 4) (g1.1 3) 0)) = some (y, g7) ∧ q_Fr a6 (sB g1 4 (q_cp (g1.1 4) (g1.1 3) 0)) g6 g7 ∧ ((∃ c, c ≤ 200 ∧ v = nI c ∧ y = nI c ∧ g7.1 24 5 = -1 ∧ q_R (g6.1 1) (g7.1 3)) ∨ (∃ s, s ≤ 120 ∧ v = -1 - nI s ∧ g7.1 24 5 = nI s ∧ q_ok (g6.1 1))) := by
    intro g1 fr
    have e24 : g1.1 24 = g.1 24 := fr 24 (by omega) (by omega) (by omega) (by omega)
    have e26 : g1.1 26 = g.1 26 := fr 26 (by omega) (by omega) (by omega) (by omega)
    have e3 : g1.1 3 = g.1 3 := fr 3 (by omega) (by omega) (by omega) (by omega)
    have t7 : q_tr f k (sB g1 4 (q_cp (g1.1 4) (g1.1 3) 0)) := trg _ (by rw [sB_ne _ _ (by decide), e24]) (by rw [sB_ne _ _ (by decide), e26])
    obtain ⟨v', y, g6', g7, r6', r7, F1, hc⟩ := s_run h6 t7 (by rw [a1, sB_ne _ _ (by decide), e3]; exact hRt)
    rw [r6] at r6'
    cases r6'
    exact ⟨y, g7, r7, F1, hc⟩
  have e7 : ∀ (g1 : ic_S) y g7, fX7_items (sB g1 4 (q_cp (g1.1 4) (g1.1 3) 0)) = some (y, g7) → fX7_text g1 = (if (sB g7 24 (rU (g7.1 24) 1 0)).1 24 5 < 0 then some (y, sB g7 24 (rU (g7.1 24) 1 0)) else ic_b1 (fX7_copies 1 0 (sB g7 24 (rU (g7.1 24) 1 0))) (fun g8 => some (((-1) - (g8.1 24 5)), g8))) := by
    intro g1 y g7 h
    unfold fX7_text
    rw [r_cp (by decide) (by decide) (by decide), p_b1]
    show ic_b2 (fX7_items (sB g1 4 (q_cp (g1.1 4) (g1.1 3) 0))) _ = _
    rw [h, p_b2, p_let, up_sB]
  by_cases hv : v < 0
  · rw [if_pos hv] at e6
    have fr : ∀ b, ¬ (10 ≤ b ∧ b ≤ 14) → b ≠ 0 → b ≠ 1 → b ≠ 8 → (sB g6 8 (rU (g6.1 8) 0 0)).1 b = g.1 b := fun b h1 _ h2 h3 => (sB_ne _ _ h3).trans (gf b h1 h2)
    obtain ⟨y, g7, r7, F1, hc⟩ := run7 _ fr
    rcases hc with ⟨c, hc, e, _⟩ | ⟨s, hs, e, e5, _⟩
    · exact absurd hv (e ▸ nI_pos (by omega))
    · have es : (sB g7 24 (rU (g7.1 24) 1 0)).1 24 5 = nI s := by
        rw [sB_self, rU_n _ _ (by decide)]
        exact e5
      have e4 : (sB g7 24 (rU (g7.1 24) 1 0)).1 4 = q_cp (g6.1 4) (g6.1 3) 0 := (sB_ne _ _ (by decide)).trans ((F1.2.1 4 (by decide) (by decide)).trans (sB_self _ _ _))
      have e7' := e7 _ y g7 r7
      rw [es, if_neg (nI_pos (by omega)), r_cp (by decide) (by decide) (by decide), p_b1] at e7'
      have hz : ∀ r, (sB (sB g7 24 (rU (g7.1 24) 1 0)) (3 + 0) r).1 24 5 = nI s := fun r => by
        rw [sB_ne _ _ (show 24 ≠ 3 + 0 by decide)]
        exact es
      rw [hz, ← e] at e7'
      refine ⟨v, _, sB (sB g7 24 (rU (g7.1 24) 1 0)) 3 (q_cp ((sB g7 24 (rU (g7.1 24) 1 0)).1 3) ((sB g7 24 (rU (g7.1 24) 1 0)).1 4) 0), e6, e7', ?_, ?_, ?_, ?_, ?_⟩
      · have fb : ∀ b, b ≠ 3 → b ≠ 4 → b ≠ 24 → (sB (sB g7 24 (rU (g7.1 24) 1 0)) 3 (q_cp ((sB g7 24 (rU (g7.1 24) 1 0)).1 3) ((sB g7 24 (rU (g7.1 24) 1 0)).1 4) 0)).1 b = (sB g6 8 (rU (g6.1 8) 0 0)).1 b := fun b h1 h2 h3 => (sB_ne _ _ h1).trans ((sB_ne _ _ h3).trans ((F1.2.1 b h1 h3).trans (sB_ne _ _ h2)))
        refine hI.txt ?_ ?_ ?_ ?_ ?_ ?_
        · rw [fb 1 (by decide) (by decide) (by decide), sB_ne _ _ (by decide)]
          exact k6
        · rw [fb 0 (by decide) (by decide) (by decide), sB_ne _ _ (by decide), gf 0 (by omega) (by omega), sB_self, e4, gf 3 (by omega) (by omega)]
          exact hR0.ext ((q_e73c _ _).tr (q_e73c _ _))
        · intro b hb
          rw [fb b (by omega) (by omega) (by omega)]
          exact fr b (by omega) (by omega) (by omega) (by omega)
        · rw [sB_ne _ _ (by decide), sB_self, rU_n _ _ (by decide), F1.2.2.1, sB_ne _ _ (by decide), sB_ne _ _ (by decide), gf 24 (by omega) (by omega)]
        · rw [fb 8 (by decide) (by decide) (by decide), sB_self, rU_s]
        · rw [sB_ne _ _ (by decide), sB_self, rU_s]
      · exact fr 40 (by omega) (by omega) (by omega) (by omega)
      · exact fr 41 (by omega) (by omega) (by omega) (by omega)
      · exact (sB_ne _ _ (by decide)).trans ((sB_ne _ _ (by decide)).trans ((F1.2.1 40 (by decide) (by decide)).trans ((sB_ne _ _ (by decide)).trans (fr 40 (by omega) (by omega) (by omega) (by omega)))))
      · exact (sB_ne _ _ (by decide)).trans ((sB_ne _ _ (by decide)).trans ((F1.2.1 41 (by decide) (by decide)).trans ((sB_ne _ _ (by decide)).trans (fr 41 (by omega) (by omega) (by omega) (by omega)))))
  · rw [if_neg hv] at e6
    have fr : ∀ b, ¬ (10 ≤ b ∧ b ≤ 14) → b ≠ 0 → b ≠ 1 → b ≠ 8 → (sB (sB g6 8 (rU (g6.1 8) 0 0)) 0 (q_mt (g6.1 0) (g6.1 1))).1 b = g.1 b := fun b h1 h0 h2 h3 => (sB_ne _ _ h0).trans ((sB_ne _ _ h3).trans (gf b h1 h2))
    obtain ⟨y, g7, r7, F1, hc⟩ := run7 _ fr
    rcases hc with ⟨c, hc, e, ey, e5, hR⟩ | ⟨s, hs, e, _⟩
    · have es : (sB g7 24 (rU (g7.1 24) 1 0)).1 24 5 = -1 := by
        rw [sB_self, rU_n _ _ (by decide)]
        exact e5
      have e7' := e7 _ y g7 r7
      rw [es, if_pos (by decide), ey, ← e] at e7'
      refine ⟨v, _, _, e6, e7', ?_, ?_, ?_, ?_, ?_⟩
      · have fb : ∀ b, b ≠ 3 → b ≠ 4 → b ≠ 24 → (sB g7 24 (rU (g7.1 24) 1 0)).1 b = (sB (sB g6 8 (rU (g6.1 8) 0 0)) 0 (q_mt (g6.1 0) (g6.1 1))).1 b := fun b h1 h2 h3 => (sB_ne _ _ h3).trans ((F1.2.1 b h1 h3).trans (sB_ne _ _ h2))
        refine hI.txt ?_ ?_ ?_ ?_ ?_ ?_
        · rw [fb 1 (by decide) (by decide) (by decide), sB_ne _ _ (by decide), sB_ne _ _ (by decide)]
          exact k6
        · rw [fb 0 (by decide) (by decide) (by decide), sB_self, sB_ne _ _ (by decide)]
          refine hR.mt1 ?_
          rw [gf 0 (by omega) (by omega)]
          exact hI.a
        · intro b hb
          rw [fb b (by omega) (by omega) (by omega)]
          exact fr b (by omega) (by omega) (by omega) (by omega)
        · rw [sB_self, rU_n _ _ (by decide), F1.2.2.1, sB_ne _ _ (by decide), fr 24 (by omega) (by omega) (by omega) (by omega)]
        · rw [fb 8 (by decide) (by decide) (by decide), sB_ne _ _ (by decide), sB_self, rU_s]
        · rw [sB_self, rU_s]
      · exact fr 40 (by omega) (by omega) (by omega) (by omega)
      · exact fr 41 (by omega) (by omega) (by omega) (by omega)
      · exact (sB_ne _ _ (by decide)).trans ((F1.2.1 40 (by decide) (by decide)).trans ((sB_ne _ _ (by decide)).trans (fr 40 (by omega) (by omega) (by omega) (by omega))))
      · exact (sB_ne _ _ (by decide)).trans ((F1.2.1 41 (by decide) (by decide)).trans ((sB_ne _ _ (by decide)).trans (fr 41 (by omega) (by omega) (by omega) (by omega))))
    · exact absurd (e ▸ p_neg1 s hs) hv
end
