/-! texts: the items -/
section
variable {f : Nat → Nat} {k : Nat} {a6 a7 g6 g7 : ic_S}
/-- perhaps a word and a number -/
theorem s_tr {M j0 w c lo hi t : Nat} {C : Int64} (h6 : q_tk f k a6) (h7 : q_tr f k a7) (hC : q_L (q_cd w) = C) (hw : w < 15) (hc : c < 4) (hl : lo ≤ hi) (hh : hi ≤ 999) (ht : t < M) (hM : M ≤ 8) (e1 : ∀ g, fX6_leastOf (nI c) g = some (nI lo, g)) (e2 : ∀ g, fX6_mostOf (nI c) g = some (nI hi, g)) (hb : hi ≤ q_bd (7 + 8 * c + t)) (hG : q_GB f k a6 a7 M j0 g6 g7) : ∃ g6' g7', fX0_readTrait (nI w) (nI t) (nI c) g6 = some g6' ∧ fX7_perhaps C (nI (7 + 8 * c + t)) (nI lo) (nI hi) g7 = some g7' ∧ q_GB f k a6 a7 M j0 g6' g7' := by
  unfold fX0_readTrait fX7_perhaps
  rcases hG with ⟨j, hj, hG⟩ | hB
  · have hG0 := hG
    obtain ⟨i1, i2, i3, i4, i5, i6, i7, i8⟩ := hG
    rw [i5, if_neg (by decide), ← hC]
    rcases r_isW i6 hw with ⟨w1, w2, w3⟩ | ⟨w1, w3⟩
    · obtain ⟨g7', en, er, hG1⟩ := s_step h6 h7 hG0 (by omega) (by omega)
      rw [c_pw1 (hG0.tk h6) i2 i3 i4 ⟨w1, w2⟩, p_b2, if_neg (by decide), e1, p_b2, e2, p_b2, w3, p_b2, if_neg (by decide), en, p_b1]
      have M6 : ∀ g : ic_S, q_R (g.1 1) (g7'.1 3) → q_M (g.1 1) = M := fun g h => h.2.2.1.M.trans hG1.2.2.2.2.2.2.2
      have t6 : q_M (g6.1 1) = M := i7.2.2.1.M.trans i8
      rcases s_num h6 h7 hG1 hl hh with ⟨v, g8, v1, v2, n1, n2, er2, hG2⟩ | ⟨n1, n2⟩
      · rw [n1, p_b2, n2, p_b2, c_alt (s := 1) (by decide) hG2.2.2.2.2.2.2.1.1 (by rw [sB_ne _ _ (by decide), sB_ne _ _ (by decide), t6]; exact ht) (show c < 7 by omega) (nI v) (fun h => by omega), p_b1, hG2.2.2.2.2.1, if_neg (by decide), p_in (by omega) (by decide), p_gd, p_let, up_sB, nI_clamp (by omega), Nat.zero_add, Nat.add_zero]
        refine ⟨_, _, rfl, rfl, Or.inl ⟨j + 1 + 1, by omega, hG2.row ?_ ?_⟩⟩
        · exact hG2.2.2.2.2.2.2.1.U (by omega) (by omega) (fun _ => ⟨v, by omega, rfl⟩)
        · rw [q_UM _ _ (by omega)]
          exact hG2.2.2.2.2.2.2.2
      · have k6 : q_ok (sB (sB g6 14 (rU (g6.1 14) 0 (nI (j + 1)))) 14 (rU ((sB g6 14 (rU (g6.1 14) 0 (nI (j + 1)))).1 14) 1 1) |>.1 1) := by
          rw [sB_ne _ _ (by decide), sB_ne _ _ (by decide)]
          exact i7.1
        rw [n1, p_b2, n2, p_b2, c_alt (s := 1) (by decide) k6 (by rw [sB_ne _ _ (by decide), sB_ne _ _ (by decide), t6]; exact ht) (show c < 7 by omega) (nI lo) (fun h => by omega), p_b1]
        rw [show (sB g7' 24 (rU (g7'.1 24) 5 (nI (q_St f k (j + 1))))).1 24 5 = nI (q_St f k (j + 1)) from rfl, if_pos (nI_pos' (by have := (q_Stk f k (j + 1)).2; have := h6.1.2.1; omega))]
        refine ⟨_, _, rfl, rfl, Or.inr (hG1.ba0.s6 ?_)⟩
        exact q_okU k6 fun _ _ => ⟨lo, by omega, rfl⟩
    · rw [c_pw0 (hG0.tk h6) i2 i3 (Or.inl w1), p_b2, if_pos rfl, w3, p_b2, if_pos rfl]
      exact ⟨_, _, rfl, rfl, Or.inl ⟨j, hj, hG0⟩⟩
  · have hB0 := hB
    obtain ⟨i1, j, i2, i3, i4, i5, i6⟩ := hB
    have hk := h6.1.2.1
    have hS := (q_Stk f k j).2
    rw [c_pw0 (i1.tk h6) i2 i3 (Or.inr i4), p_b2, if_pos rfl, i5, if_pos (nI_pos' (by omega))]
    exact ⟨_, _, rfl, rfl, Or.inr hB0⟩
/-- a thing -/
theorem s_thing {M j d : Nat} (h6 : q_tk f k a6) (h7 : q_tr f k a7) (hd : d < 7) (hG : q_Go f k a6 a7 M j g6 g7) (hs : q_so f k (q_St f k j) = 1) : ∃ g6' g7', fX0_readThing (nI d) g6 = some g6' ∧ fX7_thingHere (nI d) g7 = some g7' ∧ q_Ou f k a6 a7 j g6' g7' := by
  have hG0 := hG
  obtain ⟨i1, i2, i3, i4, i5, i6, i7, i8⟩ := hG
  have hM := (q_ok0 i7.2.1).2
  have h30 := (q_ok0 i7.2.1).1
  rw [i8] at hM h30
  have t6 : q_M (g6.1 1) = M := i7.2.2.1.M.trans i8
  unfold fX0_readThing fX7_thingHere
  rw [Nat.add_zero, h30]
  by_cases h8 : M = 8
  · rw [c_addN (by decide) i7.1 (t6.trans h8), p_b2, if_neg q_of0, p_let, up_sB, if_pos (show nI M = 8 from congrArg nI h8), r_wr i6.2.1 i5, p_b1]
    exact ⟨_, _, rfl, rfl, Or.inr hG0.ba0⟩
  · have h9 : ¬ nI M = 8 := fun e => h8 ((nI_eq (b := 8) (by omega) (by decide)).mp e)
    obtain ⟨g7n, en, er, hG1⟩ := s_step h6 h7 hG0 (by omega) (by omega)
    have k7 : q_ok (g7n.1 3) := by
      rw [er]
      exact i7.2.1
    have M7 : q_M (g7n.1 3) = M := by
      rw [er]
      exact i8
    have hRn : q_R (q_new (g6.1 1) M (nI d) 0) (q_new (g7n.1 3) M (nI d) 0) := by
      rw [er]
      exact i7.new (by omega) i8 ⟨d, by omega, rfl⟩ ⟨0, by omega, rfl⟩
    have hG2 := hG1.row hRn (q_newM (g7n.1 3) (t := M) (nI d) 0 (by omega))
    rw [c_add (by decide) i7.1 t6 (by omega), p_b2, if_pos (nI_pos' (by omega)), p_let, up_sB, if_neg h9, en, p_b1, r_com k7 M7 (by omega), p_b2]
    have e14 : sB (sB g6 1 (q_new (g6.1 1) M (nI d) 0)) 14 (rU ((sB g6 1 (q_new (g6.1 1) M (nI d) 0)).1 14) 0 ((sB g6 1 (q_new (g6.1 1) M (nI d) 0)).1 14 0 + 1)) = sB (sB g6 14 (rU (g6.1 14) 0 (nI (j + 1)))) 1 (q_new (g6.1 1) M (nI d) 0) := by
      rw [sB_ne _ _ (show 14 ≠ 1 by decide), i3, nI_1]
      unfold sB
      refine congrArg (fun z => (z, g6.2)) ?_
      funext b
      by_cases h : b = 14
      · subst h
        rfl
      · simp only [h, if_false]
    rw [e14]
    obtain ⟨-, -, -, -, -, -, -, c7, c8, c9, c10, -⟩ := p_c
    obtain ⟨x6, x7, u6, u7, hx⟩ := s_tr (M := M + 1) (j0 := j + 1) (w := 7) (c := 1) (lo := 0) (hi := 15) (t := M) h6 h7 c7 (by decide) (by decide) (by decide) (by decide) (by omega) (by omega) (fun _ => rfl) (fun _ => rfl) (by rw [show 7 + 8 * 1 + M = 15 + M from rfl, q_bd_15 (by omega)]; exact Nat.le_refl _) (Or.inl ⟨j + 1, Nat.le_refl _, hG2⟩)
    rw [show fX0_readTrait 7 (nI M) 1 _ = _ from u6, p_b1, show (15 : Int32) + nI M = nI (7 + 8 * 1 + M) from nI_add 15 M, show fX7_perhaps 47 (nI (7 + 8 * 1 + M)) 0 15 _ = _ from u7, p_b1]
    obtain ⟨y6, y7, u6, u7, hy⟩ := s_tr (M := M + 1) (j0 := j + 1) (w := 8) (c := 2) (lo := 1) (hi := 99) (t := M) h6 h7 c8 (by decide) (by decide) (by decide) (by decide) (by omega) (by omega) (fun _ => rfl) (fun _ => rfl) (by rw [show 7 + 8 * 2 + M = 23 + M from rfl, q_bd_23 (by omega)]; exact Nat.le_refl _) hx
    rw [show fX0_readTrait 8 (nI M) 2 _ = _ from u6, p_b1, show (23 : Int32) + nI M = nI (7 + 8 * 2 + M) from nI_add 23 M, show fX7_perhaps 4351291 (nI (7 + 8 * 2 + M)) 1 99 _ = _ from u7, p_b1]
    obtain ⟨z6, z7, u6, u7, hz⟩ := s_tr (M := M + 1) (j0 := j + 1) (w := 9) (c := 3) (lo := 0) (hi := 999) (t := M) h6 h7 c9 (by decide) (by decide) (by decide) (by decide) (by omega) (by omega) (fun _ => rfl) (fun _ => rfl) (by rw [show 7 + 8 * 3 + M = 31 + M from rfl, q_bd_31 (by omega)]; exact Nat.le_refl _) hy
    rw [show fX0_readTrait 9 (nI M) 3 _ = _ from u6, p_b1, show (31 : Int32) + nI M = nI (7 + 8 * 3 + M) from nI_add 31 M, show fX7_perhaps 240987856 (nI (7 + 8 * 3 + M)) 0 999 _ = _ from u7, p_b1]
    rcases hz with ⟨l, hl, hz⟩ | hB
    · have hz0 := hz
      obtain ⟨n1, n2, n3, n4, n5, n6, n7, n8⟩ := hz
      rw [n5, if_neg (show ¬ (0 : Int32) ≤ -1 by decide)]
      rcases r_isW (w := 10) n6 (by decide) with ⟨w1, w2, w3⟩ | ⟨w1, w3⟩
      · have s6 : q_M (z6.1 1) = M + 1 := n7.2.2.1.M.trans n8
        have hR' : q_R (rU (z6.1 1) (39 + M) 1) (rU (z7.1 3) (39 + M) 1) := n7.U (by omega) (by omega) (fun _ => ⟨1, by rw [q_bd_39 (by omega)]; decide, rfl⟩)
        have hG3 := hz0.row hR' ((q_UM _ _ (by omega)).trans n8)
        obtain ⟨g8, en2, er2, hG4⟩ := s_step h6 h7 hG3 (by omega) (by omega)
        have e6 : fX0_passWord 10 z6 = some (1, sB z6 14 (rU (z6.1 14) 0 (nI (l + 1)))) := c_pw1 (w := 10) (hz0.tk h6) n2 n3 n4 ⟨w1, w2⟩
        have e7 : fX7_isWord 161437 z7 = some (1, z7) := by
          rw [← c10]
          exact w3
        have ea : fX2_alter 1 (nI M) 4 1 (sB z6 14 (rU (z6.1 14) 0 (nI (l + 1)))) = some (sB (sB z6 14 (rU (z6.1 14) 0 (nI (l + 1)))) 1 (rU (z6.1 1) (39 + M) 1)) := c_alt (g := sB z6 14 (rU (z6.1 14) 0 (nI (l + 1)))) (s := 1) (t := M) (w := 4) (by decide) n7.1 (show M < q_M (z6.1 1) by omega) (by decide) 1 (fun _ => Or.inr rfl)
        rw [e6, p_b2, if_neg (by decide), ea, p_b1, e7, p_b2, if_neg (by decide), r_set4 _ (by omega), p_b1, en2, p_b1]
        refine ⟨_, _, rfl, rfl, Or.inl ⟨M + 1, l + 1, by omega, ?_⟩⟩
        have eo : sB (sB z6 1 (rU (z6.1 1) (39 + M) 1)) 14 (rU ((sB z6 1 (rU (z6.1 1) (39 + M) 1)).1 14) 0 (nI (l + 1))) = sB (sB z6 14 (rU (z6.1 14) 0 (nI (l + 1)))) 1 (rU (z6.1 1) (39 + M) 1) := by
          rw [sB_ne _ _ (show 14 ≠ 1 by decide)]
          unfold sB
          refine congrArg (fun z => (z, z6.2)) ?_
          funext b
          by_cases h : b = 14
          · subst h
            rfl
          · simp only [h, if_false]
        rw [eo] at hG4
        exact hG4
      · have e6 : fX0_passWord 10 z6 = some (0, z6) := c_pw0 (w := 10) (hz0.tk h6) n2 n3 (Or.inl w1)
        have e7 : fX7_isWord 161437 z7 = some (0, z7) := by
          rw [← c10]
          exact w3
        rw [e6, p_b2, if_pos rfl, e7, p_b2, if_pos rfl]
        exact ⟨_, _, rfl, rfl, Or.inl ⟨M + 1, l, by omega, hz0⟩⟩
    · have hB0 := hB
      obtain ⟨n1, l, n2, n3, n4, n5, n6⟩ := hB
      have hk := h6.1.2.1
      have hS := (q_Stk f k l).2
      have e6 : fX0_passWord 10 z6 = some (0, z6) := c_pw0 (w := 10) (n1.tk h6) n2 n3 (Or.inr n4)
      rw [e6, p_b2, if_pos rfl, n5, if_pos (nI_pos' (by omega))]
      exact ⟨_, _, rfl, rfl, Or.inr hB0⟩
/-- the class's side behind a fault of the cart: what it lets be so is of no use -/
theorem s_cartB {g : ic_S} (h6 : q_tk f k a6) (hB : q_Ba f k a6 a7 g g7) : ∃ g', ic_b1 (fX2_alterCart 1 0 0 g) (fun g4 => ic_b2 (fX0_passWord 12 g4) (fun v8 g6 => (if v8 = 0 then ic_b1 (fX2_alterCart 1 1 1 g6) (fun g10 => ic_b2 (fX0_passWord 13 g10) (fun v14 g12 => (if v14 = 0 then some g12 else ic_b2 (fX0_passNumber 0 3 g12) (fun v18 g16 => ic_b1 (fX2_alterCart 1 2 v18 g16) (fun g19 => some g19))))) else ic_b1 (fX2_alterCart 1 1 0 g6) (fun g21 => ic_b2 (fX0_passWord 13 g21) (fun v25 g23 => (if v25 = 0 then some g23 else ic_b2 (fX0_passNumber 0 3 g23) (fun v29 g27 => ic_b1 (fX2_alterCart 1 2 v29 g27) (fun g30 => some g30)))))))) = some g' ∧ q_Ba f k a6 a7 g' g7 := by
  have k0 : q_ok (rU (g.1 1) 3 0) := by
    obtain ⟨_, _, _, _, _, _, h⟩ := hB
    exact q_okU h fun _ _ => ⟨0, by decide, rfl⟩
  have hB1 := hB.s6 k0
  have k1 : q_ok (rU (rU (g.1 1) 3 0) 4 1) := q_okU k0 fun _ _ => ⟨1, by decide, rfl⟩
  have hB2 := hB1.s6 k1
  obtain ⟨n1, l, n2, n3, n4, n5, n6⟩ := id hB1
  obtain ⟨m1, l', m2, m3, m4, m5, m6⟩ := id hB2
  have e1 : fX0_passWord 12 (sB g 1 (rU (g.1 1) 3 0)) = some (0, sB g 1 (rU (g.1 1) 3 0)) := c_pw0 (w := 12) (n1.tk h6) n2 n3 (Or.inr n4)
  have e2 : fX0_passWord 13 (sB (sB g 1 (rU (g.1 1) 3 0)) 1 (rU (rU (g.1 1) 3 0) 4 1)) = some (0, sB (sB g 1 (rU (g.1 1) 3 0)) 1 (rU (rU (g.1 1) 3 0) 4 1)) := c_pw0 (w := 13) (m1.tk h6) m2 m3 (Or.inr m4)
  refine ⟨_, ?_, hB2⟩
  rw [show fX2_alterCart 1 0 0 g = some (ic_up g 1 3 0) from rfl, up_sB, p_b1, e1, p_b2, if_pos rfl, show fX2_alterCart 1 1 1 (sB g 1 (rU (g.1 1) 3 0)) = some (ic_up (sB g 1 (rU (g.1 1) 3 0)) 1 4 1) from rfl, up_sB, p_b1, sB_self, e2, p_b2, if_pos rfl]
/-- perhaps its pace -/
theorem s_pace {M j0 : Nat} (h6 : q_tk f k a6) (h7 : q_tr f k a7) (hG : ∃ j, j0 < j ∧ q_Go f k a6 a7 M j g6 g7) : ∃ g6' g7', ic_b2 (fX0_passWord 13 g6) (fun v14 g12 => (if v14 = 0 then some g12 else ic_b2 (fX0_passNumber 0 3 g12) (fun v18 g16 => ic_b1 (fX2_alterCart 1 2 v18 g16) (fun g19 => some g19)))) = some g6' ∧ fX7_perhaps 315743 5 0 3 g7 = some g7' ∧ q_Ou f k a6 a7 j0 g6' g7' := by
  obtain ⟨j, hj, hG⟩ := hG
  have hG0 := hG
  obtain ⟨i1, i2, i3, i4, i5, i6, i7, i8⟩ := hG
  obtain ⟨-, -, -, -, -, -, -, -, -, -, -, -, -, c13, -⟩ := p_c
  unfold fX7_perhaps
  rw [i5, if_neg (show ¬ (0 : Int32) ≤ -1 by decide), ← c13]
  rcases r_isW (w := 13) i6 (by decide) with ⟨w1, w2, w3⟩ | ⟨w1, w3⟩
  · obtain ⟨g7', en, er, hG1⟩ := s_step h6 h7 hG0 (by omega) (by omega)
    have e6 : fX0_passWord 13 g6 = _ := c_pw1 (w := 13) (hG0.tk h6) i2 i3 i4 ⟨w1, w2⟩
    rw [e6, p_b2, if_neg (by decide), w3, p_b2, if_neg (by decide), en, p_b1]
    rcases s_num (lo := 0) (hi := 3) h6 h7 hG1 (by decide) (by decide) with ⟨v, g8, v1, v2, n1, n2, er2, hG2⟩ | ⟨n1, n2⟩
    · rw [show fX0_passNumber 0 3 _ = _ from n1, p_b2, show fX7_numberHere 0 3 g7' = _ from n2, p_b2, hG2.2.2.2.2.1, if_neg (by decide), show ∀ g, fX2_alterCart 1 2 (nI v) g = some (ic_up g 1 5 (nI v)) from fun _ => rfl, up_sB, p_b1, show ic_in 5 73 = true from rfl, p_gd, p_let, up_sB, Nat.add_zero]
      refine ⟨_, _, rfl, rfl, Or.inl ⟨M, j + 1 + 1, by omega, hG2.row ?_ ?_⟩⟩
      · exact hG2.2.2.2.2.2.2.1.U (i := 5) (by decide) (by decide) (fun _ => ⟨v, v2, rfl⟩)
      · exact (q_UM (g8.1 3) (i := 5) (nI v) (by decide)).trans hG2.2.2.2.2.2.2.2
    · rw [show fX0_passNumber 0 3 _ = _ from n1, p_b2, show fX7_numberHere 0 3 g7' = _ from n2, p_b2, show ∀ g, fX2_alterCart 1 2 (nI 0) g = some (ic_up g 1 5 (nI 0)) from fun _ => rfl, up_sB, p_b1]
      rw [show (sB g7' 24 (rU (g7'.1 24) 5 (nI (q_St f k (j + 1))))).1 24 5 = nI (q_St f k (j + 1)) from rfl, if_pos (nI_pos' (by have := (q_Stk f k (j + 1)).2; have := h6.1.2.1; omega))]
      refine ⟨_, _, rfl, rfl, Or.inr (hG1.ba0.s6 ?_)⟩
      exact q_okU hG1.2.2.2.2.2.2.1.1 fun _ _ => ⟨0, by decide, rfl⟩
  · have e6 : fX0_passWord 13 g6 = _ := c_pw0 (w := 13) (hG0.tk h6) i2 i3 (Or.inl w1)
    rw [e6, p_b2, if_pos rfl, w3, p_b2, if_pos rfl]
    exact ⟨_, _, rfl, rfl, Or.inl ⟨M, j, hj, hG0⟩⟩
/-- the cart: the class has passed its word already -/
theorem s_cart {M j : Nat} (h6 : q_tk f k a6) (h7 : q_tr f k a7) (hG : q_Go f k a6 a7 M j g6 g7) (hs : q_so f k (q_St f k j) = 1) : ∃ g6' g7', fX0_readCart (sB g6 14 (rU (g6.1 14) 0 (nI (j + 1)))) = some g6' ∧ fX7_cartHere g7 = some g7' ∧ q_Ou f k a6 a7 j g6' g7' := by
  obtain ⟨g7a, en, er, hG1⟩ := s_step h6 h7 hG (by omega) (by omega)
  obtain ⟨-, -, -, -, -, -, -, -, -, -, -, -, c12, -, -⟩ := p_c
  unfold fX0_readCart fX7_cartHere
  rw [en, p_b1]
  rcases s_num (lo := 0) (hi := 15) h6 h7 hG1 (by decide) (by decide) with ⟨v, g8, v1, v2, n1, n2, er2, hG2⟩ | ⟨n1, n2⟩
  · rw [show fX0_passNumber 0 15 _ = _ from n1, p_b2, show fX7_numberHere 0 15 g7a = _ from n2, p_b2, hG2.2.2.2.2.1, if_pos (by decide)]
    generalize sB (sB g6 14 (rU (g6.1 14) 0 (nI (j + 1)))) 14 _ = y6 at hG2 ⊢
    have hR3 : q_R (rU (y6.1 1) 3 (nI v)) (rU (g8.1 3) 3 (nI v)) := hG2.2.2.2.2.2.2.1.U (by decide) (by decide) (fun _ => ⟨v, v2, rfl⟩)
    have hG3 := hG2.row hR3 ((q_UM (g8.1 3) (i := 3) (nI v) (by decide)).trans hG2.2.2.2.2.2.2.2)
    obtain ⟨m1, m2, m3, m4, m5, m6, m7, m8⟩ := id hG3
    rw [show fX2_alterCart 1 0 (nI v) y6 = some (ic_up y6 1 3 (nI v)) from rfl, up_sB, p_b1, Nat.add_zero, p_let, p_let, up_sB, up_sB, sB_self, sB_sB]
    have hR4 : q_R (rU (rU (y6.1 1) 3 (nI v)) 4 1) (rU (rU (g8.1 3) 3 (nI v)) 4 1) := hR3.U (by decide) (by decide) (fun _ => ⟨1, by decide, rfl⟩)
    have hM4 : q_M (rU (rU (g8.1 3) 3 (nI v)) 4 1) = M := (q_UM _ (i := 4) 1 (by decide)).trans ((q_UM (g8.1 3) (i := 3) (nI v) (by decide)).trans hG2.2.2.2.2.2.2.2)
    have hG4 := hG2.row hR4 hM4
    rcases r_isW (w := 12) hG4.2.2.2.2.2.1 (by decide) with ⟨w1, w2, w3⟩ | ⟨w1, w3⟩
    · have e6 : fX0_passWord 12 (sB y6 1 (rU (y6.1 1) 3 (nI v))) = _ := c_pw1 (w := 12) (hG3.tk h6) m2 m3 m4 ⟨w1, w2⟩
      have hR5 : q_R (rU (rU (y6.1 1) 3 (nI v)) 4 0) (rU (rU (rU (g8.1 3) 3 (nI v)) 4 1) 4 0) := by
        rw [rU_rU]
        exact hR3.U (by decide) (by decide) (fun _ => ⟨0, by decide, rfl⟩)
      have hG5 := hG2.row hR5 ((q_UM _ (i := 4) 0 (by decide)).trans hM4)
      obtain ⟨g9, en2, er3, hG6⟩ := s_step h6 h7 hG5 (by omega) (by omega)
      rw [e6, p_b2, if_neg (by decide), ← c12, w3, p_b2, if_neg (by decide), p_let, up_sB, sB_self, sB_sB, en2, p_b1, show ∀ g, fX2_alterCart 1 1 0 g = some (ic_up g 1 4 0) from fun _ => rfl, up_sB, p_b1]
      have eo : sB (sB (sB y6 1 (rU (y6.1 1) 3 (nI v))) 14 (rU ((sB y6 1 (rU (y6.1 1) 3 (nI v))).1 14) 0 (nI (j + 1 + 1 + 1)))) 1 (rU ((sB (sB y6 1 (rU (y6.1 1) 3 (nI v))) 14 (rU ((sB y6 1 (rU (y6.1 1) 3 (nI v))).1 14) 0 (nI (j + 1 + 1 + 1)))).1 1) 4 0) = sB (sB y6 1 (rU (rU (y6.1 1) 3 (nI v)) 4 0)) 14 (rU ((sB y6 1 (rU (rU (y6.1 1) 3 (nI v)) 4 0)).1 14) 0 (nI (j + 1 + 1 + 1))) := by
        rw [sB_ne _ _ (show 14 ≠ 1 by decide), sB_ne _ _ (show 14 ≠ 1 by decide), sB_ne _ _ (show 1 ≠ 14 by decide), sB_self]
        unfold sB
        refine congrArg (fun z => (z, y6.2)) ?_
        funext b
        by_cases h : b = 14
        · subst h
          rfl
        · by_cases h' : b = 1
          · subst h'
            rfl
          · simp only [h, h', if_false]
      rw [eo]
      obtain ⟨x6, x7, u6, u7, hx⟩ := s_pace (j0 := j) h6 h7 ⟨_, by omega, hG6⟩
      exact ⟨x6, x7, u6, by rw [u7, p_b1], hx⟩
    · have e6 : fX0_passWord 12 (sB y6 1 (rU (y6.1 1) 3 (nI v))) = _ := c_pw0 (w := 12) (hG3.tk h6) m2 m3 (Or.inl w1)
      rw [e6, p_b2, if_pos rfl, ← c12, w3, p_b2, if_pos rfl, show ∀ g, fX2_alterCart 1 1 1 g = some (ic_up g 1 4 1) from fun _ => rfl, up_sB, p_b1, sB_self, sB_sB]
      obtain ⟨x6, x7, u6, u7, hx⟩ := s_pace (j0 := j) h6 h7 ⟨_, by omega, hG4⟩
      exact ⟨x6, x7, u6, by rw [u7, p_b1], hx⟩
  · obtain ⟨x6, u6, hx⟩ := s_cartB h6 hG1.ba0
    refine ⟨x6, _, ?_, ?_, Or.inr hx⟩
    · rw [show fX0_passNumber 0 15 _ = _ from n1, p_b2]
      exact u6
    · rw [show fX7_numberHere 0 15 g7a = _ from n2, p_b2]
      rw [show (sB g7a 24 (rU (g7a.1 24) 5 (nI (q_St f k (j + 1))))).1 24 5 = nI (q_St f k (j + 1)) from rfl, if_neg (nI_pos (by have := (q_Stk f k (j + 1)).2; have := h6.1.2.1; omega))]
end
