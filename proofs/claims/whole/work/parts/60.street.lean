/-! calls that change the street: set, change, go, calls, seed, thing -/
theorem q_R.U {a b : Nat → Int32} (h : q_R a b) {i : Nat} {v : Int32} (h0 : i ≠ 0) (hi : i < 63) (hv : i ≠ 2 → ∃ n, n ≤ q_bd i ∧ v = nI n) : q_R (rU a i v) (rU b i v) := by
  refine ⟨q_okU h.1 fun _ => hv, q_okU h.2.1 fun _ => hv, h.2.2.1.U h0 v, fun j hj => ?_⟩
  rw [rU_n _ _ (by omega), rU_n _ _ (by omega), q_UM _ _ h0]
  exact h.2.2.2 j hj
theorem q_R.mk {a b a' b' : Nat → Int32} (h : q_R a b) (h1 : q_ok a') (h2 : q_ok b') (h3 : q_lv b' a') (e1 : ∀ j, j < 10 → a' (63 + j) = a (63 + j)) (e2 : ∀ j, j < 10 → b' (63 + j) = b (63 + j)) (hM : q_M b ≤ q_M b') : q_R a' b' := by
  refine ⟨h1, h2, h3, fun j hj => ?_⟩
  rw [e1 j hj, e2 j hj]
  rcases h.2.2.2 j hj with h | ⟨t, ht, h⟩
  · exact Or.inl h
  · exact Or.inr ⟨t, by omega, h⟩
theorem q_ca63 {r : Nat → Int32} (h : q_ok r) (N : Nat) {i : Nat} (hi : 63 ≤ i) : q_calls N r i = r i := (q_itI (P := fun (a : Nat → Int32) => q_ok a ∧ a i = r i) N (fun t a _ h => ⟨q_okcall h.1, (q_ca h.1 (Or.inr hi) (by omega) (by omega) (by omega)).trans h.2⟩) N 0 r (Nat.le_refl _) ⟨h, rfl⟩).2
theorem q_R.calls {a b : Nat → Int32} (h : q_R a b) (N : Nat) : q_R (q_calls N a) (q_calls N b) := h.mk (q_okcs h.1 N) (q_okcs h.2.1 N) (h.2.2.1.calls h.2.1 N) (fun j _ => q_ca63 h.1 N (by omega)) (fun j _ => q_ca63 h.2.1 N (by omega)) (Nat.le_of_eq (q_caM h.2.1 N).symm)
section
variable {g : ic_S}
theorem q_both {f6 f7 : ic_S → Option (Int32 × ic_S)} (hI : q_Inv g) (v : Int32) {a' : Nat → Int32} (h6 : f6 g = some (v, sB g 0 a')) (h7 : ∀ h, q_rf g h → ∃ d, q_R a' d ∧ f7 h = some (v, sB h 3 d)) : q_go f6 f7 g := by
  obtain ⟨i1, i2, i3, i4, i5, i6, i7⟩ := hI
  obtain ⟨d, hd, e7⟩ := h7 (sB g 0 a') (q_rfB _ (by omega))
  exact ⟨v, _, _, h6, e7, ⟨i1, i2, hd, i4, i5, i6, i7⟩, rfl, rfl, rfl, rfl⟩
theorem r_bec {p : Nat} (hp : p < 73) (v : Int32) : fX7_becomes (nI p) v g = some (g.1 3 p, sB g 3 (rU (g.1 3) p v)) := by
  unfold fX7_becomes
  rw [p_in hp (by decide), p_gd, p_let, p_gd, p_let, up_sB, nI_clamp (by omega), Nat.zero_add, Nat.add_zero]
theorem q_setC {j T : Nat} (hj : j < 4) (hT0 : 0 < T) (hT : T ≤ 1000) (hb : q_bd (3 + j) = T - 1) (e6 : ∀ g, fX6_mostOfCart (nI j) g = some (nI (T - 1), g)) (e7 : ∀ x g, fX7_isSet (nI j) x g = ic_b2 (fX7_in x.toInt64 (Int32.toInt64 0) (nI (T - 1)).toInt64 g) (fun v g => if v = 0 then some (0, g) else some (1, g))) (hI : q_Inv g) (x : Int32) : q_go (fX6_set (nI j) x) (fX7_set (nI j) x) g := by
  rcases q_ix x (n := T) (by omega) with h | ⟨n, hn, rfl⟩
  · refine q_stop hI (c := 0) (by decide) ?_ fun k hf => ?_
    · unfold fX6_set
      rcases h with h | h
      · rw [if_pos h, p_eta]
        rfl
      · have hl : ¬ x ≤ nI (T - 1) := (p_gt (n := T - 1) (by rw [Nat.sub_add_cancel hT0]; exact h) (by omega)).1
        have hl0 : ¬ x < 0 := by
          intro h0
          exact hl (Int32.le_trans (Int32.le_of_lt h0) (nI_pos' (by omega)))
        rw [if_neg hl0, e6, p_b2, if_neg hl, p_eta]
        rfl
    · unfold fX7_set
      rw [e7, r_inN hT0 (by omega) h, p_b2, if_pos rfl, p_b2, if_pos rfl, p_eta]
      rfl
  · refine q_both hI (g.1 3 (3 + j)) (a' := rU (g.1 0) (3 + j) (nI n)) ?_ fun k hf => ⟨rU (g.1 3) (3 + j) (nI n), hI.2.2.1.U (by omega) (by omega) (fun _ => ⟨n, by rw [hb]; omega, rfl⟩), ?_⟩
    · have ec : fX2_cartTold 0 (nI j) g = some (g.1 0 (3 + j), g) ∧ fX2_alterCart 0 (nI j) (nI n) g = some (ic_up g 0 (3 + j) (nI n)) := by
        match j, hj with
        | 0, _ => exact ⟨rfl, rfl⟩
        | 1, _ => exact ⟨rfl, rfl⟩
        | 2, _ => exact ⟨rfl, rfl⟩
        | 3, _ => exact ⟨rfl, rfl⟩
      unfold fX6_set
      rw [if_neg (nI_pos (by omega)), e6, p_b2, if_pos (nI_le (by omega) (by omega)), ec.1, p_b2, ec.2, p_b1, up_sB, hI.l.1 _ (by omega)]
    · unfold fX7_set
      rw [e7, r_inY hn (by omega), p_b2, if_neg (by decide), p_b2, if_neg (by decide), show (3 : Int32) = nI 3 from rfl, nI_add, r_bec (by omega), p_b2, hf.r]
theorem q_nz01 (x a b : Int32) (g : ic_S) : ic_b2 (fX7_in x.toInt64 a.toInt64 b.toInt64 g) (fun v g => ic_gd (ic_nz v) (some (v, g))) = ic_b2 (fX7_in x.toInt64 a.toInt64 b.toInt64 g) (fun v g => if v = 0 then some (0, g) else some (1, g)) := by
  rw [r_in, p_b2, p_b2]
  repeat' (first | rfl | split)
theorem r_cl (x : Int32) (g : ic_S) : ic_b2 (fX7_isCell x g) (fun v g => ic_gd (ic_nz v) (some (v, g))) = ic_b2 (fX7_in x.toInt64 (Int32.toInt64 0) (Int32.toInt64 15) g) (fun v g => if v = 0 then some (0, g) else some (1, g)) := by
  unfold fX7_isCell
  show ic_b2 (ic_b2 (fX7_in x.toInt64 (Int32.toInt64 0) (Int32.toInt64 15) g) _) _ = _
  rw [q_nz01, r_in, p_b2]
  repeat' (first | rfl | split)
theorem r_is0 (x : Int32) (g : ic_S) : fX7_isSet (nI 0) x g = ic_b2 (fX7_in x.toInt64 (Int32.toInt64 0) (nI (16 - 1)).toInt64 g) (fun v g => if v = 0 then some (0, g) else some (1, g)) := by
  unfold fX7_isSet
  rw [if_pos (show nI 0 = 0 from rfl)]
  exact r_cl x g
theorem r_is1 (x : Int32) (g : ic_S) : fX7_isSet (nI 1) x g = ic_b2 (fX7_in x.toInt64 (Int32.toInt64 0) (nI (2 - 1)).toInt64 g) (fun v g => if v = 0 then some (0, g) else some (1, g)) := by
  unfold fX7_isSet
  rw [if_neg (show ¬ nI 1 = 0 by decide), if_pos (show nI 1 = 1 from rfl)]
  exact q_nz01 x 0 1 g
theorem r_is2 (x : Int32) (g : ic_S) : fX7_isSet (nI 2) x g = ic_b2 (fX7_in x.toInt64 (Int32.toInt64 0) (nI (4 - 1)).toInt64 g) (fun v g => if v = 0 then some (0, g) else some (1, g)) := by
  unfold fX7_isSet
  rw [if_neg (show ¬ nI 2 = 0 by decide), if_neg (show ¬ nI 2 = 1 by decide), if_pos (show nI 2 = 2 from rfl)]
  exact q_nz01 x 0 3 g
theorem r_is3 (x : Int32) (g : ic_S) : fX7_isSet (nI 3) x g = ic_b2 (fX7_in x.toInt64 (Int32.toInt64 0) (nI (21 - 1)).toInt64 g) (fun v g => if v = 0 then some (0, g) else some (1, g)) := by
  unfold fX7_isSet
  rw [if_neg (show ¬ nI 3 = 0 by decide), if_neg (show ¬ nI 3 = 1 by decide), if_neg (show ¬ nI 3 = 2 by decide), if_pos (show nI 3 = 3 from rfl)]
  rfl
theorem r_it0 (x : Int32) (g : ic_S) : fX7_isIts (nI 0) x g = ic_b2 (fX7_in x.toInt64 (nI 0).toInt64 (nI (7 - 1)).toInt64 g) (fun v g => if v = 0 then some (0, g) else some (1, g)) := by
  unfold fX7_isIts
  rw [if_pos (show nI 0 = 0 from rfl)]
  exact q_nz01 x 0 6 g
theorem r_it1 (x : Int32) (g : ic_S) : fX7_isIts (nI 1) x g = ic_b2 (fX7_in x.toInt64 (nI 0).toInt64 (nI (16 - 1)).toInt64 g) (fun v g => if v = 0 then some (0, g) else some (1, g)) := by
  unfold fX7_isIts
  rw [if_neg (show ¬ nI 1 = 0 by decide), if_pos (show nI 1 = 1 from rfl)]
  exact r_cl x g
theorem r_it2 (x : Int32) (g : ic_S) : fX7_isIts (nI 2) x g = ic_b2 (fX7_in x.toInt64 (nI 1).toInt64 (nI (100 - 1)).toInt64 g) (fun v g => if v = 0 then some (0, g) else some (1, g)) := by
  unfold fX7_isIts
  rw [if_neg (show ¬ nI 2 = 0 by decide), if_neg (show ¬ nI 2 = 1 by decide), if_pos (show nI 2 = 2 from rfl)]
  exact q_nz01 x 1 99 g
theorem r_it3 (x : Int32) (g : ic_S) : fX7_isIts (nI 3) x g = ic_b2 (fX7_in x.toInt64 (nI 0).toInt64 (nI (1000 - 1)).toInt64 g) (fun v g => if v = 0 then some (0, g) else some (1, g)) := by
  unfold fX7_isIts
  rw [if_neg (show ¬ nI 3 = 0 by decide), if_neg (show ¬ nI 3 = 1 by decide), if_neg (show ¬ nI 3 = 2 by decide), if_pos (show nI 3 = 3 from rfl)]
  exact q_nz01 x 0 999 g
theorem r_it4 (x : Int32) (g : ic_S) : fX7_isIts (nI 4) x g = ic_b2 (fX7_in x.toInt64 (nI 0).toInt64 (nI (2 - 1)).toInt64 g) (fun v g => if v = 0 then some (0, g) else some (1, g)) := by
  unfold fX7_isIts
  rw [if_neg (show ¬ nI 4 = 0 by decide), if_neg (show ¬ nI 4 = 1 by decide), if_neg (show ¬ nI 4 = 2 by decide), if_neg (show ¬ nI 4 = 3 by decide), if_pos (show nI 4 = 4 from rfl)]
  exact q_nz01 x 0 1 g
theorem r_it5 (x : Int32) (g : ic_S) : fX7_isIts (nI 5) x g = ic_b2 (fX7_in x.toInt64 (nI 0).toInt64 (nI (2 - 1)).toInt64 g) (fun v g => if v = 0 then some (0, g) else some (1, g)) := by
  unfold fX7_isIts
  rw [if_neg (show ¬ nI 5 = 0 by decide), if_neg (show ¬ nI 5 = 1 by decide), if_neg (show ¬ nI 5 = 2 by decide), if_neg (show ¬ nI 5 = 3 by decide), if_neg (show ¬ nI 5 = 4 by decide), if_pos (show nI 5 = 5 from rfl)]
  exact q_nz01 x 0 1 g
theorem r_it6 (x : Int32) (g : ic_S) : fX7_isIts (nI 6) x g = ic_b2 (fX7_in x.toInt64 (nI 0).toInt64 (nI (10000 - 1)).toInt64 g) (fun v g => if v = 0 then some (0, g) else some (1, g)) := by
  unfold fX7_isIts
  rw [if_neg (show ¬ nI 6 = 0 by decide), if_neg (show ¬ nI 6 = 1 by decide), if_neg (show ¬ nI 6 = 2 by decide), if_neg (show ¬ nI 6 = 3 by decide), if_neg (show ¬ nI 6 = 4 by decide), if_neg (show ¬ nI 6 = 5 by decide), if_pos (show nI 6 = 6 from rfl)]
  exact q_nz01 x 0 9999 g
theorem o_set (hI : q_Inv g) (x1 x2 : Int32) : q_go (fX6_set x1 x2) (fX7_set x1 x2) g := by
  rcases q_ix x1 (n := 4) (by decide) with h | ⟨j, hj, rfl⟩
  · have n0 : ¬ x1 = 0 := p_ne h (j := 0) (by decide) (by decide)
    have n1 : ¬ x1 = 1 := p_ne h (j := 1) (by decide) (by decide)
    have n2 : ¬ x1 = 2 := p_ne h (j := 2) (by decide) (by decide)
    have n3 : ¬ x1 = 3 := p_ne h (j := 3) (by decide) (by decide)
    refine q_stop hI (c := 0) (by decide) ?_ fun k hf => ?_
    · unfold fX6_set fX6_mostOfCart
      by_cases h0 : x2 < 0
      · rw [if_pos h0, p_eta]
        rfl
      · have hl : ¬ x2 ≤ -1 := fun h => h0 (Int32.lt_of_le_of_lt h (by decide))
        rw [if_neg h0, if_neg n0, if_neg n1, if_neg n2, if_neg n3, p_b2, if_neg hl, p_eta]
        rfl
    · unfold fX7_set fX7_isSet
      rw [if_neg n0, if_neg n1, if_neg n2, if_neg n3, p_b2, if_pos rfl, p_eta]
      rfl
  · match j, hj with
    | 0, _ => exact q_setC (j := 0) (T := 16) (by decide) (by decide) (by decide) rfl (fun _ => rfl) (fun x g => r_is0 x g) hI x2
    | 1, _ => exact q_setC (j := 1) (T := 2) (by decide) (by decide) (by decide) rfl (fun _ => rfl) (fun x g => r_is1 x g) hI x2
    | 2, _ => exact q_setC (j := 2) (T := 4) (by decide) (by decide) (by decide) rfl (fun _ => rfl) (fun x g => r_is2 x g) hI x2
    | 3, _ => exact q_setC (j := 3) (T := 21) (by decide) (by decide) (by decide) rfl (fun _ => rfl) (fun x g => r_is3 x g) hI x2
/-! seed -/
theorem o_seed (hI : q_Inv g) (x : Int32) : q_go (fX6_seed x) (fX7_seed x) g := by
  have hb : ∀ k, q_rf g k → fX7_seed x k = some (k.1 3 2, sB k 3 (rU (k.1 3) 2 x)) := by
    intro k hf
    unfold fX7_seed
    rw [show (2 : Int32) = nI 2 from rfl, r_bec (by decide), p_b2]
  refine q_both hI (g.1 3 2) (a' := rU (g.1 0) 2 x) ?_ fun k hf => ⟨rU (g.1 3) 2 x, hI.2.2.1.U (by decide) (by decide) (fun h => absurd rfl h), ?_⟩
  · unfold fX6_seed
    rw [p_let, up_sB, hI.l.1 _ (by decide)]
  · rw [hb k hf, hf.r]
/-! go -/
theorem r_inY1 {n j : Nat} (h1 : 1 ≤ j) (h : j < n) (hn : n ≤ 10000) (g : ic_S) : fX7_in (nI j).toInt64 (Int32.toInt64 1) (nI (n - 1)).toInt64 g = some (1, g) := by
  rw [r_in, if_neg (show ¬ nI j < 1 from nI_nlt (b := 1) h1 (by omega)), if_neg (nI_nlt (by omega) (by omega))]
theorem p_lt1 {x : Int32} (h : x < 0 ∨ x = 0) : x < 1 := by
  rcases h with h | rfl
  · exact Int32.lt_trans h (by decide)
  · decide
theorem r_inN1 {n : Nat} {x : Int32} (h0 : 0 < n) (hn : n ≤ 10000) (h : (x < 0 ∨ nI n ≤ x) ∨ x = 0) (g : ic_S) : fX7_in x.toInt64 (Int32.toInt64 1) (nI (n - 1)).toInt64 g = some (0, g) := by
  rw [r_in]
  by_cases h1 : x < 1
  · rw [if_pos h1]
  · have h : nI n ≤ x := by
      rcases h with (h | h) | h
      · exact absurd (p_lt1 (Or.inl h)) h1
      · exact h
      · exact absurd (p_lt1 (Or.inr h)) h1
    have hl : nI (n - 1) < x := (p_gt (n := n - 1) (by rw [Nat.sub_add_cancel h0]; exact h) (by omega)).2
    rw [if_pos hl, ite_self]
theorem o_go (hI : q_Inv g) (x : Int32) : q_go (fX6_go x) (fX7_go x) g := by
  have hx : ((x < 0 ∨ nI 61 ≤ x) ∨ x = 0) ∨ ∃ j, 1 ≤ j ∧ j < 61 ∧ x = nI j := by
    rcases q_ix x (n := 61) (by decide) with h | ⟨j, hj, rfl⟩
    · exact Or.inl (Or.inl h)
    · by_cases h : j = 0
      · subst h
        exact Or.inl (Or.inr rfl)
      · exact Or.inr ⟨j, by omega, hj, rfl⟩
  rcases hx with h | ⟨j, hj1, hj, rfl⟩
  · refine q_stop hI (c := 0) (by decide) ?_ fun k hf => ?_
    · unfold fX6_go
      by_cases h1 : x < 1
      · rw [if_pos h1, p_eta]
        rfl
      · have h : nI 61 ≤ x := by
          rcases h with (h | h) | h
          · exact absurd (p_lt1 (Or.inl h)) h1
          · exact h
          · exact absurd (p_lt1 (Or.inr h)) h1
        have hl : ¬ x ≤ 60 := (p_gt (n := 60) h (by decide)).1
        rw [if_neg h1, if_neg hl, p_eta]
        rfl
    · unfold fX7_go
      rw [show fX7_in x.toInt64 1 60 k = some (0, k) from r_inN1 (n := 61) (by decide) (by decide) h k, p_b2, if_pos rfl, p_eta]
      rfl
  · have a1 : ¬ nI j < 1 := nI_nlt (b := 1) hj1 (by omega)
    have a2 : nI j ≤ 60 := nI_le (b := 60) (by omega) (by decide)
    by_cases hc : g.1 3 1 + nI j ≤ 99999
    · have hR := hI.2.2.1.calls j
      refine q_both hI (q_set (q_calls j (g.1 3)) 47) (a' := q_calls j (g.1 0)) ?_ fun k hf => ⟨q_calls j (g.1 3), hR, ?_⟩
      · unfold fX6_go
        rw [if_neg a1, if_pos a2, hI.l.1 1 (by decide), if_pos hc, c_ca (by decide) hI.a (by omega), p_b1, c_set5 (by decide) (by rw [sB_self]; exact hR.1), p_b2, sB_self, show q_set (q_calls j (g.1 0)) 47 = q_set (q_calls j (g.1 3)) 47 from hR.2.2.1.set (w := 5) (by decide)]
      · unfold fX7_go
        rw [show fX7_in (nI j).toInt64 1 60 k = some (1, k) from r_inY1 (n := 61) hj1 hj (by decide) k, p_b2, if_neg (by decide), Nat.add_zero, hf.r, if_pos hc, r_ca (hf.b hI) (by omega), p_b1, hf.r, r_set_5 (by rw [sB_self]; exact hR.2.1), p_b2, sB_self]
    · refine q_stop hI (c := 4) (by decide) ?_ fun k hf => ?_
      · unfold fX6_go
        rw [if_neg a1, if_pos a2, hI.l.1 1 (by decide), if_neg hc, p_eta]
        rfl
      · unfold fX7_go
        rw [show fX7_in (nI j).toInt64 1 60 k = some (1, k) from r_inY1 (n := 61) hj1 hj (by decide) k, p_b2, if_neg (by decide), Nat.add_zero, hf.r, if_neg hc, p_eta]
        rfl
/-! change -/
theorem q_chC {w lo T t : Nat} (hw : w < 7) (hlo : lo ≤ 1) (hT0 : 1 < T) (hT : T ≤ 10000) (hb : ∀ t, t < 8 → q_bd (7 + 8 * w + t) = T - 1) (hT2 : w = 4 ∨ w = 5 → T = 2) (e6 : ∀ g, fX6_leastOf (nI w) g = some (nI lo, g)) (e6' : ∀ g, fX6_mostOf (nI w) g = some (nI (T - 1), g)) (e7 : ∀ x g, fX7_isIts (nI w) x g = ic_b2 (fX7_in x.toInt64 (nI lo).toInt64 (nI (T - 1)).toInt64 g) (fun v g => if v = 0 then some (0, g) else some (1, g))) (hI : q_Inv g) (hta : t < q_M (g.1 0)) (htb : t < q_M (g.1 3)) (x : Int32) : q_go (fX6_change (nI t) (nI w) x) (fX7_change (nI t) (nI w) x) g := by
  have hM := (q_ok0 hI.b).2
  by_cases h1 : x < nI lo
  · refine q_stop hI (c := 0) (by decide) ?_ fun k hf => ?_
    · unfold fX6_change
      rw [c_has (by decide) hI.a hta, p_b2, if_neg (by decide), e6, p_b2, if_pos h1, p_eta]
      rfl
    · unfold fX7_change
      rw [r_has (hf.b hI) (by rw [hf.r]; exact htb), p_b2, if_neg (by decide), e7, r_in, if_pos h1, p_b2, if_pos rfl, p_b2, if_pos rfl, p_eta]
      rfl
  · by_cases h2 : x ≤ nI (T - 1)
    · obtain ⟨n, hn, rfl⟩ : ∃ n, n ≤ T - 1 ∧ x = nI n := nI_of2 (M := nI (T - 1)) (nI_toInt (by omega)) (fun h0 => h1 (Int32.lt_of_lt_of_le h0 (nI_pos' (by omega)))) h2
      refine q_both hI (g.1 3 (7 + 8 * w + t)) (a' := rU (g.1 0) (7 + 8 * w + t) (nI n)) ?_ fun k hf => ⟨rU (g.1 3) (7 + 8 * w + t) (nI n), hI.2.2.1.U (by omega) (by omega) (fun _ => ⟨n, by rw [hb t (by omega)]; exact hn, rfl⟩), ?_⟩
      · unfold fX6_change
        rw [c_has (by decide) hI.a hta, p_b2, if_neg (by decide), e6, p_b2, if_neg h1, e6', p_b2, if_pos h2, c_told (by decide) hI.a hta, p_b2, hI.l.told _ htb, q_toldW hw, c_alt (by decide) hI.a hta hw _ ?_, p_b1]
        intro h45
        have := hT2 h45
        match n, (show n ≤ 1 by omega) with
        | 0, _ => exact Or.inl rfl
        | 1, _ => exact Or.inr rfl
      · unfold fX7_change
        rw [r_has (hf.b hI) (by rw [hf.r]; exact htb), p_b2, if_neg (by decide), e7, r_in, if_neg h1, if_neg (Int32.not_lt.mpr h2), p_b2, if_neg (by decide), p_b2, if_neg (by decide), p_ix, r_bec (by omega), p_b2, hf.r]
    · refine q_stop hI (c := 0) (by decide) ?_ fun k hf => ?_
      · unfold fX6_change
        rw [c_has (by decide) hI.a hta, p_b2, if_neg (by decide), e6, p_b2, if_neg h1, e6', p_b2, if_neg h2, p_eta]
        rfl
      · unfold fX7_change
        rw [r_has (hf.b hI) (by rw [hf.r]; exact htb), p_b2, if_neg (by decide), e7, r_in, if_neg h1, if_pos (Int32.not_le.mp h2), p_b2, if_pos rfl, p_b2, if_pos rfl, p_eta]
        rfl
theorem o_change (hI : q_Inv g) (x1 x2 x3 : Int32) : q_go (fX6_change x1 x2 x3) (fX7_change x1 x2 x3) g := by
  rcases hI.2.2.1.thing x1 with ⟨ha, hb⟩ | ⟨t, hta, htb, rfl⟩
  · refine q_stop hI (c := 0) (by decide) ?_ fun k hf => ?_
    · unfold fX6_change
      rw [c_hasN (by decide) ha, p_b2, if_pos rfl, p_eta]
      rfl
    · unfold fX7_change
      rw [r_hasN (hf.b hI) (by rw [hf.r]; exact hb), p_b2, if_pos rfl, p_eta]
      rfl
  · rcases q_ix x2 (n := 7) (by decide) with h | ⟨j, hj, rfl⟩
    · have n0 : ¬ x2 = 0 := p_ne h (j := 0) (by decide) (by decide)
      have n1 : ¬ x2 = 1 := p_ne h (j := 1) (by decide) (by decide)
      have n2 : ¬ x2 = 2 := p_ne h (j := 2) (by decide) (by decide)
      have n3 : ¬ x2 = 3 := p_ne h (j := 3) (by decide) (by decide)
      have n4 : ¬ x2 = 4 := p_ne h (j := 4) (by decide) (by decide)
      have n5 : ¬ x2 = 5 := p_ne h (j := 5) (by decide) (by decide)
      have n6 : ¬ x2 = 6 := p_ne h (j := 6) (by decide) (by decide)
      refine q_stop hI (c := 0) (by decide) ?_ fun k hf => ?_
      · unfold fX6_change fX6_leastOf fX6_mostOf
        rw [c_has (by decide) hI.a hta, p_b2, if_neg (by decide), if_neg n2, p_b2]
        by_cases h0 : x3 < 0
        · rw [if_pos h0, p_eta]
          rfl
        · have hl : ¬ x3 ≤ -1 := fun h => h0 (Int32.lt_of_le_of_lt h (by decide))
          rw [if_neg h0, if_neg n0, if_neg n1, if_neg n2, if_neg n3, if_neg n4, if_neg n5, if_neg n6, p_b2, if_neg hl, p_eta]
          rfl
      · unfold fX7_change fX7_isIts
        rw [r_has (hf.b hI) (by rw [hf.r]; exact htb), p_b2, if_neg (by decide), if_neg n0, if_neg n1, if_neg n2, if_neg n3, if_neg n4, if_neg n5, if_neg n6, p_b2, if_pos rfl, p_eta]
        rfl
    · match j, hj with
      | 0, _ => exact q_chC (w := 0) (lo := 0) (T := 7) (by decide) (by decide) (by decide) (by decide) (fun t ht => q_bd_7 ht) (by decide) (fun _ => rfl) (fun _ => rfl) (fun x g => r_it0 x g) hI hta htb x3
      | 1, _ => exact q_chC (w := 1) (lo := 0) (T := 16) (by decide) (by decide) (by decide) (by decide) (fun t ht => q_bd_15 ht) (by decide) (fun _ => rfl) (fun _ => rfl) (fun x g => r_it1 x g) hI hta htb x3
      | 2, _ => exact q_chC (w := 2) (lo := 1) (T := 100) (by decide) (by decide) (by decide) (by decide) (fun t ht => q_bd_23 ht) (by decide) (fun _ => rfl) (fun _ => rfl) (fun x g => r_it2 x g) hI hta htb x3
      | 3, _ => exact q_chC (w := 3) (lo := 0) (T := 1000) (by decide) (by decide) (by decide) (by decide) (fun t ht => q_bd_31 ht) (by decide) (fun _ => rfl) (fun _ => rfl) (fun x g => r_it3 x g) hI hta htb x3
      | 4, _ => exact q_chC (w := 4) (lo := 0) (T := 2) (by decide) (by decide) (by decide) (by decide) (fun t ht => q_bd_39 ht) (by decide) (fun _ => rfl) (fun _ => rfl) (fun x g => r_it4 x g) hI hta htb x3
      | 5, _ => exact q_chC (w := 5) (lo := 0) (T := 2) (by decide) (by decide) (by decide) (by decide) (fun t ht => q_bd_47 ht) (by decide) (fun _ => rfl) (fun _ => rfl) (fun x g => r_it5 x g) hI hta htb x3
      | 6, _ => exact q_chC (w := 6) (lo := 0) (T := 10000) (by decide) (by decide) (by decide) (by decide) (fun t ht => q_bd_55 ht) (by decide) (fun _ => rfl) (fun _ => rfl) (fun x g => r_it6 x g) hI hta htb x3
end
