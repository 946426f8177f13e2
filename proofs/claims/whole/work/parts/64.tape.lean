/-! spots, images, the tape -/
theorem q_R.spot {a b : Nat → Int32} (h : q_R a b) {j : Nat} (hj : j < 10) {v w : Int32} (hv : (v = -1 ∧ w = 0) ∨ ∃ t, t < q_M b ∧ v = nI t ∧ w = nI (t + 1)) : q_R (rU a (63 + j) v) (rU b (63 + j) w) := by
  have hM := (q_ok0 h.2.1).2
  refine ⟨q_okU h.1 fun h1 => absurd h1 (by omega), q_okU h.2.1 fun h1 => absurd h1 (by omega), ?_, fun i hi => ?_⟩
  · refine ⟨fun i hi => ?_, fun u hu t ht => ?_⟩
    · rw [rU_n _ _ (by omega), rU_n _ _ (by omega)]
      exact h.2.2.1.1 i hi
    · rw [q_UM _ _ (by omega)] at ht
      rw [rU_n _ _ (by omega), rU_n _ _ (by omega)]
      exact h.2.2.1.2 u hu t ht
  · rw [q_UM _ _ (by omega)]
    by_cases e : i = j
    · subst e
      rw [rU_s, rU_s]
      exact hv
    · rw [rU_n _ _ (by omega), rU_n _ _ (by omega)]
      exact h.2.2.2 i hi
section
variable {g : ic_S}
theorem c_spot {j : Nat} (h : j < 10) : fX2_hasSpot 0 (nI j) g = some (1, g) := by
  unfold fX2_hasSpot
  rw [p_bt (by decide), p_gd, if_neg (nI_pos (by omega)), if_neg (show ¬ 10 ≤ nI j from nI_ge (b := 10) h (by decide))]
theorem c_spotN {x : Int32} (h : x < 0 ∨ nI 10 ≤ x) : fX2_hasSpot 0 x g = some (0, g) := by
  unfold fX2_hasSpot
  rw [p_bt (by decide), p_gd]
  rcases h with h | h
  · rw [if_pos h]
  · have h : 10 ≤ x := h
    rw [if_pos h, ite_self]
theorem c_put {j : Nat} (h : j < 10) (v : Int32) : fX2_putSpot 0 (nI j) v g = some (sB g 0 (rU (g.1 0) (63 + j) v)) := by
  unfold fX2_putSpot
  rw [p_bt (by decide), p_gd, if_neg (nI_pos (by omega)), if_neg (show ¬ 10 ≤ nI j from nI_ge (b := 10) h (by decide)), p_in h (by decide), p_gd, nI_clamp (by omega), p_let, up_sB]
theorem r_inM {M n : Nat} (h : n < M) (hM : M ≤ 8) : fX7_in (nI n).toInt64 (Int32.toInt64 (-1)) (nI M - 1).toInt64 g = some (1, g) := by
  have e : nI M - 1 = nI (M - 1) := by
    rw [show (1 : Int32) = nI 1 from rfl, pk_sub (by omega)]
  have a : ¬ nI n < -1 := fun h => nI_pos (n := n) (by omega) (Int32.lt_trans h (by decide))
  rw [r_in, if_neg a, e, if_neg (nI_nlt (by omega) (by omega))]
theorem o_hold (hI : q_Inv g) (x1 x2 : Int32) : q_go (fX6_hold x1 x2) (fX7_hold x1 x2) g := by
  have hM := (q_ok0 hI.b).2
  have h0 := (q_ok0 hI.b).1
  have hin : ∀ k, q_rf g k → ∀ j, j < 10 → ∀ w v : Int32, x2 + 1 = w → fX7_in x2.toInt64 (Int32.toInt64 (-1)) (nI (q_M (g.1 3)) - 1).toInt64 k = some (1, k) → fX7_hold (nI j) x2 k = some (1, sB k 3 (rU (k.1 3) (63 + j) w)) := by
    intro k hf j hj w v e hk
    unfold fX7_hold
    rw [show fX7_in (nI j).toInt64 0 9 k = some (1, k) from r_inY (n := 10) hj (by decide) k, p_b2, if_neg (by decide), Nat.add_zero, hf.r, h0]
    rw [show fX7_in x2.toInt64 (-1) (nI (q_M (g.1 3)) - 1).toInt64 k = some (1, k) from hk, p_b2, if_neg (by decide), show (63 : Int32) = nI 63 from rfl, nI_add, p_in (show 63 + j < 73 by omega) (by decide), p_gd, p_let, nI_clamp (by omega), Nat.zero_add, up_sB, e, hf.r]
  have hno : ∀ k, q_rf g k → (x1 < 0 ∨ nI 10 ≤ x1) → fX7_hold x1 x2 k = fX7_finds 0 k := by
    intro k hf h
    unfold fX7_hold
    rw [show fX7_in x1.toInt64 0 9 k = some (0, k) from r_inN (n := 10) (by decide) (by decide) h k, p_b2, if_pos rfl, p_eta]
  by_cases e1 : x2 = -1
  · rcases q_ix x1 (n := 10) (by decide) with h | ⟨j, hj, rfl⟩
    · refine q_stop hI (c := 0) (by decide) ?_ fun k hf => hno k hf h
      unfold fX6_hold
      rw [if_pos e1, c_spotN h, p_b2, if_pos rfl, p_eta]
      rfl
    · subst e1
      refine q_both hI 1 (a' := rU (g.1 0) (63 + j) (-1)) ?_ fun k hf => ⟨rU (g.1 3) (63 + j) 0, hI.2.2.1.spot hj (Or.inl ⟨rfl, rfl⟩), ?_⟩
      · unfold fX6_hold
        rw [if_pos rfl, c_spot hj, p_b2, if_neg (by decide), c_put hj, p_b1]
      · rw [hin k hf j hj 0 0 (by decide) ?_, hf.r]
        rw [r_in, if_neg (by decide)]
        have : ¬ nI (q_M (g.1 3)) - 1 < -1 := by
          intro h
          have a := Int32.lt_iff_toInt_lt.mp h
          rw [show (1 : Int32) = nI 1 from rfl, pk_sub_toInt (by omega) (by decide)] at a
          have h1 : (-nI 1 : Int32).toInt = -1 := by decide
          omega
        rw [if_neg this]
  · rcases hI.2.2.1.thing x2 with ⟨ha, hb⟩ | ⟨t, hta, htb, rfl⟩
    · refine q_stop hI (c := 0) (by decide) ?_ fun k hf => ?_
      · unfold fX6_hold
        rw [if_neg e1, c_hasN (by decide) ha, p_b2, if_pos rfl]
        rcases q_ix x1 (n := 10) (by decide) with h | ⟨j, hj, rfl⟩
        · rw [c_spotN h, p_b2, if_pos rfl, p_eta]
          rfl
        · rw [c_spot hj, p_b2, if_neg (by decide), p_eta]
          rfl
      · rcases q_ix x1 (n := 10) (by decide) with h | ⟨j, hj, rfl⟩
        · exact hno k hf h
        · have hz : fX7_in x2.toInt64 (Int32.toInt64 (-1)) (nI (q_M (g.1 3)) - 1).toInt64 k = some (0, k) := by
            rw [r_in]
            by_cases h1 : x2 < -1
            · rw [if_pos h1]
            · have h2 := q_m1 h1 e1
              have h3 := hb.resolve_left h2
              rw [h0] at h3
              have : nI (q_M (g.1 3)) - 1 < x2 := by
                have a := Int32.le_iff_toInt_le.mp h3
                rw [nI_toInt (by omega)] at a
                rw [Int32.lt_iff_toInt_lt, show (1 : Int32) = nI 1 from rfl, pk_sub_toInt (by omega) (by decide)]
                omega
              rw [if_neg h1, if_pos this]
          unfold fX7_hold
          rw [show fX7_in (nI j).toInt64 0 9 k = some (1, k) from r_inY (n := 10) hj (by decide) k, p_b2, if_neg (by decide), Nat.add_zero, hf.r, h0]
          rw [show fX7_in x2.toInt64 (-1) (nI (q_M (g.1 3)) - 1).toInt64 k = some (0, k) from hz, p_b2, if_pos rfl, p_eta]
          rfl
    · rcases q_ix x1 (n := 10) (by decide) with h | ⟨j, hj, rfl⟩
      · refine q_stop hI (c := 0) (by decide) ?_ fun k hf => hno k hf h
        unfold fX6_hold
        rw [if_neg e1, c_has (by decide) hI.a hta, p_b2, if_neg (by decide), c_spotN h, p_b2, if_pos rfl, p_eta]
        rfl
      · refine q_both hI 1 (a' := rU (g.1 0) (63 + j) (nI t)) ?_ fun k hf => ⟨rU (g.1 3) (63 + j) (nI (t + 1)), hI.2.2.1.spot hj (Or.inr ⟨t, htb, rfl, rfl⟩), ?_⟩
        · unfold fX6_hold
          rw [if_neg e1, c_has (by decide) hI.a hta, p_b2, if_neg (by decide), c_spot hj, p_b2, if_neg (by decide), c_put hj, p_b1]
        · rw [hin k hf j hj (nI (t + 1)) 0 (nI_1 t) (r_inM htb hM), hf.r]
/-! images -/
theorem q_R.mt {a b d e : Nat → Int32} (h : q_R a b) (hd : q_ok d) : q_R (q_mt d a) (q_cp e b 0) := by
  have m := q_mtI (d := d) (r := a) (q_ok0 h.1).2
  have h2 : q_R (q_mt d a) b := by
    refine ⟨q_okmt hd h.1, h.2.1, h.2.2.1.tr m.1, fun j hj => ?_⟩
    rw [m.2.2 j hj]
    exact h.2.2.2 j hj
  exact h2.ext (q_e73c _ _)
theorem o_image (hI : q_Inv g) : q_go fX6_image fX7_image g := by
  obtain ⟨i1, i2, i3, i4, i5, i6, i7⟩ := hI
  refine ⟨1, sB (sB g 2 (q_mt (g.1 2) (g.1 0))) 7 (rU (g.1 7) 0 1), sB (sB (sB (sB g 2 (q_mt (g.1 2) (g.1 0))) 7 (rU (g.1 7) 0 1)) 6 (q_cp (g.1 6) (g.1 3) 0)) 24 (rU (g.1 24) 0 1), ?_, ?_, ?_, rfl, rfl, rfl, rfl⟩
  · unfold fX6_image
    rw [c_match (by decide) (by decide) (by decide) i3.1, p_b1, p_let, up_sB, sB_ne _ _ (by decide)]
  · unfold fX7_image
    rw [r_cp (by decide) (by decide) (by decide), p_b1, p_let, up_sB]
    rfl
  · exact ⟨i1, q_okmt i2 i3.1, i3, ⟨rfl, Or.inr ⟨rfl, i3.mt i2⟩⟩, i5, i6, i7⟩
theorem o_tear (hI : q_Inv g) : q_go fX6_tear fX7_tear g := by
  obtain ⟨i1, i2, i3, i4, i5, i6, i7⟩ := hI
  have e : ∀ h : ic_S, h.1 24 0 = g.1 7 0 → fX7_tear h = some (if g.1 7 0 = 0 then 0 else 1, sB h 24 (rU (h.1 24) 0 0)) := by
    intro h eh
    unfold fX7_tear
    rw [eh]
    split
    · rw [p_let, up_sB]
    · rw [p_let, up_sB]
  refine ⟨if g.1 7 0 = 0 then 0 else 1, sB g 7 (rU (g.1 7) 0 0), _, ?_, e _ i4.1.symm, ?_, rfl, rfl, rfl, rfl⟩
  · unfold fX6_tear
    split
    · rw [p_let, up_sB]
    · rw [p_let, up_sB]
  · exact ⟨i1, i2, i3, ⟨rfl, Or.inl rfl⟩, i5, i6, i7⟩
theorem o_undo (hI : q_Inv g) : q_go fX6_undo fX7_undo g := by
  rcases hI.2.2.2.1.2 with h0 | ⟨h0, hR⟩
  · refine q_stop hI (c := 3) (by decide) ?_ fun k hf => ?_
    · unfold fX6_undo
      rw [h0, if_pos rfl, p_eta]
      rfl
    · unfold fX7_undo
      rw [hf.1 24 (by omega), ← hI.2.2.2.1.1, h0, if_pos rfl, p_eta]
      rfl
  · have h1 : ¬ (1 : Int32) = 0 := by decide
    refine q_both hI (g.1 6 1) (a' := q_mt (g.1 0) (g.1 2)) ?_ fun k hf => ⟨q_cp (k.1 3) (g.1 6) 0, hR.mt hI.a, ?_⟩
    · unfold fX6_undo
      rw [h0, if_neg h1, c_match (by decide) (by decide) (by decide) hI.2.1, p_b1, sB_self, (q_mtI (q_ok0 hR.1).2).1.1 1 (by decide), hR.2.2.1.1 1 (by decide)]
    · unfold fX7_undo
      rw [hf.1 24 (by omega), ← hI.2.2.2.1.1, h0, if_neg h1, r_cp (by decide) (by decide) (by decide), p_b1]
      show some ((sB k 3 (q_cp (k.1 3) (k.1 6) 0)).1 3 1, sB k 3 (q_cp (k.1 3) (k.1 6) 0)) = _
      rw [hf.1 6 (by omega), sB_self, q_cpI _ _ (by decide)]
/-! the tape -/
theorem o_wipe (hI : q_Inv g) : q_go fX6_wipe fX7_wipe g := by
  obtain ⟨i1, i2, i3, i4, i5, i6, i7⟩ := hI
  refine ⟨g.1 8 0, sB g 8 (rU (g.1 8) 0 0), sB (sB g 8 (rU (g.1 8) 0 0)) 24 (rU (g.1 24) 1 0), ?_, ?_, ?_, rfl, rfl, rfl, rfl⟩
  · unfold fX6_wipe
    rw [p_let, up_sB]
  · unfold fX7_wipe
    rw [p_let, up_sB]
    show some (g.1 24 1, _) = _
    rw [← i5.1]
    rfl
  · exact ⟨i1, i2, i3, i4, ⟨rfl, 0, by decide, rfl, fun i hi => absurd hi (Nat.not_lt_zero i)⟩, i6, i7⟩
theorem p_byte (w : Int32) : ∃ b, b < 256 ∧ w &&& 255 = nI b ∧ Int8.toInt32 (Int32.toInt8 (Int8.toInt32 (Int32.toInt8 w))) = Int8.toInt32 (Int32.toInt8 (nI b)) := by
  obtain ⟨b, hb, e⟩ := pk_andE w (m := 255) 8 (by decide)
  refine ⟨b, hb, e, ?_⟩
  rw [← e]
  have h1 : Int32.toInt8 (w &&& 255) = Int32.toInt8 w := by
    rw [Int32.toInt8_and]
    have : Int32.toInt8 255 = -1 := by decide
    rw [this]
    simp
  rw [h1]
  simp
theorem o_feL {x : Int32} : ∀ m n (g : ic_S) (k : Nat) (_ : m ≤ 4) (_ : m < n) (_ : g.1 8 0 = nI k) (_ : k + m ≤ 120) (a : Nat → Int32), (∀ i, i < k → ∃ b, b < 256 ∧ g.1 9 i = nI b ∧ a i = Int8.toInt32 (Int32.toInt8 (nI b))) → ∃ r s, lX6_feed_40 x n (nI m - 1) g = some ((), sB (sB g 9 r) 8 (rU (g.1 8) 0 (nI (k + m)))) ∧ (∀ h : ic_S, h.1 24 1 = nI k → h.1 26 = a → lX7_feed_39 x n (nI m - 1) h = some ((), sB (sB h 26 s) 24 (rU (h.1 24) 1 (nI (k + m))))) ∧ ∀ i, i < k + m → ∃ b, b < 256 ∧ r i = nI b ∧ s i = Int8.toInt32 (Int32.toInt8 (nI b)) := by
  intro m
  induction m with
  | zero =>
    intro n g k h4 hn hk hk2 a ha
    obtain ⟨n, rfl⟩ : ∃ j, n = j + 1 := ⟨n - 1, by omega⟩
    refine ⟨g.1 9, a, ?_, ?_, ha⟩
    · unfold lX6_feed_40
      rw [if_pos (by decide), Nat.add_zero, ← hk, rU_id, sB_id, sB_id]
    · intro h h1 h2
      unfold lX7_feed_39
      rw [if_pos (by decide), Nat.add_zero, ← h1, rU_id, ← h2, sB_id, sB_id]
  | succ m ih =>
    intro n g k h4 hn hk hk2 a ha
    obtain ⟨n, rfl⟩ : ∃ j, n = j + 1 := ⟨n - 1, by omega⟩
    obtain ⟨b, hb, e1, e2⟩ := p_byte (x >>> ((8 * nI m) &&& 31))
    obtain ⟨r, s, h6, h7, hrs⟩ := ih n (sB (sB g 9 (rU (g.1 9) k (nI b))) 8 (rU (g.1 8) 0 (nI (k + 1)))) (k + 1) (by omega) (by omega) (by rw [sB_self, rU_s]) (by omega) (rU a k (Int8.toInt32 (Int32.toInt8 (nI b)))) (by
      intro i hi
      rw [sB_ne _ _ (by decide), sB_self]
      by_cases e : i = k
      · subst e
        rw [rU_s, rU_s]
        exact ⟨b, hb, rfl, rfl⟩
      · rw [rU_n _ _ e, rU_n _ _ e]
        exact ha i (by omega))
    have em : nI m + (-1) = nI m - 1 := by
      rw [Int32.sub_eq_add_neg]
    have s98 : ∀ (g : ic_S) (p q u v : Nat → Int32), sB (sB (sB (sB g 9 p) 8 q) 9 u) 8 v = sB (sB g 9 u) 8 v := by
      intro g p q u v
      unfold sB
      refine congrArg (fun z => (z, g.2)) ?_
      funext c
      by_cases h8 : c = 8
      · simp only [h8, if_true]
      · by_cases h9 : c = 9
        · simp only [h9, if_true]
        · simp only [h8, h9, if_false]
    have s26 : ∀ (g : ic_S) (p q u v : Nat → Int32), sB (sB (sB (sB g 26 p) 24 q) 26 u) 24 v = sB (sB g 26 u) 24 v := by
      intro g p q u v
      unfold sB
      refine congrArg (fun z => (z, g.2)) ?_
      funext c
      by_cases h8 : c = 24
      · simp only [h8, if_true]
      · by_cases h9 : c = 26
        · simp only [h9, if_true]
        · simp only [h8, h9, if_false]
    refine ⟨r, s, ?_, ?_, ?_⟩
    · unfold lX6_feed_40 fX3_append
      have a1 : ¬ 120 ≤ nI k := nI_ge (b := 120) (by omega) (by decide)
      rw [nI_pred, if_neg (nI_pos (by omega)), hk, if_neg (nI_pos (by omega)), if_neg a1, p_in (show k < 120 by omega) (by decide), p_gd, p_let, p_let, p_b1, nI_clamp (by omega), Nat.zero_add, e1, up_sB, up_sB, sB_ne _ _ (show (8 : Nat) ≠ 9 by decide), hk, nI_1, em, h6, s98, sB_self, rU_rU, show k + 1 + m = k + (m + 1) by omega]
    · intro h h1 h2
      unfold lX7_feed_39
      rw [nI_pred, if_neg (nI_pos (by omega)), h1, p_in (show k < 120 by omega) (by decide), p_gd, p_let, p_let, nI_clamp (by omega), Nat.zero_add, e2, up_sB, up_sB, sB_ne _ _ (show (24 : Nat) ≠ 26 by decide), h1, nI_1, em, h7 _ (by rw [sB_self, rU_s]) (by rw [sB_ne _ _ (by decide), sB_self, h2]), s26, sB_self, rU_rU, show k + 1 + m = k + (m + 1) by omega]
    · intro i hi
      exact hrs i (by omega)
theorem o_feed (hI : q_Inv g) (x1 x2 : Int32) : q_go (fX6_feed x1 x2) (fX7_feed x1 x2) g := by
  obtain ⟨et, k, hk, ek, hby⟩ := hI.2.2.2.2.1
  have hx : ((x2 < 0 ∨ nI 5 ≤ x2) ∨ x2 = 0) ∨ ∃ j, 1 ≤ j ∧ j < 5 ∧ x2 = nI j := by
    rcases q_ix x2 (n := 5) (by decide) with h | ⟨j, hj, rfl⟩
    · exact Or.inl (Or.inl h)
    · by_cases h : j = 0
      · subst h
        exact Or.inl (Or.inr rfl)
      · exact Or.inr ⟨j, by omega, hj, rfl⟩
  rcases hx with h | ⟨j, hj1, hj, rfl⟩
  · refine q_stop hI (c := 0) (by decide) ?_ fun k hf => ?_
    · unfold fX6_feed
      by_cases h1 : x2 < 1
      · rw [if_pos h1, p_eta]
        rfl
      · have h : nI 5 ≤ x2 := by
          rcases h with (h | h) | h
          · exact absurd (p_lt1 (Or.inl h)) h1
          · exact h
          · exact absurd (p_lt1 (Or.inr h)) h1
        have hl : ¬ x2 ≤ 4 := (p_gt (n := 4) h (by decide)).1
        rw [if_neg h1, if_neg hl, p_eta]
        rfl
    · unfold fX7_feed
      rw [show fX7_in x2.toInt64 1 4 k = some (0, k) from r_inN1 (n := 5) (by decide) (by decide) h k, p_b2, if_pos rfl, p_eta]
      rfl
  · have a1 : ¬ nI j < 1 := nI_nlt (b := 1) hj1 (by omega)
    have a2 : nI j ≤ 4 := nI_le (b := 4) (by omega) (by decide)
    have a3 : nI (k + j) ≤ 120 ↔ k + j ≤ 120 := nI_leI (b := 120) (by omega) (by decide)
    by_cases hc : k + j ≤ 120
    · obtain ⟨r, s, h6, h7, hrs⟩ := o_feL (x := x1) j 1000 g k (by omega) (by omega) ek hc (g.1 26) hby
      obtain ⟨i1, i2, i3, i4, i5, i6, i7⟩ := hI
      have e7 := h7 (sB (sB g 9 r) 8 (rU (g.1 8) 0 (nI (k + j)))) (et.symm.trans ek) rfl
      refine ⟨nI (k + j), sB (sB g 9 r) 8 (rU (g.1 8) 0 (nI (k + j))), sB (sB (sB (sB g 9 r) 8 (rU (g.1 8) 0 (nI (k + j)))) 26 s) 24 (rU (g.1 24) 1 (nI (k + j))), ?_, ?_, ?_, rfl, rfl, rfl, rfl⟩
      · unfold fX6_feed
        rw [if_neg a1, if_pos a2, ek, nI_add, if_pos (a3.mpr hc), h6, p_b2, sB_self, rU_s]
      · unfold fX7_feed
        rw [show ∀ h, fX7_in (nI j).toInt64 1 4 h = some (1, h) from fun h => r_inY1 (n := 5) hj1 hj (by decide) h, p_b2, if_neg (by decide)]
        show (if g.1 24 1 + nI j ≤ 120 then _ else _) = _
        rw [← et, ek, nI_add, if_pos (a3.mpr hc), e7, p_b2, sB_self, rU_s]
        rfl
      · exact ⟨i1, i2, i3, i4, ⟨rfl, k + j, hc, rfl, hrs⟩, i6, i7⟩
    · refine q_stop hI (c := 1) (by decide) ?_ fun h hf => ?_
      · unfold fX6_feed
        rw [if_neg a1, if_pos a2, ek, nI_add, if_neg (fun h => hc (a3.mp h)), p_eta]
        rfl
      · unfold fX7_feed
        rw [show fX7_in (nI j).toInt64 1 4 h = some (1, h) from r_inY1 (n := 5) hj1 hj (by decide) h, p_b2, if_neg (by decide), hf.1 24 (by omega), ← et, ek, nI_add, if_neg (fun h => hc (a3.mp h)), p_eta]
        rfl
end
