theorem sB_same {g : ic_S} {b : Nat} {r : Nat → Int32} (h : g.1 b = r) : sB g b r = g := by
  rw [← h, sB_id]
section
variable {g : ic_S}
/-! load -/
def q_ld (f : Nat → Int32) : Nat → Nat → (Nat → Int32) → Nat × (Nat → Int32)
  | 0, k, r => (k, r)
  | m + 1, k, r => if k < q_M r ∧ ¬ f k < 1 ∧ f k ≤ 99 then q_ld f m (k + 1) (rU r (23 + k) (f k)) else (k, r)
theorem q_ldR {f : Nat → Int32} : ∀ m k a b, q_R a b → (q_ld f m k a).1 = (q_ld f m k b).1 ∧ q_R (q_ld f m k a).2 (q_ld f m k b).2 := by
  intro m
  induction m with
  | zero => intro k a b h; exact ⟨rfl, h⟩
  | succ m ih =>
    intro k a b h
    unfold q_ld
    rw [h.2.2.1.M]
    have hM := (q_ok0 h.2.1).2
    split
    · rename_i hc
      refine ih _ _ _ (h.U (by omega) (by omega) fun _ => ?_)
      rw [q_bd_23 (by omega)]
      obtain ⟨n, hn, e⟩ := nI_of2 (M := 99) (n := 99) (by decide) (fun h0 => hc.2.1 (p_lt1 (Or.inl h0))) hc.2.2
      exact ⟨n, hn, e⟩
    · exact ⟨rfl, h⟩
theorem q_ldk {f : Nat → Int32} : ∀ m k r, k ≤ (q_ld f m k r).1 ∧ (q_ld f m k r).1 ≤ k + m := by
  intro m
  induction m with
  | zero => intro k r; exact ⟨Nat.le_refl _, Nat.le_refl _⟩
  | succ m ih =>
    intro k r
    unfold q_ld
    split
    · have := ih (k + 1) (rU r (23 + k) (f k))
      omega
    · exact ⟨Nat.le_refl _, by show k ≤ _; omega⟩
def q_lf (z : Nat) (p : Nat × (Nat → Int32)) (g : ic_S) : (Int32 × ic_S) ⊕ (Unit × ic_S) := if p.1 = z then .inr ((), sB g 0 p.2) else .inl (nI p.1, sB g 0 p.2)
theorem c_ldL {s z : Nat} (hs : s < 4) (hz : z ≤ 40) {f : Nat → Int32} : ∀ m k n (g : ic_S) (b : Nat → Int32), k + m = z → m < n → q_R (g.1 0) b → g.1 (15 + s) 1 = nI z → (∀ i, i < 40 → g.1 (19 + s) i = f i) → lX6_load_31 s n (nI k) g = some (q_lf z (q_ld f m k (g.1 0)) g) := by
  intro m
  induction m with
  | zero =>
    intro k n g b h1 h2 hR h3 hf
    obtain ⟨n, rfl⟩ : ∃ j, n = j + 1 := ⟨n - 1, by omega⟩
    unfold lX6_load_31 q_lf q_ld
    rw [h3, if_pos (nI_le (by omega) (by omega)), if_pos (show k = z by omega), sB_id]
  | succ m ih =>
    intro k n g b h1 h2 hR h3 hf
    obtain ⟨n, rfl⟩ : ∃ j, n = j + 1 := ⟨n - 1, by omega⟩
    obtain ⟨h0, hM⟩ := q_ok0 hR.1
    unfold lX6_load_31 q_ld
    rw [h3, if_neg (nI_ge (by omega) (by omega)), c_st_ hs (by omega), p_b2, hf k (by omega)]
    by_cases hk : k < q_M (g.1 0)
    · rw [c_has (by decide) hR.1 hk, p_b2, if_neg (by decide)]
      by_cases h5 : f k < 1
      · rw [if_pos h5, if_neg (fun h => h.2.1 h5)]
        unfold q_lf
        rw [if_neg (show ¬ k = z by omega), sB_id]
      · rw [if_neg h5]
        by_cases h6 : f k ≤ 99
        · have hv : (23 + k) ≠ 2 → ∃ n, n ≤ q_bd (23 + k) ∧ f k = nI n := by
            intro _
            rw [q_bd_23 (by omega)]
            exact nI_of2 (M := 99) (n := 99) (by decide) (fun h0 => h5 (p_lt1 (Or.inl h0))) h6
          rw [if_pos h6, if_pos ⟨hk, h5, h6⟩]
          rw [show fX2_alter 0 (nI k) 2 (f k) g = _ from c_alt (w := 2) (by decide) hR.1 hk (by decide) _ (fun h => absurd h (by decide)), p_b1, nI_1, ih (k + 1) n _ (rU b (23 + k) (f k)) (by omega) (by omega) (by rw [sB_self]; exact hR.U (by omega) (by omega) hv) (by rw [sB_ne _ _ (by omega)]; exact h3) (fun i hi => by rw [sB_ne _ _ (by omega)]; exact hf i hi), sB_self]
          unfold q_lf
          simp only [sB_sB]
        · rw [if_neg h6, if_neg (fun h => h6 h.2.2)]
          unfold q_lf
          rw [if_neg (show ¬ k = z by omega), sB_id]
    · rw [c_hasN (by decide) (Or.inr (by rw [h0]; exact nI_le (by omega) (by omega))), p_b2, if_pos rfl, if_neg (fun h => hk h.1)]
      unfold q_lf
      rw [if_neg (show ¬ k = z by omega), sB_id]
theorem r_ldL {s z : Nat} (hs : s < 4) (hz : z ≤ 40) {f : Nat → Int32} : ∀ m k n (g : ic_S) (a : Nat → Int32), k + m = z → m < n → q_R a (g.1 3) → g.1 28 s = nI z → (∀ i, i < 40 → g.1 29 (40 * s + i) = f i) → lX7_load_18 (nI s) n (nI k) g = some (nI (q_ld f m k (g.1 3)).1, sB g 3 (q_ld f m k (g.1 3)).2) := by
  intro m
  induction m with
  | zero =>
    intro k n g a h1 h2 hR h3 hf
    obtain ⟨n, rfl⟩ : ∃ j, n = j + 1 := ⟨n - 1, by omega⟩
    unfold lX7_load_18 q_ld
    rw [p_in hs (by decide), p_gd, nI_clamp (by omega), Nat.zero_add, h3, if_pos (nI_le (by omega) (by omega)), sB_id]
  | succ m ih =>
    intro k n g a h1 h2 hR h3 hf
    obtain ⟨n, rfl⟩ : ∃ j, n = j + 1 := ⟨n - 1, by omega⟩
    obtain ⟨h0, hM⟩ := q_ok0 hR.2.1
    unfold lX7_load_18 q_ld
    rw [p_in hs (by decide), p_gd, nI_clamp (by omega), Nat.zero_add, h3, if_neg (nI_ge (by omega) (by omega)), Nat.add_zero, h0]
    by_cases hk : k < q_M (g.1 3)
    · rw [if_neg (nI_ge hk (by omega)), p_40, p_in (show 40 * s + k < 160 by omega) (by decide), p_gd, nI_clamp (by omega), Nat.zero_add, hf k (by omega)]
      rw [show fX7_in (f k).toInt64 1 99 g = _ from r_in (f k) 1 99 g, p_b2]
      by_cases h5 : f k < 1
      · rw [if_pos h5, if_pos rfl, if_neg (fun h => h.2.1 h5), sB_id]
      · rw [if_neg h5]
        by_cases h6 : f k ≤ 99
        · have hv : (23 + k) ≠ 2 → ∃ n, n ≤ q_bd (23 + k) ∧ f k = nI n := by
            intro _
            rw [q_bd_23 (by omega)]
            exact nI_of2 (M := 99) (n := 99) (by decide) (fun h0 => h5 (p_lt1 (Or.inl h0))) h6
          rw [if_neg (Int32.not_lt.mpr h6), if_neg (by decide), p_gd, r_set2 _ (by omega), p_b1, nI_1, if_pos ⟨hk, h5, h6⟩, hf k (by omega), ih (k + 1) n _ (rU a (23 + k) (f k)) (by omega) (by omega) (by rw [sB_self]; exact hR.U (by omega) (by omega) hv) (by rw [sB_ne _ _ (by decide)]; exact h3) (fun i hi => by rw [sB_ne _ _ (by decide)]; exact hf i hi), sB_self, sB_sB]
        · rw [if_pos (Int32.not_le.mp h6), if_pos rfl, if_neg (fun h => h6 h.2.2), sB_id]
    · rw [if_pos (nI_le (by omega) (by omega)), if_neg (fun h => hk h.1), sB_id]
theorem o_load (hI : q_Inv g) (x : Int32) : q_go (fX6_load x) (fX7_load x) g := by
  rcases q_ix x (n := 4) (by decide) with h | ⟨s, hs, rfl⟩
  · refine q_stop hI (c := 0) (by decide) ?_ fun k hf => ?_
    · unfold fX6_load
      rw [c_sAN h, p_b2, p_mon, p_eta]
      rfl
    · unfold fX7_load
      rw [r_whyN h, p_b2, if_neg (by decide), p_eta]
      rfl
  · obtain ⟨e0, eb, e1, ⟨z, hz, ez⟩, en⟩ := hI.sh hs
    by_cases hm : g.1 27 s = 0
    · refine q_stop hI (c := 5) (by decide) ?_ fun k hf => ?_
      · unfold fX6_load
        rw [c_sA hs, p_b2, p_mos, p_vk13 s hs, p_gd, c_mi hs, p_b2, e0, if_pos hm, if_neg (by decide), p_eta]
        rfl
      · unfold fX7_load
        rw [r_why hs, p_b2, hf.1 27 (by omega), if_pos hm, if_neg (by decide), p_eta]
        rfl
    · obtain ⟨hj, hR⟩ := q_ldR (f := fun i => g.1 29 (40 * s + i)) z 0 _ _ hI.2.2.1
      refine q_both hI (nI (q_ld (fun i => g.1 29 (40 * s + i)) z 0 (g.1 3)).1) (a' := (q_ld (fun i => g.1 29 (40 * s + i)) z 0 (g.1 0)).2) ?_ fun k hf => ⟨_, hR, ?_⟩
      · unfold fX6_load
        rw [c_sA hs, p_b2, p_mos, p_vk13 s hs, p_gd, c_mi hs, p_b2, e0, if_neg hm, if_pos rfl]
        rw [show lX6_load_31 s 1000 0 g = _ from c_ldL hs hz z 0 1000 g _ (by omega) (by omega) hI.2.2.1 (e1.trans ez) en, ← hj]
        unfold q_lf
        split
        · rename_i h
          rw [p_bsr, sB_ne _ _ (by omega), e1, ez, h]
        · rw [p_bsl]
      · unfold fX7_load
        rw [r_why hs, p_b2, hf.1 27 (by omega), if_neg hm, if_pos (by decide)]
        rw [show lX7_load_18 (nI s) 1000 0 k = _ from r_ldL hs hz (f := fun i => g.1 29 (40 * s + i)) z 0 1000 k (g.1 0) (by omega) (by omega) (by rw [hf.r]; exact hI.2.2.1) (by rw [hf.1 28 (by omega)]; exact ez) (fun i _ => by rw [hf.1 29 (by omega)]), p_b2, hf.r]
/-! write -/
def q_nar (b x : Int32) : Int32 := if b = 8 then Int8.toInt32 (Int32.toInt8 x) else if b = 16 then Int16.toInt32 (Int32.toInt16 x) else x
theorem r_inS {x : Int32} {z : Nat} (hz : z ≤ 40) (h : x < 0 ∨ nI z ≤ x) : fX7_in x.toInt64 (Int32.toInt64 0) (nI z - 1).toInt64 g = some (0, g) := by
  rw [r_in]
  rcases h with h | h
  · rw [if_pos h]
  · have : nI z - 1 < x := by
      have a := Int32.le_iff_toInt_le.mp h
      rw [nI_toInt (by omega)] at a
      rw [Int32.lt_iff_toInt_lt, show (1 : Int32) = nI 1 from rfl, pk_sub_toInt (by omega) (by decide)]
      omega
    rw [if_pos this, ite_self]
theorem r_inS1 {j z : Nat} (hz : z ≤ 40) (h : j < z) : fX7_in (nI j).toInt64 (Int32.toInt64 0) (nI z - 1).toInt64 g = some (1, g) := by
  have e : nI z - 1 = nI (z - 1) := by
    rw [show (1 : Int32) = nI 1 from rfl, pk_sub (by omega)]
  rw [e]
  exact r_inY h (by omega) g
theorem o_write (hI : q_Inv g) (x i v : Int32) : q_go (fX6_write x i v) (fX7_write x i v) g := by
  rcases q_ix x (n := 4) (by decide) with h | ⟨s, hs, rfl⟩
  · refine q_stop hI (c := 0) (by decide) ?_ fun k hf => ?_
    · unfold fX6_write
      rw [c_sAN h, p_b2, p_mon, p_eta]
      rfl
    · unfold fX7_write
      rw [r_whyN h, p_b2, if_pos (by decide), if_neg (by decide), p_eta]
      rfl
  · have hS := hI.sh hs
    obtain ⟨e0, eb, e1, ⟨z, hz, ez⟩, en⟩ := id hS
    by_cases hm : g.1 27 s = 0
    · refine q_stop hI (c := 5) (by decide) ?_ fun k hf => ?_
      · unfold fX6_write
        rw [c_sA hs, p_b2, p_mos, p_vk13 s hs, p_gd, c_mi hs, p_b2, e0, if_pos hm, if_neg (by decide), p_eta]
        rfl
      · unfold fX7_write
        rw [r_why hs, p_b2, hf.1 27 (by omega), if_pos hm, if_pos (by decide), if_neg (by decide), p_eta]
        rfl
    · have n5 : ¬ (0 : Int32) ≤ -1 := by decide
      have l5 : (-1 : Int32) < 0 := by decide
      rcases q_ix i (n := z) (by omega) with h | ⟨j, hj, rfl⟩
      · refine q_stop hI (c := 0) (by decide) ?_ fun k hf => ?_
        · unfold fX6_write
          rw [c_sA hs, p_b2, p_mos, p_vk13 s hs, p_gd, c_mi hs, p_b2, e0, if_neg hm, if_pos rfl]
          rcases h with h | h
          · rw [if_pos h, p_eta]
            rfl
          · rw [e1, ez, if_neg (Int32.not_lt.mpr h), p_eta, ite_self]
            rfl
        · unfold fX7_write
          rw [r_why hs, p_b2, hf.1 27 (by omega), if_neg hm, if_neg n5, p_in hs (by decide), p_gd, nI_clamp (by omega), Nat.zero_add, hf.1 28 (by omega), ez]
          rw [show fX7_in i.toInt64 0 (nI z - 1).toInt64 k = some (0, k) from r_inS hz h, p_b2, if_pos rfl, p_eta]
          rfl
      · refine ⟨1, sB g (19 + s) (rU (g.1 (19 + s)) j (q_nar (g.1 27 s) v)), sB (sB g (19 + s) (rU (g.1 (19 + s)) j (q_nar (g.1 27 s) v))) 29 (rU (g.1 29) (40 * s + j) (q_nar (g.1 27 s) v)), ?_, ?_, ?_, ?_, ?_, ?_, ?_⟩
        · unfold fX6_write
          rw [c_sA hs, p_b2, p_mos, p_vk13 s hs, p_gd, c_mi hs, p_b2, e0, if_neg hm, if_pos rfl, if_neg (nI_pos (by omega)), e1, ez, if_pos (nI_lt hj (by omega))]
          unfold fX1_put q_nar
          rw [p_bt hs, p_gd, if_neg (nI_pos (by omega)), if_neg (show ¬ 40 ≤ nI j from nI_ge (b := 40) (by omega) (by decide)), p_in (show j < 40 by omega) (by decide), e0]
          simp only [p_gd, nI_clamp (show j < 2 ^ 31 by omega), Nat.zero_add, p_let, up_sB]
          split
          · rfl
          · split
            · rfl
            · rfl
        · have k27 : (sB g (19 + s) (rU (g.1 (19 + s)) j (q_nar (g.1 27 s) v))).1 27 = g.1 27 := sB_ne _ _ (by omega)
          have k28 : (sB g (19 + s) (rU (g.1 (19 + s)) j (q_nar (g.1 27 s) v))).1 28 = g.1 28 := sB_ne _ _ (by omega)
          have k29 : (sB g (19 + s) (rU (g.1 (19 + s)) j (q_nar (g.1 27 s) v))).1 29 = g.1 29 := sB_ne _ _ (by omega)
          revert k27 k28 k29
          generalize sB g (19 + s) (rU (g.1 (19 + s)) j (q_nar (g.1 27 s) v)) = h
          intro k27 k28 k29
          unfold fX7_write
          rw [r_why hs, p_b2, k27, if_neg hm, if_neg n5, p_in hs (by decide), p_gd, nI_clamp (by omega), Nat.zero_add, k28, ez]
          rw [show fX7_in (nI j).toInt64 0 (nI z - 1).toInt64 h = some (1, h) from r_inS1 hz hj, p_b2, if_neg (by decide), if_pos l5, p_40]
          simp only [p_in (show 40 * s + j < 160 by omega) (by decide), p_gd, nI_clamp (show 40 * s + j < 2 ^ 31 by omega), Nat.zero_add, p_let, up_sB, k27, k29]
          unfold q_nar
          split
          · rfl
          · split
            · rfl
            · rfl
        · have H := hI.sheet hs (h' := g.1 (15 + s)) (n' := rU (g.1 (19 + s)) j (q_nar (g.1 27 s) v)) (b' := g.1 27) (z' := g.1 28) (f' := rU (g.1 29) (40 * s + j) (q_nar (g.1 27 s) v)) ⟨e0, eb, e1, ⟨z, hz, ez⟩, fun u hu => ?_⟩ (fun _ _ _ => rfl) (fun _ _ _ => rfl) (fun u hu hne u' hu' => rU_n _ _ (by omega))
          · rw [sB_id, sB_same (b := 27) (sB_ne _ _ (by omega)), sB_same (b := 28) (sB_ne _ _ (by omega))] at H
            exact H
          · by_cases e : u = j
            · subst e
              show rU _ u _ u = rU _ (40 * s + u) _ (40 * s + u)
              rw [rU_s, rU_s]
            · show rU _ j _ u = rU _ (40 * s + j) _ (40 * s + u)
              rw [rU_n _ _ e, rU_n _ _ (by omega)]
              exact en u hu
        · exact sB_ne _ _ (by omega)
        · exact sB_ne _ _ (by omega)
        · exact (sB_ne _ _ (by decide)).trans (sB_ne _ _ (by omega))
        · exact (sB_ne _ _ (by decide)).trans (sB_ne _ _ (by omega))
end
