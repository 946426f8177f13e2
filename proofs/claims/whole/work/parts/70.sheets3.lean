section
variable {g : ic_S}
/-! sheet -/
theorem c_zeL {s : Nat} (hs : s < 4) : ∀ m k n (g : ic_S), k + m = 40 → m < n → lX1_renew_20 s n (nI k) g = some ((), sB g (19 + s) (q_it (fun i r => rU r i 0) m k (g.1 (19 + s)))) := by
  intro m
  induction m with
  | zero =>
    intro k n g h1 h2
    obtain ⟨n, rfl⟩ : ∃ j, n = j + 1 := ⟨n - 1, by omega⟩
    obtain rfl : k = 40 := by omega
    unfold lX1_renew_20
    rw [if_pos (by decide), q_itz, sB_id]
  | succ m ih =>
    intro k n g h1 h2
    obtain ⟨n, rfl⟩ : ∃ j, n = j + 1 := ⟨n - 1, by omega⟩
    have a1 : ¬ (40 : Int32) ≤ nI k := nI_ge (b := 40) (by omega) (by decide)
    unfold lX1_renew_20
    rw [if_neg a1, p_in (show k < 40 by omega) (by decide), p_gd, p_let, up_sB, nI_clamp (by omega), Nat.zero_add, nI_1, ih (k + 1) n _ (by omega) (by omega), sB_self, sB_sB, q_its]
theorem r_zeL {s : Nat} (hs : s < 4) : ∀ m k n (g : ic_S), k + m = 40 → m < n → lX7_sheet_83 (nI s) n (nI k) g = some ((), sB g 29 (q_it (fun i r => rU r (40 * s + i) 0) m k (g.1 29))) := by
  intro m
  induction m with
  | zero =>
    intro k n g h1 h2
    obtain ⟨n, rfl⟩ : ∃ j, n = j + 1 := ⟨n - 1, by omega⟩
    obtain rfl : k = 40 := by omega
    unfold lX7_sheet_83
    rw [if_pos (by decide), q_itz, sB_id]
  | succ m ih =>
    intro k n g h1 h2
    obtain ⟨n, rfl⟩ : ∃ j, n = j + 1 := ⟨n - 1, by omega⟩
    have a1 : ¬ (40 : Int32) ≤ nI k := nI_ge (b := 40) (by omega) (by decide)
    unfold lX7_sheet_83
    rw [if_neg a1, p_40, p_in (show 40 * s + k < 160 by omega) (by decide), p_gd, p_let, up_sB, nI_clamp (by omega), Nat.zero_add, nI_1, ih (k + 1) n _ (by omega) (by omega), sB_self, sB_sB, q_its]
theorem q_ze (r : Nat → Int32) (c : Nat) : (∀ i, i < 40 → q_it (fun i r => rU r (c + i) 0) 40 0 r (c + i) = 0) ∧ ∀ j, j < c ∨ c + 40 ≤ j → q_it (fun i r => rU r (c + i) 0) 40 0 r j = r j := by
  have h := q_itJ (f := fun i (r : Nat → Int32) => rU r (c + i) 0) (P := fun t a => (∀ i, i < t → a (c + i) = 0) ∧ ∀ j, j < c ∨ c + 40 ≤ j → a j = r j) 40 ?_ 40 0 r (by omega) ⟨fun i hi => absurd hi (Nat.not_lt_zero i), fun _ _ => rfl⟩
  · exact ⟨fun i hi => h.1 i (by omega), h.2⟩
  · rintro t a ht ⟨h1, h2⟩
    refine ⟨fun i hi => ?_, fun j hj => ?_⟩
    · by_cases e : i = t
      · subst e
        exact rU_s _ _ _
      · exact (rU_n _ _ (by omega)).trans (h1 i (by omega))
    · exact (rU_n _ _ (by omega)).trans (h2 j hj)
def q_bits (x : Int32) : Prop := x = 0 ∨ x = 8 ∨ x = 16 ∨ x = 32
def q_sz (b z : Int32) : Int32 := if b = 0 then 0 else z
theorem c_ren {s : Nat} (hs : s < 4) (b z : Int32) : fX1_renew s b z g = some (sB (sB g (15 + s) (rU (rU (g.1 (15 + s)) 0 b) 1 (q_sz b z))) (19 + s) (q_it (fun i r => rU r i 0) 40 0 (g.1 (19 + s)))) := by
  have e : ∀ h, lX1_renew_20 s 1000 0 h = some ((), sB h (19 + s) (q_it (fun i r => rU r i 0) 40 0 (h.1 (19 + s)))) := fun h => c_zeL hs 40 0 1000 h rfl (by decide)
  unfold fX1_renew q_sz
  rw [p_bt hs, p_gd]
  simp only [p_let, up_sB, sB_self, sB_sB, e, p_b2]
  split
  · rw [sB_ne _ _ (by omega)]
  · rw [sB_ne _ _ (by omega)]
theorem c_she {s : Nat} (hs : s < 4) {b : Int32} (hb : q_bits b) (z : Int32) : fX6_sheet (nI s) b z g = if 0 ≤ z then (if z ≤ 40 then some (q_sz b z, sB (sB g (15 + s) (rU (rU (g.1 (15 + s)) 0 b) 1 (q_sz b z))) (19 + s) (q_it (fun i r => rU r i 0) 40 0 (g.1 (19 + s)))) else fX6_finding 0 g) else fX6_finding 6 g := by
  have e := c_ren (g := g) hs b z
  have e1 : (sB (sB g (15 + s) (rU (rU (g.1 (15 + s)) 0 b) 1 (q_sz b z))) (19 + s) (q_it (fun i r => rU r i 0) 40 0 (g.1 (19 + s)))).1 (15 + s) 1 = q_sz b z := by
    rw [sB_ne _ _ (by omega), sB_self, rU_s]
  have d1 : ¬ (8 : Int32) = 0 := by decide
  have d2 : ¬ (16 : Int32) = 0 := by decide
  have d3 : ¬ (16 : Int32) = 8 := by decide
  have d4 : ¬ (32 : Int32) = 0 := by decide
  have d5 : ¬ (32 : Int32) = 8 := by decide
  have d6 : ¬ (32 : Int32) = 16 := by decide
  unfold fX6_sheet
  rw [c_sA hs, p_b2, p_mos, p_vk13 s hs, p_gd]
  rcases hb with rfl | rfl | rfl | rfl
  · simp only [if_true, e, p_b1, e1, p_eta]
  · simp only [d1, if_false, if_true, e, p_b1, e1, p_eta]
  · simp only [d2, d3, if_false, if_true, e, p_b1, e1, p_eta]
  · simp only [d4, d5, d6, if_false, if_true, e, p_b1, e1, p_eta]
theorem r_she {s : Nat} (hs : s < 4) {b : Int32} (hb : q_bits b) (z : Int32) : fX7_sheet (nI s) b z g = if 0 ≤ z then (if z ≤ 40 then some (q_sz b z, sB (sB (sB g 27 (rU (g.1 27) s b)) 28 (rU (g.1 28) s (q_sz b z))) 29 (q_it (fun i r => rU r (40 * s + i) 0) 40 0 (g.1 29))) else fX7_finds 0 g) else fX7_finds 6 g := by
  have e : ∀ h, lX7_sheet_83 (nI s) 1000 0 h = some ((), sB h 29 (q_it (fun i r => rU r (40 * s + i) 0) 40 0 (h.1 29))) := fun h => r_zeL hs 40 0 1000 h rfl (by decide)
  have n28 : ∀ (h : ic_S) r, (sB h 27 r).1 28 = h.1 28 := fun h r => rfl
  have n29 : ∀ (h : ic_S) r, (sB h 28 r).1 29 = h.1 29 := fun h r => rfl
  have n29' : ∀ (h : ic_S) r, (sB h 27 r).1 29 = h.1 29 := fun h r => rfl
  have n28' : ∀ (h : ic_S) r, (sB h 29 r).1 28 = h.1 28 := fun h r => rfl
  have d1 : ¬ (8 : Int32) = 0 := by decide
  have d2 : ¬ (16 : Int32) = 0 := by decide
  have d3 : ¬ (16 : Int32) = 8 := by decide
  have d4 : ¬ (32 : Int32) = 0 := by decide
  have d5 : ¬ (32 : Int32) = 8 := by decide
  have d6 : ¬ (32 : Int32) = 16 := by decide
  have i4 := p_in (k := s) (n := 4) hs (by decide)
  have t4 : (nI s).toNatClampNeg = s := nI_clamp (by omega)
  unfold fX7_sheet q_sz
  rw [r_sh hs, p_b2, if_neg (by decide)]
  rcases hb with rfl | rfl | rfl | rfl
  · simp only [if_true, i4, t4, p_gd, p_let, up_sB, e, p_b2, p_eta, Nat.zero_add, n28, n29, n29', n28', sB_self, rU_s]
  · simp only [d1, if_false, if_true, i4, t4, p_gd, p_let, up_sB, e, p_b2, p_eta, Nat.zero_add, n28, n29, n29', n28', sB_self, rU_s]
  · simp only [d2, d3, if_false, if_true, i4, t4, p_gd, p_let, up_sB, e, p_b2, p_eta, Nat.zero_add, n28, n29, n29', n28', sB_self, rU_s]
  · simp only [d4, d5, d6, if_false, if_true, i4, t4, p_gd, p_let, up_sB, e, p_b2, p_eta, Nat.zero_add, n28, n29, n29', n28', sB_self, rU_s]
theorem o_sheet (hI : q_Inv g) (x b z : Int32) : q_go (fX6_sheet x b z) (fX7_sheet x b z) g := by
  rcases q_ix x (n := 4) (by decide) with h | ⟨s, hs, rfl⟩
  · refine q_stop hI (c := 0) (by decide) ?_ fun k hf => ?_
    · unfold fX6_sheet
      rw [c_sAN h, p_b2, p_mon, p_eta]
      rfl
    · unfold fX7_sheet
      rw [r_shN h, p_b2, if_pos rfl, p_eta]
      rfl
  · by_cases hb : q_bits b
    · by_cases h0 : 0 ≤ z
      · by_cases h4 : z ≤ 40
        · obtain ⟨n, hn, rfl⟩ := nI_of2 (M := 40) (n := 40) (by decide) (Int32.not_lt.mpr h0) h4
          refine ⟨q_sz b (nI n), sB (sB g (15 + s) (rU (rU (g.1 (15 + s)) 0 b) 1 (q_sz b (nI n)))) (19 + s) (q_it (fun i r => rU r i 0) 40 0 (g.1 (19 + s))), sB (sB (sB (sB (sB g (15 + s) (rU (rU (g.1 (15 + s)) 0 b) 1 (q_sz b (nI n)))) (19 + s) (q_it (fun i r => rU r i 0) 40 0 (g.1 (19 + s)))) 27 (rU (g.1 27) s b)) 28 (rU (g.1 28) s (q_sz b (nI n)))) 29 (q_it (fun i r => rU r (40 * s + i) 0) 40 0 (g.1 29)), ?_, ?_, ?_, ?_, ?_, ?_, ?_⟩
          · rw [c_she hs hb, if_pos h0, if_pos h4]
          · rw [r_she hs hb, if_pos h0, if_pos h4]
            rw [sB_ne _ _ (show (27 : Nat) ≠ 19 + s by omega), sB_ne _ _ (show (27 : Nat) ≠ 15 + s by omega), sB_ne _ _ (show (28 : Nat) ≠ 19 + s by omega), sB_ne _ _ (show (28 : Nat) ≠ 15 + s by omega), sB_ne _ _ (show (29 : Nat) ≠ 19 + s by omega), sB_ne _ _ (show (29 : Nat) ≠ 15 + s by omega)]
          · refine hI.sheet hs ⟨?_, ?_, ?_, ?_, fun u hu => ?_⟩ (fun u _ hne => rU_n _ _ hne) (fun u _ hne => rU_n _ _ hne) (fun u hu hne i hi => (q_ze (g.1 29) (40 * s)).2 _ (by omega))
            · rw [rU_n _ _ (by decide), rU_s, rU_s]
            · rw [rU_s]
              exact hb
            · rw [rU_s, rU_s]
            · rw [rU_s]
              unfold q_sz
              split
              · exact ⟨0, by decide, rfl⟩
              · exact ⟨n, hn, rfl⟩
            · have a := (q_ze (g.1 (19 + s)) 0).1 u hu
              simp only [Nat.zero_add] at a
              exact a.trans ((q_ze (g.1 29) (40 * s)).1 u hu).symm
          · rw [sB_ne _ _ (by omega), sB_ne _ _ (by omega)]
          · rw [sB_ne _ _ (by omega), sB_ne _ _ (by omega)]
          · rw [sB_ne _ _ (by decide), sB_ne _ _ (by decide), sB_ne _ _ (by decide), sB_ne _ _ (by omega), sB_ne _ _ (by omega)]
          · rw [sB_ne _ _ (by decide), sB_ne _ _ (by decide), sB_ne _ _ (by decide), sB_ne _ _ (by omega), sB_ne _ _ (by omega)]
        · refine q_stop hI (c := 0) (by decide) ?_ fun k hf => ?_
          · rw [c_she hs hb, if_pos h0, if_neg h4]
            rfl
          · rw [r_she hs hb, if_pos h0, if_neg h4]
            rfl
      · refine q_stop hI (c := 6) (by decide) ?_ fun k hf => ?_
        · rw [c_she hs hb, if_neg h0]
          rfl
        · rw [r_she hs hb, if_neg h0]
          rfl
    · have b0 : ¬ b = 0 := fun h => hb (Or.inl h)
      have b8 : ¬ b = 8 := fun h => hb (Or.inr (Or.inl h))
      have b16 : ¬ b = 16 := fun h => hb (Or.inr (Or.inr (Or.inl h)))
      have b32 : ¬ b = 32 := fun h => hb (Or.inr (Or.inr (Or.inr h)))
      refine q_stop hI (c := 0) (by decide) ?_ fun k hf => ?_
      · unfold fX6_sheet
        rw [c_sA hs, p_b2, p_mos, p_vk13 s hs, p_gd, if_neg b0, if_neg b8, if_neg b16, if_neg b32, p_eta]
        rfl
      · unfold fX7_sheet
        rw [r_sh hs, p_b2, if_neg (by decide), if_neg b0, if_neg b8, if_neg b16, if_neg b32, p_eta]
        rfl
end
