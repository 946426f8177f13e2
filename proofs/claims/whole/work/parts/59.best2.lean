section
variable {g : ic_S}
theorem c_sfL {N : Nat} (hN : N ≤ 60) {b : Nat → Int32} (hb : q_ok b) : ∀ m k n (p : Int32 × Int32) (g : ic_S), k + m = 16 → m < n → q_as b (g.1 0) → q_ok (g.1 1) → ∃ r', q_ok r' ∧ lX6_startFor_20 (nI N) n p.1 p.2 (nI k) g = some ((q_it (q_bs1 (fun x => q_hvy (q_calls N (rU b 3 (nI x))))) m k p).1, sB g 1 r') := by
  intro m
  induction m with
  | zero =>
    intro k n p g h1 h2 h0 hk1
    obtain ⟨n, rfl⟩ : ∃ j, n = j + 1 := ⟨n - 1, by omega⟩
    obtain rfl : k = 16 := by omega
    refine ⟨g.1 1, hk1, ?_⟩
    unfold lX6_startFor_20
    rw [if_pos (by decide), sB_id]
    rfl
  | succ m ih =>
    intro k n p g h1 h2 h0 hk1
    obtain ⟨n, rfl⟩ : ∃ j, n = j + 1 := ⟨n - 1, by omega⟩
    have a1 : ¬ (16 : Int32) ≤ nI k := nI_ge (b := 16) (by omega) (by decide)
    obtain ⟨t1, t2, t3⟩ := c_try hb h0 hk1 (i := 3) (v := nI k) (N := N) (by omega) (fun _ _ => ⟨k, by show k ≤ 15; omega, rfl⟩)
    have ih2 := fun p => ih (k + 1) n p (sB g 1 (q_calls N (rU (q_mt (g.1 1) (g.1 0)) 3 (nI k)))) (by omega) (by omega) h0 (by rw [sB_self]; exact t3.1)
    obtain ⟨r', hr', e⟩ := ih2 (q_bs1 (fun x => q_hvy (q_calls N (rU b 3 (nI x)))) k p)
    rw [sB_sB] at e
    refine ⟨r', hr', ?_⟩
    unfold lX6_startFor_20
    rw [q_its, ← e]
    unfold q_bs1
    rw [if_neg a1, c_trial h0.1, p_b1, show fX2_alterCart 1 0 (nI k) (sB g 1 (q_mt (g.1 1) (g.1 0))) = some (ic_up (sB g 1 (q_mt (g.1 1) (g.1 0))) 1 3 (nI k)) from rfl, up_sB, p_b1, sB_self, sB_sB, c_ca (by decide) (by rw [sB_self]; exact t2.1) (by omega), p_b1, sB_self, sB_sB, c_hvy (by decide) (by rw [sB_self]; exact t3.1), p_b2, sB_self, t3.2.hvy, nI_1]
    split <;> rfl
theorem r_sfL {N : Nat} (hN : N ≤ 60) {b : Nat → Int32} (hb : q_ok b) : ∀ m k n (p : Int32 × Int32) (g : ic_S), k + m = 16 → m < n → q_e73 (g.1 3) b → q_e73 (g.1 5) b → ∃ d, q_e73 d b ∧ lX7_startFor_31 (nI N) n p.1 p.2 (nI k) g = some ((q_it (q_bs1 (fun x => q_hvy (q_calls N (rU b 3 (nI x))))) m k p).1, sB g 3 d) := by
  intro m
  induction m with
  | zero =>
    intro k n p g h1 h2 h0 h5
    obtain ⟨n, rfl⟩ : ∃ j, n = j + 1 := ⟨n - 1, by omega⟩
    obtain rfl : k = 16 := by omega
    refine ⟨g.1 3, h0, ?_⟩
    unfold lX7_startFor_31
    rw [if_pos (by decide), sB_id]
    rfl
  | succ m ih =>
    intro k n p g h1 h2 h0 h5
    obtain ⟨n, rfl⟩ : ∃ j, n = j + 1 := ⟨n - 1, by omega⟩
    have a1 : ¬ (16 : Int32) ≤ nI k := nI_ge (b := 16) (by omega) (by decide)
    have hbU : q_ok (rU b 3 (nI k)) := q_okU hb (fun _ _ => ⟨k, by show k ≤ 15; omega, rfl⟩)
    have hdU : q_ok (rU (g.1 3) 3 (nI k)) := q_okU (h0.ok hb) (fun _ _ => ⟨k, by show k ≤ 15; omega, rfl⟩)
    have ev : q_hvy (q_calls N (rU (g.1 3) 3 (nI k))) = q_hvy (q_calls N (rU b 3 (nI k))) := (((h0.lv hb).U (by omega) (nI k)).calls hbU N).hvy
    have e2 : ∀ h : ic_S, fX7_copies 2 0 h = some (sB h 3 (q_cp (h.1 3) (h.1 5) 0)) := fun h => r_cp (by decide) (by decide) (by decide)
    have ih2 := fun p => ih (k + 1) n p (sB g 3 (q_cp (q_calls N (rU (g.1 3) 3 (nI k))) (g.1 5) 0)) (by omega) (by omega) (by rw [sB_self]; exact (q_e73c _ _).tr h5) (by rw [sB_ne _ _ (by decide)]; exact h5)
    obtain ⟨d, hd, e⟩ := ih2 (q_bs1 (fun x => q_hvy (q_calls N (rU b 3 (nI x)))) k p)
    rw [sB_sB] at e
    refine ⟨d, hd, ?_⟩
    unfold lX7_startFor_31
    rw [q_its, ← e]
    unfold q_bs1
    rw [if_neg a1, p_let, Nat.add_zero, up_sB, r_ca (by rw [sB_self]; exact hdU) (by omega), p_b1, sB_self, sB_sB, r_hvy (by rw [sB_self]; exact q_okcs hdU N), p_b2, sB_self, e2, p_b1, sB_self, sB_sB, sB_ne _ _ (by decide), ev, nI_1]
    split <;> rfl
theorem o_startFor (hI : q_Inv g) (y : Int32) : q_go (fX6_startFor y) (fX7_startFor y) g := by
  rcases q_ix y (n := 61) (by decide) with h | ⟨N, hN, rfl⟩
  · refine q_stop hI (c := 0) (by decide) ?_ fun k hf => ?_
    · unfold fX6_startFor
      rw [c_plN h, p_b2, if_pos rfl, p_eta]
      rfl
    · unfold fX7_startFor
      rw [r_plN h, p_b2, if_pos rfl, p_eta]
      rfl
  · obtain ⟨r', hr', e⟩ := c_sfL (N := N) (by omega) hI.b 16 0 1000 (0, -1) g rfl (by decide) hI.as hI.1
    refine q_still hI (.inl (q_it (q_bs1 (fun x => q_hvy (q_calls N (rU (g.1 3) 3 (nI x))))) 16 0 (0, -1)).1) (fun c e => by cases e) hr' ?_ fun k hf => ?_
    · unfold fX6_startFor
      simp only [p_eta]
      rw [c_pl hN, p_b2, if_neg (by decide)]
      exact e
    · obtain ⟨d, hd, e7⟩ := r_sfL (N := N) (by omega) hI.b 16 0 1000 (0, -1) (sB k 5 (q_cp (k.1 5) (k.1 3) 0)) rfl (by decide) (by rw [sB_ne _ _ (by decide), hf.r]; exact fun _ _ => rfl) (by rw [sB_self, hf.r]; exact q_e73c _ _)
      refine ⟨d, q_cp (k.1 5) (k.1 3) 0, hd, ?_⟩
      unfold fX7_startFor
      simp only [p_eta]
      rw [r_pl hN, p_b2, if_neg (by decide), r_aside, p_b1]
      rw [sB_53] at e7
      exact e7
theorem c_fuL {t w T N : Nat} (hw : w = 0 ∧ T = 7 ∨ w = 1 ∧ T = 16) (hN : N ≤ 60) {b : Nat → Int32} (hb : q_ok b) (ht : t < q_M b) : ∀ m k n (p : Int32 × Int32) (g : ic_S), k + m = T → m < n → q_as b (g.1 0) → q_ok (g.1 1) → ∃ r', q_ok r' ∧ lX6_furthestBy_33 (nI t) (nI w) (nI N) n p.1 p.2 (nI k) g = some ((q_it (q_bs1 (fun x => q_calls N (rU b (7 + 8 * w + t) (nI x)) (55 + t))) m k p).1, sB g 1 r') := by
  have hM := (q_ok0 hb).2
  have hm : ∀ g, fX6_mostOf (nI w) g = some (nI (T - 1), g) := by
    intro g
    rcases hw with ⟨rfl, rfl⟩ | ⟨rfl, rfl⟩ <;> rfl
  have hbd : q_bd (7 + 8 * w + t) = T - 1 := by
    rcases hw with ⟨rfl, rfl⟩ | ⟨rfl, rfl⟩
    · exact q_bd_7 (by omega)
    · exact q_bd_15 (by omega)
  have hw7 : w < 7 := by omega
  have hT : 7 ≤ T ∧ T ≤ 16 := by omega
  intro m
  induction m with
  | zero =>
    intro k n p g h1 h2 h0 hk1
    obtain ⟨n, rfl⟩ : ∃ j, n = j + 1 := ⟨n - 1, by omega⟩
    obtain rfl : k = T := by omega
    refine ⟨g.1 1, hk1, ?_⟩
    unfold lX6_furthestBy_33
    rw [hm, p_b2, if_pos (nI_lt (by omega) (by omega)), sB_id]
    rfl
  | succ m ih =>
    intro k n p g h1 h2 h0 hk1
    obtain ⟨n, rfl⟩ : ∃ j, n = j + 1 := ⟨n - 1, by omega⟩
    obtain ⟨t1, t2, t3⟩ := c_try hb h0 hk1 (i := 7 + 8 * w + t) (v := nI k) (N := N) (by omega) (fun _ _ => ⟨k, by rw [hbd]; omega, rfl⟩)
    have htM : t < q_M (q_calls N (rU b (7 + 8 * w + t) (nI k))) := by
      rw [q_caM (q_okU hb (fun _ _ => ⟨k, by rw [hbd]; omega, rfl⟩)), q_UM _ _ (by omega)]
      exact ht
    have ih2 := fun p => ih (k + 1) n p (sB g 1 (q_calls N (rU (q_mt (g.1 1) (g.1 0)) (7 + 8 * w + t) (nI k)))) (by omega) (by omega) h0 (by rw [sB_self]; exact t3.1)
    obtain ⟨r', hr', e⟩ := ih2 (q_bs1 (fun x => q_calls N (rU b (7 + 8 * w + t) (nI x)) (55 + t)) k p)
    rw [sB_sB] at e
    refine ⟨r', hr', ?_⟩
    unfold lX6_furthestBy_33
    rw [q_its, ← e]
    unfold q_bs1
    rw [hm, p_b2, if_neg (nI_nlt (show k ≤ T - 1 by omega) (by omega)), c_trial h0.1, p_b1, c_alt (by decide) (by rw [sB_self]; exact t1.1) (by rw [sB_self, t1.2.M]; exact ht) hw7 _ (by omega), p_b1, sB_self, sB_sB, c_ca (by decide) (by rw [sB_self]; exact t2.1) (by omega), p_b1, sB_self, sB_sB, c_told (by decide) (by rw [sB_self]; exact t3.1) (by rw [sB_self, t3.2.M]; exact htM), p_b2, sB_self, t3.2.told _ htM, show q_told (q_calls N (rU b (7 + 8 * w + t) (nI k))) t 6 = q_calls N (rU b (7 + 8 * w + t) (nI k)) (55 + t) from rfl, nI_1]
    split <;> rfl
theorem r_fuL {t w T N : Nat} (hw : w = 0 ∧ T = 7 ∨ w = 1 ∧ T = 16) (hN : N ≤ 60) {b : Nat → Int32} (hb : q_ok b) (ht : t < q_M b) : ∀ m k n (p : Int32 × Int32) (g : ic_S), k + m = T → m < n → q_e73 (g.1 3) b → q_e73 (g.1 5) b → ∃ d, q_e73 d b ∧ lX7_bestOf_20 (nI t) (nI w) (nI (T - 1)) (nI N) n p.1 p.2 (nI k) g = some ((q_it (q_bs1 (fun x => q_calls N (rU b (7 + 8 * w + t) (nI x)) (55 + t))) m k p).1, sB g 3 d) := by
  have hM := (q_ok0 hb).2
  have hbd : q_bd (7 + 8 * w + t) = T - 1 := by
    rcases hw with ⟨rfl, rfl⟩ | ⟨rfl, rfl⟩
    · exact q_bd_7 (by omega)
    · exact q_bd_15 (by omega)
  have hw7 : w < 7 := by omega
  have hT : 7 ≤ T ∧ T ≤ 16 := by omega
  intro m
  induction m with
  | zero =>
    intro k n p g h1 h2 h0 h5
    obtain ⟨n, rfl⟩ : ∃ j, n = j + 1 := ⟨n - 1, by omega⟩
    obtain rfl : k = T := by omega
    refine ⟨g.1 3, h0, ?_⟩
    unfold lX7_bestOf_20
    rw [if_pos (nI_lt (by omega) (by omega)), sB_id]
    rfl
  | succ m ih =>
    intro k n p g h1 h2 h0 h5
    obtain ⟨n, rfl⟩ : ∃ j, n = j + 1 := ⟨n - 1, by omega⟩
    have hbU : q_ok (rU b (7 + 8 * w + t) (nI k)) := q_okU hb (fun _ _ => ⟨k, by rw [hbd]; omega, rfl⟩)
    have hdU : q_ok (rU (g.1 3) (7 + 8 * w + t) (nI k)) := q_okU (h0.ok hb) (fun _ _ => ⟨k, by rw [hbd]; omega, rfl⟩)
    have ev : q_calls N (rU (g.1 3) (7 + 8 * w + t) (nI k)) (55 + t) = q_calls N (rU b (7 + 8 * w + t) (nI k)) (55 + t) := (((h0.lv hb).U (by omega) (nI k)).calls hbU N).f6 (by rw [q_caM hbU, q_UM _ _ (by omega)]; exact ht)
    have ih2 := fun p => ih (k + 1) n p (sB g 3 (q_cp (q_calls N (rU (g.1 3) (7 + 8 * w + t) (nI k))) (g.1 5) 0)) (by omega) (by omega) (by rw [sB_self]; exact (q_e73c _ _).tr h5) (by rw [sB_ne _ _ (by decide)]; exact h5)
    obtain ⟨d, hd, e⟩ := ih2 (q_bs1 (fun x => q_calls N (rU b (7 + 8 * w + t) (nI x)) (55 + t)) k p)
    rw [sB_sB] at e
    refine ⟨d, hd, ?_⟩
    unfold lX7_bestOf_20
    rw [q_its, ← e]
    unfold q_bs1
    rw [if_neg (nI_nlt (show k ≤ T - 1 by omega) (by omega)), r_set _ (by omega), p_b1, show (55 : Int32) = nI 55 from rfl, nI_add, r_beh (by omega) (by omega) (by rw [sB_self]; exact hdU), p_b2, sB_self, sB_sB, sB_ne _ _ (by decide), ev, nI_1]
    split <;> rfl
theorem o_layFor (hI : q_Inv g) (x y : Int32) : q_go (fX6_layFor x y) (fX7_layFor x y) g := by
  rcases hI.2.2.1.thing x with ⟨ha, hb⟩ | ⟨t, hta, htb, rfl⟩
  · refine q_stop hI (c := 0) (by decide) ?_ fun k hf => ?_
    · unfold fX6_layFor fX6_furthestBy
      rw [p_eta, c_hasN (by decide) ha, p_b2, if_pos rfl, p_eta]
      rfl
    · unfold fX7_layFor
      rw [r_hasN (hf.b hI) (by rw [hf.r]; exact hb), p_b2, if_pos rfl, p_eta]
      rfl
  · rcases q_ix y (n := 61) (by decide) with h | ⟨N, hN, rfl⟩
    · refine q_stop hI (c := 0) (by decide) ?_ fun k hf => ?_
      · unfold fX6_layFor fX6_furthestBy
        rw [p_eta, c_has (by decide) hI.a hta, p_b2, if_neg (by decide), c_plN h, p_b2, if_pos rfl, p_eta]
        rfl
      · unfold fX7_layFor
        rw [r_has (hf.b hI) (by rw [hf.r]; exact htb), p_b2, if_neg (by decide), r_plN h, p_b2, if_pos rfl, p_eta]
        rfl
    · obtain ⟨r', hr', e⟩ := c_fuL (t := t) (w := 1) (T := 16) (N := N) (Or.inr ⟨rfl, rfl⟩) (by omega) hI.b htb 16 0 1000 (0, -1) g rfl (by decide) hI.as hI.1
      refine q_still hI (.inl (q_it (q_bs1 (fun x => q_calls N (rU (g.1 3) (7 + 8 * 1 + t) (nI x)) (55 + t))) 16 0 (0, -1)).1) (fun c e => by cases e) hr' ?_ fun k hf => ?_
      · unfold fX6_layFor fX6_furthestBy
        simp only [p_eta]
        rw [c_has (by decide) hI.a hta, p_b2, if_neg (by decide), c_pl hN, p_b2, if_neg (by decide)]
        exact e
      · obtain ⟨d, hd, e7⟩ := r_fuL (t := t) (w := 1) (T := 16) (N := N) (Or.inr ⟨rfl, rfl⟩) (by omega) hI.b htb 16 0 1000 (0, -1) (sB k 5 (q_cp (k.1 5) (k.1 3) 0)) rfl (by decide) (by rw [sB_ne _ _ (by decide), hf.r]; exact fun _ _ => rfl) (by rw [sB_self, hf.r]; exact q_e73c _ _)
        refine ⟨d, q_cp (k.1 5) (k.1 3) 0, hd, ?_⟩
        unfold fX7_layFor fX7_bestOf
        simp only [p_eta]
        rw [r_has (hf.b hI) (by rw [hf.r]; exact htb), p_b2, if_neg (by decide), r_pl hN, p_b2, if_neg (by decide), r_aside, p_b1]
        rw [sB_53] at e7
        exact e7
theorem o_kindFor (hI : q_Inv g) (x y : Int32) : q_go (fX6_kindFor x y) (fX7_kindFor x y) g := by
  rcases hI.2.2.1.thing x with ⟨ha, hb⟩ | ⟨t, hta, htb, rfl⟩
  · refine q_stop hI (c := 0) (by decide) ?_ fun k hf => ?_
    · unfold fX6_kindFor fX6_furthestBy
      rw [p_eta, c_hasN (by decide) ha, p_b2, if_pos rfl, p_eta]
      rfl
    · unfold fX7_kindFor
      rw [r_hasN (hf.b hI) (by rw [hf.r]; exact hb), p_b2, if_pos rfl, p_eta]
      rfl
  · rcases q_ix y (n := 61) (by decide) with h | ⟨N, hN, rfl⟩
    · refine q_stop hI (c := 0) (by decide) ?_ fun k hf => ?_
      · unfold fX6_kindFor fX6_furthestBy
        rw [p_eta, c_has (by decide) hI.a hta, p_b2, if_neg (by decide), c_plN h, p_b2, if_pos rfl, p_eta]
        rfl
      · unfold fX7_kindFor
        rw [r_has (hf.b hI) (by rw [hf.r]; exact htb), p_b2, if_neg (by decide), r_plN h, p_b2, if_pos rfl, p_eta]
        rfl
    · obtain ⟨r', hr', e⟩ := c_fuL (t := t) (w := 0) (T := 7) (N := N) (Or.inl ⟨rfl, rfl⟩) (by omega) hI.b htb 7 0 1000 (0, -1) g rfl (by decide) hI.as hI.1
      refine q_still hI (.inl (q_it (q_bs1 (fun x => q_calls N (rU (g.1 3) (7 + 8 * 0 + t) (nI x)) (55 + t))) 7 0 (0, -1)).1) (fun c e => by cases e) hr' ?_ fun k hf => ?_
      · unfold fX6_kindFor fX6_furthestBy
        simp only [p_eta]
        rw [c_has (by decide) hI.a hta, p_b2, if_neg (by decide), c_pl hN, p_b2, if_neg (by decide)]
        exact e
      · obtain ⟨d, hd, e7⟩ := r_fuL (t := t) (w := 0) (T := 7) (N := N) (Or.inl ⟨rfl, rfl⟩) (by omega) hI.b htb 7 0 1000 (0, -1) (sB k 5 (q_cp (k.1 5) (k.1 3) 0)) rfl (by decide) (by rw [sB_ne _ _ (by decide), hf.r]; exact fun _ _ => rfl) (by rw [sB_self, hf.r]; exact q_e73c _ _)
        refine ⟨d, q_cp (k.1 5) (k.1 3) 0, hd, ?_⟩
        unfold fX7_kindFor fX7_bestOf
        simp only [p_eta]
        rw [r_has (hf.b hI) (by rw [hf.r]; exact htb), p_b2, if_neg (by decide), r_pl hN, p_b2, if_neg (by decide), r_aside, p_b1]
        rw [sB_53] at e7
        exact e7
end
