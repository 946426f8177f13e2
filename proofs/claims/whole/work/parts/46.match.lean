/-! copies of streets -/
def q_hd (d r : Nat → Int32) : Nat → Int32 := rU (rU (rU (rU (rU (rU (rU d 3 (r 3)) 4 (r 4)) 5 (r 5)) 6 (r 6)) 1 (r 1)) 2 (r 2)) 0 (r 0)
def q_cpt (r : Nat → Int32) (t : Nat) (d : Nat → Int32) : Nat → Int32 := rU (rU (rU (rU (rU (rU (rU d (7 + t) (r (7 + t))) (15 + t) (r (15 + t))) (23 + t) (r (23 + t))) (31 + t) (r (31 + t))) (55 + t) (r (55 + t))) (39 + t) (r (39 + t))) (47 + t) (r (47 + t))
def q_cps (r : Nat → Int32) (j : Nat) (d : Nat → Int32) : Nat → Int32 := rU d (63 + j) (r (63 + j))
def q_mt (d r : Nat → Int32) : Nat → Int32 := q_it (q_cps r) 10 0 (q_it (q_cpt r) (q_M r) 0 (q_hd d r))
theorem p_nz {v : Int32} (h : v = 0 ∨ v = 1) : ic_nz v = true := by
  rcases h with rfl | rfl <;> rfl
section
variable {s s1 : Nat} {g : ic_S}
theorem c_m4 (hs : s < 3) (h1 : s1 < 3) (hn : s1 ≠ s) {t : Nat} (ht : t < 8) (hk : q_ok (g.1 s1)) : fX4_match s t (some (s1, t)) g = some (sB g s (q_cpt (g.1 s1) t (g.1 s))) := by
  unfold fX4_match q_cpt
  simp only [p_bt hs, p_bt ht, p_gd, p_mos, p_vk3 h1 ht, p_let, up_sB, sB_self, sB_sB, sB_ne _ _ hn, p_nz (p_01 (q_okH hk ht)), p_nz (p_01 (q_okT hk ht))]
theorem q_cptK (r d : Nat → Int32) {t i : Nat} (h : i < 7 ∨ 63 ≤ i) (ht : t < 8) : q_cpt r t d i = d i := by
  unfold q_cpt
  iterate 7 rw [rU_n _ _ (by omega)]
theorem c_m63 (hs : s < 3) (h1 : s1 < 3) (hn : s1 ≠ s) : ∀ m k n g, k + m = q_M (g.1 s1) → m < n → q_ok (g.1 s1) → g.1 s 0 = g.1 s1 0 → lX2_match_63 s s1 n (nI k) g = some ((), sB g s (q_it (q_cpt (g.1 s1)) m k (g.1 s))) := by
  intro m
  induction m with
  | zero =>
    intro k n g h2 h3 hk h4
    obtain ⟨h0, hM⟩ := q_ok0 hk
    obtain ⟨n, rfl⟩ : ∃ j, n = j + 1 := ⟨n - 1, by omega⟩
    obtain rfl : k = q_M (g.1 s1) := by omega
    unfold lX2_match_63
    rw [h4, h0, if_pos ((p_lem hM hM).mpr (Nat.le_refl _)), q_itz, sB_id]
  | succ m ih =>
    intro k n g h2 h3 hk h4
    obtain ⟨h0, hM⟩ := q_ok0 hk
    obtain ⟨n, rfl⟩ : ∃ j, n = j + 1 := ⟨n - 1, by omega⟩
    have hk8 : k < 8 := by omega
    have hx : fX2_thingAt s (nI k) g = some (some (s, k), g) := by
      unfold fX2_thingAt
      rw [p_bt hs, p_gd, if_neg (nI_pos (by omega)), h4, h0, if_neg (nI_ge (show k < q_M (g.1 s1) by omega) (by omega)), if_neg (p_n8 hk8), p_in8 hk8, p_gd, p_tn hk8]
    unfold lX2_match_63
    rw [h4, h0, if_neg (fun h => absurd ((p_lem hM (Nat.le_of_lt hk8)).mp h) (by omega)), q_its, nI_1, hx, p_b2, p_mos, p_vk3 hs hk8, p_gd, c_thing h1 hk (by omega), p_b2, c_m4 hs h1 hn hk8 hk, p_b1]
    have e := ih (k + 1) n (sB g s (q_cpt (g.1 s1) k (g.1 s))) (by rw [sB_ne _ _ hn]; omega) (by omega) (by rw [sB_ne _ _ hn]; exact hk) (by rw [sB_self, sB_ne _ _ hn, q_cptK _ _ (Or.inl (by decide)) hk8]; exact h4)
    rw [sB_self, sB_sB, sB_ne _ _ hn] at e
    exact e
theorem c_m98 (hs : s < 3) (h1 : s1 < 3) (hn : s1 ≠ s) : ∀ m k n g, k + m = 10 → m < n → lX2_match_98 s s1 n (nI k) g = some ((), sB g s (q_it (q_cps (g.1 s1)) m k (g.1 s))) := by
  intro m
  induction m with
  | zero =>
    intro k n g h2 h3
    obtain ⟨n, rfl⟩ : ∃ j, n = j + 1 := ⟨n - 1, by omega⟩
    obtain rfl : k = 10 := by omega
    unfold lX2_match_98
    rw [if_pos (by decide), q_itz, sB_id]
  | succ m ih =>
    intro k n g h2 h3
    obtain ⟨n, rfl⟩ : ∃ j, n = j + 1 := ⟨n - 1, by omega⟩
    unfold lX2_match_98 fX2_spotTold fX2_putSpot
    have a1 : ¬ (10 : Int32) ≤ nI k := nI_ge (b := 10) (by omega) (by decide)
    have a2 : ¬ nI k < 0 := nI_pos (by omega)
    have a3 : (nI k).toNatClampNeg = k := nI_clamp (by omega)
    simp only [a1, a2, a3, if_false, p_bt h1, p_bt hs, p_in (show k < 10 by omega) (by decide), p_gd, p_b2, p_let, up_sB, p_b1, q_its, nI_1]
    have e := ih (k + 1) n (sB g s (q_cps (g.1 s1) k (g.1 s))) (by omega) (by omega)
    rw [sB_self, sB_sB, sB_ne _ _ hn] at e
    exact e
theorem c_match (hs : s < 3) (h1 : s1 < 3) (hn : s1 ≠ s) (hk : q_ok (g.1 s1)) : fX2_match s (some (s1, 0)) g = some (sB g s (q_mt (g.1 s) (g.1 s1))) := by
  have hv : ic_vk 1 s1 0 = true := by
    unfold ic_vk
    rw [p_bt (show s1 < ic_ns 1 from h1)]
    rfl
  unfold fX2_match
  rw [p_bt hs, p_gd, p_mos, hv, p_gd]
  simp only [p_let, up_sB, sB_self, sB_sB, sB_ne _ _ hn]
  rw [show (0 : Int32) = nI 0 from nI_0.symm, c_m63 hs h1 hn (q_M (g.1 s1)) 0 1000 _ (by rw [sB_ne _ _ hn]; omega) (by have := (q_ok0 hk).2; omega) (by rw [sB_ne _ _ hn]; exact hk) (by rw [sB_self, sB_ne _ _ hn, rU_s]), p_b2, sB_self, sB_sB, sB_ne _ _ hn, c_m98 hs h1 hn 10 0 1000 _ rfl (by decide), p_b2, sB_self, sB_sB, sB_ne _ _ hn]
  rfl
end
/-- what a matched street is -/
theorem q_hdI {d r : Nat → Int32} {i : Nat} (h : i < 7) : q_hd d r i = r i := by
  unfold q_hd
  match i, h with
  | 0, _ => rfl
  | 1, _ => rfl
  | 2, _ => rfl
  | 3, _ => rfl
  | 4, _ => rfl
  | 5, _ => rfl
  | 6, _ => rfl
theorem q_cptI (r d : Nat → Int32) {t i : Nat} : q_cpt r t d i = d i ∨ q_cpt r t d i = r i := by
  unfold q_cpt rU
  repeat' split
  all_goals first | exact Or.inl rfl | (subst_vars; exact Or.inr rfl)
theorem q_cptS (r d : Nat → Int32) {t w : Nat} (hw : w < 7) : q_cpt r t d (7 + 8 * w + t) = r (7 + 8 * w + t) := by
  unfold q_cpt rU
  match w, hw with
  | 0, _ => simp
  | 1, _ => simp
  | 2, _ => simp
  | 3, _ => simp
  | 4, _ => simp
  | 5, _ => simp
  | 6, _ => simp
theorem q_mtI {d r : Nat → Int32} (hM : q_M r ≤ 8) : q_lv r (q_mt d r) ∧ (∀ i, q_mt d r i = d i ∨ q_mt d r i = r i) ∧ ∀ j, j < 10 → q_mt d r (63 + j) = r (63 + j) := by
  have a0 : ∀ i, q_hd d r i = d i ∨ q_hd d r i = r i := by
    intro i
    by_cases h : i < 7
    · exact Or.inr (q_hdI h)
    · refine Or.inl ?_
      unfold q_hd
      iterate 7 rw [rU_n _ _ (by omega)]
  have a := q_itJ (f := q_cpt r) (P := fun t a => (∀ i, i < 7 → a i = r i) ∧ (∀ w, w < 7 → ∀ u, u < t → a (7 + 8 * w + u) = r (7 + 8 * w + u)) ∧ ∀ i, a i = d i ∨ a i = r i) 8 ?_ (q_M r) 0 (q_hd d r) (by omega) ⟨fun i hi => q_hdI hi, fun _ _ u hu => absurd hu (Nat.not_lt_zero u), a0⟩
  · obtain ⟨b1, b2, b3⟩ := a
    have c := q_itJ (f := q_cps r) (P := fun t a => (∀ i, i < 63 → a i = q_it (q_cpt r) (q_M r) 0 (q_hd d r) i) ∧ (∀ j, j < t → a (63 + j) = r (63 + j)) ∧ ∀ i, a i = d i ∨ a i = r i) 10 ?_ 10 0 (q_it (q_cpt r) (q_M r) 0 (q_hd d r)) (by omega) ⟨fun _ _ => rfl, fun j hj => absurd hj (Nat.not_lt_zero j), b3⟩
    · obtain ⟨c1, c2, c3⟩ := c
      refine ⟨⟨fun i hi => (c1 i (by omega)).trans (b1 i hi), fun w hw t ht => (c1 _ (by omega)).trans (b2 w hw t (by omega))⟩, c3, fun j hj => c2 j (by omega)⟩
    · rintro t a ht ⟨c1, c2, c3⟩
      refine ⟨fun i hi => ?_, fun j hj => ?_, fun i => ?_⟩
      · unfold q_cps
        rw [rU_n _ _ (by omega)]
        exact c1 i hi
      · unfold q_cps
        by_cases e : j = t
        · subst e
          rw [rU_s]
        · rw [rU_n _ _ (by omega)]
          exact c2 j (by omega)
      · unfold q_cps
        by_cases e : i = 63 + t
        · subst e
          exact Or.inr (rU_s _ _ _)
        · rw [rU_n _ _ e]
          exact c3 i
  · rintro t a ht ⟨c1, c2, c3⟩
    refine ⟨fun i hi => (q_cptK r a (Or.inl hi) ht).trans (c1 i hi), fun w hw u hu => ?_, fun i => ?_⟩
    · by_cases e : u = t
      · subst e
        exact q_cptS r a hw
      · rcases q_cptI r a (t := t) (i := 7 + 8 * w + u) with h | h
        · rw [h]
          exact c2 w hw u (by omega)
        · exact h
    · rcases q_cptI r a (t := t) (i := i) with h | h
      · rw [h]
        exact c3 i
      · exact Or.inr h
theorem q_okmt {d r : Nat → Int32} (hd : q_ok d) (hr : q_ok r) : q_ok (q_mt d r) := by
  intro i h1 h2
  rcases (q_mtI (d := d) (q_ok0 hr).2).2.1 i with h | h
  · rw [h]
    exact hd i h1 h2
  · rw [h]
    exact hr i h1 h2
/-! the reference's copies -/
def q_cp (d r : Nat → Int32) (k : Nat) : Nat → Int32 := fun i => if k ≤ i ∧ i < 73 then r i else d i
section
variable {g : ic_S}
theorem r_cpL {a b : Nat} (hn : a ≠ b) : ∀ m k n g, k + m = 73 → m < n → lX7_copies_2 a b n (nI k) g = some ((), sB g (3 + b) (q_cp (g.1 (3 + b)) (g.1 (3 + a)) k)) := by
  intro m
  induction m with
  | zero =>
    intro k n g h1 h2
    obtain ⟨n, rfl⟩ : ∃ j, n = j + 1 := ⟨n - 1, by omega⟩
    obtain rfl : k = 73 := by omega
    have e : q_cp (g.1 (3 + b)) (g.1 (3 + a)) 73 = g.1 (3 + b) := by
      funext i
      unfold q_cp
      rw [if_neg (by omega)]
    unfold lX7_copies_2
    rw [if_pos (by decide), e, sB_id]
  | succ m ih =>
    intro k n g h1 h2
    obtain ⟨n, rfl⟩ : ∃ j, n = j + 1 := ⟨n - 1, by omega⟩
    unfold lX7_copies_2
    rw [show (73 : Int32) = nI 73 from rfl, if_neg (nI_ge (show k < 73 by omega) (by decide)), p_in (show k < 73 by omega) (by decide), p_gd, p_gd, nI_clamp (by omega), p_let, up_sB, nI_1, Nat.zero_add, ih (k + 1) n _ (by omega) (by omega), sB_self, sB_sB, sB_ne _ _ (show 3 + a ≠ 3 + b by omega)]
    have e : q_cp (rU (g.1 (3 + b)) k (g.1 (3 + a) k)) (g.1 (3 + a)) (k + 1) = q_cp (g.1 (3 + b)) (g.1 (3 + a)) k := by
      funext i
      unfold q_cp
      by_cases e : i = k
      · subst e
        rw [if_neg (by omega), rU_s, if_pos (by omega)]
      · rw [rU_n _ _ e]
        by_cases e2 : k + 1 ≤ i ∧ i < 73
        · rw [if_pos e2, if_pos (by omega)]
        · rw [if_neg e2, if_neg (by omega)]
    rw [e]
theorem r_cp {a b : Nat} (ha : a < 4) (hb : b < 4) (hn : a ≠ b) : fX7_copies a b g = some (sB g (3 + b) (q_cp (g.1 (3 + b)) (g.1 (3 + a)) 0)) := by
  unfold fX7_copies
  rw [p_bt ha, p_gd, p_bt hb, p_gd, show (0 : Int32) = nI 0 from nI_0.symm, r_cpL hn 73 0 1000 g rfl (by decide), p_b2]
end
theorem q_cpI (d r : Nat → Int32) {i : Nat} (h : i < 73) : q_cp d r 0 i = r i := by
  unfold q_cp
  rw [if_pos ⟨Nat.zero_le _, h⟩]
theorem q_okcp (d : Nat → Int32) {r : Nat → Int32} (h : q_ok r) : q_ok (q_cp d r 0) := by
  intro i h1 h2
  rw [q_cpI _ _ (by omega)]
  exact h i h1 h2
