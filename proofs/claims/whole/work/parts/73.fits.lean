/-! fits, kinds -/
def q_tg (f : Nat → Int32) (p : Nat) : Nat → Nat → (Nat → Int32) → Bool
  | 0, _, _ => true
  | m + 1, k, r => if f k = -1 ∨ f k = r p then q_tg f p m (k + 1) (q_call r) else false
def q_ft (P : Nat → Bool) (x : Nat) (y : Int32) : Int32 := if P x = true then y ||| q_bit x else y
section
variable {g : ic_S}
theorem c_tgL {s z t a : Nat} (hs : s < 4) (hz : z ≤ 40) (ha : a < 7) {f : Nat → Int32} : ∀ m k n (g : ic_S) (r : Nat → Int32), k + m = z → m < n → q_ok r → q_as r (g.1 1) → t < q_M r → g.1 (15 + s) 1 = nI z → (∀ i, i < 40 → g.1 (19 + s) i = f i) → ∃ r', q_ok r' ∧ lX6_trialGoesAs_9 s (nI t) (nI a) n (nI k) g = some (if q_tg f (7 + 8 * a + t) m k r = true then .inr ((), sB g 1 r') else .inl (0, sB g 1 r')) := by
  intro m
  induction m with
  | zero =>
    intro k n g r h1 h2 hk hT ht h3 hf
    obtain ⟨n, rfl⟩ : ∃ j, n = j + 1 := ⟨n - 1, by omega⟩
    refine ⟨g.1 1, hT.1, ?_⟩
    unfold lX6_trialGoesAs_9 q_tg
    rw [h3, if_pos (nI_le (by omega) (by omega)), if_pos rfl, sB_id]
  | succ m ih =>
    intro k n g r h1 h2 hk hT ht h3 hf
    obtain ⟨n, rfl⟩ : ∃ j, n = j + 1 := ⟨n - 1, by omega⟩
    have ec : fX2_callTimes 1 1 g = some (sB g 1 (q_calls 1 (g.1 1))) := c_ca (N := 1) (by decide) hT.1 (by decide)
    obtain ⟨r', hr', e⟩ := ih (k + 1) n (sB g 1 (q_calls 1 (g.1 1))) (q_call r) (by omega) (by omega) (q_okcall hk) (by rw [sB_self]; exact hT.calls hk 1) (by rw [q_cM hk]; exact ht) (by rw [sB_ne _ _ (by omega)]; exact h3) (fun i hi => by rw [sB_ne _ _ (by omega)]; exact hf i hi)
    rw [sB_sB] at e
    unfold lX6_trialGoesAs_9 q_tg
    rw [h3, if_neg (nI_ge (by omega) (by omega)), c_st_ hs (by omega), p_b2, hf k (by omega), c_told (by decide) hT.1 (by rw [hT.2.M]; exact ht), p_b2, hT.2.told _ ht, q_toldW ha, ec, p_b1, nI_1, e]
    by_cases h5 : f k = -1
    · refine ⟨r', hr', ?_⟩
      rw [if_pos h5, if_pos (Or.inl h5)]
    · by_cases h6 : f k = r (7 + 8 * a + t)
      · refine ⟨r', hr', ?_⟩
        rw [if_neg h5, if_pos h6, if_pos (Or.inr h6)]
      · refine ⟨g.1 1, hT.1, ?_⟩
        have hn : ¬ (f k = -1 ∨ f k = r (7 + 8 * a + t)) := fun h => h.elim h5 h6
        rw [if_neg h5, if_neg h6, sB_id, show (if f k = -1 ∨ f k = r (7 + 8 * a + t) then q_tg f (7 + 8 * a + t) m (k + 1) (q_call r) else false) = false from if_neg hn]
        rfl
theorem r_tgL {s z t a : Nat} (hs : s < 4) (hz : z ≤ 40) (ha : a < 7) (ht : t < 8) {f : Nat → Int32} (x3 x4 x6 x7 : Int32) : ∀ m k n (g : ic_S), k + m = z → m + 1 < n → q_ok (g.1 3) → g.1 28 s = nI z → (∀ i, i < 40 → g.1 29 (40 * s + i) = f i) → ∃ r', lX7_fitting_38 (nI s) (nI t) x3 x4 (nI a) x6 x7 n 1 (nI k) g = some (if q_tg f (7 + 8 * a + t) m k (g.1 3) = true then 1 else 0, sB g 3 r') := by
  intro m
  induction m with
  | zero =>
    intro k n g h1 h2 hk h3 hf
    obtain ⟨n, rfl⟩ : ∃ j, n = j + 1 := ⟨n - 1, by omega⟩
    refine ⟨g.1 3, ?_⟩
    unfold lX7_fitting_38 q_tg
    rw [p_in hs (by decide), p_gd, nI_clamp (by omega), Nat.zero_add, h3, if_pos (nI_le (by omega) (by omega)), if_pos rfl, sB_id]
  | succ m ih =>
    intro k n g h1 h2 hk h3 hf
    obtain ⟨n, rfl⟩ : ∃ j, n = j + 1 := ⟨n - 1, by omega⟩
    obtain ⟨r', e⟩ := ih (k + 1) n (sB g 3 (q_call (g.1 3))) (by omega) (by omega) (by rw [sB_self]; exact q_okcall hk) (by rw [sB_ne _ _ (by decide)]; exact h3) (fun i hi => by rw [sB_ne _ _ (by decide)]; exact hf i hi)
    rw [sB_sB, sB_self] at e
    have ez : lX7_fitting_38 (nI s) (nI t) x3 x4 (nI a) x6 x7 n 0 (nI (k + 1)) (sB g 3 (q_call (g.1 3))) = some (0, sB g 3 (q_call (g.1 3))) := by
      obtain ⟨n, rfl⟩ : ∃ j, n = j + 1 := ⟨n - 1, by omega⟩
      unfold lX7_fitting_38
      rw [p_in hs (by decide), p_gd, if_pos rfl, ite_self]
    unfold lX7_fitting_38 q_tg
    rw [p_in hs (by decide), p_gd, nI_clamp (show s < 2 ^ 31 by omega), Nat.zero_add, h3, if_neg (nI_ge (by omega) (by omega)), if_neg (by decide), p_40, p_in (show 40 * s + k < 160 by omega) (by decide), p_gd, p_let, nI_clamp (by omega), Nat.zero_add, hf k (by omega), r_its (by omega), p_b2]
    simp only [r_call hk, p_b1, nI_1, e, ez]
    by_cases h5 : f k = -1
    · refine ⟨r', ?_⟩
      rw [if_pos h5, if_pos (Or.inl h5)]
    · by_cases h6 : f k = g.1 3 (7 + 8 * a + t)
      · refine ⟨r', ?_⟩
        rw [if_neg h5, if_pos h6, if_pos (Or.inr h6)]
      · refine ⟨q_call (g.1 3), ?_⟩
        have hn : ¬ (f k = -1 ∨ f k = g.1 3 (7 + 8 * a + t)) := fun h => h.elim h5 h6
        rw [if_neg h5, if_neg h6, show (if f k = -1 ∨ f k = g.1 3 (7 + 8 * a + t) then q_tg f (7 + 8 * a + t) m (k + 1) (q_call (g.1 3)) else false) = false from if_neg hn]
        rfl
theorem q_lv.tg {f : Nat → Int32} {t a : Nat} (ha : a < 7) : ∀ m k (r r' : Nat → Int32), q_lv r r' → q_ok r → t < q_M r → q_tg f (7 + 8 * a + t) m k r' = q_tg f (7 + 8 * a + t) m k r := by
  intro m
  induction m with
  | zero => intro k r r' _ _ _; rfl
  | succ m ih =>
    intro k r r' h hk ht
    unfold q_tg
    rw [h.2 a ha t ht, ih (k + 1) _ _ (h.call hk) (q_okcall hk) (by rw [q_cM hk]; exact ht)]
theorem c_fiL {s z t w T a : Nat} (hw : w = 0 ∧ T = 7 ∨ w = 1 ∧ T = 16) (ha : a < 7) (hs : s < 4) (hz : z ≤ 40) {b f : Nat → Int32} (hb : q_ok b) (ht : t < q_M b) : ∀ m k n y (g : ic_S), k + m = T → m < n → q_as b (g.1 0) → q_ok (g.1 1) → g.1 (15 + s) 1 = nI z → (∀ i, i < 40 → g.1 (19 + s) i = f i) → ∃ r', q_ok r' ∧ lX6_choicesAsTold_55 s (nI t) (nI w) (nI a) n y (nI k) g = some (q_it (q_ft (fun x => q_tg f (7 + 8 * a + t) z 0 (rU b (7 + 8 * w + t) (nI x)))) m k y, sB g 1 r') := by
  have hM := (q_ok0 hb).2
  have hm : ∀ g, fX6_mostOf (nI w) g = some (nI (T - 1), g) := by
    intro g
    rcases hw with ⟨rfl, rfl⟩ | ⟨rfl, rfl⟩ <;> rfl
  have hbd : q_bd (7 + 8 * w + t) = T - 1 := by
    rcases hw with ⟨rfl, rfl⟩ | ⟨rfl, rfl⟩
    · exact q_bd_7 (by omega)
    · exact q_bd_15 (by omega)
  have hw7 : w < 7 := by omega
  have hT : 7 ≤ T ∧ T ≤ 16 := by omega
  intro m
  induction m with
  | zero =>
    intro k n y g h1 h2 h0 hk1 h3 hf
    obtain ⟨n, rfl⟩ : ∃ j, n = j + 1 := ⟨n - 1, by omega⟩
    obtain rfl : k = T := by omega
    refine ⟨g.1 1, hk1, ?_⟩
    unfold lX6_choicesAsTold_55
    rw [hm, p_b2, if_pos (nI_lt (by omega) (by omega)), sB_id]
    rfl
  | succ m ih =>
    intro k n y g h1 h2 h0 hk1 h3 hf
    obtain ⟨n, rfl⟩ : ∃ j, n = j + 1 := ⟨n - 1, by omega⟩
    obtain ⟨t1, t2, _⟩ := c_try hb h0 hk1 (i := 7 + 8 * w + t) (v := nI k) (N := 0) (by omega) (fun _ _ => ⟨k, by rw [hbd]; omega, rfl⟩)
    have hbU : q_ok (rU b (7 + 8 * w + t) (nI k)) := q_okU hb (fun _ _ => ⟨k, by rw [hbd]; omega, rfl⟩)
    obtain ⟨u, hu, eu⟩ := c_tgL (t := t) hs hz ha (f := f) z 0 1000 (sB g 1 (rU (q_mt (g.1 1) (g.1 0)) (7 + 8 * w + t) (nI k))) (rU b (7 + 8 * w + t) (nI k)) (by omega) (by omega) hbU (by rw [sB_self]; exact t2) (by rw [q_UM _ _ (by omega)]; exact ht) (by rw [sB_ne _ _ (by omega)]; exact h3) (fun i hi => by rw [sB_ne _ _ (by omega)]; exact hf i hi)
    rw [sB_sB] at eu
    have ih2 := fun y => ih (k + 1) n y (sB g 1 u) (by omega) (by omega) h0 (by rw [sB_self]; exact hu) (by rw [sB_ne _ _ (by omega)]; exact h3) (fun i hi => by rw [sB_ne _ _ (by omega)]; exact hf i hi)
    obtain ⟨r', hr', e⟩ := ih2 (q_ft (fun x => q_tg f (7 + 8 * a + t) z 0 (rU b (7 + 8 * w + t) (nI x))) k y)
    rw [sB_sB] at e
    refine ⟨r', hr', ?_⟩
    unfold lX6_choicesAsTold_55
    rw [q_its, ← e]
    unfold q_ft fX6_trialGoesAs
    rw [hm, p_b2, if_neg (nI_nlt (show k ≤ T - 1 by omega) (by omega)), c_trial h0.1, p_b1, c_alt (by decide) (by rw [sB_self]; exact t1.1) (by rw [sB_self, t1.2.M]; exact ht) hw7 _ (by omega), p_b1, sB_self, sB_sB, p_mos, p_vk13 s hs, p_gd]
    rw [show lX6_trialGoesAs_9 s (nI t) (nI a) 1000 0 (sB g 1 (rU (q_mt (g.1 1) (g.1 0)) (7 + 8 * w + t) (nI k))) = _ from eu, nI_1]
    dsimp only
    by_cases hP : q_tg f (7 + 8 * a + t) z 0 (rU b (7 + 8 * w + t) (nI k)) = true
    · rw [if_pos hP, if_pos hP]
      rfl
    · rw [if_neg hP, if_neg hP]
      rfl
theorem r_fiL {s z t w T a : Nat} (hw : w = 0 ∧ T = 7 ∨ w = 1 ∧ T = 16) (ha : a < 7) (hs : s < 4) (hz : z ≤ 40) {b f : Nat → Int32} (hb : q_ok b) (ht : t < q_M b) : ∀ m k n y (g : ic_S), k + m = T → m < n → q_e73 (g.1 3) b → q_e73 (g.1 5) b → g.1 28 s = nI z → (∀ i, i < 40 → g.1 29 (40 * s + i) = f i) → ∃ d, q_e73 d b ∧ lX7_fitting_17 (nI s) (nI t) (nI w) (nI (T - 1)) (nI a) n y (nI k) g = some (q_it (q_ft (fun x => q_tg f (7 + 8 * a + t) z 0 (rU b (7 + 8 * w + t) (nI x)))) m k y, sB g 3 d) := by
  have hM := (q_ok0 hb).2
  have hbd : q_bd (7 + 8 * w + t) = T - 1 := by
    rcases hw with ⟨rfl, rfl⟩ | ⟨rfl, rfl⟩
    · exact q_bd_7 (by omega)
    · exact q_bd_15 (by omega)
  have hw7 : w < 7 := by omega
  have hT : 7 ≤ T ∧ T ≤ 16 := by omega
  intro m
  induction m with
  | zero =>
    intro k n y g h1 h2 h0 h5 h3 hf
    obtain ⟨n, rfl⟩ : ∃ j, n = j + 1 := ⟨n - 1, by omega⟩
    obtain rfl : k = T := by omega
    refine ⟨g.1 3, h0, ?_⟩
    unfold lX7_fitting_17
    rw [if_pos (nI_lt (by omega) (by omega)), sB_id]
    rfl
  | succ m ih =>
    intro k n y g h1 h2 h0 h5 h3 hf
    obtain ⟨n, rfl⟩ : ∃ j, n = j + 1 := ⟨n - 1, by omega⟩
    have hbU : q_ok (rU b (7 + 8 * w + t) (nI k)) := q_okU hb (fun _ _ => ⟨k, by rw [hbd]; omega, rfl⟩)
    have hdU : q_ok (rU (g.1 3) (7 + 8 * w + t) (nI k)) := q_okU (h0.ok hb) (fun _ _ => ⟨k, by rw [hbd]; omega, rfl⟩)
    have ev : q_tg f (7 + 8 * a + t) z 0 (rU (g.1 3) (7 + 8 * w + t) (nI k)) = q_tg f (7 + 8 * a + t) z 0 (rU b (7 + 8 * w + t) (nI k)) := q_lv.tg ha z 0 _ _ ((h0.lv hb).U (by omega) (nI k)) hbU (by rw [q_UM _ _ (by omega)]; exact ht)
    have e2 : ∀ h : ic_S, fX7_copies 2 0 h = some (sB h 3 (q_cp (h.1 3) (h.1 5) 0)) := fun h => r_cp (by decide) (by decide) (by decide)
    obtain ⟨u, eu⟩ := r_tgL hs hz ha (show t < 8 by omega) (f := f) (nI w) (nI (T - 1)) y (nI k) z 0 1000 (sB g 3 (rU (g.1 3) (7 + 8 * w + t) (nI k))) (by omega) (by omega) (by rw [sB_self]; exact hdU) (by rw [sB_ne _ _ (by decide)]; exact h3) (fun i hi => by rw [sB_ne _ _ (by decide)]; exact hf i hi)
    rw [sB_self, sB_sB, ev] at eu
    have ih2 := fun y => ih (k + 1) n y (sB g 3 (q_cp u (g.1 5) 0)) (by omega) (by omega) (by rw [sB_self]; exact (q_e73c _ _).tr h5) (by rw [sB_ne _ _ (by decide)]; exact h5) (by rw [sB_ne _ _ (by decide)]; exact h3) (fun i hi => by rw [sB_ne _ _ (by decide)]; exact hf i hi)
    obtain ⟨d, hd, e⟩ := ih2 (q_ft (fun x => q_tg f (7 + 8 * a + t) z 0 (rU b (7 + 8 * w + t) (nI x))) k y)
    rw [sB_sB] at e
    refine ⟨d, hd, ?_⟩
    unfold lX7_fitting_17
    rw [q_its, ← e]
    unfold q_ft
    rw [if_neg (nI_nlt (show k ≤ T - 1 by omega) (by omega)), r_set _ (by omega), p_b1]
    rw [show lX7_fitting_38 (nI s) (nI t) (nI w) (nI (T - 1)) (nI a) y (nI k) 1000 1 0 (sB g 3 (rU (g.1 3) (7 + 8 * w + t) (nI k))) = _ from eu, p_b2, e2, p_b1, sB_self, sB_sB, sB_ne _ _ (show (5 : Nat) ≠ 3 by decide), nI_1, Int32.or_zero]
    dsimp only
    by_cases hP : q_tg f (7 + 8 * a + t) z 0 (rU b (7 + 8 * w + t) (nI k)) = true
    · rw [if_pos hP, if_pos hP]
      rfl
    · rw [if_neg hP, if_neg hP]
      rfl
theorem o_fits (hI : q_Inv g) (x y : Int32) : q_go (fX6_fits x y) (fX7_fits x y) g := by
  have f5 : ¬ (5 : Int32) < 0 := by decide
  have f0 : ¬ (0 : Int32) < 0 := by decide
  have f1 : ¬ (1 : Int32) = 0 := by decide
  have l1 : (-1 : Int32) < 0 := by decide
  rcases q_ix x (n := 4) (by decide) with h | ⟨s, hs, rfl⟩
  · refine q_stop hI (c := 0) (by decide) ?_ fun k hf => ?_
    · unfold fX6_fits fX6_choicesAsTold
      rw [p_eta, c_sAN h, p_b2, p_mon, p_eta]
      rfl
    · unfold fX7_fits fX7_whyNot
      rw [r_whyN h, p_b2, if_neg f0, p_b2, if_neg f0, p_eta]
      rfl
  · obtain ⟨e0, eb, e1, ⟨z, hz, ez⟩, en⟩ := hI.sh hs
    by_cases hm : g.1 27 s = 0
    · refine q_stop hI (c := 5) (by decide) ?_ fun k hf => ?_
      · unfold fX6_fits fX6_choicesAsTold
        rw [p_eta, c_sA hs, p_b2, p_mos, p_vk13 s hs, p_gd, c_mi hs, p_b2, e0, if_pos hm, if_neg f1, p_eta]
        rfl
      · unfold fX7_fits fX7_whyNot
        rw [r_why hs, p_b2, hf.1 27 (by omega), if_pos hm, if_neg f5, p_b2, if_neg f5, p_eta]
        rfl
    · rcases hI.2.2.1.thing y with ⟨ha, hb⟩ | ⟨t, hta, htb, rfl⟩
      · refine q_stop hI (c := 0) (by decide) ?_ fun k hf => ?_
        · unfold fX6_fits fX6_choicesAsTold
          rw [p_eta, c_sA hs, p_b2, p_mos, p_vk13 s hs, p_gd, c_mi hs, p_b2, e0, if_neg hm, if_pos rfl, c_hasN (by decide) ha, p_b2, if_pos rfl, p_eta]
          rfl
        · unfold fX7_fits fX7_whyNot
          rw [r_why hs, p_b2, hf.1 27 (by omega), if_neg hm, if_pos l1, r_hasN (hf.b hI) (by rw [hf.r]; exact hb), p_b2, if_pos rfl, p_b2, if_neg f0, p_eta]
          rfl
      · obtain ⟨r', hr', e⟩ := c_fiL (t := t) (w := 1) (T := 16) (a := 3) (Or.inr ⟨rfl, rfl⟩) (by decide) hs hz (f := fun i => g.1 29 (40 * s + i)) hI.b htb 16 0 1000 0 g rfl (by decide) hI.as hI.1 (e1.trans ez) en
        refine q_still hI (.inl (q_it (q_ft (fun x => q_tg (fun i => g.1 29 (40 * s + i)) (7 + 8 * 3 + t) z 0 (rU (g.1 3) (7 + 8 * 1 + t) (nI x)))) 16 0 0)) (fun c e => by cases e) hr' ?_ fun k hf => ?_
        · unfold fX6_fits fX6_choicesAsTold
          rw [p_eta, c_sA hs, p_b2, p_mos, p_vk13 s hs, p_gd, c_mi hs, p_b2, e0, if_neg hm, if_pos rfl, c_has (by decide) hI.a hta, p_b2, if_neg f1, p_eta]
          exact e
        · obtain ⟨d, hd, e7⟩ := r_fiL (t := t) (w := 1) (T := 16) (a := 3) (Or.inr ⟨rfl, rfl⟩) (by decide) hs hz (f := fun i => g.1 29 (40 * s + i)) hI.b htb 16 0 1000 0 (sB k 5 (q_cp (k.1 5) (k.1 3) 0)) rfl (by decide) (by rw [sB_ne _ _ (by decide), hf.r]; exact fun _ _ => rfl) (by rw [sB_self, hf.r]; exact q_e73c _ _) (by rw [sB_ne _ _ (by decide), hf.1 28 (by omega)]; exact ez) (fun i _ => by rw [sB_ne _ _ (by decide), hf.1 29 (by omega)])
          refine ⟨d, q_cp (k.1 5) (k.1 3) 0, hd, ?_⟩
          unfold fX7_fits fX7_whyNot fX7_fitting
          rw [r_why hs, p_b2, hf.1 27 (by omega), if_neg hm, if_pos l1, r_has (hf.b hI) (by rw [hf.r]; exact htb), p_b2, if_neg f1, p_b2, if_pos l1, p_eta, r_aside, p_b1, p_eta]
          rw [sB_53] at e7
          exact e7
theorem o_kinds (hI : q_Inv g) (x y : Int32) : q_go (fX6_kinds x y) (fX7_kinds x y) g := by
  have f5 : ¬ (5 : Int32) < 0 := by decide
  have f0 : ¬ (0 : Int32) < 0 := by decide
  have f1 : ¬ (1 : Int32) = 0 := by decide
  have l1 : (-1 : Int32) < 0 := by decide
  rcases q_ix x (n := 4) (by decide) with h | ⟨s, hs, rfl⟩
  · refine q_stop hI (c := 0) (by decide) ?_ fun k hf => ?_
    · unfold fX6_kinds fX6_choicesAsTold
      rw [p_eta, c_sAN h, p_b2, p_mon, p_eta]
      rfl
    · unfold fX7_kinds fX7_whyNot
      rw [r_whyN h, p_b2, if_neg f0, p_b2, if_neg f0, p_eta]
      rfl
  · obtain ⟨e0, eb, e1, ⟨z, hz, ez⟩, en⟩ := hI.sh hs
    by_cases hm : g.1 27 s = 0
    · refine q_stop hI (c := 5) (by decide) ?_ fun k hf => ?_
      · unfold fX6_kinds fX6_choicesAsTold
        rw [p_eta, c_sA hs, p_b2, p_mos, p_vk13 s hs, p_gd, c_mi hs, p_b2, e0, if_pos hm, if_neg f1, p_eta]
        rfl
      · unfold fX7_kinds fX7_whyNot
        rw [r_why hs, p_b2, hf.1 27 (by omega), if_pos hm, if_neg f5, p_b2, if_neg f5, p_eta]
        rfl
    · rcases hI.2.2.1.thing y with ⟨ha, hb⟩ | ⟨t, hta, htb, rfl⟩
      · refine q_stop hI (c := 0) (by decide) ?_ fun k hf => ?_
        · unfold fX6_kinds fX6_choicesAsTold
          rw [p_eta, c_sA hs, p_b2, p_mos, p_vk13 s hs, p_gd, c_mi hs, p_b2, e0, if_neg hm, if_pos rfl, c_hasN (by decide) ha, p_b2, if_pos rfl, p_eta]
          rfl
        · unfold fX7_kinds fX7_whyNot
          rw [r_why hs, p_b2, hf.1 27 (by omega), if_neg hm, if_pos l1, r_hasN (hf.b hI) (by rw [hf.r]; exact hb), p_b2, if_pos rfl, p_b2, if_neg f0, p_eta]
          rfl
      · obtain ⟨r', hr', e⟩ := c_fiL (t := t) (w := 0) (T := 7) (a := 1) (Or.inl ⟨rfl, rfl⟩) (by decide) hs hz (f := fun i => g.1 29 (40 * s + i)) hI.b htb 7 0 1000 0 g rfl (by decide) hI.as hI.1 (e1.trans ez) en
        refine q_still hI (.inl (q_it (q_ft (fun x => q_tg (fun i => g.1 29 (40 * s + i)) (7 + 8 * 1 + t) z 0 (rU (g.1 3) (7 + 8 * 0 + t) (nI x)))) 7 0 0)) (fun c e => by cases e) hr' ?_ fun k hf => ?_
        · unfold fX6_kinds fX6_choicesAsTold
          rw [p_eta, c_sA hs, p_b2, p_mos, p_vk13 s hs, p_gd, c_mi hs, p_b2, e0, if_neg hm, if_pos rfl, c_has (by decide) hI.a hta, p_b2, if_neg f1, p_eta]
          exact e
        · obtain ⟨d, hd, e7⟩ := r_fiL (t := t) (w := 0) (T := 7) (a := 1) (Or.inl ⟨rfl, rfl⟩) (by decide) hs hz (f := fun i => g.1 29 (40 * s + i)) hI.b htb 7 0 1000 0 (sB k 5 (q_cp (k.1 5) (k.1 3) 0)) rfl (by decide) (by rw [sB_ne _ _ (by decide), hf.r]; exact fun _ _ => rfl) (by rw [sB_self, hf.r]; exact q_e73c _ _) (by rw [sB_ne _ _ (by decide), hf.1 28 (by omega)]; exact ez) (fun i _ => by rw [sB_ne _ _ (by decide), hf.1 29 (by omega)])
          refine ⟨d, q_cp (k.1 5) (k.1 3) 0, hd, ?_⟩
          unfold fX7_kinds fX7_whyNot fX7_fitting
          rw [r_why hs, p_b2, hf.1 27 (by omega), if_neg hm, if_pos l1, r_has (hf.b hI) (by rw [hf.r]; exact htb), p_b2, if_neg f1, p_b2, if_pos l1, p_eta, r_aside, p_b1, p_eta]
          rw [sB_53] at e7
          exact e7
end
