/-! odds -/
def q_go64 (f6 f7 : ic_S → Option (Int64 × ic_S)) (g : ic_S) : Prop := ∃ v g1 g2, f6 g = some (v, g1) ∧ f7 g1 = some (v, g2) ∧ q_Inv g2 ∧ g1.1 40 = g.1 40 ∧ g1.1 41 = g.1 41 ∧ g2.1 40 = g.1 40 ∧ g2.1 41 = g.1 41
theorem q_lie3 (r : Nat → Int32) (v x : Int32) : q_lie (rU r 3 v) x = q_lie r x := by
  unfold q_lie
  rw [q_UM _ _ (by decide)]
  refine q_itE (q_M r) ?_ _ _ _ (Nat.le_refl _)
  intro t a ht
  unfold q_lie1
  rw [rU_n _ _ (by omega), rU_n _ _ (by omega)]
theorem q_fe3 (r : Nat → Int32) (v c : Int32) (t : Nat) : q_fe (rU r 3 v) c t = q_fe r c t := by
  unfold q_fe q_num q_dist
  rw [rU_n _ _ (by omega), rU_n _ _ (by omega), rU_n _ _ (by omega), q_lie3]
def q_cc (b : Nat → Int32) (t : Nat) (x : Int32) (c : Nat) (y : Int32) : Int32 := if q_fe b (nI c) t < x then y else y + 1
section
variable {g : ic_S}
theorem c_ccL {t : Nat} {x : Int32} {b : Nat → Int32} : ∀ m k n y (g : ic_S), k + m = 16 → m < n → q_as b (g.1 0) → t < q_M b → lX2_cellsToFeel_5 0 (nI t) x n y (nI k) g = some (q_it (q_cc b t x) m k y, g) := by
  intro m
  induction m with
  | zero =>
    intro k n y g h1 h2 h0 ht
    obtain ⟨n, rfl⟩ : ∃ j, n = j + 1 := ⟨n - 1, by omega⟩
    obtain rfl : k = 16 := by omega
    unfold lX2_cellsToFeel_5
    rw [if_pos (by decide), q_itz]
  | succ m ih =>
    intro k n y g h1 h2 h0 ht
    obtain ⟨n, rfl⟩ : ∃ j, n = j + 1 := ⟨n - 1, by omega⟩
    have a1 : ¬ (16 : Int32) ≤ nI k := nI_ge (b := 16) (by omega) (by decide)
    have hta : t < q_M (g.1 0) := by rw [h0.2.M]; exact ht
    have ht8 : t < 8 := by have := (q_ok0 h0.1).2; omega
    unfold lX2_cellsToFeel_5
    rw [if_neg a1, c_thing (by decide) h0.1 hta, p_b2, c_fe (by decide) ht8 _ h0.1, p_b2, h0.2.fe _ ht, nI_1, q_its]
    unfold q_cc
    split
    · rw [ih (k + 1) n _ g (by omega) (by omega) h0 ht]
      rfl
    · rw [ih (k + 1) n _ g (by omega) (by omega) h0 ht]
      rfl
theorem r_ccL {t : Nat} (ht : t < 8) {x : Int32} (x3 x4 x5 : Int32) : ∀ m k n y (g : ic_S), k + m = 16 → m < n → q_ok (g.1 3) → ∃ v, lX7_odds_64 (nI t) x x3 x4 x5 n y (nI k) g = some (q_it (q_cc (g.1 3) t x) m k y, sB g 3 (rU (g.1 3) 3 v)) := by
  intro m
  induction m with
  | zero =>
    intro k n y g h1 h2 hk
    obtain ⟨n, rfl⟩ : ∃ j, n = j + 1 := ⟨n - 1, by omega⟩
    obtain rfl : k = 16 := by omega
    refine ⟨g.1 3 3, ?_⟩
    unfold lX7_odds_64
    rw [if_pos (by decide), q_itz, rU_id, sB_id]
  | succ m ih =>
    intro k n y g h1 h2 hk
    obtain ⟨n, rfl⟩ : ∃ j, n = j + 1 := ⟨n - 1, by omega⟩
    have a1 : ¬ (16 : Int32) ≤ nI k := nI_ge (b := 16) (by omega) (by decide)
    have hkU : q_ok (rU (g.1 3) 3 (nI k)) := q_okU hk fun _ _ => ⟨k, by show k ≤ 15; omega, rfl⟩
    have hcc : q_cc (rU (g.1 3) 3 (nI k)) t x = q_cc (g.1 3) t x := by
      funext c y
      unfold q_cc
      rw [q_fe3]
    obtain ⟨v, e⟩ := ih (k + 1) n (q_cc (g.1 3) t x k y) (sB g 3 (rU (g.1 3) 3 (nI k))) (by omega) (by omega) (by rw [sB_self]; exact hkU)
    rw [sB_self, sB_sB, hcc, rU_rU] at e
    refine ⟨v, ?_⟩
    unfold lX7_odds_64
    rw [if_neg a1, p_let, Nat.add_zero, up_sB, r_fe ht (by rw [sB_self]; exact hkU), p_b2, sB_self, rU_s, q_fe3, nI_1, q_its, ← e]
    unfold q_cc
    split
    · rw [Int32.add_zero]
    · rfl
theorem q_rdE (x3 x4 : Int32) : ∀ n x y (g : ic_S), lX7_odds_116 x3 x4 n x y g = lX6_odds_64 x3 x4 n x y g := by
  intro n
  induction n with
  | zero => intro x y g; rfl
  | succ n ih =>
    intro x y g
    unfold lX7_odds_116 lX6_odds_64
    rw [ih]
    by_cases h1 : x - x / 2 * 2 = 0
    · by_cases h2 : y ≤ 1
      · rw [if_pos h1, if_pos h2, if_pos h2]
      · rw [if_pos h1, if_neg h2, if_neg h2, if_pos h1]
    · by_cases h2 : y ≤ 1
      · rw [if_neg h1, if_pos h2]
      · rw [if_neg h1, if_neg h2, if_neg h1]
theorem q_rdS (x3 x4 : Int32) : ∀ m n x y, y < 2 ^ m → m ≤ 10 → m < n → ∃ v, ∀ g : ic_S, lX6_odds_64 x3 x4 n x (nI y) g = some (v, g) := by
  intro m
  induction m with
  | zero =>
    intro n x y hy _ hn
    obtain ⟨n, rfl⟩ : ∃ j, n = j + 1 := ⟨n - 1, by omega⟩
    obtain rfl : y = 0 := by omega
    refine ⟨(x, nI 0), fun g => ?_⟩
    unfold lX6_odds_64
    rw [if_pos (by decide)]
  | succ m ih =>
    intro n x y hy hm hn
    obtain ⟨n, rfl⟩ : ∃ j, n = j + 1 := ⟨n - 1, by omega⟩
    have hp : 2 ^ (m + 1) ≤ 2 ^ 10 := Nat.pow_le_pow_right (by decide) hm
    by_cases h2 : nI y ≤ 1
    · refine ⟨(x, nI y), fun g => ?_⟩
      unfold lX6_odds_64
      rw [if_pos h2]
    · by_cases h1 : x - x / 2 * 2 = 0
      · obtain ⟨v, hv⟩ := ih n (x / 2) (y / 2) (by rw [Nat.pow_succ] at hy; omega) (by omega) (by omega)
        refine ⟨v, fun g => ?_⟩
        unfold lX6_odds_64
        rw [if_neg h2, if_pos h1, show nI y / 2 = nI (y / 2) from pk_div (d := 2) (by omega) (by decide) (by decide), hv]
      · refine ⟨(x, nI y), fun g => ?_⟩
        unfold lX6_odds_64
        rw [if_neg h2, if_neg h1]
theorem c_pwL {N : Nat} (hN : N ≤ 900) (x : Int32) : ∀ m k n y (g : ic_S), k + m = N → m < n → lX6_power_5 x (nI N) n y (nI k) g = some (q_it (fun _ y => y * x.toInt64) m k y, g) := by
  intro m
  induction m with
  | zero =>
    intro k n y g h1 h2
    obtain ⟨n, rfl⟩ : ∃ j, n = j + 1 := ⟨n - 1, by omega⟩
    unfold lX6_power_5
    rw [if_pos (nI_le (by omega) (by omega)), q_itz]
  | succ m ih =>
    intro k n y g h1 h2
    obtain ⟨n, rfl⟩ : ∃ j, n = j + 1 := ⟨n - 1, by omega⟩
    unfold lX6_power_5
    rw [if_neg (nI_ge (by omega) (by omega)), p_let, nI_1, ih (k + 1) n _ g (by omega) (by omega), q_its]
theorem r_pwL {N : Nat} (hN : N ≤ 900) (x4 x6 x7 : Int32) : ∀ m k n y (g : ic_S), k + m = N → m < n → lX7_odds_150 (nI N) x4 x6 x7 n y (nI k) g = some (q_it (fun _ y => y * (if x4 = 0 then x6 else x7).toInt64) m k y, g) := by
  intro m
  induction m with
  | zero =>
    intro k n y g h1 h2
    obtain ⟨n, rfl⟩ : ∃ j, n = j + 1 := ⟨n - 1, by omega⟩
    unfold lX7_odds_150
    rw [if_pos (nI_le (by omega) (by omega)), q_itz]
  | succ m ih =>
    intro k n y g h1 h2
    obtain ⟨n, rfl⟩ : ∃ j, n = j + 1 := ⟨n - 1, by omega⟩
    unfold lX7_odds_150
    rw [if_neg (nI_ge (by omega) (by omega)), q_its]
    split
    · rename_i h
      rw [p_let, nI_1, ih (k + 1) n _ g (by omega) (by omega), if_pos h]
    · rename_i h
      rw [p_let, nI_1, ih (k + 1) n _ g (by omega) (by omega), if_neg h]
def q_f64 (x : Option (Int32 × ic_S)) : Option (Int64 × ic_S) := ic_b2 x (fun v g => some (v.toInt64, g))
theorem q_stop64 {f6 f7 : ic_S → Option (Int64 × ic_S)} (hI : q_Inv g) (h6 : f6 g = q_f64 (fX6_finding 0 g)) (h7 : ∀ h, q_rf g h → f7 h = q_f64 (fX7_finds 0 h)) : q_go64 f6 f7 g := by
  have H : q_go (fX6_finding 0) (fX7_finds 0) g := q_stop hI (c := 0) (by decide) rfl fun _ _ => rfl
  obtain ⟨v, g1, g2, e6, e7, r1, r2, r3, r4, r5⟩ := H
  have hf : q_rf g g1 := by
    have := c_find (c := 0) (by decide) g
    rw [show fX6_finding (nI 0) g = fX6_finding 0 g from rfl, e6] at this
    have h2 := (Prod.mk.inj (Option.some.inj this)).2
    rw [h2]
    exact q_rfB _ (by omega)
  refine ⟨v.toInt64, g1, g2, ?_, ?_, r1, r2, r3, r4, r5⟩
  · rw [h6, e6]
    rfl
  · rw [h7 g1 hf, e7]
    rfl
theorem o_odds (hI : q_Inv g) (x1 x2 x3 x4 : Int32) : q_go64 (fX6_odds x1 x2 x3 x4) (fX7_odds x1 x2 x3 x4) g := by
  have f10 : ¬ (1 : Int32) = 0 := by decide
  rcases hI.2.2.1.thing x1 with ⟨ha, hb⟩ | ⟨t, hta, htb, rfl⟩
  · refine q_stop64 hI ?_ fun k hf => ?_
    · unfold fX6_odds
      rw [c_hasN (by decide) ha, p_b2, if_pos rfl]
      rfl
    · unfold fX7_odds
      rw [r_hasN (hf.b hI) (by rw [hf.r]; exact hb), p_b2, if_pos rfl]
      rfl
  · have c1 := c_has (g := g) (s := 0) (by decide) hI.a hta
    have r1 : ∀ k, q_rf g k → fX7_isThing (nI t) k = some (1, k) := fun k hf => r_has (hf.b hI) (by rw [hf.r]; exact htb)
    rcases q_ix x2 (n := 100) (by decide) with h | ⟨h2, hh2, rfl⟩
    · refine q_stop64 hI ?_ fun k hf => ?_
      · unfold fX6_odds
        rw [c1, p_b2, if_neg f10]
        rcases h with h | h
        · rw [if_pos h]
          rfl
        · have hl : 99 < x2 := (p_gt (n := 99) h (by decide)).2
          by_cases h0 : x2 < 0
          · rw [if_pos h0]
            rfl
          · rw [if_neg h0, if_pos hl]
            rfl
      · unfold fX7_odds
        rw [r1 k hf, p_b2, if_neg f10, show fX7_in x2.toInt64 0 99 k = some (0, k) from r_inN (n := 100) (by decide) (by decide) h k, p_b2, if_pos rfl]
        rfl
    · have c2 : ¬ (99 : Int32) < nI h2 := nI_nlt (a := 99) (by omega) (by decide)
      have r2 : ∀ k, fX7_in (nI h2).toInt64 0 99 k = some (1, k) := fun k => r_inY (n := 100) hh2 (by decide) k
      rcases q_ix x3 (n := 16) (by decide) with h | ⟨N, hN, rfl⟩
      · refine q_stop64 hI ?_ fun k hf => ?_
        · unfold fX6_odds
          rw [c1, p_b2, if_neg f10, if_neg (nI_pos (by omega)), if_neg c2]
          rcases h with h | h
          · rw [if_pos h]
            rfl
          · have hl : 15 < x3 := (p_gt (n := 15) h (by decide)).2
            by_cases h0 : x3 < 0
            · rw [if_pos h0]
              rfl
            · rw [if_neg h0, if_pos hl]
              rfl
        · unfold fX7_odds
          rw [r1 k hf, p_b2, if_neg f10, r2, p_b2, if_neg f10, show fX7_in x3.toInt64 0 15 k = some (0, k) from r_inN (n := 16) (by decide) (by decide) h k, p_b2, if_pos rfl]
          rfl
      · have c3 : ¬ (15 : Int32) < nI N := nI_nlt (a := 15) (by omega) (by decide)
        have r3 : ∀ k, fX7_in (nI N).toInt64 0 15 k = some (1, k) := fun k => r_inY (n := 16) hN (by decide) k
        rcases q_ix x4 (n := 2) (by decide) with h | ⟨w, hw, rfl⟩
        · refine q_stop64 hI ?_ fun k hf => ?_
          · unfold fX6_odds
            rw [c1, p_b2, if_neg f10, if_neg (nI_pos (by omega)), if_neg c2, if_neg (nI_pos (by omega)), if_neg c3]
            rcases h with h | h
            · rw [if_pos h]
              rfl
            · have hl : ¬ x4 ≤ 1 := (p_gt (n := 1) h (by decide)).1
              by_cases h0 : x4 < 0
              · rw [if_pos h0]
                rfl
              · rw [if_neg h0, if_neg hl]
                rfl
          · unfold fX7_odds
            rw [r1 k hf, p_b2, if_neg f10, r2, p_b2, if_neg f10, r3, p_b2, if_neg f10, show fX7_in x4.toInt64 0 1 k = some (0, k) from r_inN (n := 2) (by decide) (by decide) h k, p_b2, if_pos rfl]
            rfl
        · have ht8 : t < 8 := by have := (q_ok0 hI.b).2; omega
          have r4 : ∀ k, fX7_in (nI w).toInt64 0 1 k = some (1, k) := fun k => r_inY (n := 2) hw (by decide) k
          have c4 : nI w ≤ 1 := nI_le (b := 1) (by omega) (by decide)
          obtain ⟨v, hv⟩ := q_rdS (nI N) (nI w) 5 1000 (q_it (q_cc (g.1 3) t (nI h2)) 16 0 0) 16 (by decide) (by decide) (by decide)
          obtain ⟨u, e7⟩ := r_ccL ht8 (x := nI h2) (nI N) (nI w) (g.1 3 3) 16 0 1000 0 g rfl (by decide) hI.b
          have e1 : (sB g 3 (rU (g.1 3) 3 u)).1 3 = rU (g.1 3) 3 u := sB_self _ _ _
          have hpow : ∀ x k, fX6_power x (nI N) k = some (q_it (fun _ y => y * x.toInt64) N 0 1, k) := by
            intro x k
            unfold fX6_power
            rw [show lX6_power_5 x (nI N) 1000 1 0 k = _ from c_pwL (by omega) x N 0 1000 1 k (by omega) (by omega), p_b2]
          refine ⟨q_it (fun _ y => y * (if nI w = 0 then v.1 else v.2).toInt64) N 0 1, g, g, ?_, ?_, hI, rfl, rfl, rfl, rfl⟩
          · unfold fX6_odds fX2_cellsToFeel
            rw [c1, p_b2, if_neg f10, if_neg (nI_pos (by omega)), if_neg c2, if_neg (nI_pos (by omega)), if_neg c3, if_neg (nI_pos (by omega)), if_pos c4, p_bt (by decide), p_gd]
            rw [show lX2_cellsToFeel_5 0 (nI t) (nI h2) 1000 0 0 g = _ from c_ccL 16 0 1000 0 g rfl (by decide) hI.as htb, p_b2, p_b2]
            rw [show lX6_odds_64 (nI N) (nI w) 1000 (q_it (q_cc (g.1 3) t (nI h2)) 16 0 0) 16 g = _ from hv g, p_b2, hpow, hpow, p_b2, p_b2]
            split
            · rfl
            · rfl
          · unfold fX7_odds
            rw [r1 g ⟨fun _ _ => rfl, rfl⟩, p_b2, if_neg f10, r2, p_b2, if_neg f10, r3, p_b2, if_neg f10, r4, p_b2, if_neg f10, Nat.add_zero]
            rw [show lX7_odds_64 (nI t) (nI h2) (nI N) (nI w) (g.1 3 3) 1000 0 0 g = _ from e7, p_b2, p_let, up_sB, sB_self, sB_sB, rU_rU, rU_id, sB_id]
            rw [q_rdE, show lX6_odds_64 (nI N) (nI w) 1000 (q_it (q_cc (g.1 3) t (nI h2)) 16 0 0) 16 g = _ from hv g, p_b2]
            rw [show lX7_odds_150 (nI N) (nI w) v.1 v.2 1000 1 0 g = _ from r_pwL (by omega) (nI w) v.1 v.2 N 0 1000 1 g (by omega) (by omega), p_b2]
end
