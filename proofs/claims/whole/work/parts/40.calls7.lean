/-! the reference's call -/
theorem q_okpu0 {r : Nat → Int32} (h : q_ok r) {t : Nat} (ht : t < 8) : q_ok (q_pu0 r t (q_fe r (r 3) t)) := by
  obtain ⟨p, hp, e1⟩ := q_okp h ht
  obtain ⟨f, hf, e2⟩ := q_feN h (q_ok3 h) ht
  obtain ⟨y, hy, e4, _⟩ := p_c999 hp hf
  unfold q_pu0
  rw [e1, e2, e4]
  refine q_okU h fun _ _ => ⟨y, ?_, rfl⟩
  rw [q_bd_31 ht]
  exact hy
section
variable {t : Nat} {g : ic_S}
theorem r_tu : fX7_turns g = some (sB g 3 (q_turn (g.1 3))) := by
  unfold fX7_turns q_turn
  simp only [Nat.add_zero]
  split
  · rw [p_let, up_sB]
  · split
    · rw [p_let, up_sB]
    · rw [p_let, up_sB, rU_id]
theorem r_roL {P : Nat} (hP : P ≤ 3) : ∀ m k n g, k + m = P → m < n → g.1 3 5 = nI P → lX7_cartGoes_6 n (nI k) g = some ((), sB g 3 (q_it (fun _ r => q_go1 r) m k (g.1 3))) := by
  intro m
  induction m with
  | zero =>
    intro k n g h1 h2 h5
    obtain ⟨n, rfl⟩ : ∃ j, n = j + 1 := ⟨n - 1, by omega⟩
    unfold lX7_cartGoes_6
    rw [Nat.add_zero, h5, if_pos (nI_le (by omega) (by omega)), q_itz, sB_id]
  | succ m ih =>
    intro k n g h1 h2 h5
    obtain ⟨n, rfl⟩ : ∃ j, n = j + 1 := ⟨n - 1, by omega⟩
    unfold lX7_cartGoes_6
    rw [Nat.add_zero, h5, if_neg (nI_ge (by omega) (by omega)), q_its, nI_1]
    have e := ih (k + 1) n (sB g 3 (q_go1 (g.1 3))) (by omega) (by omega) (by rw [sB_self, q_g1 (by decide) (by decide), h5])
    rw [sB_self, sB_sB] at e
    rw [← e]
    unfold q_go1
    split
    · rw [p_let, up_sB, r_tu, sB_self, sB_sB, p_b1]
    · rw [p_let, up_sB, r_tu, sB_self, sB_sB, p_b1]
theorem r_ro (hk : q_ok (g.1 3)) : fX7_cartGoes g = some (sB g 3 (q_roll (g.1 3))) := by
  obtain ⟨P, hP, he⟩ := q_ok5 hk
  unfold fX7_cartGoes
  have e : (sB g 3 (q_turn (g.1 3))).1 3 5 = nI P := by rw [sB_self, q_tu (by decide), he]
  rw [r_tu, p_b1, show (0 : Int32) = nI 0 from nI_0.symm, r_roL hP P 0 1000 _ (by omega) (by omega) e, p_b2, sB_self, sB_sB]
  unfold q_roll
  rw [q_tu (by decide), he, nI_clamp (by omega)]
theorem r_pu (ht : t < 8) (hk : q_ok (g.1 3)) : fX7_pulls (nI t) g = some (sB g 3 (q_pu1 (q_pu0 (g.1 3) t (q_fe (g.1 3) (g.1 3 3) t)) t (g.1 3 3))) := by
  have hk0 := q_okpu0 hk ht
  obtain ⟨p, hp, e1⟩ := q_okp hk ht
  obtain ⟨f, hf, e2⟩ := q_feN hk (q_ok3 hk) ht
  obtain ⟨y, hy, e4, e5⟩ := p_c999 hp hf
  have h3 : q_pu0 (g.1 3) t (q_fe (g.1 3) (g.1 3 3) t) 3 = g.1 3 3 := by
    unfold q_pu0
    rw [rU_n _ _ (by omega)]
  unfold fX7_pulls
  rw [r_its3 ht, p_b2, r_fe ht hk, p_b2, e1, e2, p_hd, e5, p_b2, r_set3 _ ht, p_b1]
  rw [e2] at hk0 h3
  have e6 : q_pu0 (g.1 3) t (nI f) = rU (g.1 3) (31 + t) (nI y) := by
    unfold q_pu0
    rw [e1, e4]
  rw [e6] at hk0 h3 ⊢
  revert hk0 h3
  generalize rU (g.1 3) (31 + t) (nI y) = r
  generalize g.1 3 3 = c0
  intro hk0 h3
  subst h3
  obtain ⟨c, hc, e3⟩ := q_ok3 hk0
  obtain ⟨x, hx, e7⟩ := q_okc hk0 ht
  obtain ⟨m, hm, e8⟩ := q_okm hk0 ht
  obtain ⟨s, hs, _, e9⟩ := q_stN r t
  obtain ⟨y, hy, e10, e11, _⟩ := p_mv c hc x hx s hs
  obtain ⟨v, hv, e12, e13⟩ := p_c9999 hm hy
  have hd : q_dist r (nI c) t = q_abs (nI x - nI c) := by
    unfold q_dist
    rw [e7]
  have n1 : ∀ v w : Int32, rU (rU r (31 + t) v) (15 + t) w (55 + t) = r (55 + t) := fun v w => by rw [rU_n _ _ (by omega), rU_n _ _ (by omega)]
  have n2 : ∀ v : Int32, rU r (31 + t) v (15 + t) = r (15 + t) := fun v => by rw [rU_n _ _ (by omega)]
  have n3 : ∀ v : Int32, rU r (31 + t) v 3 = r 3 := fun v => by rw [rU_n _ _ (by omega)]
  simp only [r_its1 ht, r_its2 ht, r_its3 ht, r_its4 ht, r_its6 ht, r_st ht, r_far ht, r_set1 _ ht, r_set3 _ ht, r_set6 _ ht, p_b2, p_b1, p_hd, sB_self, sB_sB, Nat.add_zero, ← Int32.not_le, ite_not]
  unfold q_pu1
  simp only [hd, e9, e11, e3, e7, e10, n1, n2, n3, e8, e12, e13]
  split
  · split
    · split
      · rfl
      · rfl
    · rfl
  · split <;> rfl
theorem r_puL : ∀ m k n g, k + m = q_M (g.1 3) → m < n → q_ok (g.1 3) → lX7_callGoes_6 n (nI k) g = some ((), sB g 3 (q_it q_pu m k (g.1 3))) := by
  intro m
  induction m with
  | zero =>
    intro k n g h1 h2 hk
    obtain ⟨h0, hM⟩ := q_ok0 hk
    obtain ⟨n, rfl⟩ : ∃ j, n = j + 1 := ⟨n - 1, by omega⟩
    obtain rfl : k = q_M (g.1 3) := by omega
    unfold lX7_callGoes_6
    rw [Nat.add_zero, h0, if_pos ((p_lem hM hM).mpr (Nat.le_refl _)), q_itz, sB_id]
  | succ m ih =>
    intro k n g h1 h2 hk
    obtain ⟨h0, hM⟩ := q_ok0 hk
    obtain ⟨n, rfl⟩ : ∃ j, n = j + 1 := ⟨n - 1, by omega⟩
    have hk8 : k < 8 := by omega
    unfold lX7_callGoes_6
    rw [Nat.add_zero, h0, if_neg (fun h => absurd ((p_lem hM (Nat.le_of_lt hk8)).mp h) (by omega)), q_its, nI_1]
    have e := ih (k + 1) n (sB g 3 (q_pu k (g.1 3))) (by rw [sB_self, q_kpM (q_kppu (g.1 3) hk8)]; omega) (by omega) (by rw [sB_self]; exact q_okpu hk hk8)
    rw [sB_self, sB_sB] at e
    rw [← e]
    unfold q_pu
    have h10 : ¬ (1 : Int32) = 0 := by decide
    rcases p_01 (q_okT hk hk8) with h | h
    · rw [r_tk0 hk8 h, p_b2, if_pos rfl, if_pos h]
      rw [r_pu hk8 hk, p_b1]
    · rw [r_tk1 hk8 h, p_b2, if_neg h10, if_neg (by rw [h]; exact h10), sB_id]
theorem r_taL : ∀ m k n g, k + m = q_M (g.1 3) → m < n → q_ok (g.1 3) → lX7_callGoes_37 n (nI k) g = some ((), sB g 3 (q_it q_ta m k (g.1 3))) := by
  intro m
  induction m with
  | zero =>
    intro k n g h1 h2 hk
    obtain ⟨h0, hM⟩ := q_ok0 hk
    obtain ⟨n, rfl⟩ : ∃ j, n = j + 1 := ⟨n - 1, by omega⟩
    obtain rfl : k = q_M (g.1 3) := by omega
    unfold lX7_callGoes_37
    rw [Nat.add_zero, h0, if_pos ((p_lem hM hM).mpr (Nat.le_refl _)), q_itz, sB_id]
  | succ m ih =>
    intro k n g h1 h2 hk
    obtain ⟨h0, hM⟩ := q_ok0 hk
    obtain ⟨n, rfl⟩ : ∃ j, n = j + 1 := ⟨n - 1, by omega⟩
    have hk8 : k < 8 := by omega
    unfold lX7_callGoes_37
    rw [Nat.add_zero, h0, if_neg (fun h => absurd ((p_lem hM (Nat.le_of_lt hk8)).mp h) (by omega)), q_its, nI_1]
    have e := ih (k + 1) n (sB g 3 (q_ta k (g.1 3))) (by rw [sB_self, q_kpM (q_kpta (g.1 3) hk8)]; omega) (by omega) (by rw [sB_self]; exact q_okta hk hk8)
    rw [sB_self, sB_sB] at e
    rw [← e]
    unfold q_ta
    have h10 : ¬ (1 : Int32) = 0 := by decide
    rcases p_01 (q_okT hk hk8) with h | h
    · rw [r_tk0 hk8 h, p_b2, if_pos rfl, if_pos h]
      rw [r_far hk8, p_b2, r_its4 hk8, p_b2, r_lk hk8, p_b2]
      have hd : q_dist (g.1 3) (g.1 3 3) k = 0 ↔ g.1 3 (15 + k) = g.1 3 3 := by
        obtain ⟨a, ha, e1⟩ := q_okc hk hk8
        obtain ⟨b, hb, e2⟩ := q_ok3 hk
        unfold q_dist
        rw [e1, e2, p_dist a ha b hb, ← nI_0, nI_eq (by omega) (by omega), nI_eq (by omega) (by omega)]
        omega
      by_cases h2 : g.1 3 (15 + k) = g.1 3 3
      · rw [if_pos (hd.mpr h2), if_pos h2]
        by_cases h4 : g.1 3 (39 + k) = 0
        · rw [if_pos h4, if_pos h4]
          by_cases h3 : q_lk (g.1 3) k = 0
          · rw [if_pos h3, if_pos h3, sB_id]
          · rw [if_neg h3, if_neg h3, r_set5 _ hk8, p_b1]
        · rw [if_neg h4, if_neg h4, ite_self, sB_id]
      · rw [if_neg (fun h => h2 (hd.mp h)), if_neg h2, sB_id]
    · rw [r_tk1 hk8 h, p_b2, if_neg h10, if_neg (by rw [h]; exact h10), sB_id]
theorem r_rsL : ∀ m k n g, k + m = q_M (g.1 3) → m < n → q_ok (g.1 3) → lX7_callGoes_95 n (nI k) g = some ((), sB g 3 (q_it q_rs m k (g.1 3))) := by
  intro m
  induction m with
  | zero =>
    intro k n g h1 h2 hk
    obtain ⟨h0, hM⟩ := q_ok0 hk
    obtain ⟨n, rfl⟩ : ∃ j, n = j + 1 := ⟨n - 1, by omega⟩
    obtain rfl : k = q_M (g.1 3) := by omega
    unfold lX7_callGoes_95
    rw [Nat.add_zero, h0, if_pos ((p_lem hM hM).mpr (Nat.le_refl _)), q_itz, sB_id]
  | succ m ih =>
    intro k n g h1 h2 hk
    obtain ⟨h0, hM⟩ := q_ok0 hk
    obtain ⟨n, rfl⟩ : ∃ j, n = j + 1 := ⟨n - 1, by omega⟩
    have hk8 : k < 8 := by omega
    unfold lX7_callGoes_95
    rw [Nat.add_zero, h0, if_neg (fun h => absurd ((p_lem hM (Nat.le_of_lt hk8)).mp h) (by omega)), q_its, nI_1]
    have e := ih (k + 1) n (sB g 3 (q_rs k (g.1 3))) (by rw [sB_self, q_kpM (q_kprs (g.1 3) hk8)]; omega) (by omega) (by rw [sB_self]; exact q_okrs hk hk8)
    rw [sB_self, sB_sB] at e
    rw [← e]
    unfold q_rs
    have h10 : ¬ (1 : Int32) = 0 := by decide
    rcases p_01 (q_okT hk hk8) with h | h
    · rw [r_tk0 hk8 h, p_b2, if_pos rfl, if_pos h]
      obtain ⟨p, hp, e1⟩ := q_okp hk hk8
      obtain ⟨b, hb, e2⟩ := q_reN (g.1 3) k
      rw [r_its3 hk8, p_b2, r_re hk8 hk, p_b2, p_hd, p_b2, e1, e2, (p_rest b hb p hp).1, (p_rest b hb p hp).2, r_set3 _ hk8, p_b1]
    · rw [r_tk1 hk8 h, p_b2, if_neg h10, if_neg (by rw [h]; exact h10), sB_id]
theorem r_allL {f : Nat → (Nat → Int32) → Nat → Int32} {L : Nat → Int32 → ic_S → Option (Unit × ic_S)} (hL : ∀ m k n g, k + m = q_M (g.1 3) → m < n → q_ok (g.1 3) → L n (nI k) g = some ((), sB g 3 (q_it f m k (g.1 3)))) (hk : q_ok (g.1 3)) : L 1000 0 g = some ((), sB g 3 (q_all f (g.1 3))) := by
  have h := hL (q_M (g.1 3)) 0 1000 g (by omega) (by have := (q_ok0 hk).2; omega) hk
  rw [nI_0] at h
  exact h
theorem r_call (hk : q_ok (g.1 3)) : fX7_callGoes g = some (sB g 3 (q_call (g.1 3))) := by
  have a0 := q_okr hk
  have a1 := q_okall (fun _ _ ht h => q_okpu h ht) a0
  have a2 := q_okall (fun _ _ ht h => q_okta h ht) a1
  have a3 := q_okall (fun _ _ ht h => q_okrs h ht) a2
  unfold fX7_callGoes
  rw [r_ro hk, p_b1, r_allL r_puL (by rw [sB_self]; exact a0), p_b2, sB_self, sB_sB, r_allL r_taL (by rw [sB_self]; exact a1), p_b2, sB_self, sB_sB, r_allL r_rsL (by rw [sB_self]; exact a2), p_b2, sB_self, sB_sB, p_hd, p_b2, p_let, up_sB]
  simp only [Nat.add_zero, sB_self, sB_sB]
  obtain ⟨c, hc, e1⟩ := q_ok1 a3
  obtain ⟨y, hy, e2, e3⟩ := p_c99999 hc
  unfold q_call q_inc
  rw [e1, e2, e3]
theorem r_caL {N : Nat} (hN : N ≤ 900) : ∀ m k n g, k + m = N → m < n → q_ok (g.1 3) → lX7_callsGo_2 (nI N) n (nI k) g = some ((), sB g 3 (q_it (fun _ r => q_call r) m k (g.1 3))) := by
  intro m
  induction m with
  | zero =>
    intro k n g h1 h2 hk
    obtain ⟨n, rfl⟩ : ∃ j, n = j + 1 := ⟨n - 1, by omega⟩
    unfold lX7_callsGo_2
    rw [if_pos (nI_le (by omega) (by omega)), q_itz, sB_id]
  | succ m ih =>
    intro k n g h1 h2 hk
    obtain ⟨n, rfl⟩ : ∃ j, n = j + 1 := ⟨n - 1, by omega⟩
    unfold lX7_callsGo_2
    rw [if_neg (nI_ge (by omega) (by omega)), q_its, nI_1]
    have e := ih (k + 1) n (sB g 3 (q_call (g.1 3))) (by omega) (by omega) (by rw [sB_self]; exact q_okcall hk)
    rw [sB_self, sB_sB] at e
    rw [← e, r_call hk, p_b1]
theorem r_ca (hk : q_ok (g.1 3)) {N : Nat} (hN : N ≤ 900) : fX7_callsGo (nI N) g = some (sB g 3 (q_calls N (g.1 3))) := by
  unfold fX7_callsGo
  rw [show (0 : Int32) = nI 0 from nI_0.symm, r_caL hN N 0 1000 g (by omega) (by omega) hk, p_b2]
  rfl
end
