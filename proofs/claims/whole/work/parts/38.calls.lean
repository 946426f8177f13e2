/-! the class's and the reference's call against the spec -/
theorem rU_eq {r : Nat → Int32} {i : Nat} {v : Int32} (h : r i = v) : rU r i v = r := by
  rw [← h, rU_id]
/-- what a thing's step leaves: all ahead of the things, and behind them -/
def q_kp (r r' : Nat → Int32) : Prop := ∀ i, i < 7 ∨ 63 ≤ i → r' i = r i
theorem q_kpU {r r' : Nat → Int32} (h : q_kp r r') {i : Nat} {v : Int32} (h1 : 7 ≤ i) (h2 : i < 63) : q_kp r (rU r' i v) := by
  intro j hj
  rw [rU_n _ _ (by omega)]
  exact h j hj
theorem q_kpr (r : Nat → Int32) : q_kp r r := fun _ _ => rfl
theorem q_kpt {a b c : Nat → Int32} (h : q_kp a b) (h2 : q_kp b c) : q_kp a c := fun i hi => (h2 i hi).trans (h i hi)
theorem q_kpM {r r' : Nat → Int32} (h : q_kp r r') : q_M r' = q_M r := congrArg Int32.toNatClampNeg (h 0 (Or.inl (by decide)))
theorem q_kppu1 (r : Nat → Int32) {t : Nat} (ht : t < 8) (c : Int32) : q_kp r (q_pu1 r t c) := by
  unfold q_pu1
  split
  · split
    · exact q_kpU (q_kpU (q_kpU (q_kpr r) (by omega) (by omega)) (by omega) (by omega)) (by omega) (by omega)
    · exact q_kpr r
  · exact q_kpr r
theorem q_kppu (r : Nat → Int32) {t : Nat} (ht : t < 8) : q_kp r (q_pu t r) := by
  unfold q_pu
  split
  · exact q_kpt (q_kpU (q_kpr r) (by omega) (by omega)) (q_kppu1 _ ht _)
  · exact q_kpr r
theorem q_kpta (r : Nat → Int32) {t : Nat} (ht : t < 8) : q_kp r (q_ta t r) := by
  unfold q_ta
  repeat' split
  all_goals first | exact q_kpr r | exact q_kpU (q_kpr r) (by omega) (by omega)
theorem q_kprs (r : Nat → Int32) {t : Nat} (ht : t < 8) : q_kp r (q_rs t r) := by
  unfold q_rs
  split
  · exact q_kpU (q_kpr r) (by omega) (by omega)
  · exact q_kpr r
theorem q_kpall {f : Nat → (Nat → Int32) → Nat → Int32} (hf : ∀ t r, t < 8 → q_kp r (f t r)) {r : Nat → Int32} (h : q_ok r) : q_kp r (q_all f r) := q_itI (P := fun (a : Nat → Int32) => q_kp r a) 8 (fun t a ht h => q_kpt h (hf t a ht)) _ _ _ (q_ok0 h).2 (q_kpr r)
theorem q_tu {r : Nat → Int32} {i : Nat} (h : i ≠ 4) : q_turn r i = r i := by
  unfold q_turn
  repeat' split
  all_goals first | rfl | exact rU_n _ _ h
theorem q_g1 {r : Nat → Int32} {i : Nat} (h : i ≠ 3) (h2 : i ≠ 4) : q_go1 r i = r i := by
  unfold q_go1
  rw [q_tu h2]
  split <;> exact rU_n _ _ h
theorem q_ro {r : Nat → Int32} {i : Nat} (h : i ≠ 3) (h2 : i ≠ 4) : q_roll r i = r i := by
  unfold q_roll
  exact q_itI (P := fun (a : Nat → Int32) => a i = r i) (q_turn r 5).toNatClampNeg (fun t a _ h3 => (q_g1 h h2).trans h3) _ _ _ (Nat.le_refl _) (q_tu h2)
theorem q_ca {r : Nat → Int32} (h : q_ok r) {i : Nat} (h1 : i < 7 ∨ 63 ≤ i) (h2 : i ≠ 1) (h3 : i ≠ 3) (h4 : i ≠ 4) : q_call r i = r i := by
  unfold q_call q_inc
  have a0 := q_okr h
  have a1 := q_okall (fun _ _ ht h => q_okpu h ht) a0
  have a2 := q_okall (fun _ _ ht h => q_okta h ht) a1
  rw [rU_n _ _ h2, q_kpall (fun _ _ ht => q_kprs _ ht) a2 i h1, q_kpall (fun _ _ ht => q_kpta _ ht) a1 i h1, q_kpall (fun _ _ ht => q_kppu _ ht) a0 i h1, q_ro h3 h4]
/-! the class -/
section
variable {s t : Nat} {g : ic_S}
theorem c_tu (hs : s < 3) : fX2_turnAtEnds s g = some (sB g s (q_turn (g.1 s))) := by
  unfold fX2_turnAtEnds q_turn
  rw [p_bt hs, p_gd]
  split
  · rw [p_let, up_sB]
  · split
    · rw [p_let, up_sB]
    · rw [sB_id]
theorem c_roL (hs : s < 3) {P : Nat} (hP : P ≤ 3) : ∀ m k n g, k + m = P → m < n → g.1 s 5 = nI P → lX2_rollCart_6 s n (nI k) g = some ((), sB g s (q_it (fun _ r => q_go1 r) m k (g.1 s))) := by
  intro m
  induction m with
  | zero =>
    intro k n g h1 h2 h5
    obtain ⟨n, rfl⟩ : ∃ j, n = j + 1 := ⟨n - 1, by omega⟩
    unfold lX2_rollCart_6
    rw [h5, if_pos (nI_le (by omega) (by omega)), q_itz, sB_id]
  | succ m ih =>
    intro k n g h1 h2 h5
    obtain ⟨n, rfl⟩ : ∃ j, n = j + 1 := ⟨n - 1, by omega⟩
    unfold lX2_rollCart_6
    rw [h5, if_neg (nI_ge (by omega) (by omega)), q_its, nI_1]
    have e := ih (k + 1) n (sB g s (q_go1 (g.1 s))) (by omega) (by omega) (by rw [sB_self, q_g1 (by decide) (by decide), h5])
    rw [sB_self, sB_sB] at e
    rw [← e]
    unfold q_go1
    split
    · rw [p_let, up_sB, c_tu hs, sB_self, sB_sB, p_b1]
    · rw [p_let, up_sB, c_tu hs, sB_self, sB_sB, p_b1]
theorem c_ro (hs : s < 3) (hk : q_ok (g.1 s)) : fX2_rollCart s g = some (sB g s (q_roll (g.1 s))) := by
  obtain ⟨P, hP, he⟩ := q_ok5 hk
  unfold fX2_rollCart
  have e : (sB g s (q_turn (g.1 s))).1 s 5 = nI P := by rw [sB_self, q_tu (by decide), he]
  rw [p_bt hs, p_gd, c_tu hs, p_b1, show (0 : Int32) = nI 0 from nI_0.symm, c_roL hs hP P 0 1000 _ (by omega) (by omega) e, p_b2, sB_self, sB_sB]
  unfold q_roll
  rw [q_tu (by decide), he, nI_clamp (by omega)]
theorem c_str (hs : s < 3) (ht : t < 8) (f c : Int32) : fX4_strain s t f c g = some (sB g s (q_pu1 (q_pu0 (g.1 s) t f) t c)) := by
  unfold fX4_strain q_pu0
  simp only [p_bt hs, p_bt ht, p_gd, p_let, up_sB, sB_self, sB_sB]
  generalize rU (g.1 s) (31 + t) (if (999 : Int32) < g.1 s (31 + t) + f then 999 else g.1 s (31 + t) + f) = r
  unfold q_pu1
  split
  · split
    · rw [c_st hs ht, p_b2]
      simp only [sB_self]
      have e : q_st (rU r (31 + t) (r (31 + t) - r (23 + t))) t = q_st r t := by
        unfold q_st
        rw [rU_n _ _ (by omega), rU_n _ _ (by omega)]
      have e2 : ∀ v w : Int32, rU (rU r (31 + t) v) (15 + t) w (55 + t) = r (55 + t) := fun v w => by rw [rU_n _ _ (by omega), rU_n _ _ (by omega)]
      have e3 : ∀ v : Int32, rU r (31 + t) v (15 + t) = r (15 + t) := fun v => by rw [rU_n _ _ (by omega)]
      simp only [e, e2, e3, sB_sB]
      split
      · rfl
      · rfl
    · rfl
  · rfl
theorem c_puL (hs : s < 3) : ∀ m k n g, k + m = 8 → m < n → q_ok (g.1 s) → lX2_pullThings_10 s n (nI k) g = some ((), sB g s (q_it q_pu (q_M (g.1 s) - k) k (g.1 s))) := by
  intro m
  induction m with
  | zero =>
    intro k n g h1 h2 hk
    obtain ⟨n, rfl⟩ : ∃ j, n = j + 1 := ⟨n - 1, by omega⟩
    obtain rfl : k = 8 := by omega
    unfold lX2_pullThings_10
    rw [if_pos p_y8, q_itN _ (q_ok0 hk).2, sB_id]
  | succ m ih =>
    intro k n g h1 h2 hk
    obtain ⟨h0, hM⟩ := q_ok0 hk
    obtain ⟨n, rfl⟩ : ∃ j, n = j + 1 := ⟨n - 1, by omega⟩
    have hk8 : k < 8 := by omega
    unfold lX2_pullThings_10
    rw [if_neg (p_n8 hk8), p_in8 hk8, p_gd, p_tn hk8, p_on, h0, nI_1]
    by_cases hMk : q_M (g.1 s) ≤ k
    · rw [if_pos ((p_lem hM (Nat.le_of_lt hk8)).mpr hMk), ih (k + 1) n g (by omega) (by omega) hk, q_itN _ hMk, q_itN _ (Nat.le_succ_of_le hMk)]
    · rw [if_neg (fun h => hMk ((p_lem hM (Nat.le_of_lt hk8)).mp h)), q_itM _ (Nat.lt_of_not_le hMk)]
      have e := ih (k + 1) n (sB g s (q_pu k (g.1 s))) (by omega) (by omega) (by rw [sB_self]; exact q_okpu hk hk8)
      rw [sB_self, sB_sB, q_kpM (q_kppu (g.1 s) hk8)] at e
      rw [← e]
      unfold q_pu
      by_cases h : g.1 s (47 + k) = 0
      · rw [if_pos h, if_pos h, c_fe hs hk8 _ hk, p_b2, c_str hs hk8, p_b1]
      · rw [if_neg h, if_neg h, sB_id]
theorem c_taL (hs : s < 3) : ∀ m k n g, k + m = 8 → m < n → q_ok (g.1 s) → lX2_takeThings_10 s n (nI k) g = some ((), sB g s (q_it q_ta (q_M (g.1 s) - k) k (g.1 s))) := by
  intro m
  induction m with
  | zero =>
    intro k n g h1 h2 hk
    obtain ⟨n, rfl⟩ : ∃ j, n = j + 1 := ⟨n - 1, by omega⟩
    obtain rfl : k = 8 := by omega
    unfold lX2_takeThings_10
    rw [if_pos p_y8, q_itN _ (q_ok0 hk).2, sB_id]
  | succ m ih =>
    intro k n g h1 h2 hk
    obtain ⟨h0, hM⟩ := q_ok0 hk
    obtain ⟨n, rfl⟩ : ∃ j, n = j + 1 := ⟨n - 1, by omega⟩
    have hk8 : k < 8 := by omega
    unfold lX2_takeThings_10
    rw [if_neg (p_n8 hk8), p_in8 hk8, p_gd, p_tn hk8, p_on, h0, nI_1]
    by_cases hMk : q_M (g.1 s) ≤ k
    · rw [if_pos ((p_lem hM (Nat.le_of_lt hk8)).mpr hMk), ih (k + 1) n g (by omega) (by omega) hk, q_itN _ hMk, q_itN _ (Nat.le_succ_of_le hMk)]
    · rw [if_neg (fun h => hMk ((p_lem hM (Nat.le_of_lt hk8)).mp h)), q_itM _ (Nat.lt_of_not_le hMk)]
      have e := ih (k + 1) n (sB g s (q_ta k (g.1 s))) (by omega) (by omega) (by rw [sB_self]; exact q_okta hk hk8)
      rw [sB_self, sB_sB, q_kpM (q_kpta (g.1 s) hk8)] at e
      rw [← e]
      unfold q_ta
      by_cases h : g.1 s (47 + k) = 0
      · rw [if_pos h, if_pos h]
        by_cases h2 : g.1 s (15 + k) = g.1 s 3
        · rw [if_pos h2, if_pos h2, c_lk hs hk8, p_b2]
          by_cases h3 : q_lk (g.1 s) k = 0
          · rw [if_pos h3, if_pos h3, p_let, up_sB, rU_eq h]
          · rw [if_neg h3, if_neg h3]
            by_cases h4 : g.1 s (39 + k) = 0
            · rw [if_pos h4, if_pos h4, p_let, up_sB]
            · rw [if_neg h4, if_neg h4, p_let, up_sB, rU_eq h]
        · rw [if_neg h2, if_neg h2, sB_id]
      · rw [if_neg h, if_neg h, sB_id]
theorem c_rsL (hs : s < 3) : ∀ m k n g, k + m = 8 → m < n → q_ok (g.1 s) → lX2_restThings_10 s n (nI k) g = some ((), sB g s (q_it q_rs (q_M (g.1 s) - k) k (g.1 s))) := by
  intro m
  induction m with
  | zero =>
    intro k n g h1 h2 hk
    obtain ⟨n, rfl⟩ : ∃ j, n = j + 1 := ⟨n - 1, by omega⟩
    obtain rfl : k = 8 := by omega
    unfold lX2_restThings_10
    rw [if_pos p_y8, q_itN _ (q_ok0 hk).2, sB_id]
  | succ m ih =>
    intro k n g h1 h2 hk
    obtain ⟨h0, hM⟩ := q_ok0 hk
    obtain ⟨n, rfl⟩ : ∃ j, n = j + 1 := ⟨n - 1, by omega⟩
    have hk8 : k < 8 := by omega
    unfold lX2_restThings_10
    rw [if_neg (p_n8 hk8), p_in8 hk8, p_gd, p_tn hk8, p_on, h0, nI_1]
    by_cases hMk : q_M (g.1 s) ≤ k
    · rw [if_pos ((p_lem hM (Nat.le_of_lt hk8)).mpr hMk), ih (k + 1) n g (by omega) (by omega) hk, q_itN _ hMk, q_itN _ (Nat.le_succ_of_le hMk)]
    · rw [if_neg (fun h => hMk ((p_lem hM (Nat.le_of_lt hk8)).mp h)), q_itM _ (Nat.lt_of_not_le hMk)]
      have e := ih (k + 1) n (sB g s (q_rs k (g.1 s))) (by omega) (by omega) (by rw [sB_self]; exact q_okrs hk hk8)
      rw [sB_self, sB_sB, q_kpM (q_kprs (g.1 s) hk8)] at e
      rw [← e]
      unfold q_rs
      by_cases h : g.1 s (47 + k) = 0
      · rw [if_pos h, if_pos h]
        unfold fX4_rest
        rw [p_bt hs, p_gd, p_bt hk8, p_gd, c_re hs hk8, p_b2, p_let, up_sB, p_b1]
      · rw [if_neg h, if_neg h, sB_id]
theorem c_pu (hs : s < 3) (hk : q_ok (g.1 s)) : fX2_pullThings s g = some (sB g s (q_all q_pu (g.1 s))) := by
  unfold fX2_pullThings
  rw [p_bt hs, p_gd, show (0 : Int32) = nI 0 from nI_0.symm, c_puL hs 8 0 1000 g rfl (by decide) hk, p_b2]
  rfl
theorem c_ta (hs : s < 3) (hk : q_ok (g.1 s)) : fX2_takeThings s g = some (sB g s (q_all q_ta (g.1 s))) := by
  unfold fX2_takeThings
  rw [p_bt hs, p_gd, show (0 : Int32) = nI 0 from nI_0.symm, c_taL hs 8 0 1000 g rfl (by decide) hk, p_b2]
  rfl
theorem c_rs (hs : s < 3) (hk : q_ok (g.1 s)) : fX2_restThings s g = some (sB g s (q_all q_rs (g.1 s))) := by
  unfold fX2_restThings
  rw [p_bt hs, p_gd, show (0 : Int32) = nI 0 from nI_0.symm, c_rsL hs 8 0 1000 g rfl (by decide) hk, p_b2]
  rfl
theorem c_caL (hs : s < 3) {N : Nat} (hN : N ≤ 900) : ∀ m k n g, k + m = N → m < n → q_ok (g.1 s) → lX2_callTimes_2 s (nI N) n (nI k) g = some ((), sB g s (q_it (fun _ r => q_call r) m k (g.1 s))) := by
  intro m
  induction m with
  | zero =>
    intro k n g h1 h2 hk
    obtain ⟨n, rfl⟩ : ∃ j, n = j + 1 := ⟨n - 1, by omega⟩
    unfold lX2_callTimes_2
    rw [if_pos (nI_le (by omega) (by omega)), q_itz, sB_id]
  | succ m ih =>
    intro k n g h1 h2 hk
    obtain ⟨n, rfl⟩ : ∃ j, n = j + 1 := ⟨n - 1, by omega⟩
    unfold lX2_callTimes_2
    rw [if_neg (nI_ge (by omega) (by omega)), q_its, nI_1]
    have e := ih (k + 1) n (sB g s (q_call (g.1 s))) (by omega) (by omega) (by rw [sB_self]; exact q_okcall hk)
    rw [sB_self, sB_sB] at e
    rw [← e]
    have a0 := q_okr hk
    have a1 := q_okall (fun _ _ ht h => q_okpu h ht) a0
    have a2 := q_okall (fun _ _ ht h => q_okta h ht) a1
    rw [c_ro hs hk, p_b1, c_pu hs (by rw [sB_self]; exact a0), p_b1, sB_self, sB_sB, c_ta hs (by rw [sB_self]; exact a1), p_b1, sB_self, sB_sB, c_rs hs (by rw [sB_self]; exact a2), p_b1, sB_self, sB_sB, p_let, up_sB, sB_self, sB_sB]
    rfl
def q_calls (N : Nat) (r : Nat → Int32) : Nat → Int32 := q_it (fun _ r => q_call r) N 0 r
theorem q_okcs {r : Nat → Int32} (h : q_ok r) (N : Nat) : q_ok (q_calls N r) := q_itI (P := q_ok) N (fun _ _ _ h => q_okcall h) _ _ _ (Nat.le_refl _) h
theorem c_ca (hs : s < 3) (hk : q_ok (g.1 s)) {N : Nat} (hN : N ≤ 900) : fX2_callTimes s (nI N) g = some (sB g s (q_calls N (g.1 s))) := by
  unfold fX2_callTimes
  rw [p_bt hs, p_gd, show (0 : Int32) = nI 0 from nI_0.symm, c_caL hs hN N 0 1000 g (by omega) (by omega) hk, p_b2]
  rfl
end
