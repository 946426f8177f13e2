/-! holdFast: what is held, and what stays taken -/
def q_b1 (x : Int32) (t : Nat) : Int32 := (x >>> (nI t &&& 31)) &&& 1
def q_hs (x : Int32) (t : Nat) (r : Nat → Int32) : Nat → Int32 := if q_b1 x t = 1 then rU r (39 + t) 1 else r
theorem q_b101 (x : Int32) (t : Nat) : q_b1 x t = 0 ∨ q_b1 x t = 1 := by
  obtain ⟨j, hj, e⟩ := pk_andE (x >>> (nI t &&& 31)) (m := 1) 1 (by decide)
  unfold q_b1
  rw [e]
  match j, hj with
  | 0, _ => exact Or.inl rfl
  | 1, _ => exact Or.inr rfl
theorem q_okhs {x : Int32} {r : Nat → Int32} (h : q_ok r) {t : Nat} (ht : t < 8) : q_ok (q_hs x t r) := by
  unfold q_hs
  split
  · refine q_okU h fun _ _ => ⟨1, ?_, rfl⟩
    rw [q_bd_39 ht]
    decide
  · exact h
theorem q_kphs {x : Int32} (r : Nat → Int32) {t : Nat} (ht : t < 8) : q_kp r (q_hs x t r) := by
  unfold q_hs
  split
  · exact q_kpU (q_kpr r) (by omega) (by omega)
  · exact q_kpr r
theorem q_lv.hs {x : Int32} {r r' : Nat → Int32} (h : q_lv r r') {t : Nat} : q_lv (q_hs x t r) (q_hs x t r') := by
  unfold q_hs
  split
  · exact h.U (by omega) _
  · exact h
theorem c_hsL {s : Nat} (hs : s < 3) (x : Int32) : ∀ m k n g, k + m = q_M (g.1 s) → m < n → q_ok (g.1 s) → lX2_holdThings_2 s x n (nI k) g = some ((), sB g s (q_it (q_hs x) m k (g.1 s))) := by
  intro m
  induction m with
  | zero =>
    intro k n g h1 h2 hk
    obtain ⟨h0, hM⟩ := q_ok0 hk
    obtain ⟨n, rfl⟩ : ∃ j, n = j + 1 := ⟨n - 1, by omega⟩
    obtain rfl : k = q_M (g.1 s) := by omega
    unfold lX2_holdThings_2
    rw [h0, if_pos ((p_lem hM hM).mpr (Nat.le_refl _)), q_itz, sB_id]
  | succ m ih =>
    intro k n g h1 h2 hk
    obtain ⟨h0, hM⟩ := q_ok0 hk
    obtain ⟨n, rfl⟩ : ∃ j, n = j + 1 := ⟨n - 1, by omega⟩
    have hk8 : k < 8 := by omega
    unfold lX2_holdThings_2
    rw [h0, if_neg (fun h => absurd ((p_lem hM (Nat.le_of_lt hk8)).mp h) (by omega)), q_its, nI_1]
    have e := ih (k + 1) n (sB g s (q_hs x k (g.1 s))) (by rw [sB_self, q_kpM (q_kphs (g.1 s) hk8)]; omega) (by omega) (by rw [sB_self]; exact q_okhs hk hk8)
    rw [sB_self, sB_sB] at e
    rw [← e]
    unfold q_hs q_b1
    split
    · rw [show fX2_alter s (nI k) 4 1 g = _ from c_alt (w := 4) hs hk (by omega) (by decide) 1 (fun _ => Or.inr rfl), p_b1]
    · rw [sB_id]
theorem c_hs {s : Nat} {g : ic_S} (hs : s < 3) (x : Int32) (hk : q_ok (g.1 s)) : fX2_holdThings s x g = some (sB g s (q_all (q_hs x) (g.1 s))) := by
  unfold fX2_holdThings
  rw [p_bt hs, p_gd, show (0 : Int32) = nI 0 from nI_0.symm, c_hsL hs x (q_M (g.1 s)) 0 1000 g (by omega) (by have := (q_ok0 hk).2; omega) hk, p_b2]
  rfl
theorem r_hsL (x1 x2 x : Int32) : ∀ m k n g, k + m = q_M (g.1 3) → m < n → q_ok (g.1 3) → lX7_holdFast_66 x1 x2 x n (nI k) g = some ((), sB g 3 (q_it (q_hs x) m k (g.1 3))) := by
  intro m
  induction m with
  | zero =>
    intro k n g h1 h2 hk
    obtain ⟨h0, hM⟩ := q_ok0 hk
    obtain ⟨n, rfl⟩ : ∃ j, n = j + 1 := ⟨n - 1, by omega⟩
    obtain rfl : k = q_M (g.1 3) := by omega
    unfold lX7_holdFast_66
    rw [Nat.add_zero, h0, if_pos ((p_lem hM hM).mpr (Nat.le_refl _)), q_itz, sB_id]
  | succ m ih =>
    intro k n g h1 h2 hk
    obtain ⟨h0, hM⟩ := q_ok0 hk
    obtain ⟨n, rfl⟩ : ∃ j, n = j + 1 := ⟨n - 1, by omega⟩
    have hk8 : k < 8 := by omega
    unfold lX7_holdFast_66
    rw [Nat.add_zero, h0, if_neg (fun h => absurd ((p_lem hM (Nat.le_of_lt hk8)).mp h) (by omega)), q_its, nI_1, r_its4 hk8, p_b2, r_set4 _ hk8, p_b1]
    have e := ih (k + 1) n (sB g 3 (q_hs x k (g.1 3))) (by rw [sB_self, q_kpM (q_kphs (g.1 3) hk8)]; omega) (by omega) (by rw [sB_self]; exact q_okhs hk hk8)
    rw [sB_self, sB_sB] at e
    rw [← e]
    have hb : rU (g.1 3) (39 + k) (g.1 3 (39 + k) ||| q_b1 x k) = q_hs x k (g.1 3) := by
      unfold q_hs
      rcases q_b101 x k with h | h
      · rw [h, if_neg (by decide), Int32.or_zero, rU_id]
      · rw [h, if_pos rfl]
        rcases p_01 (q_okH hk hk8) with h2 | h2
        · rw [h2]
          rfl
        · rw [h2]
          rfl
    rw [← hb]
    rfl
theorem r_hs {g : ic_S} (x1 x2 x : Int32) (hk : q_ok (g.1 3)) : lX7_holdFast_66 x1 x2 x 1000 0 g = some ((), sB g 3 (q_all (q_hs x) (g.1 3))) := r_allL (r_hsL x1 x2 x) hk
/-- what is taken stays taken -/
def q_tm (r r' : Nat → Int32) : Prop := ∀ t, t < 8 → r (47 + t) = 1 → r' (47 + t) = 1
theorem q_tmU {r r' : Nat → Int32} (h : q_tm r r') {i : Nat} {v : Int32} (hi : ∀ t, t < 8 → i = 47 + t → v = 1) : q_tm r (rU r' i v) := by
  intro t ht h1
  by_cases e : 47 + t = i
  · subst e
    rw [rU_s]
    exact hi t ht rfl
  · rw [rU_n _ _ e]
    exact h t ht h1
theorem q_tmr (r : Nat → Int32) : q_tm r r := fun _ _ h => h
theorem q_tm.tr {a b c : Nat → Int32} (h : q_tm a b) (h2 : q_tm b c) : q_tm a c := fun t ht h1 => h2 t ht (h t ht h1)
theorem q_tmall {f : Nat → (Nat → Int32) → Nat → Int32} (hf : ∀ t r, t < 8 → q_tm r (f t r)) {r : Nat → Int32} (h8 : q_M r ≤ 8) : q_tm r (q_all f r) := q_itI (P := fun (a : Nat → Int32) => q_tm r a) 8 (fun t a ht h => h.tr (hf t a ht)) _ _ _ h8 (q_tmr r)
theorem q_tmro (r : Nat → Int32) : q_tm r (q_roll r) := fun t _ h => (q_ro (by omega) (by omega)).trans h
theorem q_tmpu {t : Nat} (r : Nat → Int32) (ht : t < 8) : q_tm r (q_pu t r) := by
  unfold q_pu q_pu1 q_pu0
  repeat' split
  all_goals first | exact q_tmr r | exact q_tmU (q_tmr r) (by omega) | exact q_tmU (q_tmU (q_tmU (q_tmU (q_tmr r) (by omega)) (by omega)) (by omega)) (by omega)
theorem q_tmta {t : Nat} (r : Nat → Int32) (ht : t < 8) : q_tm r (q_ta t r) := by
  unfold q_ta
  repeat' split
  all_goals first | exact q_tmr r | exact q_tmU (q_tmr r) (fun _ _ _ => rfl)
theorem q_tmrs {t : Nat} (r : Nat → Int32) (ht : t < 8) : q_tm r (q_rs t r) := by
  unfold q_rs
  split
  · exact q_tmU (q_tmr r) (by omega)
  · exact q_tmr r
theorem q_tmca {r : Nat → Int32} (h : q_ok r) : q_tm r (q_call r) := by
  have a0 := q_okr h
  have a1 := q_okall (fun _ _ ht h => q_okpu h ht) a0
  have a2 := q_okall (fun _ _ ht h => q_okta h ht) a1
  have e1 : q_tm (q_roll r) (q_all q_pu (q_roll r)) := q_tmall (f := q_pu) (fun t r ht => q_tmpu r ht) (q_ok0 a0).2
  have e2 : q_tm (q_all q_pu (q_roll r)) (q_all q_ta (q_all q_pu (q_roll r))) := q_tmall (f := q_ta) (fun t r ht => q_tmta r ht) (q_ok0 a1).2
  have e3 : q_tm (q_all q_ta (q_all q_pu (q_roll r))) (q_all q_rs (q_all q_ta (q_all q_pu (q_roll r)))) := q_tmall (f := q_rs) (fun t r ht => q_tmrs r ht) (q_ok0 a2).2
  unfold q_call q_inc
  exact q_tmU ((((q_tmro r).tr e1).tr e2).tr e3) (by omega)
theorem q_tmcs {r : Nat → Int32} (h : q_ok r) (N : Nat) : q_tm r (q_calls N r) := (q_itI (P := fun (a : Nat → Int32) => q_ok a ∧ q_tm r a) N (fun t a _ h => ⟨q_okcall h.1, h.2.tr (q_tmca h.1)⟩) N 0 r (Nat.le_refl _) ⟨h, q_tmr r⟩).2
