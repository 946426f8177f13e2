/-! a call: the cart, the pull, what is taken, the rest -/
def q_turn (r : Nat → Int32) : Nat → Int32 := if r 3 = 0 then rU r 4 1 else if r 3 = 15 then rU r 4 0 else r
def q_go1 (r : Nat → Int32) : Nat → Int32 := q_turn (if r 4 = 1 then rU r 3 (r 3 + 1) else rU r 3 (r 3 + (-1)))
def q_roll (r : Nat → Int32) : Nat → Int32 := q_it (fun _ r => q_go1 r) (q_turn r 5).toNatClampNeg 0 (q_turn r)
/-- a thing felt it: its pull, and where it goes to -/
def q_pu0 (r : Nat → Int32) (t : Nat) (f : Int32) : Nat → Int32 := rU r (31 + t) (if (999 : Int32) < r (31 + t) + f then 999 else r (31 + t) + f)
def q_pu1 (r : Nat → Int32) (t : Nat) (c : Int32) : Nat → Int32 :=
  if r (39 + t) = 0 then (if r (23 + t) ≤ r (31 + t) then
    (let y := if q_abs (c - r (15 + t)) < q_st r t then q_abs (c - r (15 + t)) else q_st r t
     let r1 := rU r (31 + t) (r (31 + t) - r (23 + t))
     let r2 := rU r1 (15 + t) (if c ≤ r (15 + t) then r (15 + t) + (-y) else r (15 + t) + y)
     rU r2 (55 + t) (if (9999 : Int32) < r (55 + t) + y then 9999 else r (55 + t) + y)) else r) else r
def q_pu (t : Nat) (r : Nat → Int32) : Nat → Int32 := if r (47 + t) = 0 then q_pu1 (q_pu0 r t (q_fe r (r 3) t)) t (r 3) else r
def q_ta (t : Nat) (r : Nat → Int32) : Nat → Int32 := if r (47 + t) = 0 then (if r (15 + t) = r 3 then (if q_lk r t = 0 then r else if r (39 + t) = 0 then rU r (47 + t) 1 else r) else r) else r
def q_rs (t : Nat) (r : Nat → Int32) : Nat → Int32 := if r (47 + t) = 0 then rU r (31 + t) (if r (31 + t) - q_re r t < 0 then 0 else r (31 + t) - q_re r t) else r
def q_all (f : Nat → (Nat → Int32) → Nat → Int32) (r : Nat → Int32) : Nat → Int32 := q_it f (q_M r) 0 r
def q_inc (r : Nat → Int32) : Nat → Int32 := rU r 1 (if (99999 : Int32) < r 1 + 1 then 99999 else r 1 + 1)
def q_call (r : Nat → Int32) : Nat → Int32 := q_inc (q_all q_rs (q_all q_ta (q_all q_pu (q_roll r))))
/-! the bounds are kept -/
theorem q_okt {r : Nat → Int32} (h : q_ok r) : q_ok (q_turn r) := by
  unfold q_turn
  split
  · exact q_okU h fun _ _ => ⟨1, by decide, rfl⟩
  · split
    · exact q_okU h fun _ _ => ⟨0, by decide, rfl⟩
    · exact h
/-- at an end the cart looks inward -/
def q_in (r : Nat → Int32) : Prop := (r 3 = 0 → r 4 = 1) ∧ (r 3 = 15 → r 4 = 0)
theorem q_int (r : Nat → Int32) : q_in (q_turn r) := by
  unfold q_in q_turn
  split
  · rename_i h
    rw [rU_n _ _ (by decide), rU_s, h]
    exact ⟨fun _ => rfl, fun h => absurd h (by decide)⟩
  · split
    · rename_i h1 h
      rw [rU_n _ _ (by decide), rU_s, h]
      exact ⟨fun h => absurd h (by decide), fun _ => rfl⟩
    · exact ⟨fun h => absurd h (by assumption), fun h => absurd h (by assumption)⟩
theorem q_okg {r : Nat → Int32} (h : q_ok r) (hi : q_in r) : q_ok (q_go1 r) := by
  unfold q_go1
  obtain ⟨n, hn, he⟩ := q_ok3 h
  split
  · rename_i h4
    refine q_okt (q_okU h fun _ _ => ?_)
    have : n ≠ 15 := by
      rintro rfl
      exact absurd ((hi.2 he).symm.trans h4) (by decide)
    rw [he, nI_1]
    exact ⟨n + 1, by show n + 1 ≤ 15; omega, rfl⟩
  · rename_i h4
    refine q_okt (q_okU h fun _ _ => ?_)
    have : n ≠ 0 := by
      rintro rfl
      exact h4 (hi.1 he)
    obtain ⟨m, rfl⟩ : ∃ m, n = m + 1 := ⟨n - 1, by omega⟩
    rw [he, pk_m1]
    exact ⟨m, by show m ≤ 15; omega, rfl⟩
theorem q_okr {r : Nat → Int32} (h : q_ok r) : q_ok (q_roll r) := by
  unfold q_roll
  exact (q_itI (P := fun r => q_ok r ∧ q_in r) (q_turn r 5).toNatClampNeg (fun t a _ h => ⟨q_okg h.1 h.2, q_int _⟩) _ _ _ (Nat.le_refl _) ⟨q_okt h, q_int _⟩).1
theorem p_c999 {a b : Nat} (ha : a ≤ 999) (hb : b ≤ 43) : ∃ y, y ≤ 999 ∧ (if (999 : Int32) < nI a + nI b then 999 else nI a + nI b) = nI y ∧ (if 0 ≤ nI a + nI b then (if nI a + nI b ≤ 999 then nI a + nI b else 999) else 0) = nI y := by
  rw [nI_add, if_pos (nI_pos' (by omega)), show (999 : Int32) = nI 999 from rfl]
  by_cases h : 999 < a + b
  · rw [if_pos (nI_lt h (by omega)), if_neg (nI_ge h (by omega))]
    exact ⟨999, by decide, rfl, rfl⟩
  · rw [if_neg (nI_nlt (by omega) (by decide)), if_pos (nI_le (by omega) (by decide))]
    exact ⟨_, by omega, rfl, rfl⟩
theorem p_c9999 {a b : Nat} (ha : a ≤ 9999) (hb : b ≤ 15) : ∃ y, y ≤ 9999 ∧ (if (9999 : Int32) < nI a + nI b then 9999 else nI a + nI b) = nI y ∧ (if 0 ≤ nI a + nI b then (if nI a + nI b ≤ 9999 then nI a + nI b else 9999) else 0) = nI y := by
  rw [nI_add, if_pos (nI_pos' (by omega)), show (9999 : Int32) = nI 9999 from rfl]
  by_cases h : 9999 < a + b
  · rw [if_pos (nI_lt h (by omega)), if_neg (nI_ge h (by omega))]
    exact ⟨9999, by decide, rfl, rfl⟩
  · rw [if_neg (nI_nlt (by omega) (by decide)), if_pos (nI_le (by omega) (by decide))]
    exact ⟨_, by omega, rfl, rfl⟩
theorem p_c99999 {a : Nat} (ha : a ≤ 99999) : ∃ y, y ≤ 99999 ∧ (if (99999 : Int32) < nI a + 1 then 99999 else nI a + 1) = nI y ∧ (if 0 ≤ nI a + 1 then (if nI a + 1 ≤ 99999 then nI a + 1 else 99999) else 0) = nI y := by
  rw [nI_1, if_pos (nI_pos' (by omega)), show (99999 : Int32) = nI 99999 from rfl]
  by_cases h : 99999 < a + 1
  · rw [if_pos (nI_lt h (by omega)), if_neg (nI_ge h (by omega))]
    exact ⟨99999, by decide, rfl, rfl⟩
  · rw [if_neg (nI_nlt (by omega) (by decide)), if_pos (nI_le (by omega) (by decide))]
    exact ⟨_, by omega, rfl, rfl⟩
theorem p_rest : ∀ b, b ≤ 4 → ∀ a, a ≤ 999 → (if nI a - nI b < 0 then 0 else nI a - nI b) = nI (a - b) ∧ (if 0 ≤ nI a - nI b then (if nI a - nI b ≤ 999 then nI a - nI b else 999) else 0) = nI (a - b) := by decide +kernel
theorem q_stN (r : Nat → Int32) (t : Nat) : ∃ n, n ≤ 3 ∧ 1 ≤ n ∧ q_st r t = nI n := by
  unfold q_st
  repeat' split
  · exact ⟨2, by decide, by decide, rfl⟩
  · exact ⟨1, by decide, by decide, rfl⟩
  · exact ⟨3, by decide, by decide, rfl⟩
  · exact ⟨1, by decide, by decide, rfl⟩
theorem q_reN (r : Nat → Int32) (t : Nat) : ∃ n, n ≤ 4 ∧ q_re r t = nI n := by
  unfold q_re
  repeat' split
  · exact ⟨1, by decide, rfl⟩
  · exact ⟨2, by decide, rfl⟩
  · exact ⟨2, by decide, rfl⟩
  · exact ⟨4, by decide, rfl⟩
  · exact ⟨0, by decide, rfl⟩
/-- the steps that are made -/
theorem p_mv : ∀ c, c ≤ 15 → ∀ x, x ≤ 15 → ∀ s, s ≤ 3 → ∃ y, y ≤ 15 ∧ (if q_abs (nI c - nI x) < nI s then q_abs (nI c - nI x) else nI s) = nI y ∧ (if 0 ≤ nI s then (if nI s ≤ q_abs (nI x - nI c) then nI s else q_abs (nI x - nI c)) else 0) = nI y ∧ ∃ z, z ≤ 15 ∧ (if nI c ≤ nI x then nI x + (-(nI y)) else nI x + nI y) = nI z := by
  intro c hc x hx s hs
  have h : ∀ c, c ≤ 15 → ∀ x, x ≤ 15 → ∀ s, s ≤ 3 → (if q_abs (nI c - nI x) < nI s then q_abs (nI c - nI x) else nI s) = nI (min s ((c - x) + (x - c))) ∧ (if 0 ≤ nI s then (if nI s ≤ q_abs (nI x - nI c) then nI s else q_abs (nI x - nI c)) else 0) = nI (min s ((c - x) + (x - c))) ∧ (if nI c ≤ nI x then nI x + (-(nI (min s ((c - x) + (x - c))))) else nI x + nI (min s ((c - x) + (x - c)))) = nI (if c ≤ x then x - min s ((c - x) + (x - c)) else x + min s ((c - x) + (x - c))) := by decide +kernel
  obtain ⟨h1, h2, h3⟩ := h c hc x hx s hs
  refine ⟨_, ?_, h1, h2, _, ?_, h3⟩
  · omega
  · split <;> omega
theorem q_okpu {r : Nat → Int32} (h : q_ok r) {t : Nat} (ht : t < 8) : q_ok (q_pu t r) := by
  unfold q_pu
  split
  · obtain ⟨p, hp, e1⟩ := q_okp h ht
    obtain ⟨f, hf, e2⟩ := q_feN h (q_ok3 h) ht
    obtain ⟨c, hc, e3⟩ := q_ok3 h
    obtain ⟨y, hy, e4, _⟩ := p_c999 hp hf
    have h0 : q_ok (q_pu0 r t (q_fe r (r 3) t)) := by
      unfold q_pu0
      rw [e1, e2, e4]
      refine q_okU h fun _ _ => ⟨y, ?_, rfl⟩
      rw [q_bd_31 ht]
      exact hy
    revert h0
    generalize q_pu0 r t (q_fe r (r 3) t) = r
    intro h
    unfold q_pu1
    split
    · split
      · rename_i h5
        obtain ⟨p, hp, e1⟩ := q_okp h ht
        obtain ⟨x, hx, e2⟩ := q_okc h ht
        obtain ⟨w, hw, e5⟩ := q_okh h ht
        obtain ⟨m, hm, e6⟩ := q_okm h ht
        obtain ⟨s, hs, _, e7⟩ := q_stN r t
        obtain ⟨y, hy, e8, _, z, hz, e9⟩ := p_mv c hc x hx s hs
        obtain ⟨v, hv, e10, _⟩ := p_c9999 hm hy
        show q_ok (rU (rU (rU _ _ _) _ _) _ _)
        rw [e5, e1] at h5
        have h5 := (nI_leI (by omega) (by omega)).mp h5
        rw [e1, e5, e3, e2, e7, e8, e9, e6, e10, pk_sub h5]
        refine q_okU (q_okU (q_okU h fun _ _ => ⟨_, ?_, rfl⟩) fun _ _ => ⟨_, ?_, rfl⟩) fun _ _ => ⟨_, ?_, rfl⟩
        · rw [q_bd_31 ht]
          omega
        · rw [q_bd_15 ht]
          exact hz
        · rw [q_bd_55 ht]
          exact hv
      · exact h
    · exact h
  · exact h
theorem q_okta {r : Nat → Int32} (h : q_ok r) {t : Nat} (ht : t < 8) : q_ok (q_ta t r) := by
  unfold q_ta
  repeat' split
  all_goals first | exact h | skip
  refine q_okU h fun _ _ => ⟨1, ?_, rfl⟩
  rw [q_bd_47 ht]
  decide
theorem q_okrs {r : Nat → Int32} (h : q_ok r) {t : Nat} (ht : t < 8) : q_ok (q_rs t r) := by
  unfold q_rs
  split
  · obtain ⟨p, hp, e1⟩ := q_okp h ht
    obtain ⟨b, hb, e2⟩ := q_reN r t
    rw [e1, e2, (p_rest b hb p hp).1]
    refine q_okU h fun _ _ => ⟨_, ?_, rfl⟩
    rw [q_bd_31 ht]
    omega
  · exact h
theorem q_okall {f : Nat → (Nat → Int32) → Nat → Int32} (hf : ∀ t r, t < 8 → q_ok r → q_ok (f t r)) {r : Nat → Int32} (h : q_ok r) : q_ok (q_all f r) := q_itI 8 hf _ _ _ (q_ok0 h).2 h
theorem q_okinc {r : Nat → Int32} (h : q_ok r) : q_ok (q_inc r) := by
  unfold q_inc
  obtain ⟨p, hp, e1⟩ := q_ok1 h
  obtain ⟨y, hy, e2, _⟩ := p_c99999 hp
  rw [e1, e2]
  exact q_okU h fun _ _ => ⟨y, hy, rfl⟩
theorem q_okcall {r : Nat → Int32} (h : q_ok r) : q_ok (q_call r) := q_okinc (q_okall (fun _ _ ht h => q_okrs h ht) (q_okall (fun _ _ ht h => q_okta h ht) (q_okall (fun _ _ ht h => q_okpu h ht) (q_okr h))))
