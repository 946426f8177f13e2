/-! holdFast: the search for the set of fewest things, the least of these -/
def q_pN (x : Nat) : Nat := (q_pop (nI x)).toNatClampNeg
theorem p_popN {x : Nat} (h : x < 256) : q_pop (nI x) = nI (q_pN x) ∧ q_pN x ≤ 8 := (p_pop x h).2
theorem p_popM : ∀ M, M ≤ 8 → ∀ x, x < 2 ^ M → q_pN x ≤ M := by decide +kernel
theorem p_bitM : ∀ M, M ≤ 8 → (1 : Int32) <<< (nI M &&& 31) = nI (2 ^ M) := by decide +kernel
/-- what is sought: of those that do, one of least weight, the first of these -/
def q_ls (P : Nat → Bool) (w : Nat → Nat) (S : Nat) (o : Option Nat) : Prop := match o with
  | none => ∀ x, x < S → ¬ P x = true
  | some j => j < S ∧ P j = true ∧ ∀ x, x < S → P x = true → w j < w x ∨ (w j = w x ∧ j ≤ x)
theorem q_lsu {P : Nat → Bool} {w : Nat → Nat} {S : Nat} {o o' : Option Nat} (h : q_ls P w S o) (h' : q_ls P w S o') : o = o' := by
  rcases o with _ | j <;> rcases o' with _ | j'
  · rfl
  · exact absurd h'.2.1 (h j' h'.1)
  · exact absurd h.2.1 (h' j h.1)
  · have a := h.2.2 j' h'.1 h'.2.1
    have a' := h'.2.2 j h.1 h.2.1
    have : j = j' := by omega
    rw [this]
/-- the best so far -/
def q_hb (P : Nat → Bool) (w : Nat → Nat) (k : Nat) (o : Option Nat) : Option Nat := match o with
  | none => if P k = true then some k else none
  | some j => if w k < w j then (if P k = true then some k else some j) else some j
theorem q_hbS {P : Nat → Bool} {w : Nat → Nat} {k : Nat} {o : Option Nat} (h : q_ls P w k o) : q_ls P w (k + 1) (q_hb P w k o) := by
  rcases o with _ | j
  · by_cases hP : P k = true
    · have e : q_hb P w k none = some k := if_pos hP
      rw [e]
      refine ⟨Nat.lt_succ_self k, hP, fun x hx hx2 => ?_⟩
      by_cases hk : x = k
      · subst hk
        exact Or.inr ⟨rfl, Nat.le_refl _⟩
      · exact absurd hx2 (h x (by omega))
    · have e : q_hb P w k none = none := if_neg hP
      rw [e]
      intro x hx
      by_cases hk : x = k
      · subst hk
        exact hP
      · exact h x (by omega)
  · obtain ⟨h1, h2, h3⟩ := h
    by_cases hw : w k < w j
    · by_cases hP : P k = true
      · have e : q_hb P w k (some j) = some k := (if_pos hw).trans (if_pos hP)
        rw [e]
        refine ⟨Nat.lt_succ_self k, hP, fun x hx hx2 => ?_⟩
        by_cases hk : x = k
        · subst hk
          exact Or.inr ⟨rfl, Nat.le_refl _⟩
        · have := h3 x (by omega) hx2
          omega
      · have e : q_hb P w k (some j) = some j := (if_pos hw).trans (if_neg hP)
        rw [e]
        refine ⟨by omega, h2, fun x hx hx2 => ?_⟩
        by_cases hk : x = k
        · subst hk
          exact absurd hx2 hP
        · exact h3 x (by omega) hx2
    · have e : q_hb P w k (some j) = some j := if_neg hw
      rw [e]
      refine ⟨by omega, h2, fun x hx hx2 => ?_⟩
      by_cases hk : x = k
      · subst hk
        omega
      · exact h3 x (by omega) hx2
theorem q_hbA (P : Nat → Bool) (w : Nat → Nat) (S : Nat) : q_ls P w S (q_it (q_hb P w) S 0 none) := by
  have h := q_itJ (f := q_hb P w) (P := fun t o => q_ls P w t o) S (fun t o _ h => q_hbS h) S 0 none (Nat.le_refl _) (fun x hx => absurd hx (Nat.not_lt_zero x))
  exact h
/-- by weights, and in each in order -/
def q_fs2 (F : Nat → Option Nat) : Nat → Nat → Option Nat
  | 0, _ => none
  | m + 1, k => match F k with
    | some x => some x
    | none => q_fs2 F m (k + 1)
theorem q_fstS {p : Nat → Bool} : ∀ m k, (q_fst p m k = none ∧ ∀ x, k ≤ x → x < k + m → ¬ p x = true) ∨ ∃ j, q_fst p m k = some j ∧ k ≤ j ∧ j < k + m ∧ p j = true ∧ ∀ x, k ≤ x → x < j → ¬ p x = true := by
  intro m
  induction m with
  | zero => intro k; exact Or.inl ⟨rfl, fun x _ _ => by omega⟩
  | succ m ih =>
    intro k
    unfold q_fst
    by_cases hp : p k = true
    · rw [if_pos hp]
      exact Or.inr ⟨k, rfl, Nat.le_refl _, by omega, hp, fun x _ _ => by omega⟩
    · rw [if_neg hp]
      rcases ih (k + 1) with ⟨e, h⟩ | ⟨j, e, h1, h2, h3, h4⟩
      · refine Or.inl ⟨e, fun x h1 h2 => ?_⟩
        by_cases hk : x = k
        · subst hk
          exact hp
        · exact h x (by omega) (by omega)
      · refine Or.inr ⟨j, e, by omega, by omega, h3, fun x h5 h6 => ?_⟩
        by_cases hk : x = k
        · subst hk
          exact hp
        · exact h4 x (by omega) h6
theorem q_fs2S {P : Nat → Bool} {w : Nat → Nat} {S M : Nat} (hw : ∀ x, x < S → w x ≤ M) : ∀ m k, k + m = M + 1 → (∀ x, x < S → w x < k → ¬ P x = true) → q_ls P w S (q_fs2 (fun z => q_fst (fun x => decide (w x = z) && P x) S 0) m k) := by
  intro m
  induction m with
  | zero =>
    intro k h1 h2 x hx
    exact h2 x hx (by have := hw x hx; omega)
  | succ m ih =>
    intro k h1 h2
    unfold q_fs2
    rcases q_fstS (p := fun x => decide (w x = k) && P x) S 0 with ⟨e, h⟩ | ⟨j, e, a1, a2, a3, a4⟩
    · rw [e]
      refine ih (k + 1) (by omega) fun x hx hxw => ?_
      by_cases hk : w x = k
      · intro hP
        exact h x (Nat.zero_le _) (by omega) (by simp [hk, hP])
      · exact h2 x hx (by omega)
    · rw [e]
      simp only [Bool.and_eq_true, decide_eq_true_eq] at a3
      refine ⟨by omega, a3.2, fun x hx hP => ?_⟩
      by_cases hk : w x < k
      · exact absurd hP (h2 x hx hk)
      · by_cases hk2 : w x = k
        · refine Or.inr ⟨a3.1.trans hk2.symm, ?_⟩
          refine Classical.byContradiction fun hj => ?_
          exact a4 x (Nat.zero_le _) (by omega) (by simp [hk2, hP])
        · exact Or.inl (by omega)
theorem q_fs2E {P : Nat → Bool} {M : Nat} (hM : M ≤ 8) : q_fs2 (fun z => q_fst (fun x => decide (q_pN x = z) && P x) (2 ^ M) 0) (M + 1) 0 = q_it (q_hb P q_pN) (2 ^ M) 0 none :=
  q_lsu (q_fs2S (w := q_pN) (fun x hx => p_popM M hM x hx) (M + 1) 0 (by omega) (fun x _ h => absurd h (Nat.not_lt_zero _))) (q_hbA P q_pN (2 ^ M))
section
variable {g : ic_S}
theorem c_hfI {b : Nat → Int32} (hb : q_ok b) {N z S : Nat} (hN : N ≤ 60) (hz : z ≤ 8) (hS : S ≤ 256) : ∀ m k n (g : ic_S), k + m = S → m < n → q_as b (g.1 0) → q_ok (g.1 1) → ∃ r', q_ok r' ∧ lX6_holdFast_42 (nI N) (nI S) (nI z) n (nI k) g = some (q_fo (q_fst (fun x => decide (q_pN x = z) && q_gd b N (nI x)) m k) (sB g 1 r')) := by
  intro m
  induction m with
  | zero =>
    intro k n g h1 h2 h0 hk1
    obtain ⟨n, rfl⟩ : ∃ j, n = j + 1 := ⟨n - 1, by omega⟩
    obtain rfl : k = S := by omega
    refine ⟨g.1 1, hk1, ?_⟩
    unfold lX6_holdFast_42
    rw [if_pos (nI_le (Nat.le_refl _) (by omega)), sB_id]
    rfl
  | succ m ih =>
    intro k n g h1 h2 h0 hk1
    obtain ⟨n, rfl⟩ : ∃ j, n = j + 1 := ⟨n - 1, by omega⟩
    have a1 : ¬ nI S ≤ nI k := nI_ge (by omega) (by omega)
    obtain ⟨e1, e2⟩ := p_popN (x := k) (by omega)
    unfold lX6_holdFast_42 q_fst
    rw [if_neg a1, c_pop, p_b2, e1, nI_1]
    by_cases hw : q_pN k = z
    · rw [if_pos (congrArg nI hw)]
      obtain ⟨r1, hr1, e3⟩ := c_sv (g := g) hb hN (nI k) h0 hk1
      rw [e3, p_b2]
      by_cases hP : q_gd b N (nI k) = true
      · refine ⟨r1, hr1, ?_⟩
        rw [if_pos hP, if_neg (by decide), if_pos (by simp [hw, hP])]
        rfl
      · obtain ⟨r', hr', e⟩ := ih (k + 1) n (sB g 1 r1) (by omega) (by omega) h0 (by rw [sB_self]; exact hr1)
        rw [sB_sB] at e
        refine ⟨r', hr', ?_⟩
        rw [if_neg hP, if_pos rfl, if_neg (by simp [hP]), e]
    · obtain ⟨r', hr', e⟩ := ih (k + 1) n g (by omega) (by omega) h0 hk1
      refine ⟨r', hr', ?_⟩
      rw [if_neg (fun h => hw ((nI_eq (by omega) (by omega)).mp h)), if_neg (by simp [hw]), e]
theorem c_hfO {b : Nat → Int32} (hb : q_ok b) {N S : Nat} (hN : N ≤ 60) (hS : S ≤ 256) : ∀ m k n (g : ic_S), k + m = q_M b + 1 → m < n → q_as b (g.1 0) → q_ok (g.1 1) → ∃ r', q_ok r' ∧ lX6_holdFast_28 (nI N) (nI S) n (nI k) g = some (q_fo (q_fs2 (fun z => q_fst (fun x => decide (q_pN x = z) && q_gd b N (nI x)) S 0) m k) (sB g 1 r')) := by
  have hM := (q_ok0 hb).2
  intro m
  induction m with
  | zero =>
    intro k n g h1 h2 h0 hk1
    obtain ⟨n, rfl⟩ : ∃ j, n = j + 1 := ⟨n - 1, by omega⟩
    have e0 : g.1 0 0 = nI (q_M b) := (h0.2.1 0 (by decide)).trans (q_ok0 hb).1
    refine ⟨g.1 1, hk1, ?_⟩
    unfold lX6_holdFast_28
    rw [e0, if_pos (nI_lt (by omega) (by omega)), sB_id]
    rfl
  | succ m ih =>
    intro k n g h1 h2 h0 hk1
    obtain ⟨n, rfl⟩ : ∃ j, n = j + 1 := ⟨n - 1, by omega⟩
    have e0 : g.1 0 0 = nI (q_M b) := (h0.2.1 0 (by decide)).trans (q_ok0 hb).1
    obtain ⟨r1, hr1, e1⟩ := c_hfI (z := k) hb hN (by omega) hS S 0 1000 g (by omega) (by omega) h0 hk1
    rw [nI_0] at e1
    unfold lX6_holdFast_28 q_fs2
    rw [e0, if_neg (nI_nlt (by omega) (by omega)), e1, nI_1]
    rcases h : q_fst (fun x => decide (q_pN x = k) && q_gd b N (nI x)) S 0 with _ | j
    · obtain ⟨r', hr', e⟩ := ih (k + 1) n (sB g 1 r1) (by omega) (by omega) h0 (by rw [sB_self]; exact hr1)
      rw [sB_sB] at e
      refine ⟨r', hr', ?_⟩
      show ic_bt (some (.inr ((), sB g 1 r1))) _ = _
      rw [p_btr, e]
    · refine ⟨r1, hr1, ?_⟩
      show ic_bt (some (.inl (nI j, sB g 1 r1))) _ = _
      rw [p_btl]
      rfl
end
