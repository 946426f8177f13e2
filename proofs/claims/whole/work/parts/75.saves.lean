/-! sums and sets of what is taken, before and after -/
theorem q_itP {α β : Type} {f : Nat → α → α} {f' : Nat → β → β} {P : Nat → α → β → Prop} (N : Nat) (hf : ∀ t a b, t < N → P t a b → P (t + 1) (f t a) (f' t b)) : ∀ n t a b, n + t ≤ N → P t a b → P (n + t) (q_it f n t a) (q_it f' n t b) := by
  intro n
  induction n with
  | zero =>
    intro t a b _ h
    rw [Nat.zero_add]
    exact h
  | succ n ih =>
    intro t a b hn h
    have := ih (t + 1) _ _ (by omega) (hf t a b (by omega) h)
    rwa [show n + (t + 1) = n + 1 + t by omega] at this
theorem q_pair {α β : Type} (f : Nat → α → α) (g : Nat → β → β) : ∀ n t a b, q_it (fun t (p : α × β) => (f t p.1, g t p.2)) n t (a, b) = (q_it f n t a, q_it g n t b) := by
  intro n
  induction n with
  | zero => intro t a b; rfl
  | succ n ih => intro t a b; exact ih _ _ _
theorem q_grow {a c : Nat → Int32} (hM : q_M c = q_M a) (h8 : q_M a ≤ 8) (ha : ∀ t, t < 8 → a (47 + t) = 0 ∨ a (47 + t) = 1) (hc : ∀ t, t < 8 → c (47 + t) = 0 ∨ c (47 + t) = 1) (hm : q_tm a c) : q_sum a 47 < q_sum c 47 ↔ ¬ q_set c 47 = q_set a 47 := by
  have h := q_itP (f := fun t (p : Int32 × Int32) => (p.1 + a (47 + t), if a (47 + t) = 1 then p.2 ||| q_bit t else p.2)) (f' := fun t (p : Int32 × Int32) => (p.1 + c (47 + t), if c (47 + t) = 1 then p.2 ||| q_bit t else p.2)) (P := fun t p q => ∃ sa sc ya yc, sa ≤ t ∧ sc ≤ t ∧ ya < 2 ^ t ∧ yc < 2 ^ t ∧ p = (nI sa, nI ya) ∧ q = (nI sc, nI yc) ∧ ((sa = sc ∧ ya = yc) ∨ (sa < sc ∧ ya < yc))) 8 ?_ (q_M a) 0 (0, 0) (0, 0) (by omega) ⟨0, 0, 0, 0, Nat.le_refl _, Nat.le_refl _, by decide, by decide, rfl, rfl, Or.inl ⟨rfl, rfl⟩⟩
  · rw [q_pair (fun t x => x + a (47 + t)) (fun t y => if a (47 + t) = 1 then y ||| q_bit t else y), q_pair (fun t x => x + c (47 + t)) (fun t y => if c (47 + t) = 1 then y ||| q_bit t else y)] at h
    obtain ⟨sa, sc, ya, yc, b1, b2, b3, b4, e1, e2, hh⟩ := h
    have hp : 2 ^ (q_M a + 0) ≤ 2 ^ 8 := Nat.pow_le_pow_right (by decide) (by omega)
    have x1 : q_sum a 47 = nI sa := congrArg Prod.fst e1
    have x2 : q_set a 47 = nI ya := congrArg Prod.snd e1
    have x3 : q_sum c 47 = nI sc := by
      unfold q_sum
      rw [hM]
      exact congrArg Prod.fst e2
    have x4 : q_set c 47 = nI yc := by
      unfold q_set
      rw [hM]
      exact congrArg Prod.snd e2
    rw [x1, x2, x3, x4, nI_ltI (by omega) (by omega), nI_eq (by omega) (by omega)]
    omega
  · rintro t p q ht ⟨sa, sc, ya, yc, b1, b2, b3, b4, rfl, rfl, hh⟩
    have hz : ∀ s y, s ≤ t → y < 2 ^ t → (nI s + 0, if (0 : Int32) = 1 then nI y ||| q_bit t else nI y) = (nI s, nI y) := by
      intro s y _ _
      rw [Int32.add_zero, if_neg (by decide)]
    have ho : ∀ s y, s ≤ t → y < 2 ^ t → (nI s + 1, if (1 : Int32) = 1 then nI y ||| q_bit t else nI y) = (nI (s + 1), nI (y + 2 ^ t)) := by
      intro s y _ hy
      rw [nI_1, if_pos rfl, (p_popb t ht y hy).2]
    rcases ha t ht with h1 | h1
    · rcases hc t ht with h2 | h2
      · refine ⟨sa, sc, ya, yc, by omega, by omega, by rw [Nat.pow_succ]; omega, by rw [Nat.pow_succ]; omega, ?_, ?_, hh⟩
        · dsimp only
          rw [h1]
          exact hz _ _ b1 b3
        · dsimp only
          rw [h2]
          exact hz _ _ b2 b4
      · refine ⟨sa, sc + 1, ya, yc + 2 ^ t, by omega, by omega, by rw [Nat.pow_succ]; omega, by rw [Nat.pow_succ]; omega, ?_, ?_, ?_⟩
        · dsimp only
          rw [h1]
          exact hz _ _ b1 b3
        · dsimp only
          rw [h2]
          exact ho _ _ b2 b4
        · have := Nat.two_pow_pos t
          omega
    · have h2 := hm t ht h1
      refine ⟨sa + 1, sc + 1, ya + 2 ^ t, yc + 2 ^ t, by omega, by omega, by rw [Nat.pow_succ]; omega, by rw [Nat.pow_succ]; omega, ?_, ?_, by omega⟩
      · dsimp only
        rw [h1]
        exact ho _ _ b1 b3
      · dsimp only
        rw [h2]
        exact ho _ _ b2 b4
