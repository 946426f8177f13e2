/-! the reference's reads -/
theorem p_01 {v : Int32} (h : ∃ n, n ≤ 1 ∧ v = nI n) : v = 0 ∨ v = 1 := by
  obtain ⟨n, hn, rfl⟩ := h
  match n, hn with
  | 0, _ => exact Or.inl rfl
  | 1, _ => exact Or.inr rfl
theorem p_ix (w t : Nat) : (7 : Int32) + 8 * nI w + nI t = nI (7 + 8 * w + t) := by
  rw [show (7 : Int32) = nI 7 from rfl, show (8 : Int32) = nI 8 from rfl, pk_mul, nI_add, nI_add]
section
variable {g : ic_S}
theorem r_its {t w : Nat} (h : 7 + 8 * w + t < 73) : fX7_its (nI t) (nI w) g = some (g.1 3 (7 + 8 * w + t), g) := by
  unfold fX7_its
  rw [p_ix, p_in h (by decide), nI_clamp (Nat.lt_trans h (by decide)), p_gd, Nat.zero_add]
theorem r_its0 {t : Nat} (h : t < 8) : fX7_its (nI t) 0 g = some (g.1 3 (7 + t), g) := r_its (w := 0) (by omega)
theorem r_its1 {t : Nat} (h : t < 8) : fX7_its (nI t) 1 g = some (g.1 3 (15 + t), g) := r_its (w := 1) (by omega)
theorem r_its2 {t : Nat} (h : t < 8) : fX7_its (nI t) 2 g = some (g.1 3 (23 + t), g) := r_its (w := 2) (by omega)
theorem r_its3 {t : Nat} (h : t < 8) : fX7_its (nI t) 3 g = some (g.1 3 (31 + t), g) := r_its (w := 3) (by omega)
theorem r_its4 {t : Nat} (h : t < 8) : fX7_its (nI t) 4 g = some (g.1 3 (39 + t), g) := r_its (w := 4) (by omega)
theorem r_its5 {t : Nat} (h : t < 8) : fX7_its (nI t) 5 g = some (g.1 3 (47 + t), g) := r_its (w := 5) (by omega)
theorem r_its6 {t : Nat} (h : t < 8) : fX7_its (nI t) 6 g = some (g.1 3 (55 + t), g) := r_its (w := 6) (by omega)
theorem r_set {t w : Nat} (v : Int32) (h : 7 + 8 * w + t < 73) : fX7_sets (nI t) (nI w) v g = some (sB g 3 (rU (g.1 3) (7 + 8 * w + t) v)) := by
  unfold fX7_sets
  rw [p_ix, p_in h (by decide), nI_clamp (Nat.lt_trans h (by decide)), p_gd, Nat.zero_add, p_let, up_sB]
theorem r_set0 {t : Nat} (v : Int32) (h : t < 8) : fX7_sets (nI t) 0 v g = some (sB g 3 (rU (g.1 3) (7 + t) v)) := r_set (w := 0) v (by omega)
theorem r_set1 {t : Nat} (v : Int32) (h : t < 8) : fX7_sets (nI t) 1 v g = some (sB g 3 (rU (g.1 3) (15 + t) v)) := r_set (w := 1) v (by omega)
theorem r_set2 {t : Nat} (v : Int32) (h : t < 8) : fX7_sets (nI t) 2 v g = some (sB g 3 (rU (g.1 3) (23 + t) v)) := r_set (w := 2) v (by omega)
theorem r_set3 {t : Nat} (v : Int32) (h : t < 8) : fX7_sets (nI t) 3 v g = some (sB g 3 (rU (g.1 3) (31 + t) v)) := r_set (w := 3) v (by omega)
theorem r_set4 {t : Nat} (v : Int32) (h : t < 8) : fX7_sets (nI t) 4 v g = some (sB g 3 (rU (g.1 3) (39 + t) v)) := r_set (w := 4) v (by omega)
theorem r_set5 {t : Nat} (v : Int32) (h : t < 8) : fX7_sets (nI t) 5 v g = some (sB g 3 (rU (g.1 3) (47 + t) v)) := r_set (w := 5) v (by omega)
theorem r_set6 {t : Nat} (v : Int32) (h : t < 8) : fX7_sets (nI t) 6 v g = some (sB g 3 (rU (g.1 3) (55 + t) v)) := r_set (w := 6) v (by omega)
theorem r_tk {t : Nat} (ht : t < 8) : fX7_isTaken (nI t) g = some (if g.1 3 (47 + t) = 1 then 1 else 0, g) := by
  unfold fX7_isTaken
  rw [r_its5 ht, p_b2]
  split <;> rfl
theorem r_tk0 {t : Nat} (ht : t < 8) (h : g.1 3 (47 + t) = 0) : fX7_isTaken (nI t) g = some (0, g) := by
  rw [r_tk ht, h]
  rfl
theorem r_tk1 {t : Nat} (ht : t < 8) (h : g.1 3 (47 + t) = 1) : fX7_isTaken (nI t) g = some (1, g) := by
  rw [r_tk ht, h]
  rfl
theorem p_neg (x : Int32) : -x = 0 - x := by simp
theorem r_far {t : Nat} (ht : t < 8) : fX7_far (nI t) g = some (q_dist (g.1 3) (g.1 3 3) t, g) := by
  unfold fX7_far fX7_size q_dist q_abs
  rw [r_its1 ht, p_b2]
  show ic_b2 (if 0 ≤ g.1 3 (15 + t) - g.1 3 3 then _ else _) _ = _
  rw [p_neg]
  split <;> rfl
theorem r_lieL (x : Int32) (hk : q_ok (g.1 3)) : ∀ m k n y, k + m = q_M (g.1 3) → m < n → lX7_lying_4 x n y (nI k) g = some (q_it (q_lie1 (g.1 3) x) m k y, g) := by
  obtain ⟨h0, hM⟩ := q_ok0 hk
  intro m
  induction m with
  | zero =>
    intro k n y h1 h2
    obtain ⟨n, rfl⟩ : ∃ j, n = j + 1 := ⟨n - 1, by omega⟩
    obtain rfl : k = q_M (g.1 3) := by omega
    unfold lX7_lying_4
    rw [Nat.add_zero, h0, if_pos ((p_lem hM hM).mpr (Nat.le_refl _)), q_itz]
  | succ m ih =>
    intro k n y h1 h2
    obtain ⟨n, rfl⟩ : ∃ j, n = j + 1 := ⟨n - 1, by omega⟩
    have hk8 : k < 8 := by omega
    unfold lX7_lying_4
    rw [Nat.add_zero, h0, if_neg (fun h => absurd ((p_lem hM (Nat.le_of_lt hk8)).mp h) (by omega)), q_its, nI_1]
    unfold q_lie1
    rcases p_01 (q_okT hk hk8) with h | h
    · rw [r_tk0 hk8 h, p_b2, if_pos rfl, r_its1 hk8, p_b2]
      simp only [h, if_true]
      split
      · rw [p_let, ih (k + 1) n _ (by omega) (by omega)]
        rfl
      · rw [ih (k + 1) n _ (by omega) (by omega), Int32.or_zero]
        rfl
    · rw [r_tk1 hk8 h, p_b2, if_neg (by decide), ih (k + 1) n _ (by omega) (by omega), Int32.or_zero]
      have h5 : ¬ (1 : Int32) = 0 := by decide
      simp only [h, h5, if_false]
      rfl
theorem r_lie (x : Int32) (hk : q_ok (g.1 3)) : fX7_lying x g = some (q_lie (g.1 3) x, g) := by
  unfold fX7_lying
  have h := r_lieL x hk (q_M (g.1 3)) 0 1000 0 (by omega) (by have := (q_ok0 hk).2; omega)
  rw [nI_0] at h
  rw [h, p_b2]
  rfl
theorem r_onesL (x : Int32) : ∀ m k n a, k + m = 8 → m < n → lX7_ones_4 x n a (nI k) g = some (q_it (fun t a => a + ((x >>> (nI t &&& 31)) &&& 1)) m k a, g) := by
  intro m
  induction m with
  | zero =>
    intro k n y h1 h2
    obtain ⟨n, rfl⟩ : ∃ j, n = j + 1 := ⟨n - 1, by omega⟩
    obtain rfl : k = 8 := by omega
    unfold lX7_ones_4
    rw [if_pos p_y8, q_itz]
  | succ m ih =>
    intro k n y h1 h2
    obtain ⟨n, rfl⟩ : ∃ j, n = j + 1 := ⟨n - 1, by omega⟩
    unfold lX7_ones_4
    rw [if_neg (p_n8 (by omega)), p_let, nI_1, ih (k + 1) n _ (by omega) (by omega), q_its]
theorem p_pop : ∀ y, y < 256 → q_it (fun t a => a + ((nI y >>> (nI t &&& 31)) &&& 1)) 8 0 0 = q_pop (nI y) ∧ q_pop (nI y) = nI (q_pop (nI y)).toNatClampNeg ∧ (q_pop (nI y)).toNatClampNeg ≤ 8 := by decide +kernel
theorem r_ones {y : Nat} (h : y < 256) : fX7_ones (nI y) g = some (q_pop (nI y), g) := by
  unfold fX7_ones
  have h1 := r_onesL (g := g) (nI y) 8 0 1000 0 rfl (by decide)
  rw [nI_0] at h1
  rw [h1, p_b2, (p_pop y h).1]
end
theorem p_or : ∀ t, t < 8 → ∀ y, y < 256 → nI y ||| q_bit t = nI (y ||| 2 ^ t) ∧ y ||| 2 ^ t < 256 := by decide +kernel
theorem p_nd : ∀ t, t < 8 → ∀ y, y < 256 → nI y &&& (q_bit t ^^^ (-1)) = nI (y &&& (255 - 2 ^ t)) ∧ y &&& (255 - 2 ^ t) < 256 := by decide +kernel
theorem q_lieN {r : Nat → Int32} (hk : q_ok r) (x : Int32) : ∃ y, y < 256 ∧ q_lie r x = nI y := by
  unfold q_lie
  refine q_itI (P := fun a => ∃ y, y < 256 ∧ a = nI y) 8 ?_ _ _ _ (q_ok0 hk).2 ⟨0, by decide, rfl⟩
  rintro t a ht ⟨y, hy, rfl⟩
  unfold q_lie1
  split
  · split
    · exact ⟨_, (p_or t ht y hy).2, (p_or t ht y hy).1⟩
    · exact ⟨y, hy, rfl⟩
  · exact ⟨y, hy, rfl⟩
theorem q_numM {r : Nat → Int32} (hk : q_ok r) (x : Int32) {t : Nat} (ht : t < 8) : ∃ y, y < 256 ∧ q_lie r x &&& (q_bit t ^^^ (-1)) = nI y := by
  obtain ⟨y, hy, he⟩ := q_lieN hk x
  rw [he]
  exact ⟨_, (p_nd t ht y hy).2, (p_nd t ht y hy).1⟩
theorem q_numN {r : Nat → Int32} (hk : q_ok r) {t : Nat} (ht : t < 8) : ∃ y, y ≤ 8 ∧ q_num r t = nI y := by
  unfold q_num
  split
  · obtain ⟨y, hy, he⟩ := q_numM hk (r (15 + t)) ht
    rw [he]
    exact ⟨_, (p_pop y hy).2.2, (p_pop y hy).2.1⟩
  · exact ⟨0, by decide, rfl⟩
theorem p_dist : ∀ a, a ≤ 15 → ∀ b, b ≤ 15 → q_abs (nI a - nI b) = nI ((a - b) + (b - a)) := by decide +kernel
theorem q_distN {r : Nat → Int32} (hk : q_ok r) {c : Int32} (hc : ∃ n, n ≤ 15 ∧ c = nI n) {t : Nat} (ht : t < 8) : ∃ y, y ≤ 15 ∧ q_dist r c t = nI y := by
  obtain ⟨a, ha, he⟩ := q_okc hk ht
  obtain ⟨b, hb, rfl⟩ := hc
  unfold q_dist
  rw [he, p_dist a ha b hb]
  exact ⟨_, by omega, rfl⟩
theorem p_low : ∀ l, l ≤ 20 → ∀ d, d ≤ 15 → (if nI l - nI d < 0 then 0 else nI l - nI d) = nI (l - d) ∧ (if 0 ≤ nI l - nI d then (if nI l - nI d ≤ 99 then nI l - nI d else 99) else 0) = nI (l - d) := by decide +kernel
theorem p_le4 : ∀ w, w ≤ 43 → (if nI w - 4 < 0 then 0 else nI w - 4) = nI (w - 4) ∧ (if 0 ≤ nI w - 4 then (if nI w - 4 ≤ 99 then nI w - 4 else 99) else 0) = nI (w - 4) := by decide +kernel
theorem p_y2 (y : Nat) : 2 * nI y = nI (2 * y) := pk_mul 2 y
theorem p_y3 (y : Nat) : nI y + 3 = nI (y + 3) := nI_add y 3
theorem p_yd {y : Nat} (h : y ≤ 20) : nI y / 3 = nI (y / 3) := pk_div (d := 3) (Nat.lt_of_le_of_lt h (by decide)) (by decide) (by decide)
theorem q_flN (k : Int32) {l d u : Nat} (hl : l ≤ 20) (hd : d ≤ 15) (hu : u ≤ 8) : ∃ y, y ≤ 43 ∧ q_fl k (nI l) (nI d) (nI u) = nI y := by
  unfold q_fl
  rw [(p_low l hl d hd).1]
  have h := p_le4 (2 * (l - d)) (by omega)
  have h' := p_le4 (2 * (l - d) + 3) (by omega)
  have hd := p_yd (y := l - d) (by omega)
  simp only [p_y2, p_y3, Int32.add_zero, h, h', hd, nI_add]
  repeat' split
  all_goals exact ⟨_, by omega, rfl⟩
theorem q_feN {r : Nat → Int32} (hk : q_ok r) {c : Int32} (hc : ∃ n, n ≤ 15 ∧ c = nI n) {t : Nat} (ht : t < 8) : ∃ y, y ≤ 43 ∧ q_fe r c t = nI y := by
  unfold q_fe
  obtain ⟨l, hl, e1⟩ := q_ok6 hk
  obtain ⟨d, hd, e2⟩ := q_distN hk hc ht
  obtain ⟨u, hu, e3⟩ := q_numN hk ht
  rw [e1, e2, e3]
  exact q_flN _ hl hd hu
theorem p_hd (x a b : Int32) (g : ic_S) : fX7_held x a b g = some (if a ≤ x then (if x ≤ b then x else b) else a, g) := by
  unfold fX7_held
  repeat' (first | rfl | split)
section
variable {g : ic_S}
theorem r_fe {t : Nat} (ht : t < 8) (hk : q_ok (g.1 3)) : fX7_feels (nI t) g = some (q_fe (g.1 3) (g.1 3 3) t, g) := by
  obtain ⟨l, hl, e1⟩ := q_ok6 hk
  obtain ⟨d, hd, e2⟩ := q_distN hk (q_ok3 hk) ht
  obtain ⟨z, hz, e4⟩ := q_numM hk (g.1 3 (15 + t)) ht
  unfold q_bit at e4
  have h := p_le4 (2 * (l - d)) (by omega)
  have h' := p_le4 (2 * (l - d) + 3) (by omega)
  unfold fX7_feels
  rw [r_far ht, p_b2]
  unfold q_fe q_num q_bit
  show ic_b2 (fX7_held (g.1 3 6 - q_dist (g.1 3) (g.1 3 3) t) 0 99 g) _ = _
  rw [e1, e2, p_hd, (p_low l hl d hd).2, p_b2]
  unfold q_fl
  rw [(p_low l hl d hd).1]
  simp only [r_its0 ht, r_its1 ht, r_lie _ hk, p_hd, e4, r_ones hz, p_b2, p_y2, p_y3, Int32.add_zero, h, h']
  repeat' (first | rfl | split)
  all_goals exact congrArg (fun x => some (x, g)) e1
theorem r_st {t : Nat} (ht : t < 8) : fX7_steps (nI t) g = some (q_st (g.1 3) t, g) := by
  unfold fX7_steps q_st
  simp only [r_its0 ht, r_its2 ht, p_b2]
  repeat' (first | rfl | split)
theorem r_lk {t : Nat} (ht : t < 8) : fX7_isLiked (nI t) g = some (q_lk (g.1 3) t, g) := by
  unfold fX7_isLiked q_lk
  simp only [r_its0 ht, r_its2 ht, r_its3 ht, r_its6 ht, p_b2, ← Int32.not_le, ite_not]
  repeat' (first | rfl | split)
theorem r_re {t : Nat} (ht : t < 8) (hk : q_ok (g.1 3)) : fX7_rests (nI t) g = some (q_re (g.1 3) t, g) := by
  obtain ⟨n, hn, he⟩ := q_okk hk ht
  unfold fX7_rests q_re
  simp only [r_its0 ht, p_b2, he]
  match n, hn with
  | 0, _ => rfl
  | 1, _ => rfl
  | 2, _ => rfl
  | 3, _ => rfl
  | 4, _ => rfl
  | 5, _ => rfl
  | 6, _ => rfl
end
