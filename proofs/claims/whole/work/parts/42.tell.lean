/-! what is told of things, the sums and sets, on both sides -/
theorem q_itJ {α : Type} {f : Nat → α → α} {P : Nat → α → Prop} (N : Nat) (hf : ∀ t a, t < N → P t a → P (t + 1) (f t a)) : ∀ n t a, n + t ≤ N → P t a → P (n + t) (q_it f n t a) := by
  intro n
  induction n with
  | zero =>
    intro t a _ h
    rw [Nat.zero_add]
    exact h
  | succ n ih =>
    intro t a hn h
    have := ih (t + 1) _ (by omega) (hf t a (by omega) h)
    rwa [show n + (t + 1) = n + 1 + t by omega] at this
def q_t4 (r : Nat → Int32) (t : Nat) (x : Int32) : Int32 := if x = 0 then r (7 + t) else if x = 1 then r (15 + t) else if x = 2 then r (23 + t) else if x = 3 then r (31 + t) else if x = 4 then r (39 + t) else if x = 5 then r (47 + t) else if x = 6 then r (55 + t) else if x = 8 then q_st r t else if x = 9 then q_lk r t else if x = 10 then q_re r t else -1
def q_told (r : Nat → Int32) (t : Nat) (x : Int32) : Int32 := if x = 7 then q_fe r (r 3) t else if x = 11 then q_dist r (r 3) t else q_t4 r t x
def q_sum (r : Nat → Int32) (b : Nat) : Int32 := q_it (fun t a => a + r (b + t)) (q_M r) 0 0
def q_set (r : Nat → Int32) (b : Nat) : Int32 := q_it (fun t y => if r (b + t) = 1 then y ||| q_bit t else y) (q_M r) 0 0
def q_hvy (r : Nat → Int32) : Int32 := q_it (fun t a => if r (47 + t) = 0 then a else a + r (23 + t)) (q_M r) 0 0
def q_sg1 (r : Nat → Int32) (t : Nat) (p : Int32 × Int32) : Int32 × Int32 := if r (47 + t) = 0 then (if q_fe r (r 3) t ≤ p.2 then p else (nI t, q_fe r (r 3) t)) else p
def q_sg (r : Nat → Int32) : Int32 := (q_it (q_sg1 r) (q_M r) 0 (-1, -1)).1
def q_ce1 (r : Nat → Int32) (t : Nat) (y : Int32) : Int32 := if q_lie r (nI t) = 0 then y else y ||| q_bit t
def q_ces (r : Nat → Int32) : Int32 := q_it (q_ce1 r) 16 0 0
theorem p_b01 {v : Int32} {α : Type} (f : Int32 → α) (h : v = 0 ∨ v = 1) : (if v = 0 then f 0 else f 1) = f v := by
  rcases h with rfl | rfl <;> rfl
theorem q_lk01 (r : Nat → Int32) (t : Nat) : q_lk r t = 0 ∨ q_lk r t = 1 := by
  unfold q_lk
  repeat' split
  all_goals first | exact Or.inl rfl | exact Or.inr rfl
section
variable {s t : Nat} {g : ic_S}
theorem c_t4 (hs : s < 3) (ht : t < 8) (hk : q_ok (g.1 s)) (x : Int32) : fX4_told s t x g = some (q_t4 (g.1 s) t x, g) := by
  unfold fX4_told q_t4
  have h4 := p_b01 (fun v => some (v, g)) (p_01 (q_okH hk ht))
  have h5 := p_b01 (fun v => some (v, g)) (p_01 (q_okT hk ht))
  have h9 := p_b01 (fun v => some (v, g)) (q_lk01 (g.1 s) t)
  simp only [p_bt hs, p_bt ht, c_st hs ht, c_lk hs ht, c_re hs ht, p_b2, p_gd, h4, h5, h9]
  repeat' (first | rfl | split)
theorem c_thing (hs : s < 3) (hk : q_ok (g.1 s)) (ht : t < q_M (g.1 s)) : fX2_thingAt s (nI t) g = some (some (s, t), g) := by
  obtain ⟨h0, hM⟩ := q_ok0 hk
  unfold fX2_thingAt
  have ht8 : t < 8 := by omega
  rw [p_bt hs, p_gd, if_neg (nI_pos (by omega)), h0, if_neg (nI_ge ht (by omega)), if_neg (p_n8 ht8), p_in8 ht8, p_gd, p_tn ht8]
theorem c_thingN (hs : s < 3) (x : Int32) (h : x < 0 ∨ g.1 s 0 ≤ x) : fX2_thingAt s x g = some (none, g) := by
  unfold fX2_thingAt
  rw [p_bt hs, p_gd]
  rcases h with h | h
  · rw [if_pos h]
  · rw [if_pos h, ite_self]
theorem c_told (hs : s < 3) (hk : q_ok (g.1 s)) (ht : t < q_M (g.1 s)) (x : Int32) : fX2_told s (nI t) x g = some (q_told (g.1 s) t x, g) := by
  have ht8 : t < 8 := by have := (q_ok0 hk).2; omega
  unfold fX2_told q_told
  rw [p_bt hs, p_gd, c_thing hs hk ht, p_b2, p_mos, p_vk3 hs ht8, p_gd, c_fe hs ht8 _ hk, p_b2, c_t4 hs ht8 hk, p_b2]
  repeat' (first | rfl | split)
theorem c_toldN (hs : s < 3) (x w : Int32) (h : x < 0 ∨ g.1 s 0 ≤ x) : fX2_told s x w g = some (-1, g) := by
  unfold fX2_told
  rw [p_bt hs, p_gd, c_thingN hs x h, p_b2, p_mon]
theorem c_sumL (hs : s < 3) (hk : q_ok (g.1 s)) (x : Int32) : ∀ m k n y, k + m = 8 → m < n → lX2_sumOf_14 s x n y (nI k) g = some (q_it (fun t a => a + q_t4 (g.1 s) t x) (q_M (g.1 s) - k) k y, g) := by
  obtain ⟨h0, hM⟩ := q_ok0 hk
  intro m
  induction m with
  | zero =>
    intro k n y h1 h2
    obtain ⟨n, rfl⟩ : ∃ j, n = j + 1 := ⟨n - 1, by omega⟩
    obtain rfl : k = 8 := by omega
    unfold lX2_sumOf_14
    rw [if_pos p_y8, q_itN _ hM]
  | succ m ih =>
    intro k n y h1 h2
    obtain ⟨n, rfl⟩ : ∃ j, n = j + 1 := ⟨n - 1, by omega⟩
    have hk8 : k < 8 := by omega
    unfold lX2_sumOf_14
    rw [if_neg (p_n8 hk8), p_in8 hk8, p_gd, p_tn hk8, p_on, h0, nI_1]
    by_cases hMk : q_M (g.1 s) ≤ k
    · rw [if_pos ((p_lem hM (Nat.le_of_lt hk8)).mpr hMk), ih (k + 1) n _ (by omega) (by omega), q_itN _ hMk, q_itN _ (Nat.le_succ_of_le hMk)]
    · rw [if_neg (fun h => hMk ((p_lem hM (Nat.le_of_lt hk8)).mp h)), q_itM _ (Nat.lt_of_not_le hMk)]
      rw [c_t4 hs hk8 hk, p_b2, ih (k + 1) n _ (by omega) (by omega)]
theorem c_setL (hs : s < 3) (hk : q_ok (g.1 s)) (x : Int32) : ∀ m k n y, k + m = 8 → m < n → lX2_thingsWith_16 s x 1 n y (nI k) g = some (q_it (fun t y => if q_t4 (g.1 s) t x = 1 then y ||| q_bit t else y) (q_M (g.1 s) - k) k y, g) := by
  obtain ⟨h0, hM⟩ := q_ok0 hk
  intro m
  induction m with
  | zero =>
    intro k n y h1 h2
    obtain ⟨n, rfl⟩ : ∃ j, n = j + 1 := ⟨n - 1, by omega⟩
    obtain rfl : k = 8 := by omega
    unfold lX2_thingsWith_16
    rw [if_pos p_y8, q_itN _ hM]
  | succ m ih =>
    intro k n y h1 h2
    obtain ⟨n, rfl⟩ : ∃ j, n = j + 1 := ⟨n - 1, by omega⟩
    have hk8 : k < 8 := by omega
    unfold lX2_thingsWith_16
    rw [if_neg (p_n8 hk8), p_in8 hk8, p_gd, p_tn hk8, p_on, h0, nI_1]
    by_cases hMk : q_M (g.1 s) ≤ k
    · rw [if_pos ((p_lem hM (Nat.le_of_lt hk8)).mpr hMk), ih (k + 1) n _ (by omega) (by omega), q_itN _ hMk, q_itN _ (Nat.le_succ_of_le hMk)]
    · rw [if_neg (fun h => hMk ((p_lem hM (Nat.le_of_lt hk8)).mp h)), q_itM _ (Nat.lt_of_not_le hMk)]
      rw [c_t4 hs hk8 hk, p_b2]
      split
      · rw [p_let, ih (k + 1) n _ (by omega) (by omega)]
        rfl
      · rw [ih (k + 1) n _ (by omega) (by omega)]
theorem c_hvyL (hs : s < 3) (hk : q_ok (g.1 s)) : ∀ m k n y, k + m = 8 → m < n → lX2_takenHeavy_13 s  n y (nI k) g = some (q_it (fun t a => if g.1 s (47 + t) = 0 then a else a + g.1 s (23 + t)) (q_M (g.1 s) - k) k y, g) := by
  obtain ⟨h0, hM⟩ := q_ok0 hk
  intro m
  induction m with
  | zero =>
    intro k n y h1 h2
    obtain ⟨n, rfl⟩ : ∃ j, n = j + 1 := ⟨n - 1, by omega⟩
    obtain rfl : k = 8 := by omega
    unfold lX2_takenHeavy_13
    rw [if_pos p_y8, q_itN _ hM]
  | succ m ih =>
    intro k n y h1 h2
    obtain ⟨n, rfl⟩ : ∃ j, n = j + 1 := ⟨n - 1, by omega⟩
    have hk8 : k < 8 := by omega
    unfold lX2_takenHeavy_13
    rw [if_neg (p_n8 hk8), p_in8 hk8, p_gd, p_tn hk8, p_on, h0, nI_1]
    by_cases hMk : q_M (g.1 s) ≤ k
    · rw [if_pos ((p_lem hM (Nat.le_of_lt hk8)).mpr hMk), ih (k + 1) n _ (by omega) (by omega), q_itN _ hMk, q_itN _ (Nat.le_succ_of_le hMk)]
    · rw [if_neg (fun h => hMk ((p_lem hM (Nat.le_of_lt hk8)).mp h)), q_itM _ (Nat.lt_of_not_le hMk)]
      split
      · rw [ih (k + 1) n _ (by omega) (by omega)]
      · rw [p_let, ih (k + 1) n _ (by omega) (by omega)]
theorem c_sgL (hs : s < 3) (hk : q_ok (g.1 s)) : ∀ m k n y z, k + m = 8 → m < n → lX2_mostFeeling_16 s  n y z (nI k) g = some ((q_it (q_sg1 (g.1 s)) (q_M (g.1 s) - k) k (y, z)).1, g) := by
  obtain ⟨h0, hM⟩ := q_ok0 hk
  intro m
  induction m with
  | zero =>
    intro k n y z h1 h2
    obtain ⟨n, rfl⟩ : ∃ j, n = j + 1 := ⟨n - 1, by omega⟩
    obtain rfl : k = 8 := by omega
    unfold lX2_mostFeeling_16
    rw [if_pos p_y8, q_itN _ hM]
  | succ m ih =>
    intro k n y z h1 h2
    obtain ⟨n, rfl⟩ : ∃ j, n = j + 1 := ⟨n - 1, by omega⟩
    have hk8 : k < 8 := by omega
    unfold lX2_mostFeeling_16
    rw [if_neg (p_n8 hk8), p_in8 hk8, p_gd, p_tn hk8, p_on, h0, nI_1]
    by_cases hMk : q_M (g.1 s) ≤ k
    · rw [if_pos ((p_lem hM (Nat.le_of_lt hk8)).mpr hMk), ih (k + 1) n _ _ (by omega) (by omega), q_itN _ hMk, q_itN _ (Nat.le_succ_of_le hMk)]
    · rw [if_neg (fun h => hMk ((p_lem hM (Nat.le_of_lt hk8)).mp h)), q_itM _ (Nat.lt_of_not_le hMk)]
      rw [c_fe hs hk8 _ hk, p_b2]
      unfold q_sg1
      by_cases h5 : g.1 s (47 + k) = 0
      · rw [if_pos h5, if_pos h5]
        by_cases h6 : q_fe (g.1 s) (g.1 s 3) k ≤ z
        · rw [if_pos h6, if_pos h6, ih (k + 1) n _ _ (by omega) (by omega)]
          rfl
        · rw [if_neg h6, if_neg h6, p_let, c_fe hs hk8 _ hk, p_b2, ih (k + 1) n _ _ (by omega) (by omega)]
          rfl
      · rw [if_neg h5, if_neg h5, ih (k + 1) n _ _ (by omega) (by omega)]
        rfl
theorem c_sum3 (hs : s < 3) (hk : q_ok (g.1 s)) : fX2_sumOf s 3 g = some (q_sum (g.1 s) 31, g) := by
  unfold fX2_sumOf
  rw [p_bt hs, p_gd, show (0 : Int32) = nI 0 from nI_0.symm, c_sumL hs hk 3 8 0 1000 _ rfl (by decide), p_b2]
  rfl
theorem c_sum5 (hs : s < 3) (hk : q_ok (g.1 s)) : fX2_sumOf s 5 g = some (q_sum (g.1 s) 47, g) := by
  unfold fX2_sumOf
  rw [p_bt hs, p_gd, show (0 : Int32) = nI 0 from nI_0.symm, c_sumL hs hk 5 8 0 1000 _ rfl (by decide), p_b2]
  rfl
theorem c_sum6 (hs : s < 3) (hk : q_ok (g.1 s)) : fX2_sumOf s 6 g = some (q_sum (g.1 s) 55, g) := by
  unfold fX2_sumOf
  rw [p_bt hs, p_gd, show (0 : Int32) = nI 0 from nI_0.symm, c_sumL hs hk 6 8 0 1000 _ rfl (by decide), p_b2]
  rfl
theorem c_set4 (hs : s < 3) (hk : q_ok (g.1 s)) : fX2_thingsWith s 4 1 g = some (q_set (g.1 s) 39, g) := by
  unfold fX2_thingsWith
  rw [p_bt hs, p_gd, show (0 : Int32) = nI 0 from nI_0.symm, c_setL hs hk 4 8 0 1000 _ rfl (by decide), p_b2]
  rfl
theorem c_set5 (hs : s < 3) (hk : q_ok (g.1 s)) : fX2_thingsWith s 5 1 g = some (q_set (g.1 s) 47, g) := by
  unfold fX2_thingsWith
  rw [p_bt hs, p_gd, show (0 : Int32) = nI 0 from nI_0.symm, c_setL hs hk 5 8 0 1000 _ rfl (by decide), p_b2]
  rfl
theorem c_hvy (hs : s < 3) (hk : q_ok (g.1 s)) : fX2_takenHeavy s g = some (q_hvy (g.1 s), g) := by
  unfold fX2_takenHeavy
  rw [p_bt hs, p_gd, show (0 : Int32) = nI 0 from nI_0.symm, c_hvyL hs hk 8 0 1000 _ rfl (by decide), p_b2]
  rfl
theorem c_sg (hs : s < 3) (hk : q_ok (g.1 s)) : fX2_mostFeeling s g = some (q_sg (g.1 s), g) := by
  unfold fX2_mostFeeling
  rw [p_bt hs, p_gd, show (0 : Int32) = nI 0 from nI_0.symm, c_sgL hs hk 8 0 1000 _ _ rfl (by decide), p_b2]
  rfl
theorem c_cesL (hs : s < 3) (hk : q_ok (g.1 s)) : ∀ m k n y, k + m = 16 → m < n → lX2_cellsInUse_4 s n y (nI k) g = some (q_it (q_ce1 (g.1 s)) m k y, g) := by
  intro m
  induction m with
  | zero =>
    intro k n y h1 h2
    obtain ⟨n, rfl⟩ : ∃ j, n = j + 1 := ⟨n - 1, by omega⟩
    obtain rfl : k = 16 := by omega
    unfold lX2_cellsInUse_4
    rw [if_pos (by decide), q_itz]
  | succ m ih =>
    intro k n y h1 h2
    obtain ⟨n, rfl⟩ : ∃ j, n = j + 1 := ⟨n - 1, by omega⟩
    unfold lX2_cellsInUse_4
    rw [show (16 : Int32) = nI 16 from rfl, if_neg (nI_ge (by omega) (by decide)), c_lie hs _ hk, p_b2, q_its, nI_1]
    unfold q_ce1
    split
    · rw [ih (k + 1) n _ (by omega) (by omega)]
      rfl
    · rw [p_let, ih (k + 1) n _ (by omega) (by omega)]
      rfl
theorem c_ces (hs : s < 3) (hk : q_ok (g.1 s)) : fX2_cellsInUse s g = some (q_ces (g.1 s), g) := by
  unfold fX2_cellsInUse
  rw [p_bt hs, p_gd, show (0 : Int32) = nI 0 from nI_0.symm, c_cesL hs hk 16 0 1000 _ rfl (by decide), p_b2]
  rfl
/-! the reference -/
theorem r_sumL (hk : q_ok (g.1 3)) {w : Nat} (hw : w < 7) : ∀ m k n y, k + m = q_M (g.1 3) → m < n → lX7_sumOf_4 (nI w) n y (nI k) g = some (q_it (fun t a => a + g.1 3 (7 + 8 * w + t)) m k y, g) := by
  obtain ⟨h0, hM⟩ := q_ok0 hk
  intro m
  induction m with
  | zero =>
    intro k n y h1 h2
    obtain ⟨n, rfl⟩ : ∃ j, n = j + 1 := ⟨n - 1, by omega⟩
    obtain rfl : k = q_M (g.1 3) := by omega
    unfold lX7_sumOf_4
    rw [Nat.add_zero, h0, if_pos ((p_lem hM hM).mpr (Nat.le_refl _)), q_itz]
  | succ m ih =>
    intro k n y h1 h2
    obtain ⟨n, rfl⟩ : ∃ j, n = j + 1 := ⟨n - 1, by omega⟩
    have hk8 : k < 8 := by omega
    unfold lX7_sumOf_4
    rw [Nat.add_zero, h0, if_neg (fun h => absurd ((p_lem hM (Nat.le_of_lt hk8)).mp h) (by omega)), q_its, nI_1]
    rw [r_its (by omega), p_b2, ih (k + 1) n _ (by omega) (by omega)]
theorem p_shz : ∀ k, k < 8 → (0 : Int32) <<< (nI k &&& 31) = 0 := by decide +kernel
theorem r_setL (hk : q_ok (g.1 3)) {w : Nat} (hw : w < 7) (h01 : ∀ t, t < 8 → g.1 3 (7 + 8 * w + t) = 0 ∨ g.1 3 (7 + 8 * w + t) = 1) : ∀ m k n y, k + m = q_M (g.1 3) → m < n → lX7_setOf_4 (nI w) n y (nI k) g = some (q_it (fun t y => if g.1 3 (7 + 8 * w + t) = 1 then y ||| q_bit t else y) m k y, g) := by
  obtain ⟨h0, hM⟩ := q_ok0 hk
  intro m
  induction m with
  | zero =>
    intro k n y h1 h2
    obtain ⟨n, rfl⟩ : ∃ j, n = j + 1 := ⟨n - 1, by omega⟩
    obtain rfl : k = q_M (g.1 3) := by omega
    unfold lX7_setOf_4
    rw [Nat.add_zero, h0, if_pos ((p_lem hM hM).mpr (Nat.le_refl _)), q_itz]
  | succ m ih =>
    intro k n y h1 h2
    obtain ⟨n, rfl⟩ : ∃ j, n = j + 1 := ⟨n - 1, by omega⟩
    have hk8 : k < 8 := by omega
    unfold lX7_setOf_4
    rw [Nat.add_zero, h0, if_neg (fun h => absurd ((p_lem hM (Nat.le_of_lt hk8)).mp h) (by omega)), q_its, nI_1]
    rw [r_its (by omega), p_b2, p_let]
    rcases h01 k hk8 with h | h
    · rw [h, if_neg (by decide), ih (k + 1) n _ (by omega) (by omega), p_shz k hk8, Int32.or_zero]
    · rw [h, if_pos rfl, ih (k + 1) n _ (by omega) (by omega)]
      rfl
theorem r_hvyL (hk : q_ok (g.1 3)) : ∀ m k n y, k + m = q_M (g.1 3) → m < n → lX7_heavyTaken_4  n y (nI k) g = some (q_it (fun t a => if g.1 3 (47 + t) = 0 then a else a + g.1 3 (23 + t)) m k y, g) := by
  obtain ⟨h0, hM⟩ := q_ok0 hk
  intro m
  induction m with
  | zero =>
    intro k n y h1 h2
    obtain ⟨n, rfl⟩ : ∃ j, n = j + 1 := ⟨n - 1, by omega⟩
    obtain rfl : k = q_M (g.1 3) := by omega
    unfold lX7_heavyTaken_4
    rw [Nat.add_zero, h0, if_pos ((p_lem hM hM).mpr (Nat.le_refl _)), q_itz]
  | succ m ih =>
    intro k n y h1 h2
    obtain ⟨n, rfl⟩ : ∃ j, n = j + 1 := ⟨n - 1, by omega⟩
    have hk8 : k < 8 := by omega
    unfold lX7_heavyTaken_4
    rw [Nat.add_zero, h0, if_neg (fun h => absurd ((p_lem hM (Nat.le_of_lt hk8)).mp h) (by omega)), q_its, nI_1]
    rcases p_01 (q_okT hk hk8) with h | h
    · rw [r_tk0 hk8 h, p_b2, if_pos rfl, if_pos h, ih (k + 1) n _ (by omega) (by omega), Int32.add_zero]
    · rw [r_tk1 hk8 h, p_b2, if_neg (by decide), if_neg (by rw [h]; decide), r_its2 hk8, p_b2, ih (k + 1) n _ (by omega) (by omega)]
theorem r_sum3 (hk : q_ok (g.1 3)) : fX7_sumOf 3 g = some (q_sum (g.1 3) 31, g) := by
  unfold fX7_sumOf
  have h := r_sumL hk (w := 3) (by decide) (q_M (g.1 3)) 0 1000 0 (by omega) (by have := (q_ok0 hk).2; omega)
  rw [nI_0] at h
  rw [show (3 : Int32) = nI 3 from rfl, h, p_b2]
  rfl
theorem r_sum6 (hk : q_ok (g.1 3)) : fX7_sumOf 6 g = some (q_sum (g.1 3) 55, g) := by
  unfold fX7_sumOf
  have h := r_sumL hk (w := 6) (by decide) (q_M (g.1 3)) 0 1000 0 (by omega) (by have := (q_ok0 hk).2; omega)
  rw [nI_0] at h
  rw [show (6 : Int32) = nI 6 from rfl, h, p_b2]
  rfl
theorem r_set_4 (hk : q_ok (g.1 3)) : fX7_setOf 4 g = some (q_set (g.1 3) 39, g) := by
  unfold fX7_setOf
  have h := r_setL hk (w := 4) (by decide) (fun t ht => p_01 (q_okH hk ht)) (q_M (g.1 3)) 0 1000 0 (by omega) (by have := (q_ok0 hk).2; omega)
  rw [nI_0] at h
  rw [show (4 : Int32) = nI 4 from rfl, h, p_b2]
  rfl
theorem r_set_5 (hk : q_ok (g.1 3)) : fX7_setOf 5 g = some (q_set (g.1 3) 47, g) := by
  unfold fX7_setOf
  have h := r_setL hk (w := 5) (by decide) (fun t ht => p_01 (q_okT hk ht)) (q_M (g.1 3)) 0 1000 0 (by omega) (by have := (q_ok0 hk).2; omega)
  rw [nI_0] at h
  rw [show (5 : Int32) = nI 5 from rfl, h, p_b2]
  rfl
theorem r_hvy (hk : q_ok (g.1 3)) : fX7_heavyTaken g = some (q_hvy (g.1 3), g) := by
  unfold fX7_heavyTaken
  have h := r_hvyL hk (q_M (g.1 3)) 0 1000 0 (by omega) (by have := (q_ok0 hk).2; omega)
  rw [nI_0] at h
  rw [h, p_b2]
  rfl
theorem r_cesL (hk : q_ok (g.1 3)) : ∀ m k n y, k + m = 16 → m < n → lX7_cells_4 n y (nI k) g = some (q_it (q_ce1 (g.1 3)) m k y, g) := by
  intro m
  induction m with
  | zero =>
    intro k n y h1 h2
    obtain ⟨n, rfl⟩ : ∃ j, n = j + 1 := ⟨n - 1, by omega⟩
    obtain rfl : k = 16 := by omega
    unfold lX7_cells_4
    rw [if_pos (by decide), q_itz]
  | succ m ih =>
    intro k n y h1 h2
    obtain ⟨n, rfl⟩ : ∃ j, n = j + 1 := ⟨n - 1, by omega⟩
    unfold lX7_cells_4
    rw [show (16 : Int32) = nI 16 from rfl, if_neg (nI_ge (by omega) (by decide)), r_lie _ hk, p_b2, q_its, nI_1]
    unfold q_ce1
    split
    · rw [ih (k + 1) n _ (by omega) (by omega), Int32.or_zero]
      rfl
    · rw [p_let, ih (k + 1) n _ (by omega) (by omega)]
      rfl
theorem r_ces (hk : q_ok (g.1 3)) : fX7_cells g = some (q_ces (g.1 3), g) := by
  unfold fX7_cells
  rw [show (0 : Int32) = nI 0 from nI_0.symm, r_cesL hk 16 0 1000 _ rfl (by decide), p_b2]
  rfl
/-- the best so far and what it feels -/
def q_sgP (r : Nat → Int32) (x : Int32) (p : Int32 × Int32) : Prop := p.1 = x ∧ (x = -1 ∧ p.2 = -1 ∨ ∃ j, j < 8 ∧ x = nI j ∧ p.2 = q_fe r (r 3) j)
theorem r_sgL (hk : q_ok (g.1 3)) : ∀ m k n y p, k + m = q_M (g.1 3) → m < n → q_sgP (g.1 3) y p → lX7_strongest_4 n y (nI k) g = some ((q_it (q_sg1 (g.1 3)) m k p).1, g) := by
  obtain ⟨h0, hM⟩ := q_ok0 hk
  intro m
  induction m with
  | zero =>
    intro k n y p h1 h2 hp
    obtain ⟨n, rfl⟩ : ∃ j, n = j + 1 := ⟨n - 1, by omega⟩
    obtain rfl : k = q_M (g.1 3) := by omega
    unfold lX7_strongest_4
    rw [Nat.add_zero, h0, if_pos ((p_lem hM hM).mpr (Nat.le_refl _)), q_itz, hp.1]
  | succ m ih =>
    intro k n y p h1 h2 hp
    obtain ⟨n, rfl⟩ : ∃ j, n = j + 1 := ⟨n - 1, by omega⟩
    have hk8 : k < 8 := by omega
    unfold lX7_strongest_4
    rw [Nat.add_zero, h0, if_neg (fun h => absurd ((p_lem hM (Nat.le_of_lt hk8)).mp h) (by omega)), q_its, nI_1]
    rcases p_01 (q_okT hk hk8) with h | h
    · have e : q_sg1 (g.1 3) k p = if q_fe (g.1 3) (g.1 3 3) k ≤ p.2 then p else (nI k, q_fe (g.1 3) (g.1 3 3) k) := by
        unfold q_sg1
        rw [if_pos h]
      rw [r_tk0 hk8 h, p_b2, if_pos rfl, e]
      obtain ⟨f, hf, ef⟩ := q_feN hk (q_ok3 hk) hk8
      obtain ⟨hp1, ⟨rfl, hp2⟩ | ⟨j, hj, rfl, hp2⟩⟩ := hp
      · have : ¬ nI f ≤ (-1 : Int32) := by
          intro h
          have := Int32.le_iff_toInt_le.mp h
          rw [nI_toInt (by omega)] at this
          have h1 : (-1 : Int32).toInt = -1 := by decide
          omega
        rw [if_pos (by decide), hp2, ef, if_neg this]
        exact ih (k + 1) n _ _ (by omega) (by omega) ⟨rfl, Or.inr ⟨k, hk8, rfl, ef.symm⟩⟩
      · rw [if_neg (nI_pos (by omega)), r_fe hk8 hk, p_b2, r_fe hj hk, p_b2, hp2]
        split
        · exact ih (k + 1) n _ _ (by omega) (by omega) ⟨hp1, Or.inr ⟨j, hj, rfl, hp2⟩⟩
        · exact ih (k + 1) n _ _ (by omega) (by omega) ⟨rfl, Or.inr ⟨k, hk8, rfl, rfl⟩⟩
    · have e : q_sg1 (g.1 3) k p = p := by
        unfold q_sg1
        rw [if_neg (by rw [h]; decide)]
      rw [r_tk1 hk8 h, p_b2, if_neg (by decide), e]
      exact ih (k + 1) n _ _ (by omega) (by omega) hp
theorem r_sg (hk : q_ok (g.1 3)) : fX7_strongest g = some (q_sg (g.1 3), g) := by
  unfold fX7_strongest
  have h := r_sgL hk (q_M (g.1 3)) 0 1000 (-1) (-1, -1) (by omega) (by have := (q_ok0 hk).2; omega) ⟨rfl, Or.inl ⟨rfl, rfl⟩⟩
  rw [nI_0] at h
  rw [h, p_b2]
  rfl
end
theorem p_popb : ∀ t, t < 8 → ∀ y, y < 2 ^ t → q_pop (nI y ||| q_bit t) = q_pop (nI y) + 1 ∧ nI y ||| q_bit t = nI (y + 2 ^ t) := by decide +kernel
theorem q_setP {r : Nat → Int32} (b : Nat) (hM : q_M r ≤ 8) (h01 : ∀ t, t < 8 → r (b + t) = 0 ∨ r (b + t) = 1) : ∃ y, y < 256 ∧ q_set r b = nI y ∧ q_sum r b = q_pop (nI y) := by
  have h := q_itJ (f := fun t (p : Int32 × Int32) => (p.1 + r (b + t), if r (b + t) = 1 then p.2 ||| q_bit t else p.2)) (P := fun t p => ∃ y, y < 2 ^ t ∧ p.2 = nI y ∧ p.1 = q_pop (nI y)) 8 ?_ (q_M r) 0 (0, 0) (by omega) ⟨0, by decide, rfl, rfl⟩
  · have e : ∀ n t a c, q_it (fun t (p : Int32 × Int32) => (p.1 + r (b + t), if r (b + t) = 1 then p.2 ||| q_bit t else p.2)) n t (a, c) = (q_it (fun t a => a + r (b + t)) n t a, q_it (fun t y => if r (b + t) = 1 then y ||| q_bit t else y) n t c) := by
      intro n
      induction n with
      | zero => intro t a c; rfl
      | succ n ih => intro t a c; exact ih _ _ _
    rw [e] at h
    obtain ⟨y, hy, e1, e2⟩ := h
    refine ⟨y, Nat.lt_of_lt_of_le hy ?_, e1, e2⟩
    exact Nat.pow_le_pow_right (n := 2) (by decide) (show q_M r + 0 ≤ 8 by omega)
  · rintro t ⟨a, c⟩ ht ⟨y, hy, e1, e2⟩
    obtain rfl : c = nI y := e1
    obtain rfl : a = q_pop (nI y) := e2
    rcases h01 t ht with h | h
    · refine ⟨y, ?_, ?_, ?_⟩
      · rw [Nat.pow_succ]
        omega
      · show (if r (b + t) = 1 then _ else _) = _
        rw [h, if_neg (by decide)]
      · show q_pop (nI y) + r (b + t) = _
        rw [h, Int32.add_zero]
    · refine ⟨y + 2 ^ t, ?_, ?_, ?_⟩
      · rw [Nat.pow_succ]
        omega
      · show (if r (b + t) = 1 then _ else _) = _
        rw [h, if_pos rfl, (p_popb t ht y hy).2]
      · show q_pop (nI y) + r (b + t) = _
        rw [h, ← (p_popb t ht y hy).2, (p_popb t ht y hy).1]
