/-! texts: the reference's next token -/
def q_L (n : Nat) : Int64 := Int64.ofNat n
theorem p_Lt {n : Nat} (h : n < 2 ^ 63) : (q_L n).toInt = (n : Int) := Int64.toInt_ofNat_of_lt h
theorem p_Ll {a b : Nat} (ha : a < 2 ^ 63) (hb : b < 2 ^ 63) : q_L a < q_L b ↔ a < b := by
  rw [Int64.lt_iff_toInt_lt, p_Lt ha, p_Lt hb]
  omega
theorem p_Le {a b : Nat} (ha : a < 2 ^ 63) (hb : b < 2 ^ 63) : q_L a = q_L b ↔ a = b := by
  rw [← Int64.toInt_inj, p_Lt ha, p_Lt hb]
  omega
theorem p_Lc (x y : Int64) : (lg_cmp x y ≤ 0 ↔ ¬ y < x) ∧ (lg_cmp x y = 0 ↔ x = y) := by
  refine ⟨by rw [← (p_cl x y).2, Int32.not_lt], ?_⟩
  unfold lg_cmp
  have h1 : ¬ (1 : Int32) = 0 := by decide
  have h2 : ¬ (-1 : Int32) = 0 := by decide
  by_cases a : x > y
  · rw [if_pos a]
    refine ⟨fun h => absurd h h1, fun h => ?_⟩
    subst h
    have a := Int64.lt_iff_toInt_lt.mp a
    omega
  · rw [if_neg a]
    by_cases b : x = y
    · rw [if_pos b]
      exact ⟨fun _ => b, fun _ => rfl⟩
    · rw [if_neg b]
      exact ⟨fun h => absurd h h2, fun h => absurd h b⟩
theorem p_Lc' {a b : Nat} (ha : a < 2 ^ 63) (hb : b < 2 ^ 63) : lg_cmp (q_L a) (q_L b) ≤ 0 ↔ a ≤ b := by
  rw [(p_Lc _ _).1, p_Ll hb ha]
  omega
theorem p_Li {b : Nat} (h : b < 2 ^ 31) : (nI b).toInt64 = q_L b := by
  rw [← Int64.toInt_inj, Int32.toInt_toInt64, nI_toInt h, p_Lt (by omega)]
theorem p_Ln {v b : Nat} (h : 48 ≤ b) (hb : b < 256) : q_L v * 10 + (nI b).toInt64 - 48 = q_L (v * 10 + b - 48) := by
  rw [p_Li (by omega), show (10 : Int64) = q_L 10 from rfl, show (48 : Int64) = q_L 48 from rfl]
  unfold q_L
  rw [← Int64.ofNat_mul, ← Int64.ofNat_add, ← Int64.ofNat_sub _ _ (by omega)]
theorem p_Lw {v b : Nat} (hb : b < 256) : q_L v * 27 + (nI b).toInt64 = q_L (27 * v + b) := by
  rw [p_Li (by omega), show (27 : Int64) = q_L 27 from rfl, Nat.mul_comm]
  unfold q_L
  rw [← Int64.ofNat_mul, ← Int64.ofNat_add]
theorem p_us (g : ic_S) (R : Nat → Int32) (v : Int64) (R' : Nat → Int32) : sB (ic_upl (sB g 24 R) v) 24 R' = ic_upl (sB g 24 R') v := by
  show ic_upl (sB (sB g 24 R) 24 R') v = _
  rw [sB_sB]
theorem p_u1 (g : ic_S) (R : Nat → Int32) (v : Int64) : (ic_upl (sB g 24 R) v).1 24 = R := sB_self g 24 R
def q_sy (b : Nat) : Int32 := Int8.toInt32 (Int32.toInt8 (nI b))
theorem p_sy : ∀ b, b < 256 → (q_sy b = 32 ↔ b = 32) ∧ (q_sy b = 59 ↔ b = 59) ∧ (if q_sy b < 97 then (0 : Int32) else if 122 < q_sy b then 0 else q_sy b - 97 + 1) = (if 97 ≤ b ∧ b ≤ 122 then nI (b - 96) else 0) ∧ (if q_sy b < 48 then (0 : Int32) else if 57 < q_sy b then 0 else 1) = (if 48 ≤ b ∧ b ≤ 57 then 1 else 0) ∧ (b ≤ 122 → q_sy b = nI b) := by decide +kernel
def q_tr (f : Nat → Nat) (k : Nat) (g : ic_S) : Prop := g.1 24 1 = nI k ∧ k ≤ 120 ∧ ∀ i, i < k → f i < 256 ∧ g.1 26 i = q_sy (f i)
theorem q_tr.ext {f : Nat → Nat} {k : Nat} {g h : ic_S} (hg : q_tr f k g) (e1 : h.1 24 1 = g.1 24 1) (e2 : h.1 26 = g.1 26) : q_tr f k h := by
  obtain ⟨h1, h2, h3⟩ := hg
  refine ⟨e1.trans h1, h2, fun i hi => ⟨(h3 i hi).1, ?_⟩⟩
  rw [e2]
  exact (h3 i hi).2
theorem q_tr.U {f : Nat → Nat} {k : Nat} {g : ic_S} (hg : q_tr f k g) {i : Nat} (v : Int32) (hi : i ≠ 1) : q_tr f k (sB g 24 (rU (g.1 24) i v)) := hg.ext (by rw [sB_self, rU_n _ _ (Ne.symm hi)]) (sB_ne _ _ (by decide))
section
variable {f : Nat → Nat} {k : Nat} {g : ic_S}
theorem r_ltr {b : Nat} (hb : b < 256) : fX7_letter (q_sy b) g = some (if decide (97 ≤ b ∧ b ≤ 122) = true then nI (b - 96) else 0, g) := by
  have h := (p_sy b hb).2.2.1
  have e : (if decide (97 ≤ b ∧ b ≤ 122) = true then nI (b - 96) else 0) = (if 97 ≤ b ∧ b ≤ 122 then nI (b - 96) else 0) := by
    by_cases h2 : 97 ≤ b ∧ b ≤ 122
    · rw [if_pos h2, if_pos (decide_eq_true h2)]
    · rw [if_neg h2, if_neg (by simp [h2])]
  unfold fX7_letter
  rw [e, ← h]
  by_cases h1 : q_sy b < 97
  · rw [if_pos h1, if_pos h1]
  · rw [if_neg h1, if_neg h1]
    by_cases h2 : 122 < q_sy b
    · rw [if_pos h2, if_pos h2]
    · rw [if_neg h2, if_neg h2]
theorem r_dgt {b : Nat} (hb : b < 256) : fX7_isDigit (q_sy b) g = some (if decide (48 ≤ b ∧ b ≤ 57) = true then 1 else 0, g) := by
  have h := (p_sy b hb).2.2.2.1
  have e : (if decide (48 ≤ b ∧ b ≤ 57) = true then (1 : Int32) else 0) = (if 48 ≤ b ∧ b ≤ 57 then 1 else 0) := by
    by_cases h2 : 48 ≤ b ∧ b ≤ 57
    · rw [if_pos h2, if_pos (decide_eq_true h2)]
    · rw [if_neg h2, if_neg (by simp [h2])]
  unfold fX7_isDigit
  rw [e, ← h]
  by_cases h1 : q_sy b < 48
  · rw [if_pos h1, if_pos h1]
  · rw [if_neg h1, if_neg h1]
    by_cases h2 : 57 < q_sy b
    · rw [if_pos h2, if_pos h2]
    · rw [if_neg h2, if_neg h2]
theorem r_by (h : q_tr f k g) {p : Nat} (hp : p < k) : fX7_byteAt (nI p) g = some (q_sy (f p), g) := by
  obtain ⟨h1, h2, h3⟩ := h
  unfold fX7_byteAt
  rw [h1, if_neg (nI_ge hp (by omega)), p_in (show p < 120 by omega) (by decide), p_gd, nI_clamp (by omega), Nat.zero_add, (h3 p hp).2]
theorem r_byE (h : q_tr f k g) : fX7_byteAt (nI k) g = some (-1, g) := by
  obtain ⟨h1, h2, h3⟩ := h
  unfold fX7_byteAt
  rw [h1, if_pos (nI_le (Nat.le_refl _) (by omega))]
theorem r_skL : ∀ m p n (g : ic_S), p + m = k → m < n → q_tr f k g → g.1 24 2 = nI p → lX7_next_0 n g = some ((), sB g 24 (rU (g.1 24) 2 (nI (q_ru (q_bl f) m p)))) := by
  intro m
  induction m with
  | zero =>
    intro p n g h1 h2 h3 h4
    obtain ⟨n, rfl⟩ : ∃ j, n = j + 1 := ⟨n - 1, by omega⟩
    obtain rfl : p = k := by omega
    unfold lX7_next_0 q_ru
    rw [h4, r_byE h3, p_b2, if_neg (by decide), ← h4, rU_id, sB_id]
  | succ m ih =>
    intro p n g h1 h2 h3 h4
    obtain ⟨n, rfl⟩ : ∃ j, n = j + 1 := ⟨n - 1, by omega⟩
    have hf := p_sy (f p) (h3.2.2 p (by omega)).1
    unfold lX7_next_0 q_ru
    rw [h4, r_by h3 (by omega), p_b2]
    by_cases hb : f p = 32
    · rw [if_pos (hf.1.mpr hb), if_pos (show q_bl f p = true from decide_eq_true hb), p_let, up_sB, h4, nI_1, ih (p + 1) n _ (by omega) (by omega) (h3.U _ (by decide)) (by rw [sB_self, rU_s]), sB_self, sB_sB, rU_rU]
    · rw [if_neg (fun e => hb (hf.1.mp e)), if_neg (show ¬ q_bl f p = true from fun e => hb (of_decide_eq_true e)), ← h4, rU_id, sB_id]
theorem r_dgL : ∀ m p n v (g : ic_S), p + m = k → m < n → v ≤ 9999 → q_tr f k g → g.1 24 2 = nI p → g.2 = q_L v → ∃ v', v' ≤ 9999 ∧ min v' 1000 = q_nv f m p (min v 1000) ∧ lX7_next_185 n g = some ((), ic_upl (sB g 24 (rU (g.1 24) 2 (nI (q_ru (q_dg f) m p)))) (q_L v')) := by
  intro m
  induction m with
  | zero =>
    intro p n v g h1 h2 hv h3 h4 h5
    obtain ⟨n, rfl⟩ : ∃ j, n = j + 1 := ⟨n - 1, by omega⟩
    obtain rfl : p = k := by omega
    refine ⟨v, hv, rfl, ?_⟩
    unfold lX7_next_185 q_ru
    rw [h4, r_byE h3, p_b2, show fX7_isDigit (-1) g = some (0, g) from rfl, p_b2, if_pos rfl, ← h4, rU_id, sB_id, ← h5]
    rfl
  | succ m ih =>
    intro p n v g h1 h2 hv h3 h4 h5
    obtain ⟨n, rfl⟩ : ∃ j, n = j + 1 := ⟨n - 1, by omega⟩
    have hb := (h3.2.2 p (by omega)).1
    have hf := p_sy (f p) hb
    unfold lX7_next_185 q_ru q_nv
    rw [h4, r_by h3 (by omega), p_b2, r_dgt hb, p_b2]
    by_cases hd : q_dg f p = true
    · have hd2 := of_decide_eq_true hd
      have h3' : q_tr f k (sB g 24 (rU (g.1 24) 2 (nI (p + 1)))) := h3.U _ (by decide)
      rw [if_pos hd, if_pos hd, if_pos (show decide (48 ≤ f p ∧ f p ≤ 57) = true from hd), if_neg (show ¬ (1 : Int32) = 0 by decide), h5]
      by_cases hl : v ≤ 999
      · obtain ⟨v', a1, a2, a3⟩ := ih (p + 1) n (v * 10 + f p - 48) (ic_upl (sB g 24 (rU (g.1 24) 2 (nI (p + 1)))) (q_L (v * 10 + f p - 48))) (by omega) (by omega) (by omega) (h3'.ext rfl rfl) (by show (sB g 24 (rU (g.1 24) 2 (nI (p + 1)))).1 24 2 = _; rw [sB_self, rU_s]) rfl
        refine ⟨v', a1, ?_, ?_⟩
        · rw [a2, Nat.min_eq_left (show v ≤ 1000 by omega)]
        · rw [if_pos (show lg_cmp (q_L v) 999 ≤ 0 from (p_Lc' (b := 999) (by omega) (by decide)).mpr hl), h4, r_by h3 (by omega), p_b2, hf.2.2.2.2 (by omega), p_Ln hd2.1 hb, p_let, p_let, up_sB]
          show lX7_next_185 n (ic_upl (sB g 24 (rU (g.1 24) 2 (g.1 24 2 + 1))) (q_L (v * 10 + f p - 48))) = _
          rw [h4, nI_1, a3]
          rw [p_u1, p_us, rU_rU]
          rfl
      · obtain ⟨v', a1, a2, a3⟩ := ih (p + 1) n v (ic_upl (sB g 24 (rU (g.1 24) 2 (nI (p + 1)))) (q_L v)) (by omega) (by omega) (by omega) (h3'.ext rfl rfl) (by show (sB g 24 (rU (g.1 24) 2 (nI (p + 1)))).1 24 2 = _; rw [sB_self, rU_s]) rfl
        refine ⟨v', a1, ?_, ?_⟩
        · rw [a2, Nat.min_eq_right (show 1000 ≤ v by omega), Nat.min_eq_right (show 1000 ≤ 1000 * 10 + f p - 48 by omega)]
        · rw [if_neg (show ¬ lg_cmp (q_L v) 999 ≤ 0 from fun e => hl ((p_Lc' (b := 999) (by omega) (by decide)).mp e)), p_let, p_let, up_sB]
          show lX7_next_185 n (ic_upl (sB g 24 (rU (g.1 24) 2 (g.1 24 2 + 1))) (q_L v)) = _
          rw [h4, nI_1, a3]
          rw [p_u1, p_us, rU_rU]
          rfl
    · refine ⟨v, hv, ?_, ?_⟩
      · rw [if_neg hd]
      · rw [if_neg (show ¬ decide (48 ≤ f p ∧ f p ≤ 57) = true from hd), if_pos rfl, if_neg hd, ← h4, rU_id, sB_id, ← h5]
        rfl
/-- a word's number, given up above 100000000000000000 -/
def q_wr (v w : Nat) : Prop := v ≤ 2700000000000000026 ∧ (v = w ∨ (100000000000000000 < v ∧ 100000000000000000 < w))
theorem r_lwL {s : Nat} : ∀ m i n v (g : ic_S), s + i + m = k → m < n → q_wr v (q_wv f s i) → q_tr f k g → g.1 24 2 = nI (s + i) → g.2 = q_L v → ∃ v', q_wr v' (q_wv f s (q_ru (q_lt f) m (s + i) - s)) ∧ lX7_next_103 n g = some ((), ic_upl (sB g 24 (rU (g.1 24) 2 (nI (q_ru (q_lt f) m (s + i))))) (q_L v')) := by
  intro m
  induction m with
  | zero =>
    intro i n v g h1 h2 hv h3 h4 h5
    obtain ⟨n, rfl⟩ : ∃ j, n = j + 1 := ⟨n - 1, by omega⟩
    obtain rfl : s + i = k := by omega
    refine ⟨v, ?_, ?_⟩
    · show q_wr v (q_wv f s (s + i - s))
      rw [Nat.add_sub_cancel_left]
      exact hv
    · unfold lX7_next_103 q_ru
      rw [h4, r_byE h3, p_b2, show fX7_letter (-1) g = some (0, g) from rfl, p_b2, if_pos (by decide), ← h4, rU_id, sB_id, ← h5]
      rfl
  | succ m ih =>
    intro i n v g h1 h2 hv h3 h4 h5
    obtain ⟨n, rfl⟩ : ∃ j, n = j + 1 := ⟨n - 1, by omega⟩
    have hb := (h3.2.2 (s + i) (by omega)).1
    unfold lX7_next_103 q_ru
    rw [h4, r_by h3 (by omega), p_b2, r_ltr hb, p_b2]
    by_cases hd : q_lt f (s + i) = true
    · have hd2 := of_decide_eq_true hd
      have h3' : q_tr f k (sB g 24 (rU (g.1 24) 2 (nI (s + i + 1)))) := h3.U _ (by decide)
      have hw : q_wv f s (i + 1) = 27 * q_wv f s i + (f (s + i) - 96) := rfl
      rw [if_pos (show decide (97 ≤ f (s + i) ∧ f (s + i) ≤ 122) = true from hd), if_neg (show ¬ nI (f (s + i) - 96) ≤ 0 from nI_ge (a := 0) (by omega) (by omega)), if_pos hd, h5]
      by_cases hl : v ≤ 100000000000000000
      · have hr : q_wr (27 * v + (f (s + i) - 96)) (q_wv f s (i + 1)) := by
          rw [hw]
          refine ⟨by omega, Or.inl ?_⟩
          rcases hv.2 with e | e
          · rw [e]
          · omega
        obtain ⟨v', a1, a3⟩ := ih (i + 1) n (27 * v + (f (s + i) - 96)) (ic_upl (sB g 24 (rU (g.1 24) 2 (nI (s + i + 1)))) (q_L (27 * v + (f (s + i) - 96)))) (by omega) (by omega) hr (h3'.ext rfl rfl) (by show (sB g 24 (rU (g.1 24) 2 (nI (s + i + 1)))).1 24 2 = _; rw [sB_self, rU_s]; rfl) rfl
        refine ⟨v', a1, ?_⟩
        rw [if_pos (show lg_cmp (q_L v) 100000000000000000 ≤ 0 from (p_Lc' (b := 100000000000000000) (by omega) (by decide)).mpr hl), h4, r_by h3 (by omega), p_b2, r_ltr hb, if_pos (show decide (97 ≤ f (s + i) ∧ f (s + i) ≤ 122) = true from hd), p_b2, p_Lw (by omega), p_let, p_let, up_sB]
        show lX7_next_103 n (ic_upl (sB g 24 (rU (g.1 24) 2 (g.1 24 2 + 1))) (q_L (27 * v + (f (s + i) - 96)))) = _
        rw [h4, nI_1, a3]
        rw [p_u1, p_us, rU_rU]
        rfl
      · have hr : q_wr v (q_wv f s (i + 1)) := by
          rw [hw]
          refine ⟨hv.1, Or.inr ?_⟩
          rcases hv.2 with e | e <;> omega
        obtain ⟨v', a1, a3⟩ := ih (i + 1) n v (ic_upl (sB g 24 (rU (g.1 24) 2 (nI (s + i + 1)))) (q_L v)) (by omega) (by omega) hr (h3'.ext rfl rfl) (by show (sB g 24 (rU (g.1 24) 2 (nI (s + i + 1)))).1 24 2 = _; rw [sB_self, rU_s]; rfl) rfl
        refine ⟨v', a1, ?_⟩
        have hv1 := hv.1
        rw [if_neg (show ¬ lg_cmp (q_L v) 100000000000000000 ≤ 0 from fun e => hl ((p_Lc' (b := 100000000000000000) (by omega) (by decide)).mp e)), p_let, p_let, up_sB]
        show lX7_next_103 n (ic_upl (sB g 24 (rU (g.1 24) 2 (g.1 24 2 + 1))) (q_L v)) = _
        rw [h4, nI_1, a3]
        rw [p_u1, p_us, rU_rU]
        rfl
    · refine ⟨v, ?_, ?_⟩
      · rw [if_neg hd, Nat.add_sub_cancel_left]
        exact hv
      · rw [if_neg (show ¬ decide (97 ≤ f (s + i) ∧ f (s + i) ≤ 122) = true from hd), if_pos (by decide), if_neg hd, ← h4, rU_id, sB_id, ← h5]
        rfl
/-- the reference stands at the token at s -/
def q_at (f : Nat → Nat) (k s : Nat) (g : ic_S) : Prop := g.1 24 3 = nI (q_so f k s) ∧ g.1 24 4 = nI s ∧ (q_so f k s ≠ 4 → g.1 24 2 = nI (q_en f k s)) ∧ (q_so f k s = 1 → ∃ v, g.2 = q_L v ∧ q_wr v (q_wv f s (q_en f k s - s))) ∧ (q_so f k s = 2 → ∃ v, v ≤ 9999 ∧ g.2 = q_L v ∧ q_va f k s = nI (min v 1000))
theorem r_next (h : q_tr f k g) {p : Nat} (hp : p ≤ k) (e2 : g.1 24 2 = nI p) : ∃ g', fX7_next g = some g' ∧ (∀ b, b ≠ 24 → g'.1 b = g.1 b) ∧ (∀ i, i ≠ 2 → i ≠ 3 → i ≠ 4 → g'.1 24 i = g.1 24 i) ∧ q_at f k (q_pl f k p) g' := by
  have hk := h.2.1
  have hsk := (q_plS (f := f) hp).2.1
  have e0 : lX7_next_0 1000 g = some ((), sB g 24 (rU (g.1 24) 2 (nI (q_pl f k p)))) := r_skL (k - p) p 1000 g (by omega) (by omega) h e2
  revert e0 hsk
  generalize q_pl f k p = s
  intro hsk e0
  have fr : ∀ (R : Nat → Int32) (v : Int64), (∀ i, i ≠ 2 → i ≠ 3 → i ≠ 4 → R i = g.1 24 i) → (∀ b, b ≠ 24 → (ic_upl (sB g 24 R) v).1 b = g.1 b) ∧ ∀ i, i ≠ 2 → i ≠ 3 → i ≠ 4 → (ic_upl (sB g 24 R) v).1 24 i = g.1 24 i := by
    intro R v hR
    refine ⟨fun b hb => sB_ne g R hb, fun i h1 h2 h3 => ?_⟩
    rw [p_u1]
    exact hR i h1 h2 h3
  have hR5 : ∀ i, i ≠ 2 → i ≠ 3 → i ≠ 4 → rU (rU (g.1 24) 2 (nI s)) 4 (nI s) i = g.1 24 i := by
    intro i h1 h2 h3
    rw [rU_n _ _ h3, rU_n _ _ h1]
  have hU : ∀ (R : Nat → Int32) j v, (j = 2 ∨ j = 3) → (∀ i, i ≠ 2 → i ≠ 3 → i ≠ 4 → R i = g.1 24 i) → ∀ i, i ≠ 2 → i ≠ 3 → i ≠ 4 → rU R j v i = g.1 24 i := by
    intro R j v hj hR i h1 h2 h3
    rw [rU_n _ _ (by omega)]
    exact hR i h1 h2 h3
  have t5 : q_tr f k (ic_upl (sB g 24 (rU (rU (g.1 24) 2 (nI s)) 4 (nI s))) (q_L 0)) := h.ext rfl rfl
  have e5 : (ic_upl (sB g 24 (rU (rU (g.1 24) 2 (nI s)) 4 (nI s))) (q_L 0)).1 24 2 = nI s := rfl
  have start : fX7_next g = ic_b2 (fX7_byteAt (nI s) (ic_upl (sB g 24 (rU (rU (g.1 24) 2 (nI s)) 4 (nI s))) (q_L 0))) (fun v8 g6 => (if (g6.1 24 2) = (g6.1 24 1) then ic_let (ic_up g6 24 3 0) (fun g30 => some g30) else (if v8 = 59 then ic_let (ic_up g6 24 3 3) (fun g28 => ic_let (ic_up g28 24 2 ((g28.1 24 2) + 1)) (fun g29 => some g29)) else ic_b2 (fX7_letter v8 g6) (fun v13 g11 => (if v13 ≤ 0 then ic_b2 (fX7_isDigit v8 g11) (fun v17 g15 => (if v17 = 0 then ic_let (ic_up g15 24 3 4) (fun g19 => some g19) else ic_let (ic_up g15 24 3 2) (fun g20 => ic_b2 (lX7_next_185 1000 g20) (fun _ g22 => some g22)))) else ic_let (ic_up g11 24 3 1) (fun g24 => ic_b2 (lX7_next_103 1000 g24) (fun _ g26 => some g26))))))) := by
    unfold fX7_next
    rw [e0, p_b2, p_let, p_let, up_sB, sB_self, sB_sB, rU_s, show (0 : Int64) = q_L 0 from rfl, e5]
  rw [start]
  by_cases hE : s = k
  · subst hE
    have es : q_so f s s = 0 := if_pos (Nat.le_refl _)
    have ee : q_en f s s = s := if_pos (Nat.le_refl _)
    obtain ⟨f1, f2⟩ := fr (rU (rU (rU (g.1 24) 2 (nI s)) 4 (nI s)) 3 0) (q_L 0) (hU _ 3 _ (Or.inr rfl) hR5)
    refine ⟨ic_upl (sB g 24 (rU (rU (rU (g.1 24) 2 (nI s)) 4 (nI s)) 3 0)) (q_L 0), ?_, f1, f2, ?_⟩
    · rw [r_byE t5, p_b2, if_pos (e5.trans t5.1.symm), p_let, up_sB, p_u1, p_us]
    · refine ⟨?_, ?_, fun _ => ?_, fun h1 => absurd (es.symm.trans h1) (by decide), fun h1 => absurd (es.symm.trans h1) (by decide)⟩
      · rw [es]
        rfl
      · rfl
      · rw [ee]
        rfl
  · have hs : s < k := by omega
    have n1 : ¬ k ≤ s := by omega
    have hb := (h.2.2 s hs).1
    have hf := p_sy (f s) hb
    have ne : ¬ (ic_upl (sB g 24 (rU (rU (g.1 24) 2 (nI s)) 4 (nI s))) (q_L 0)).1 24 2 = (ic_upl (sB g 24 (rU (rU (g.1 24) 2 (nI s)) 4 (nI s))) (q_L 0)).1 24 1 := by
      rw [e5, t5.1]
      intro e
      exact hE ((nI_eq (by omega) (by omega)).mp e)
    rw [r_by t5 hs, p_b2, if_neg ne]
    by_cases h9 : f s = 59
    · have nl : ¬ q_lt f s = true := fun e => by have := of_decide_eq_true e; omega
      have nd : ¬ q_dg f s = true := fun e => by have := of_decide_eq_true e; omega
      have es : q_so f k s = 3 := by
        unfold q_so
        rw [if_neg n1, if_neg nl, if_neg nd, if_pos h9]
      have ee : q_en f k s = s + 1 := by
        unfold q_en
        rw [if_neg n1, if_neg nl, if_neg nd]
      obtain ⟨f1, f2⟩ := fr (rU (rU (rU (rU (g.1 24) 2 (nI s)) 4 (nI s)) 3 3) 2 (nI (s + 1))) (q_L 0) (hU _ 2 _ (Or.inl rfl) (hU _ 3 _ (Or.inr rfl) hR5))
      refine ⟨ic_upl (sB g 24 (rU (rU (rU (rU (g.1 24) 2 (nI s)) 4 (nI s)) 3 3) 2 (nI (s + 1)))) (q_L 0), ?_, f1, f2, ?_⟩
      · rw [if_pos (hf.2.1.mpr h9), p_let, p_let, up_sB, up_sB, p_u1, p_us, p_u1, p_us, rU_n _ _ (show 2 ≠ 3 by decide), rU_n _ _ (show 2 ≠ 4 by decide), rU_s, nI_1]
      · refine ⟨?_, ?_, fun _ => ?_, fun h1 => absurd (es.symm.trans h1) (by decide), fun h1 => absurd (es.symm.trans h1) (by decide)⟩
        · rw [es]
          rfl
        · rfl
        · rw [ee]
          rfl
    · rw [if_neg (fun e => h9 (hf.2.1.mp e)), r_ltr hb, p_b2]
      by_cases hl : q_lt f s = true
      · have hl2 := of_decide_eq_true hl
        have es : q_so f k s = 1 := by
          unfold q_so
          rw [if_neg n1, if_pos hl]
        have ee : q_en f k s = q_ru (q_lt f) (k - s) s := by
          unfold q_en
          rw [if_neg n1, if_pos hl]
        rw [if_pos (show decide (97 ≤ f s ∧ f s ≤ 122) = true from hl), if_neg (show ¬ nI (f s - 96) ≤ 0 from nI_ge (a := 0) (by omega) (by omega)), p_let, up_sB, p_u1, p_us]
        have t6 : q_tr f k (ic_upl (sB g 24 (rU (rU (rU (g.1 24) 2 (nI s)) 4 (nI s)) 3 1)) (q_L 0)) := h.ext rfl rfl
        obtain ⟨v', hv', e3⟩ := r_lwL (s := s) (k - s) 0 1000 0 (ic_upl (sB g 24 (rU (rU (rU (g.1 24) 2 (nI s)) 4 (nI s)) 3 1)) (q_L 0)) (by omega) (by omega) ⟨by omega, Or.inl rfl⟩ t6 rfl rfl
        rw [Nat.add_zero, ← ee] at e3 hv'
        rw [e3, p_b2, p_u1, p_us]
        obtain ⟨f1, f2⟩ := fr (rU (rU (rU (rU (g.1 24) 2 (nI s)) 4 (nI s)) 3 1) 2 (nI (q_en f k s))) (q_L v') (hU _ 2 _ (Or.inl rfl) (hU _ 3 _ (Or.inr rfl) hR5))
        refine ⟨_, rfl, f1, f2, ?_, ?_, fun _ => ?_, fun _ => ⟨v', rfl, hv'⟩, fun h1 => absurd (es.symm.trans h1) (by decide)⟩
        · rw [es]
          rfl
        · rfl
        · rfl
      · rw [if_neg (show ¬ decide (97 ≤ f s ∧ f s ≤ 122) = true from hl), if_pos (by decide), r_dgt hb, p_b2]
        by_cases hd : q_dg f s = true
        · have es : q_so f k s = 2 := by
            unfold q_so
            rw [if_neg n1, if_neg hl, if_pos hd]
          have ee : q_en f k s = q_ru (q_dg f) (k - s) s := by
            unfold q_en
            rw [if_neg n1, if_neg hl, if_pos hd]
          have ev : q_va f k s = nI (q_nv f (k - s) s 0) := by
            unfold q_va
            rw [if_neg n1, if_neg hl, if_pos hd]
          rw [if_pos (show decide (48 ≤ f s ∧ f s ≤ 57) = true from hd), if_neg (by decide), p_let, up_sB, p_u1, p_us]
          have t6 : q_tr f k (ic_upl (sB g 24 (rU (rU (rU (g.1 24) 2 (nI s)) 4 (nI s)) 3 2)) (q_L 0)) := h.ext rfl rfl
          obtain ⟨v', hv1, hv2, e3⟩ := r_dgL (k - s) s 1000 0 (ic_upl (sB g 24 (rU (rU (rU (g.1 24) 2 (nI s)) 4 (nI s)) 3 2)) (q_L 0)) (by omega) (by omega) (by omega) t6 rfl rfl
          rw [← ee] at e3
          rw [e3, p_b2, p_u1, p_us]
          obtain ⟨f1, f2⟩ := fr (rU (rU (rU (rU (g.1 24) 2 (nI s)) 4 (nI s)) 3 2) 2 (nI (q_en f k s))) (q_L v') (hU _ 2 _ (Or.inl rfl) (hU _ 3 _ (Or.inr rfl) hR5))
          refine ⟨_, rfl, f1, f2, ?_, ?_, fun _ => ?_, fun h1 => absurd (es.symm.trans h1) (by decide), fun _ => ⟨v', hv1, rfl, ?_⟩⟩
          · rw [es]
            rfl
          · rfl
          · rfl
          · rw [ev, hv2]
            rfl
        · have es : q_so f k s = 4 := by
            unfold q_so
            rw [if_neg n1, if_neg hl, if_neg hd, if_neg h9]
          obtain ⟨f1, f2⟩ := fr (rU (rU (rU (g.1 24) 2 (nI s)) 4 (nI s)) 3 4) (q_L 0) (hU _ 3 _ (Or.inr rfl) hR5)
          refine ⟨ic_upl (sB g 24 (rU (rU (rU (g.1 24) 2 (nI s)) 4 (nI s)) 3 4)) (q_L 0), ?_, f1, f2, ?_⟩
          · rw [if_neg (show ¬ decide (48 ≤ f s ∧ f s ≤ 57) = true from hd), if_pos rfl, p_let, up_sB, p_u1, p_us]
          · refine ⟨?_, ?_, fun h1 => absurd es h1, fun h1 => absurd (es.symm.trans h1) (by decide), fun h1 => absurd (es.symm.trans h1) (by decide)⟩
            · rw [es]
              rfl
            · rfl
end
