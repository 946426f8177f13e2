/-! what a street tells: the texts of the class (bank s) and of the reference (bank 3) against one text on the row -/
def q_abs (x : Int32) : Int32 := if 0 ≤ x then x else 0 - x
def q_bit (t : Nat) : Int32 := (1 : Int32) <<< (nI t &&& 31)
def q_lie1 (r : Nat → Int32) (x : Int32) (t : Nat) (y : Int32) : Int32 := if r (47 + t) = 0 then (if r (15 + t) = x then y ||| q_bit t else y) else y
def q_lie (r : Nat → Int32) (x : Int32) : Int32 := q_it (q_lie1 r x) (q_M r) 0 0
def q_fl (k l d u : Int32) : Int32 :=
  let y := if (l - d) < 0 then 0 else (l - d)
  if 3 < d then (if k = 1 then 2 * y else if k = 2 then y / 3 else if k = 3 then 2 * y + 0 else if k = 4 then (if ((2 * y + 0) - 4) < 0 then 0 else ((2 * y + 0) - 4)) else if k = 5 then (if d - d / 2 * 2 = 0 then l else y) else if k = 6 then y / 3 + u else y)
  else (if k = 1 then 2 * y else if k = 2 then y / 3 else if k = 3 then 2 * y + 3 else if k = 4 then (if ((2 * y + 3) - 4) < 0 then 0 else ((2 * y + 3) - 4)) else if k = 5 then (if d - d / 2 * 2 = 0 then l else y) else if k = 6 then y / 3 + u else y)
def q_pop (x0 : Int32) : Int32 :=
  let y1 := ((x0 - ((UInt32.toInt32 (Int32.toUInt32 x0 >>> (Int32.toUInt32 1 &&& Int32.toUInt32 31))) &&& 1431655765)))
  let y2 := (((y1 &&& 858993459) + ((UInt32.toInt32 (Int32.toUInt32 y1 >>> (Int32.toUInt32 2 &&& Int32.toUInt32 31))) &&& 858993459)))
  let y3 := (((y2 + (UInt32.toInt32 (Int32.toUInt32 y2 >>> (Int32.toUInt32 4 &&& Int32.toUInt32 31)))) &&& 252645135))
  let y4 := ((y3 + (UInt32.toInt32 (Int32.toUInt32 y3 >>> (Int32.toUInt32 8 &&& Int32.toUInt32 31)))))
  let y5 := ((y4 + (UInt32.toInt32 (Int32.toUInt32 y4 >>> (Int32.toUInt32 16 &&& Int32.toUInt32 31)))))
  (y5 &&& 63)
def q_num (r : Nat → Int32) (t : Nat) : Int32 := if r (7 + t) = 6 then q_pop (q_lie r (r (15 + t)) &&& (q_bit t ^^^ (-1))) else 0
def q_dist (r : Nat → Int32) (c : Int32) (t : Nat) : Int32 := q_abs (r (15 + t) - c)
def q_fe (r : Nat → Int32) (c : Int32) (t : Nat) : Int32 := q_fl (r (7 + t)) (r 6) (q_dist r c t) (q_num r t)
def q_st (r : Nat → Int32) (t : Nat) : Int32 := if r (7 + t) = 3 then 2 else if r (7 + t) = 5 then (if 5 < r (23 + t) then 1 else 3) else 1
def q_lk (r : Nat → Int32) (t : Nat) : Int32 := if r (7 + t) = 1 then (if 20 < r (23 + t) then 0 else 1) else if r (7 + t) = 3 then (if r (23 + t) ≤ 20 then 1 else if r (55 + t) < 5 then 0 else 1) else if r (7 + t) = 4 then 0 else if r (7 + t) = 5 then 0 else if r (7 + t) = 6 then (if r (31 + t) < 5 then 0 else 1) else 1
def q_re (r : Nat → Int32) (t : Nat) : Int32 := if r (7 + t) = 0 then 1 else if r (7 + t) = 2 then 2 else if r (7 + t) = 4 then 2 else if r (7 + t) = 6 then 4 else 0
section
variable {s t : Nat} {g : ic_S}
theorem c_pop (y : Int32) : fJ6_bitCount_0f7a4 y g = some (q_pop y, g) := rfl
theorem c_fl (hs : s < 3) (ht : t < 8) (l d u : Int32) : fX4_feels s t l d u g = some (q_fl (g.1 s (7 + t)) l d u, g) := by
  unfold fX4_feels q_fl
  simp only [p_bt hs, p_bt ht, p_b2, p_b1, p_gd, p_let, p_mos, p_mon, p_bsr, p_bsl, p_btr, p_btl]
  repeat' (first | rfl | split)
theorem c_st (hs : s < 3) (ht : t < 8) : fX4_steps s t g = some (q_st (g.1 s) t, g) := by
  unfold fX4_steps q_st
  simp only [p_bt hs, p_bt ht, p_b2, p_b1, p_gd, p_let, p_mos, p_mon, p_bsr, p_bsl, p_btr, p_btl]
  repeat' (first | rfl | split)
theorem c_lk (hs : s < 3) (ht : t < 8) : fX4_isLiked s t g = some (q_lk (g.1 s) t, g) := by
  unfold fX4_isLiked q_lk
  simp only [p_bt hs, p_bt ht, p_b2, p_b1, p_gd, p_let, p_mos, p_mon, p_bsr, p_bsl, p_btr, p_btl]
  repeat' (first | rfl | split)
theorem c_re (hs : s < 3) (ht : t < 8) : fX4_rests s t g = some (q_re (g.1 s) t, g) := by
  unfold fX4_rests q_re
  simp only [p_bt hs, p_bt ht, p_b2, p_b1, p_gd, p_let, p_mos, p_mon, p_bsr, p_bsl, p_btr, p_btl]
  repeat' (first | rfl | split)
theorem c_lieL (hs : s < 3) (x : Int32) (hk : q_ok (g.1 s)) : ∀ m k n y, k + m = 8 → m < n → lX2_thingsAt_14 s x n y (nI k) g = some (q_it (q_lie1 (g.1 s) x) (q_M (g.1 s) - k) k y, g) := by
  obtain ⟨h0, hM⟩ := q_ok0 hk
  intro m
  induction m with
  | zero =>
    intro k n y h1 h2
    obtain ⟨n, rfl⟩ : ∃ j, n = j + 1 := ⟨n - 1, by omega⟩
    obtain rfl : k = 8 := by omega
    unfold lX2_thingsAt_14
    rw [if_pos p_y8, q_itN _ hM]
  | succ m ih =>
    intro k n y h1 h2
    obtain ⟨n, rfl⟩ : ∃ j, n = j + 1 := ⟨n - 1, by omega⟩
    have hk8 : k < 8 := by omega
    unfold lX2_thingsAt_14
    rw [if_neg (p_n8 hk8), p_in8 hk8, p_gd, p_tn hk8, p_on, h0, nI_1]
    by_cases hMk : q_M (g.1 s) ≤ k
    · rw [if_pos ((p_lem hM (Nat.le_of_lt hk8)).mpr hMk), ih (k + 1) n _ (by omega) (by omega), q_itN _ hMk, q_itN _ (Nat.le_succ_of_le hMk)]
    · rw [if_neg (fun h => hMk ((p_lem hM (Nat.le_of_lt hk8)).mp h)), q_itM _ (Nat.lt_of_not_le hMk)]
      unfold q_lie1
      by_cases h1 : g.1 s (47 + k) = 0
      · by_cases h2 : g.1 s (15 + k) = x
        · rw [if_pos h1, if_pos h2, p_let, ih (k + 1) n _ (by omega) (by omega)]
          simp only [h1, h2, if_true]
          rfl
        · rw [if_pos h1, if_neg h2, ih (k + 1) n _ (by omega) (by omega)]
          simp only [h1, h2, if_true, if_false]
          rfl
      · rw [if_neg h1, ih (k + 1) n _ (by omega) (by omega)]
        simp only [h1, if_false]
        rfl
theorem c_lie (hs : s < 3) (x : Int32) (hk : q_ok (g.1 s)) : fX2_thingsAt s x g = some (q_lie (g.1 s) x, g) := by
  unfold fX2_thingsAt
  rw [p_bt hs, p_gd, show (0 : Int32) = nI 0 from nI_0.symm, c_lieL hs x hk 8 0 1000 _ rfl (by decide), p_b2]
  rfl
theorem c_fe (hs : s < 3) (ht : t < 8) (c : Int32) (hk : q_ok (g.1 s)) : fX2_feltBy s (some (s, t)) c g = some (q_fe (g.1 s) c t, g) := by
  unfold fX2_feltBy
  simp only [p_bt hs, p_vk3 hs ht, p_b2, p_b1, p_gd, p_let, p_mos, p_mon, p_bsr, p_bsl, p_btr, p_btl]
  unfold q_fe q_num
  by_cases h : g.1 s (7 + t) = 6
  · rw [if_pos h, if_pos h, c_lie hs _ hk]
    simp only [p_b2, p_b1, p_gd, p_let, p_mos, p_mon, p_bsr, p_bsl, p_btr, p_btl, c_pop, c_fl hs ht]
    rfl
  · rw [if_neg h, if_neg h]
    simp only [p_b2, p_b1, p_gd, p_let, p_mos, p_mon, p_bsr, p_bsl, p_btr, p_btl, c_fl hs ht]
    rfl
end
