/-! the invariant of the law's loop -/
def q_R (a b : Nat → Int32) : Prop := q_ok a ∧ q_ok b ∧ q_lv b a ∧ ∀ j, j < 10 → (a (63 + j) = -1 ∧ b (63 + j) = 0) ∨ ∃ t, t < q_M b ∧ a (63 + j) = nI t ∧ b (63 + j) = nI (t + 1)
def q_T (n : Int32) (a : Nat → Int32) (n' : Int32) (a' : Nat → Int32) : Prop := n = n' ∧ ∃ k, k ≤ 120 ∧ n = nI k ∧ ∀ i, i < k → ∃ b, b < 256 ∧ a i = nI b ∧ a' i = Int8.toInt32 (Int32.toInt8 (nI b))
def q_S (h num : Nat → Int32) (b z : Int32) (f : Nat → Int32) : Prop := h 0 = b ∧ (b = 0 ∨ b = 8 ∨ b = 16 ∨ b = 32) ∧ h 1 = z ∧ (∃ n, n ≤ 40 ∧ z = nI n) ∧ ∀ i, i < 40 → num i = f i
def q_4 (a0 a1 a2 a3 : Nat → Int32) (s : Nat) : Nat → Int32 := match s with
  | 0 => a0
  | 1 => a1
  | 2 => a2
  | _ => a3
def q_Sh (a0 a1 a2 a3 n0 n1 n2 n3 b z f : Nat → Int32) : Prop := ∀ s, s < 4 → q_S (q_4 a0 a1 a2 a3 s) (q_4 n0 n1 n2 n3 s) (b s) (z s) (fun i => f (40 * s + i))
def q_Inv (g : ic_S) : Prop := q_ok (g.1 1) ∧ q_ok (g.1 2) ∧ q_R (g.1 0) (g.1 3) ∧ (g.1 7 0 = g.1 24 0 ∧ (g.1 7 0 = 0 ∨ g.1 7 0 = 1 ∧ q_R (g.1 2) (g.1 6))) ∧ q_T (g.1 8 0) (g.1 9) (g.1 24 1) (g.1 26) ∧ q_Sh (g.1 15) (g.1 16) (g.1 17) (g.1 18) (g.1 19) (g.1 20) (g.1 21) (g.1 22) (g.1 27) (g.1 28) (g.1 29) ∧ ∀ i, i < 7 → g.1 23 i = g.1 25 i
theorem q_4h (g : ic_S) {s : Nat} (h : s < 4) : q_4 (g.1 15) (g.1 16) (g.1 17) (g.1 18) s = g.1 (15 + s) ∧ q_4 (g.1 19) (g.1 20) (g.1 21) (g.1 22) s = g.1 (19 + s) := by
  match s, h with
  | 0, _ => exact ⟨rfl, rfl⟩
  | 1, _ => exact ⟨rfl, rfl⟩
  | 2, _ => exact ⟨rfl, rfl⟩
  | 3, _ => exact ⟨rfl, rfl⟩
theorem sB_at (g : ic_S) (b : Nat) (r : Nat → Int32) (c : Nat) : (sB g b r).1 c = if c = b then r else g.1 c := rfl
theorem q_R.ext {a b b' : Nat → Int32} (h : q_R a b) (e : ∀ i, i < 73 → b' i = b i) : q_R a b' := by
  obtain ⟨h1, h2, h3, h4⟩ := h
  have hM : q_M b' = q_M b := congrArg Int32.toNatClampNeg (e 0 (by decide))
  have hM8 := (q_ok0 h2).2
  refine ⟨h1, fun i hi h0 => ?_, ⟨fun i hi => (h3.1 i hi).trans (e i (by omega)).symm, fun w hw t ht => (h3.2 w hw t (hM ▸ ht)).trans (e _ (by rw [hM] at ht; omega)).symm⟩, fun j hj => ?_⟩
  · rw [e i (by omega)]
    exact h2 i hi h0
  · rw [e _ (by omega), hM]
    exact h4 j hj
/-! answers: a number, or a finding -/
def q_o6 (A : Int32 ⊕ Nat) (g : ic_S) : Option (Int32 × ic_S) := match A with
  | .inl v => some (v, g)
  | .inr c => fX6_finding (nI c) g
def q_o7 (A : Int32 ⊕ Nat) (g : ic_S) : Option (Int32 × ic_S) := match A with
  | .inl v => some (v, g)
  | .inr c => fX7_finds (nI c) g
theorem p_eta {α : Type} (x : Option (α × ic_S)) : ic_b2 x (fun v g => some (v, g)) = x := by
  rcases x with _ | ⟨v, g⟩ <;> rfl
theorem p_eta1 (x : Option ic_S) : ic_b1 x (fun g => some g) = x := by
  rcases x with _ | g <;> rfl
theorem c_find {c : Nat} (hc : c < 7) (g : ic_S) : fX6_finding (nI c) g = some (-1000001 - nI c, sB g 23 (rU (g.1 23) c (g.1 23 c + 1))) := by
  unfold fX6_finding
  rw [if_neg (nI_pos (by omega)), show (7 : Int32) = nI 7 from rfl, if_neg (nI_ge hc (by decide)), p_in hc (by decide), p_gd, p_gd, nI_clamp (by omega), Nat.zero_add, p_let, up_sB]
theorem r_find {c : Nat} (hc : c < 7) (g : ic_S) : fX7_finds (nI c) g = some (-1000001 - nI c, sB g 25 (rU (g.1 25) c (g.1 25 c + 1))) := by
  unfold fX7_finds
  rw [p_in hc (by decide), p_gd, p_gd, nI_clamp (by omega), Nat.zero_add, p_let, up_sB]
/-- one call on both sides -/
def q_go (f6 f7 : ic_S → Option (Int32 × ic_S)) (g : ic_S) : Prop := ∃ v g1 g2, f6 g = some (v, g1) ∧ f7 g1 = some (v, g2) ∧ q_Inv g2 ∧ g1.1 40 = g.1 40 ∧ g1.1 41 = g.1 41 ∧ g2.1 40 = g.1 40 ∧ g2.1 41 = g.1 41
/-- the reference's banks -/
def q_rf (g h : ic_S) : Prop := (∀ b, (3 ≤ b ∧ b ≤ 6) ∨ 24 ≤ b → h.1 b = g.1 b) ∧ h.2 = g.2
theorem q_rfB {g : ic_S} {b : Nat} (r : Nat → Int32) (h : ¬ ((3 ≤ b ∧ b ≤ 6) ∨ 24 ≤ b)) : q_rf g (sB g b r) := ⟨fun c hc => sB_ne _ _ (by intro e; subst e; exact h hc), rfl⟩
theorem q_rf.tr {g h k : ic_S} (h1 : q_rf g h) (h2 : q_rf h k) : q_rf g k := ⟨fun b hb => (h2.1 b hb).trans (h1.1 b hb), h2.2.trans h1.2⟩
/-- a call that keeps its streets: the answers are the same, the trial and the rows set aside may be others -/
theorem q_still {f6 f7 : ic_S → Option (Int32 × ic_S)} {g : ic_S} (hI : q_Inv g) (A : Int32 ⊕ Nat) (hA : ∀ c, A = .inr c → c < 7) {r : Nat → Int32} (hr : q_ok r) (h6 : f6 g = q_o6 A (sB g 1 r)) (h7 : ∀ h, q_rf g h → ∃ d a, (∀ i, i < 73 → d i = g.1 3 i) ∧ f7 h = q_o7 A (sB (sB h 3 d) 5 a)) : q_go f6 f7 g := by
  obtain ⟨i1, i2, i3, i4, i5, i6, i7⟩ := hI
  rcases A with v | c
  · obtain ⟨d, a, hd, e7⟩ := h7 (sB g 1 r) (q_rfB r (by omega))
    refine ⟨v, _, _, h6, e7, ?_, rfl, rfl, rfl, rfl⟩
    exact ⟨hr, i2, i3.ext hd, i4, i5, i6, i7⟩
  · have hc := hA c rfl
    have h6' : f6 g = fX6_finding (nI c) (sB g 1 r) := h6
    rw [c_find hc] at h6'
    obtain ⟨d, a, hd, e7⟩ := h7 (sB (sB g 1 r) 23 (rU ((sB g 1 r).1 23) c ((sB g 1 r).1 23 c + 1))) ((q_rfB r (by omega)).tr (q_rfB _ (by omega)))
    refine ⟨_, _, _, h6', e7.trans (r_find hc _), ?_, rfl, rfl, rfl, rfl⟩
    refine ⟨hr, i2, i3.ext hd, i4, i5, i6, fun i hi => ?_⟩
    show rU (g.1 23) c (g.1 23 c + 1) i = rU (g.1 25) c (g.1 25 c + 1) i
    by_cases e : i = c
    · subst e
      rw [rU_s, rU_s, i7 i hi]
    · rw [rU_n _ _ e, rU_n _ _ e, i7 i hi]
/-- a call that only finds -/
theorem q_stop {f6 f7 : ic_S → Option (Int32 × ic_S)} {g : ic_S} (hI : q_Inv g) {c : Nat} (hc : c < 7) (h6 : f6 g = fX6_finding (nI c) g) (h7 : ∀ h, q_rf g h → f7 h = fX7_finds (nI c) h) : q_go f6 f7 g := by
  refine q_still hI (.inr c) (fun c' e => ?_) hI.1 ?_ ?_
  · cases e
    exact hc
  · rw [h6, sB_id]
    rfl
  · intro h hf
    refine ⟨g.1 3, h.1 5, fun _ _ => rfl, ?_⟩
    rw [← hf.1 3 (by omega), sB_id, sB_id]
    exact h7 h hf
/-- a call that only tells -/
theorem q_tell {f6 f7 : ic_S → Option (Int32 × ic_S)} {g : ic_S} (hI : q_Inv g) (v : Int32) (h6 : f6 g = some (v, g)) (h7 : ∀ h, q_rf g h → f7 h = some (v, h)) : q_go f6 f7 g := by
  refine q_still hI (.inl v) (fun c' e => by cases e) hI.1 ?_ ?_
  · rw [h6, sB_id]
    rfl
  · intro h hf
    refine ⟨g.1 3, h.1 5, fun _ _ => rfl, ?_⟩
    rw [← hf.1 3 (by omega), sB_id, sB_id]
    exact h7 h hf
/-! ranges -/
theorem p_cl (x y : Int64) : (lg_cmp x y < 0 ↔ x < y) ∧ (0 < lg_cmp x y ↔ y < x) := by
  unfold lg_cmp
  have h1 : ¬ (1 : Int32) < 0 := by decide
  have h2 : ¬ (0 : Int32) < 0 := by decide
  have h3 : ¬ (0 : Int32) < -1 := by decide
  have h4 : (-1 : Int32) < 0 := by decide
  have h5 : (0 : Int32) < 1 := by decide
  simp only [gt_iff_lt, Int64.lt_iff_toInt_lt, ← Int64.toInt_inj]
  by_cases a : y.toInt < x.toInt
  · rw [if_pos a]
    exact ⟨⟨fun h => absurd h h1, fun h => absurd a (by omega)⟩, ⟨fun _ => a, fun _ => h5⟩⟩
  · rw [if_neg a]
    by_cases b : x.toInt = y.toInt
    · rw [if_pos b]
      exact ⟨⟨fun h => absurd h h2, fun h => absurd b (by omega)⟩, ⟨fun h => absurd h h2, fun h => absurd h a⟩⟩
    · rw [if_neg b]
      exact ⟨⟨fun _ => by omega, fun _ => h4⟩, ⟨fun h => absurd h h3, fun h => absurd h a⟩⟩
theorem r_in (x a b : Int32) (g : ic_S) : fX7_in x.toInt64 a.toInt64 b.toInt64 g = some (if x < a then 0 else if b < x then 0 else 1, g) := by
  have h1 : x.toInt64 < a.toInt64 ↔ x < a := by simp [Int64.lt_iff_toInt_lt, Int32.lt_iff_toInt_lt]
  have h2 : b.toInt64 < x.toInt64 ↔ b < x := by simp [Int64.lt_iff_toInt_lt, Int32.lt_iff_toInt_lt]
  unfold fX7_in
  simp only [(p_cl _ _).1, (p_cl _ _).2, h1, h2]
  repeat' (first | rfl | split)
/-- x is one of the first n numbers, or it is not -/
theorem r_inY {n j : Nat} (h : j < n) (hn : n ≤ 10000) (g : ic_S) : fX7_in (nI j).toInt64 (Int32.toInt64 0) (nI (n - 1)).toInt64 g = some (1, g) := by
  rw [r_in, if_neg (nI_pos (by omega)), if_neg (nI_nlt (by omega) (by omega))]
theorem r_inN {n : Nat} {x : Int32} (h0 : 0 < n) (hn : n ≤ 10000) (h : x < 0 ∨ nI n ≤ x) (g : ic_S) : fX7_in x.toInt64 (Int32.toInt64 0) (nI (n - 1)).toInt64 g = some (0, g) := by
  rw [r_in]
  rcases h with h | h
  · rw [if_pos h]
  · have : nI (n - 1) < x := by
      have a := Int32.le_iff_toInt_le.mp h
      rw [nI_toInt (by omega)] at a
      rw [Int32.lt_iff_toInt_lt, nI_toInt (by omega)]
      omega
    rw [if_pos this, ite_self]
section
variable {s t : Nat} {g : ic_S} {x : Int32}
theorem c_has (hs : s < 3) (hk : q_ok (g.1 s)) (ht : t < q_M (g.1 s)) : fX2_hasThing s (nI t) g = some (1, g) := by
  obtain ⟨h0, hM⟩ := q_ok0 hk
  unfold fX2_hasThing
  rw [p_bt hs, p_gd, if_neg (nI_pos (by omega)), h0, if_neg (nI_ge ht (by omega))]
theorem c_hasN (hs : s < 3) (h : x < 0 ∨ g.1 s 0 ≤ x) : fX2_hasThing s x g = some (0, g) := by
  unfold fX2_hasThing
  rw [p_bt hs, p_gd]
  rcases h with h | h
  · rw [if_pos h]
  · rw [if_pos h, ite_self]
theorem r_has (hk : q_ok (g.1 3)) (ht : t < q_M (g.1 3)) : fX7_isThing (nI t) g = some (1, g) := by
  obtain ⟨h0, hM⟩ := q_ok0 hk
  unfold fX7_isThing
  rw [Nat.add_zero, h0, show (1 : Int32) = nI 1 from rfl, pk_sub (by omega)]
  have e := r_inY ht (by omega) g
  rw [show fX7_in (nI t).toInt64 0 (nI (q_M (g.1 3) - 1)).toInt64 g = some (1, g) from e, p_b2]
  rfl
theorem r_hasN (hk : q_ok (g.1 3)) (h : x < 0 ∨ g.1 3 0 ≤ x) : fX7_isThing x g = some (0, g) := by
  obtain ⟨h0, hM⟩ := q_ok0 hk
  unfold fX7_isThing
  have e : fX7_in x.toInt64 (Int32.toInt64 0) (g.1 3 0 - 1).toInt64 g = some (0, g) := by
    rw [r_in]
    rcases h with h | h
    · rw [if_pos h]
    · have : g.1 3 0 - 1 < x := by
        rw [h0] at h ⊢
        have a := Int32.le_iff_toInt_le.mp h
        rw [nI_toInt (by omega)] at a
        rw [Int32.lt_iff_toInt_lt, show (1 : Int32) = nI 1 from rfl, pk_sub_toInt (by omega) (by decide)]
        omega
      rw [if_pos this, ite_self]
  rw [Nat.add_zero, show fX7_in x.toInt64 0 (g.1 3 0 - 1).toInt64 g = some (0, g) from e, p_b2]
  rfl
theorem c_cell {j : Nat} (h : j < 16) : fX6_isCell (nI j) g = some (1, g) := by
  unfold fX6_isCell
  rw [if_neg (nI_pos (by omega)), show (16 : Int32) = nI 16 from rfl, if_neg (nI_ge h (by decide))]
theorem c_cellN (h : x < 0 ∨ nI 16 ≤ x) : fX6_isCell x g = some (0, g) := by
  unfold fX6_isCell
  rcases h with h | h
  · rw [if_pos h]
  · rw [show (16 : Int32) = nI 16 from rfl, if_pos h, ite_self]
theorem r_cell {j : Nat} (h : j < 16) : fX7_isCell (nI j) g = some (1, g) := by
  unfold fX7_isCell
  rw [show fX7_in (nI j).toInt64 0 15 g = some (1, g) from r_inY h (by decide) g, p_b2]
  rfl
theorem r_cellN (h : x < 0 ∨ nI 16 ≤ x) : fX7_isCell x g = some (0, g) := by
  unfold fX7_isCell
  rw [show fX7_in x.toInt64 0 15 g = some (0, g) from r_inN (n := 16) (by decide) (by decide) h g, p_b2]
  rfl
theorem c_kind {j : Nat} (h : j < 7) : fX6_isKind (nI j) g = some (1, g) := by
  unfold fX6_isKind
  rw [if_neg (nI_pos (by omega)), show (7 : Int32) = nI 7 from rfl, if_neg (nI_ge h (by decide))]
theorem c_kindN (h : x < 0 ∨ nI 7 ≤ x) : fX6_isKind x g = some (0, g) := by
  unfold fX6_isKind
  rcases h with h | h
  · rw [if_pos h]
  · rw [show (7 : Int32) = nI 7 from rfl, if_pos h, ite_self]
end
/-- a thing of the street, or none: on both sides -/
theorem q_R.thing {a b : Nat → Int32} (h : q_R a b) (x : Int32) : (x < 0 ∨ a 0 ≤ x) ∧ (x < 0 ∨ b 0 ≤ x) ∨ ∃ t, t < q_M a ∧ t < q_M b ∧ x = nI t := by
  obtain ⟨h1, h2, h3, _⟩ := h
  have e := h3.1 0 (by decide)
  rw [e]
  obtain ⟨h0, hM⟩ := q_ok0 h2
  rcases pk_ix x (n := q_M b) (by omega) with h | h | ⟨j, hj, h⟩
  · exact Or.inl ⟨Or.inl h, Or.inl h⟩
  · rw [← h0] at h
    exact Or.inl ⟨Or.inr h, Or.inr h⟩
  · exact Or.inr ⟨j, by rw [h3.M]; exact hj, hj, h⟩
