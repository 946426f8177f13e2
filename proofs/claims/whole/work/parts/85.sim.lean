/-! texts: class and reference read them side by side -/
theorem p_c : q_L (q_cd 0) = 10793230 ∧ q_L (q_cd 1) = 190688 ∧ q_L (q_cd 2) = 149044 ∧ q_L (q_cd 3) = 10561513 ∧ q_L (q_cd 4) = 1597 ∧ q_L (q_cd 5) = 203643563 ∧ q_L (q_cd 6) = 1960187 ∧ q_L (q_cd 7) = 47 ∧ q_L (q_cd 8) = 4351291 ∧ q_L (q_cd 9) = 240987856 ∧ q_L (q_cd 10) = 161437 ∧ q_L (q_cd 11) = 60284 ∧ q_L (q_cd 12) = 40187 ∧ q_L (q_cd 13) = 315743 ∧ q_L (q_cd 14) = 247702 := by decide +kernel
def q_Fr (a6 a7 g6 g7 : ic_S) : Prop := (∀ b, b ≠ 1 → b ≠ 14 → g6.1 b = a6.1 b) ∧ (∀ b, b ≠ 3 → b ≠ 24 → g7.1 b = a7.1 b) ∧ g7.1 24 0 = a7.1 24 0 ∧ g7.1 24 1 = a7.1 24 1
/-- both stand at token j, without a fault -/
def q_Go (f : Nat → Nat) (k : Nat) (a6 a7 : ic_S) (M j : Nat) (g6 g7 : ic_S) : Prop := q_Fr a6 a7 g6 g7 ∧ j ≤ 120 ∧ g6.1 14 0 = nI j ∧ g6.1 14 1 = 0 ∧ g7.1 24 5 = -1 ∧ q_at f k (q_St f k j) g7 ∧ q_R (g6.1 1) (g7.1 3) ∧ q_M (g7.1 3) = M
/-- both have found the fault at one token -/
def q_Ba (f : Nat → Nat) (k : Nat) (a6 a7 g6 g7 : ic_S) : Prop := q_Fr a6 a7 g6 g7 ∧ ∃ j, j ≤ 120 ∧ g6.1 14 0 = nI j ∧ g6.1 14 1 = 1 ∧ g7.1 24 5 = nI (q_St f k j) ∧ q_ok (g6.1 1)
def q_GB (f : Nat → Nat) (k : Nat) (a6 a7 : ic_S) (M j0 : Nat) (g6 g7 : ic_S) : Prop := (∃ j, j0 ≤ j ∧ q_Go f k a6 a7 M j g6 g7) ∨ q_Ba f k a6 a7 g6 g7
def q_Ou (f : Nat → Nat) (k : Nat) (a6 a7 : ic_S) (j0 : Nat) (g6 g7 : ic_S) : Prop := (∃ M j, j0 < j ∧ q_Go f k a6 a7 M j g6 g7) ∨ q_Ba f k a6 a7 g6 g7
def q_W (f : Nat → Nat) (k j w : Nat) : Prop := q_so f k (q_St f k j) = 1 ∧ q_va f k (q_St f k j) = nI w
section
variable {f : Nat → Nat} {k : Nat} {a6 a7 g6 g7 : ic_S}
theorem q_Fr.tk (hF : q_Fr a6 a7 g6 g7) (h6 : q_tk f k a6) : q_tk f k g6 := h6.ext fun b _ _ => hF.1 b (by omega) (by omega)
theorem q_Fr.tr (hF : q_Fr a6 a7 g6 g7) (h7 : q_tr f k a7) : q_tr f k g7 := h7.ext hF.2.2.2 (hF.2.1 26 (by decide) (by decide))
theorem q_Fr.go (hF : q_Fr a6 a7 g6 g7) {g6' g7' : ic_S} (f6 : ∀ b, b ≠ 1 → b ≠ 14 → g6'.1 b = g6.1 b) (f7 : ∀ b, b ≠ 3 → b ≠ 24 → g7'.1 b = g7.1 b) (x : ∀ i, i ≠ 2 → i ≠ 3 → i ≠ 4 → i ≠ 5 → g7'.1 24 i = g7.1 24 i) : q_Fr a6 a7 g6' g7' :=
  ⟨fun b h1 h2 => (f6 b h1 h2).trans (hF.1 b h1 h2), fun b h1 h2 => (f7 b h1 h2).trans (hF.2.1 b h1 h2), (x 0 (by decide) (by decide) (by decide) (by decide)).trans hF.2.2.1, (x 1 (by decide) (by decide) (by decide) (by decide)).trans hF.2.2.2⟩
theorem q_vaW {s : Nat} (h : q_so f k s = 1) : s < k ∧ q_lt f s = true ∧ q_va f k s = q_oI (q_wi f s (q_en f k s - s)) := by
  unfold q_so at h
  unfold q_va
  by_cases h1 : k ≤ s
  · rw [if_pos h1] at h
    exact absurd h (by decide)
  · rw [if_neg h1] at h ⊢
    by_cases h2 : q_lt f s = true
    · rw [if_pos h2]
      exact ⟨by omega, h2, rfl⟩
    · rw [if_neg h2] at h
      exfalso
      revert h
      repeat' split
      all_goals decide
theorem r_isW {g : ic_S} {s w : Nat} (ha : q_at f k s g) (hw : w < 15) : (q_so f k s = 1 ∧ q_va f k s = nI w ∧ fX7_isWord (q_L (q_cd w)) g = some (1, g)) ∨ (¬ (q_so f k s = 1 ∧ q_va f k s = nI w) ∧ fX7_isWord (q_L (q_cd w)) g = some (0, g)) := by
  obtain ⟨h1, h2, h3, h4, h5⟩ := ha
  have hs4 := q_so4 f k s
  unfold fX7_isWord
  rw [h1]
  by_cases hs : q_so f k s = 1
  · obtain ⟨v, e, hv⟩ := h4 hs
    have hc := p_cdL w hw
    have hv1 := hv.1
    have hE : v = q_cd w ↔ q_wv f s (q_en f k s - s) = q_cd w := by
      rcases hv.2 with e2 | e2
      · rw [e2]
      · omega
    rw [if_pos (show nI (q_so f k s) = 1 from congrArg nI hs), e]
    by_cases hw2 : v = q_cd w
    · refine Or.inl ⟨hs, ?_, ?_⟩
      · rw [(q_vaW hs).2.2]
        exact (q_wiI hw).mpr (hE.mp hw2)
      · rw [if_pos ((p_Lc _ _).2.mpr (congrArg q_L hw2))]
    · refine Or.inr ⟨fun h => hw2 (hE.mpr ?_), ?_⟩
      · have h := h.2
        rw [(q_vaW hs).2.2] at h
        exact (q_wiI hw).mp h
      · rw [if_neg (fun h => hw2 ((p_Le (by omega) (by omega)).mp ((p_Lc _ _).2.mp h)))]
  · refine Or.inr ⟨fun h => hs h.1, ?_⟩
    rw [if_neg (show ¬ nI (q_so f k s) = 1 from fun h => hs ((nI_eq (b := 1) (by omega) (by decide)).mp h))]
theorem c_pw1 {g : ic_S} {j w : Nat} (hk : q_tk f k g) (hj : j ≤ 120) (e0 : g.1 14 0 = nI j) (e1 : g.1 14 1 = 0) (hW : q_so f k (q_St f k j) = 1 ∧ q_va f k (q_St f k j) = nI w) : fX0_passWord (nI w) g = some (1, sB g 14 (rU (g.1 14) 0 (nI (j + 1)))) := by
  unfold fX0_passWord
  rw [if_pos e1, e0, c_sort hk (by omega), p_b2, hW.1, if_pos (show nI 1 = 1 from rfl), e0, c_val hk (by omega), p_b2, hW.2, if_pos rfl, p_let, up_sB, e0, nI_1]
theorem c_pw0 {g : ic_S} {j w : Nat} (hk : q_tk f k g) (hj : j ≤ 120) (e0 : g.1 14 0 = nI j) (hW : ¬ (q_so f k (q_St f k j) = 1 ∧ q_va f k (q_St f k j) = nI w) ∨ g.1 14 1 = 1) : fX0_passWord (nI w) g = some (0, g) := by
  have hs4 := q_so4 f k (q_St f k j)
  unfold fX0_passWord
  rcases hW with hW | hW
  · by_cases e1 : g.1 14 1 = 0
    · rw [if_pos e1, e0, c_sort hk (by omega), p_b2]
      by_cases hs : q_so f k (q_St f k j) = 1
      · rw [if_pos (show nI (q_so f k (q_St f k j)) = 1 from congrArg nI hs), e0, c_val hk (by omega), p_b2, if_neg (fun h => hW ⟨hs, h⟩)]
      · rw [if_neg (show ¬ nI (q_so f k (q_St f k j)) = 1 from fun h => hs ((nI_eq (b := 1) (by omega) (by decide)).mp h))]
    · rw [if_neg e1]
  · rw [hW, if_neg (by decide)]
theorem r_wr {g : ic_S} {s : Nat} (e4 : g.1 24 4 = nI s) (e5 : g.1 24 5 = -1) : fX7_wrongHere g = some (sB g 24 (rU (g.1 24) 5 (nI s))) := by
  unfold fX7_wrongHere
  rw [e5, if_neg (by decide), p_let, up_sB, e4]
theorem q_Go.tk {M j : Nat} (hG : q_Go f k a6 a7 M j g6 g7) (h6 : q_tk f k a6) : q_tk f k g6 := hG.1.tk h6
theorem q_Go.tr {M j : Nat} (hG : q_Go f k a6 a7 M j g6 g7) (h7 : q_tr f k a7) : q_tr f k g7 := hG.1.tr h7
theorem q_Go.ba {M j : Nat} (hG : q_Go f k a6 a7 M j g6 g7) {r : Nat → Int32} (hr : q_ok r) {r7 : Nat → Int32} : q_Ba f k a6 a7 (sB (sB g6 14 (rU (g6.1 14) 1 1)) 1 r) (sB (sB g7 24 (rU (g7.1 24) 5 (nI (q_St f k j)))) 3 r7) := by
  obtain ⟨h1, h2, h3, h4, h5, h6, h7, h8⟩ := hG
  refine ⟨h1.go (fun b h1 h2 => ?_) (fun b h1 h2 => ?_) (fun i h1 h2 h3 h4 => ?_), j, h2, ?_, rfl, rfl, ?_⟩
  · rw [sB_ne _ _ h1, sB_ne _ _ h2]
  · rw [sB_ne _ _ h1, sB_ne _ _ h2]
  · rw [sB_ne _ _ (by decide), sB_self, rU_n _ _ h4]
  · rw [sB_ne _ _ (by decide), sB_self, rU_n _ _ (by decide)]
    exact h3
  · rw [sB_self]
    exact hr
theorem q_Go.ba0 {M j : Nat} (hG : q_Go f k a6 a7 M j g6 g7) : q_Ba f k a6 a7 (sB g6 14 (rU (g6.1 14) 1 1)) (sB g7 24 (rU (g7.1 24) 5 (nI (q_St f k j)))) := by
  have h := hG.ba hG.2.2.2.2.2.2.1.1 (r7 := g7.1 3)
  have e6 : sB (sB g6 14 (rU (g6.1 14) 1 1)) 1 (g6.1 1) = sB g6 14 (rU (g6.1 14) 1 1) := by
    rw [← sB_ne g6 (rU (g6.1 14) 1 1) (show 1 ≠ 14 by decide), sB_id]
  have e7 : sB (sB g7 24 (rU (g7.1 24) 5 (nI (q_St f k j)))) 3 (g7.1 3) = sB g7 24 (rU (g7.1 24) 5 (nI (q_St f k j))) := by
    rw [← sB_ne g7 (rU (g7.1 24) 5 (nI (q_St f k j))) (show 3 ≠ 24 by decide), sB_id]
  rw [e6, e7] at h
  exact h
theorem q_Ba.s6 (hB : q_Ba f k a6 a7 g6 g7) {r : Nat → Int32} (hr : q_ok r) : q_Ba f k a6 a7 (sB g6 1 r) g7 := by
  obtain ⟨h1, j, h2, h3, h4, h5, h6⟩ := hB
  refine ⟨h1.go (fun b h1 h2 => sB_ne _ _ h1) (fun _ _ _ => rfl) (fun _ _ _ _ _ => rfl), j, h2, ?_, ?_, h5, ?_⟩
  · rw [sB_ne _ _ (by decide)]
    exact h3
  · rw [sB_ne _ _ (by decide)]
    exact h4
  · rw [sB_self]
    exact hr
theorem q_Ba.s7 (hB : q_Ba f k a6 a7 g6 g7) (r : Nat → Int32) : q_Ba f k a6 a7 g6 (sB g7 3 r) := by
  obtain ⟨h1, j, h2, h3, h4, h5, h6⟩ := hB
  refine ⟨h1.go (fun _ _ _ => rfl) (fun b h1 h2 => sB_ne _ _ h1) (fun i _ _ _ _ => ?_), j, h2, h3, h4, ?_, h6⟩
  · rw [sB_ne _ _ (by decide)]
  · rw [sB_ne _ _ (by decide)]
    exact h5
/-- on to the next token -/
theorem q_Go.adv {M j : Nat} (hG : q_Go f k a6 a7 M j g6 g7) (hk : k ≤ 120) (hs : ¬ q_so f k (q_St f k j) = 0) {M' : Nat} {g6' g7' : ic_S} (e0 : g6'.1 14 0 = nI (j + 1)) (e1 : g6'.1 14 1 = 0) (hR : q_R (g6'.1 1) (g7'.1 3)) (hM : q_M (g7'.1 3) = M') (f6 : ∀ b, b ≠ 1 → b ≠ 14 → g6'.1 b = g6.1 b) (f7 : ∀ b, b ≠ 3 → b ≠ 24 → g7'.1 b = g7.1 b) (x : ∀ i, i ≠ 2 → i ≠ 3 → i ≠ 4 → g7'.1 24 i = g7.1 24 i) (ha : q_at f k (q_St f k (j + 1)) g7') : q_Go f k a6 a7 M' (j + 1) g6' g7' := by
  obtain ⟨h1, h2, h3, h4, h5, h6, h7, h8⟩ := hG
  have hl := q_soN hs
  have hj := q_Stj j hl
  exact ⟨h1.go f6 f7 (fun i a b c _ => x i a b c), by omega, e0, e1, (x 5 (by decide) (by decide) (by decide)).trans h5, ha, hR, hM⟩
/-- rows changed on both sides -/
theorem q_Go.row {M j : Nat} (hG : q_Go f k a6 a7 M j g6 g7) {r6 r7 : Nat → Int32} (hR : q_R r6 r7) {M' : Nat} (hM : q_M r7 = M') : q_Go f k a6 a7 M' j (sB g6 1 r6) (sB g7 3 r7) := by
  obtain ⟨h1, h2, h3, h4, h5, h6, h7, h8⟩ := hG
  have e24 : (sB g7 3 r7).1 24 = g7.1 24 := sB_ne _ _ (by decide)
  refine ⟨h1.go (fun b a _ => sB_ne _ _ a) (fun b a _ => sB_ne _ _ a) (fun i _ _ _ _ => by rw [e24]), h2, ?_, ?_, ?_, ?_, ?_, ?_⟩
  · rw [sB_ne _ _ (by decide)]
    exact h3
  · rw [sB_ne _ _ (by decide)]
    exact h4
  · rw [e24]
    exact h5
  · unfold q_at
    rw [e24]
    exact h6
  · rw [sB_self, sB_self]
    exact hR
  · rw [sB_self]
    exact hM
theorem r_nx {g : ic_S} (ht : q_tr f k g) {j : Nat} (ha : q_at f k (q_St f k j) g) (h4 : q_so f k (q_St f k j) ≠ 4) : ∃ g', fX7_next g = some g' ∧ (∀ b, b ≠ 24 → g'.1 b = g.1 b) ∧ (∀ i, i ≠ 2 → i ≠ 3 → i ≠ 4 → g'.1 24 i = g.1 24 i) ∧ q_at f k (q_St f k (j + 1)) g' :=
  r_next ht (p := q_E f k (j + 1)) (q_Ek f k (j + 1)) (ha.2.2.1 h4)
/-- both pass the token j -/
theorem s_step {M j : Nat} (h6 : q_tk f k a6) (h7 : q_tr f k a7) (hG : q_Go f k a6 a7 M j g6 g7) (h0 : ¬ q_so f k (q_St f k j) = 0) (h4 : q_so f k (q_St f k j) ≠ 4) : ∃ g7', fX7_next g7 = some g7' ∧ g7'.1 3 = g7.1 3 ∧ q_Go f k a6 a7 M (j + 1) (sB g6 14 (rU (g6.1 14) 0 (nI (j + 1)))) g7' := by
  obtain ⟨g7', e, f7, x, ha⟩ := r_nx (hG.tr h7) hG.2.2.2.2.2.1 h4
  refine ⟨g7', e, f7 3 (by decide), hG.adv h6.1.2.1 h0 rfl ?_ ?_ ?_ (fun b _ h2 => sB_ne _ _ h2) (fun b _ h2 => f7 b h2) x ha⟩
  · rw [sB_self, rU_n _ _ (by decide)]
    exact hG.2.2.2.1
  · rw [sB_ne _ _ (by decide), f7 3 (by decide)]
    exact hG.2.2.2.2.2.2.1
  · rw [f7 3 (by decide)]
    exact hG.2.2.2.2.2.2.2
theorem q_vaN {s : Nat} (h : q_so f k s = 2) : q_va f k s = nI (q_nv f (k - s) s 0) := by
  unfold q_so at h
  unfold q_va
  by_cases h1 : k ≤ s
  · rw [if_pos h1] at h
    exact absurd h (by decide)
  · rw [if_neg h1] at h ⊢
    by_cases h2 : q_lt f s = true
    · rw [if_pos h2] at h
      exact absurd h (by decide)
    · rw [if_neg h2] at h ⊢
      by_cases h3 : q_dg f s = true
      · rw [if_pos h3]
      · rw [if_neg h3] at h
        exfalso
        revert h
        split <;> decide
/-- a number, or the fault -/
theorem s_num {M j lo hi : Nat} (h6 : q_tk f k a6) (h7 : q_tr f k a7) (hG : q_Go f k a6 a7 M j g6 g7) (hl : lo ≤ hi) (hh : hi ≤ 999) : (∃ v g7', lo ≤ v ∧ v ≤ hi ∧ fX0_passNumber (nI lo) (nI hi) g6 = some (nI v, sB g6 14 (rU (g6.1 14) 0 (nI (j + 1)))) ∧ fX7_numberHere (nI lo) (nI hi) g7 = some (nI v, g7') ∧ g7'.1 3 = g7.1 3 ∧ q_Go f k a6 a7 M (j + 1) (sB g6 14 (rU (g6.1 14) 0 (nI (j + 1)))) g7') ∨ (fX0_passNumber (nI lo) (nI hi) g6 = some (nI lo, sB g6 14 (rU (g6.1 14) 1 1)) ∧ fX7_numberHere (nI lo) (nI hi) g7 = some (0, sB g7 24 (rU (g7.1 24) 5 (nI (q_St f k j))))) := by
  have hG0 := hG
  obtain ⟨i1, i2, i3, i4, i5, ⟨j1, j2, j3, j4, j5⟩, i7, i8⟩ := hG
  have ht := hG0.tk h6
  have hs4 := q_so4 f k (q_St f k j)
  unfold fX0_passNumber fX7_numberHere
  rw [i3, c_val ht (by omega), p_b2, if_pos i4, i3, c_sort ht (by omega), p_b2, j1]
  by_cases hs : q_so f k (q_St f k j) = 2
  · obtain ⟨v, hv, e, ev⟩ := j5 hs
    have e2 : nI (q_so f k (q_St f k j)) = 2 := congrArg nI hs
    rw [if_pos e2, if_pos e2, ev, e, ← p_Li (show v < 2 ^ 31 by omega), r_in, p_b2]
    by_cases hr : lo ≤ v ∧ v ≤ hi
    · left
      obtain ⟨g7', en, e3, hG'⟩ := s_step h6 h7 hG0 (by omega) (by omega)
      refine ⟨v, g7', hr.1, hr.2, ?_, ?_, e3, hG'⟩
      · rw [Nat.min_eq_left (by omega), if_neg (nI_nlt (by omega) (by omega)), if_pos (nI_le (by omega) (by omega)), p_let, up_sB, i3, nI_1]
      · rw [if_neg (nI_nlt (by omega) (by omega)), if_neg (nI_nlt (by omega) (by omega)), if_neg (by decide), en, p_b1, Int32.toInt32_toInt64]
    · right
      constructor
      · by_cases h1 : v < lo
        · rw [if_pos (nI_lt (by omega) (by omega)), p_let, up_sB]
        · rw [if_neg (nI_nlt (by omega) (by omega)), if_neg (nI_ge (by omega) (by omega)), p_let, up_sB]
      · rw [r_wr j2 i5]
        by_cases h1 : v < lo
        · rw [if_pos (nI_lt h1 (by omega)), if_pos rfl, p_b1]
        · rw [if_neg (nI_nlt (by omega) (by omega)), if_pos (nI_lt (by omega) (by omega)), if_pos rfl, p_b1]
  · have e2 : ¬ nI (q_so f k (q_St f k j)) = 2 := fun h => hs ((nI_eq (b := 2) (by omega) (by decide)).mp h)
    right
    rw [if_neg e2, if_neg e2, p_let, up_sB, r_wr j2 i5, p_b1]
    exact ⟨rfl, rfl⟩
end
