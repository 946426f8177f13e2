/-! the law: one call after another -/
theorem l_cel {L i t : Nat} (h : i + t < L) (hL : L ≤ 3072) (x : Int32) (hx : x = nI (i + t)) : (decide (0 ≤ Int32.toInt x) && decide (Int32.toInt x < Int32.toInt (nI L))) = true := by
  rw [hx, nI_toInt (by omega), nI_toInt (by omega)]
  simp
  omega
theorem l_0 {L i : Nat} (hi : i + 6 ≤ L) (hL : L ≤ 3072) {g : ic_S} (e41 : g.1 41 0 = nI L) {F6 F7 : ic_S → Option (Int32 × ic_S)} (hg : q_go F6 F7 g) {K : ic_S → Option ((Int32 × ic_S) ⊕ (Unit × ic_S))} (hK : ∀ g2, q_Inv g2 → g2.1 40 = g.1 40 → g2.1 41 = g.1 41 → ∃ g', K g2 = some (.inr ((), g'))) : ∃ g', ic_b2 (F6  g) (fun v g1 => ic_b2 (F7  g1) (fun v' g2 => (if v = v' then K g2 else some (.inl (0, g2))))) = some (.inr ((), g')) := by
  obtain ⟨v, g1, g2, e6, e7, hI, h1, h2, h3, h4⟩ := hg 
  rw [e6, p_b2, e7, p_b2, if_pos rfl]
  exact hK g2 hI h3 h4
theorem l_1 {L i : Nat} (hi : i + 6 ≤ L) (hL : L ≤ 3072) {g : ic_S} (e41 : g.1 41 0 = nI L) {F6 F7 : Int32 → ic_S → Option (Int32 × ic_S)} (hg : ∀ a1, q_go (F6 a1) (F7 a1) g) {K : ic_S → Option ((Int32 × ic_S) ⊕ (Unit × ic_S))} (hK : ∀ g2, q_Inv g2 → g2.1 40 = g.1 40 → g2.1 41 = g.1 41 → ∃ g', K g2 = some (.inr ((), g'))) : ∃ g', ic_gd (decide (0 ≤ Int32.toInt (nI i + 1)) && decide (Int32.toInt (nI i + 1) < Int32.toInt (g.1 41 0))) (ic_b2 (F6 (g.1 40 (Int32.toNatClampNeg (nI i + 1))) g) (fun v g1 => ic_gd (decide (0 ≤ Int32.toInt (nI i + 1)) && decide (Int32.toInt (nI i + 1) < Int32.toInt (g1.1 41 0))) (ic_b2 (F7 (g1.1 40 (Int32.toNatClampNeg (nI i + 1))) g1) (fun v' g2 => (if v = v' then K g2 else some (.inl (0, g2))))))) = some (.inr ((), g')) := by
  have b1 := l_cel (t := 1) (show i + 1 < L by omega) hL (nI i + 1) (nI_add i 1)
  obtain ⟨v, g1, g2, e6, e7, hI, h1, h2, h3, h4⟩ := hg (g.1 40 (Int32.toNatClampNeg (nI i + 1)))
  rw [e41, b1, p_gd, e6, p_b2, h2, h1, e41, b1, p_gd, e7, p_b2, if_pos rfl]
  exact hK g2 hI h3 h4
theorem l_2 {L i : Nat} (hi : i + 6 ≤ L) (hL : L ≤ 3072) {g : ic_S} (e41 : g.1 41 0 = nI L) {F6 F7 : Int32 → Int32 → ic_S → Option (Int32 × ic_S)} (hg : ∀ a1 a2, q_go (F6 a1 a2) (F7 a1 a2) g) {K : ic_S → Option ((Int32 × ic_S) ⊕ (Unit × ic_S))} (hK : ∀ g2, q_Inv g2 → g2.1 40 = g.1 40 → g2.1 41 = g.1 41 → ∃ g', K g2 = some (.inr ((), g'))) : ∃ g', ic_gd (decide (0 ≤ Int32.toInt (nI i + 1)) && decide (Int32.toInt (nI i + 1) < Int32.toInt (g.1 41 0))) (ic_gd (decide (0 ≤ Int32.toInt (nI i + 2)) && decide (Int32.toInt (nI i + 2) < Int32.toInt (g.1 41 0))) (ic_b2 (F6 (g.1 40 (Int32.toNatClampNeg (nI i + 1))) (g.1 40 (Int32.toNatClampNeg (nI i + 2))) g) (fun v g1 => ic_gd (decide (0 ≤ Int32.toInt (nI i + 1)) && decide (Int32.toInt (nI i + 1) < Int32.toInt (g1.1 41 0))) (ic_gd (decide (0 ≤ Int32.toInt (nI i + 2)) && decide (Int32.toInt (nI i + 2) < Int32.toInt (g1.1 41 0))) (ic_b2 (F7 (g1.1 40 (Int32.toNatClampNeg (nI i + 1))) (g1.1 40 (Int32.toNatClampNeg (nI i + 2))) g1) (fun v' g2 => (if v = v' then K g2 else some (.inl (0, g2))))))))) = some (.inr ((), g')) := by
  have b1 := l_cel (t := 1) (show i + 1 < L by omega) hL (nI i + 1) (nI_add i 1)
  have b2 := l_cel (t := 2) (show i + 2 < L by omega) hL (nI i + 2) (nI_add i 2)
  obtain ⟨v, g1, g2, e6, e7, hI, h1, h2, h3, h4⟩ := hg (g.1 40 (Int32.toNatClampNeg (nI i + 1))) (g.1 40 (Int32.toNatClampNeg (nI i + 2)))
  rw [e41, b1, b2, p_gd, p_gd, e6, p_b2, h2, h1, e41, b1, b2, p_gd, p_gd, e7, p_b2, if_pos rfl]
  exact hK g2 hI h3 h4
theorem l_3 {L i : Nat} (hi : i + 6 ≤ L) (hL : L ≤ 3072) {g : ic_S} (e41 : g.1 41 0 = nI L) {F6 F7 : Int32 → Int32 → Int32 → ic_S → Option (Int32 × ic_S)} (hg : ∀ a1 a2 a3, q_go (F6 a1 a2 a3) (F7 a1 a2 a3) g) {K : ic_S → Option ((Int32 × ic_S) ⊕ (Unit × ic_S))} (hK : ∀ g2, q_Inv g2 → g2.1 40 = g.1 40 → g2.1 41 = g.1 41 → ∃ g', K g2 = some (.inr ((), g'))) : ∃ g', ic_gd (decide (0 ≤ Int32.toInt (nI i + 1)) && decide (Int32.toInt (nI i + 1) < Int32.toInt (g.1 41 0))) (ic_gd (decide (0 ≤ Int32.toInt (nI i + 2)) && decide (Int32.toInt (nI i + 2) < Int32.toInt (g.1 41 0))) (ic_gd (decide (0 ≤ Int32.toInt (nI i + 3)) && decide (Int32.toInt (nI i + 3) < Int32.toInt (g.1 41 0))) (ic_b2 (F6 (g.1 40 (Int32.toNatClampNeg (nI i + 1))) (g.1 40 (Int32.toNatClampNeg (nI i + 2))) (g.1 40 (Int32.toNatClampNeg (nI i + 3))) g) (fun v g1 => ic_gd (decide (0 ≤ Int32.toInt (nI i + 1)) && decide (Int32.toInt (nI i + 1) < Int32.toInt (g1.1 41 0))) (ic_gd (decide (0 ≤ Int32.toInt (nI i + 2)) && decide (Int32.toInt (nI i + 2) < Int32.toInt (g1.1 41 0))) (ic_gd (decide (0 ≤ Int32.toInt (nI i + 3)) && decide (Int32.toInt (nI i + 3) < Int32.toInt (g1.1 41 0))) (ic_b2 (F7 (g1.1 40 (Int32.toNatClampNeg (nI i + 1))) (g1.1 40 (Int32.toNatClampNeg (nI i + 2))) (g1.1 40 (Int32.toNatClampNeg (nI i + 3))) g1) (fun v' g2 => (if v = v' then K g2 else some (.inl (0, g2))))))))))) = some (.inr ((), g')) := by
  have b1 := l_cel (t := 1) (show i + 1 < L by omega) hL (nI i + 1) (nI_add i 1)
  have b2 := l_cel (t := 2) (show i + 2 < L by omega) hL (nI i + 2) (nI_add i 2)
  have b3 := l_cel (t := 3) (show i + 3 < L by omega) hL (nI i + 3) (nI_add i 3)
  obtain ⟨v, g1, g2, e6, e7, hI, h1, h2, h3, h4⟩ := hg (g.1 40 (Int32.toNatClampNeg (nI i + 1))) (g.1 40 (Int32.toNatClampNeg (nI i + 2))) (g.1 40 (Int32.toNatClampNeg (nI i + 3)))
  rw [e41, b1, b2, b3, p_gd, p_gd, p_gd, e6, p_b2, h2, h1, e41, b1, b2, b3, p_gd, p_gd, p_gd, e7, p_b2, if_pos rfl]
  exact hK g2 hI h3 h4
theorem l_4 {L i : Nat} (hi : i + 6 ≤ L) (hL : L ≤ 3072) {g : ic_S} (e41 : g.1 41 0 = nI L) {F6 F7 : Int32 → Int32 → Int32 → Int32 → ic_S → Option (Int64 × ic_S)} (hg : ∀ a1 a2 a3 a4, q_go64 (F6 a1 a2 a3 a4) (F7 a1 a2 a3 a4) g) {K : ic_S → Option ((Int32 × ic_S) ⊕ (Unit × ic_S))} (hK : ∀ g2, q_Inv g2 → g2.1 40 = g.1 40 → g2.1 41 = g.1 41 → ∃ g', K g2 = some (.inr ((), g'))) : ∃ g', ic_gd (decide (0 ≤ Int32.toInt (nI i + 1)) && decide (Int32.toInt (nI i + 1) < Int32.toInt (g.1 41 0))) (ic_gd (decide (0 ≤ Int32.toInt (nI i + 2)) && decide (Int32.toInt (nI i + 2) < Int32.toInt (g.1 41 0))) (ic_gd (decide (0 ≤ Int32.toInt (nI i + 3)) && decide (Int32.toInt (nI i + 3) < Int32.toInt (g.1 41 0))) (ic_gd (decide (0 ≤ Int32.toInt (nI i + 4)) && decide (Int32.toInt (nI i + 4) < Int32.toInt (g.1 41 0))) (ic_b2 (F6 (g.1 40 (Int32.toNatClampNeg (nI i + 1))) (g.1 40 (Int32.toNatClampNeg (nI i + 2))) (g.1 40 (Int32.toNatClampNeg (nI i + 3))) (g.1 40 (Int32.toNatClampNeg (nI i + 4))) g) (fun v g1 => ic_gd (decide (0 ≤ Int32.toInt (nI i + 1)) && decide (Int32.toInt (nI i + 1) < Int32.toInt (g1.1 41 0))) (ic_gd (decide (0 ≤ Int32.toInt (nI i + 2)) && decide (Int32.toInt (nI i + 2) < Int32.toInt (g1.1 41 0))) (ic_gd (decide (0 ≤ Int32.toInt (nI i + 3)) && decide (Int32.toInt (nI i + 3) < Int32.toInt (g1.1 41 0))) (ic_gd (decide (0 ≤ Int32.toInt (nI i + 4)) && decide (Int32.toInt (nI i + 4) < Int32.toInt (g1.1 41 0))) (ic_b2 (F7 (g1.1 40 (Int32.toNatClampNeg (nI i + 1))) (g1.1 40 (Int32.toNatClampNeg (nI i + 2))) (g1.1 40 (Int32.toNatClampNeg (nI i + 3))) (g1.1 40 (Int32.toNatClampNeg (nI i + 4))) g1) (fun v' g2 => (if (lg_cmp v v') = 0 then K g2 else some (.inl (0, g2))))))))))))) = some (.inr ((), g')) := by
  have b1 := l_cel (t := 1) (show i + 1 < L by omega) hL (nI i + 1) (nI_add i 1)
  have b2 := l_cel (t := 2) (show i + 2 < L by omega) hL (nI i + 2) (nI_add i 2)
  have b3 := l_cel (t := 3) (show i + 3 < L by omega) hL (nI i + 3) (nI_add i 3)
  have b4 := l_cel (t := 4) (show i + 4 < L by omega) hL (nI i + 4) (nI_add i 4)
  obtain ⟨v, g1, g2, e6, e7, hI, h1, h2, h3, h4⟩ := hg (g.1 40 (Int32.toNatClampNeg (nI i + 1))) (g.1 40 (Int32.toNatClampNeg (nI i + 2))) (g.1 40 (Int32.toNatClampNeg (nI i + 3))) (g.1 40 (Int32.toNatClampNeg (nI i + 4)))
  rw [e41, b1, b2, b3, b4, p_gd, p_gd, p_gd, p_gd, e6, p_b2, h2, h1, e41, b1, b2, b3, b4, p_gd, p_gd, p_gd, p_gd, e7, p_b2, if_pos ((p_Lc v v).2.mpr rfl)]
  exact hK g2 hI h3 h4
theorem l_5 {L i : Nat} (hi : i + 6 ≤ L) (hL : L ≤ 3072) {g : ic_S} (e41 : g.1 41 0 = nI L) {F6 F7 : Int32 → Int32 → Int32 → Int32 → Int32 → ic_S → Option (Int32 × ic_S)} (hg : ∀ a1 a2 a3 a4 a5, q_go (F6 a1 a2 a3 a4 a5) (F7 a1 a2 a3 a4 a5) g) {K : ic_S → Option ((Int32 × ic_S) ⊕ (Unit × ic_S))} (hK : ∀ g2, q_Inv g2 → g2.1 40 = g.1 40 → g2.1 41 = g.1 41 → ∃ g', K g2 = some (.inr ((), g'))) : ∃ g', ic_gd (decide (0 ≤ Int32.toInt (nI i + 1)) && decide (Int32.toInt (nI i + 1) < Int32.toInt (g.1 41 0))) (ic_gd (decide (0 ≤ Int32.toInt (nI i + 2)) && decide (Int32.toInt (nI i + 2) < Int32.toInt (g.1 41 0))) (ic_gd (decide (0 ≤ Int32.toInt (nI i + 3)) && decide (Int32.toInt (nI i + 3) < Int32.toInt (g.1 41 0))) (ic_gd (decide (0 ≤ Int32.toInt (nI i + 4)) && decide (Int32.toInt (nI i + 4) < Int32.toInt (g.1 41 0))) (ic_gd (decide (0 ≤ Int32.toInt (nI i + 5)) && decide (Int32.toInt (nI i + 5) < Int32.toInt (g.1 41 0))) (ic_b2 (F6 (g.1 40 (Int32.toNatClampNeg (nI i + 1))) (g.1 40 (Int32.toNatClampNeg (nI i + 2))) (g.1 40 (Int32.toNatClampNeg (nI i + 3))) (g.1 40 (Int32.toNatClampNeg (nI i + 4))) (g.1 40 (Int32.toNatClampNeg (nI i + 5))) g) (fun v g1 => ic_gd (decide (0 ≤ Int32.toInt (nI i + 1)) && decide (Int32.toInt (nI i + 1) < Int32.toInt (g1.1 41 0))) (ic_gd (decide (0 ≤ Int32.toInt (nI i + 2)) && decide (Int32.toInt (nI i + 2) < Int32.toInt (g1.1 41 0))) (ic_gd (decide (0 ≤ Int32.toInt (nI i + 3)) && decide (Int32.toInt (nI i + 3) < Int32.toInt (g1.1 41 0))) (ic_gd (decide (0 ≤ Int32.toInt (nI i + 4)) && decide (Int32.toInt (nI i + 4) < Int32.toInt (g1.1 41 0))) (ic_gd (decide (0 ≤ Int32.toInt (nI i + 5)) && decide (Int32.toInt (nI i + 5) < Int32.toInt (g1.1 41 0))) (ic_b2 (F7 (g1.1 40 (Int32.toNatClampNeg (nI i + 1))) (g1.1 40 (Int32.toNatClampNeg (nI i + 2))) (g1.1 40 (Int32.toNatClampNeg (nI i + 3))) (g1.1 40 (Int32.toNatClampNeg (nI i + 4))) (g1.1 40 (Int32.toNatClampNeg (nI i + 5))) g1) (fun v' g2 => (if v = v' then K g2 else some (.inl (0, g2))))))))))))))) = some (.inr ((), g')) := by
  have b1 := l_cel (t := 1) (show i + 1 < L by omega) hL (nI i + 1) (nI_add i 1)
  have b2 := l_cel (t := 2) (show i + 2 < L by omega) hL (nI i + 2) (nI_add i 2)
  have b3 := l_cel (t := 3) (show i + 3 < L by omega) hL (nI i + 3) (nI_add i 3)
  have b4 := l_cel (t := 4) (show i + 4 < L by omega) hL (nI i + 4) (nI_add i 4)
  have b5 := l_cel (t := 5) (show i + 5 < L by omega) hL (nI i + 5) (nI_add i 5)
  obtain ⟨v, g1, g2, e6, e7, hI, h1, h2, h3, h4⟩ := hg (g.1 40 (Int32.toNatClampNeg (nI i + 1))) (g.1 40 (Int32.toNatClampNeg (nI i + 2))) (g.1 40 (Int32.toNatClampNeg (nI i + 3))) (g.1 40 (Int32.toNatClampNeg (nI i + 4))) (g.1 40 (Int32.toNatClampNeg (nI i + 5)))
  rw [e41, b1, b2, b3, b4, b5, p_gd, p_gd, p_gd, p_gd, p_gd, e6, p_b2, h2, h1, e41, b1, b2, b3, b4, b5, p_gd, p_gd, p_gd, p_gd, p_gd, e7, p_b2, if_pos rfl]
  exact hK g2 hI h3 h4
theorem l_law {L : Nat} (hL : L ≤ 3072) : ∀ m i n (g : ic_S), i + 6 * m ≤ L → L < i + 6 * m + 6 → m < n → q_Inv g → g.1 41 0 = nI L → ∃ g', lL_law_18 n (nI i) g = some (.inr ((), g')) := by
  intro m
  induction m with
  | zero =>
    intro i n g h1 h2 h3 hI e41
    obtain ⟨n, rfl⟩ : ∃ j, n = j + 1 := ⟨n - 1, by omega⟩
    rw [lL_law_18, e41]
    have h : nI L - 6 < nI i := by
      rw [Int32.lt_iff_toInt_lt, show (6 : Int32) = nI 6 from rfl, pk_sub_toInt (by omega) (by decide), nI_toInt (by omega)]
      omega
    rw [if_pos h]
    exact ⟨_, rfl⟩
  | succ m ih =>
    intro i n g h1 h2 h3 hI e41
    obtain ⟨n, rfl⟩ : ∃ j, n = j + 1 := ⟨n - 1, by omega⟩
    have hi : i + 6 ≤ L := by omega
    have h : ¬ nI L - 6 < nI i := by
      rw [Int32.lt_iff_toInt_lt, show (6 : Int32) = nI 6 from rfl, pk_sub_toInt (by omega) (by decide), nI_toInt (by omega)]
      omega
    have b0 := l_cel (t := 0) (show i + 0 < L by omega) hL (nI i) rfl
    have hK : ∀ g2, q_Inv g2 → g2.1 40 = g.1 40 → g2.1 41 = g.1 41 → ∃ g', lL_law_18 n (nI i + 6) g2 = some (.inr ((), g')) := by
      intro g2 hI2 _ h4
      rw [show nI i + 6 = nI (i + 6) from nI_add i 6]
      exact ih (i + 6) n g2 (by omega) (by omega) (by omega) hI2 (by rw [h4]; exact e41)
    rw [lL_law_18]
    rw [if_neg (show ¬ g.1 41 0 - 6 < nI i by rw [e41]; exact h)]
    rw [show (decide (0 ≤ Int32.toInt (nI i)) && decide (Int32.toInt (nI i) < Int32.toInt (g.1 41 0))) = true by rw [e41]; exact b0, p_gd]
    generalize (g.1 40 (Int32.toNatClampNeg (nI i)) &&& 63) = w
    by_cases hw : w = 0
    · rw [if_pos hw]
      exact l_2 hi hL e41 (F6 := fX6_set) (F7 := fX7_set) (fun a1 a2 => o_set hI a1 a2) hK
    rw [if_neg hw]
    clear hw
    by_cases hw : w = 1
    · rw [if_pos hw]
      exact l_1 hi hL e41 (F6 := fX6_cart) (F7 := fX7_cart) (fun a1 => o_cart hI a1) hK
    rw [if_neg hw]
    clear hw
    by_cases hw : w = 2
    · rw [if_pos hw]
      exact l_2 hi hL e41 (F6 := fX6_thing) (F7 := fX7_thing) (fun a1 a2 => o_thing hI a1 a2) hK
    rw [if_neg hw]
    clear hw
    by_cases hw : w = 3
    · rw [if_pos hw]
      exact l_2 hi hL e41 (F6 := fX6_of) (F7 := fX7_of) (fun a1 a2 => o_of hI a1 a2) hK
    rw [if_neg hw]
    clear hw
    by_cases hw : w = 4
    · rw [if_pos hw]
      exact l_3 hi hL e41 (F6 := fX6_change) (F7 := fX7_change) (fun a1 a2 a3 => o_change hI a1 a2 a3) hK
    rw [if_neg hw]
    clear hw
    by_cases hw : w = 5
    · rw [if_pos hw]
      exact l_1 hi hL e41 (F6 := fX6_who) (F7 := fX7_who) (fun a1 => o_who hI a1) hK
    rw [if_neg hw]
    clear hw
    by_cases hw : w = 6
    · rw [if_pos hw]
      exact l_1 hi hL e41 (F6 := fX6_go) (F7 := fX7_go) (fun a1 => o_go hI a1) hK
    rw [if_neg hw]
    clear hw
    by_cases hw : w = 7
    · rw [if_pos hw]
      exact l_1 hi hL e41 (F6 := fX6_now) (F7 := fX7_now) (fun a1 => o_now hI a1) hK
    rw [if_neg hw]
    clear hw
    by_cases hw : w = 8
    · rw [if_pos hw]
      exact l_3 hi hL e41 (F6 := fX6_ahead) (F7 := fX7_ahead) (fun a1 a2 a3 => o_ahead hI a1 a2 a3) hK
    rw [if_neg hw]
    clear hw
    by_cases hw : w = 9
    · rw [if_pos hw]
      exact l_1 hi hL e41 (F6 := fX6_where) (F7 := fX7_where) (fun a1 => o_where hI a1) hK
    rw [if_neg hw]
    clear hw
    by_cases hw : w = 10
    · rw [if_pos hw]
      exact l_1 hi hL e41 (F6 := fX6_taken) (F7 := fX7_taken) (fun a1 => o_taken hI a1) hK
    rw [if_neg hw]
    clear hw
    by_cases hw : w = 11
    · rw [if_pos hw]
      exact l_2 hi hL e41 (F6 := fX6_when) (F7 := fX7_when) (fun a1 a2 => o_when hI a1 a2) hK
    rw [if_neg hw]
    clear hw
    by_cases hw : w = 12
    · rw [if_pos hw]
      exact l_2 hi hL e41 (F6 := fX6_meet) (F7 := fX7_meet) (fun a1 a2 => o_meet hI a1 a2) hK
    rw [if_neg hw]
    clear hw
    by_cases hw : w = 13
    · rw [if_pos hw]
      exact l_2 hi hL e41 (F6 := fX6_strained) (F7 := fX7_strained) (fun a1 a2 => o_strained hI a1 a2) hK
    rw [if_neg hw]
    clear hw
    by_cases hw : w = 14
    · rw [if_pos hw]
      exact l_2 hi hL e41 (F6 := fX6_loudFor) (F7 := fX7_loudFor) (fun a1 a2 => o_loudFor hI a1 a2) hK
    rw [if_neg hw]
    clear hw
    by_cases hw : w = 15
    · rw [if_pos hw]
      exact l_1 hi hL e41 (F6 := fX6_startFor) (F7 := fX7_startFor) (fun a1 => o_startFor hI a1) hK
    rw [if_neg hw]
    clear hw
    by_cases hw : w = 16
    · rw [if_pos hw]
      exact l_2 hi hL e41 (F6 := fX6_layFor) (F7 := fX7_layFor) (fun a1 a2 => o_layFor hI a1 a2) hK
    rw [if_neg hw]
    clear hw
    by_cases hw : w = 17
    · rw [if_pos hw]
      exact l_2 hi hL e41 (F6 := fX6_kindFor) (F7 := fX7_kindFor) (fun a1 a2 => o_kindFor hI a1 a2) hK
    rw [if_neg hw]
    clear hw
    by_cases hw : w = 18
    · rw [if_pos hw]
      exact l_2 hi hL e41 (F6 := fX6_heavyFor) (F7 := fX7_heavyFor) (fun a1 a2 => o_heavyFor hI a1 a2) hK
    rw [if_neg hw]
    clear hw
    by_cases hw : w = 19
    · rw [if_pos hw]
      exact l_1 hi hL e41 (F6 := fX6_holdFast) (F7 := fX7_holdFast) (fun a1 => o_holdFast hI a1) hK
    rw [if_neg hw]
    clear hw
    by_cases hw : w = 20
    · rw [if_pos hw]
      exact l_2 hi hL e41 (F6 := fX6_fits) (F7 := fX7_fits) (fun a1 a2 => o_fits hI a1 a2) hK
    rw [if_neg hw]
    clear hw
    by_cases hw : w = 21
    · rw [if_pos hw]
      exact l_2 hi hL e41 (F6 := fX6_kinds) (F7 := fX7_kinds) (fun a1 a2 => o_kinds hI a1 a2) hK
    rw [if_neg hw]
    clear hw
    by_cases hw : w = 22
    · rw [if_pos hw]
      exact l_1 hi hL e41 (F6 := fX6_calls) (F7 := fX7_calls) (fun a1 => o_calls hI a1) hK
    rw [if_neg hw]
    clear hw
    by_cases hw : w = 23
    · rw [if_pos hw]
      exact l_4 hi hL e41 (F6 := fX6_odds) (F7 := fX7_odds) (fun a1 a2 a3 a4 => o_odds hI a1 a2 a3 a4) hK
    rw [if_neg hw]
    clear hw
    by_cases hw : w = 24
    · rw [if_pos hw]
      exact l_1 hi hL e41 (F6 := fX6_seed) (F7 := fX7_seed) (fun a1 => o_seed hI a1) hK
    rw [if_neg hw]
    clear hw
    by_cases hw : w = 25
    · rw [if_pos hw]
      exact l_2 hi hL e41 (F6 := fX6_feed) (F7 := fX7_feed) (fun a1 a2 => o_feed hI a1 a2) hK
    rw [if_neg hw]
    clear hw
    by_cases hw : w = 26
    · rw [if_pos hw]
      exact l_0 hi hL e41 (F6 := fX6_wipe) (F7 := fX7_wipe) (o_wipe hI) hK
    rw [if_neg hw]
    clear hw
    by_cases hw : w = 27
    · rw [if_pos hw]
      exact l_0 hi hL e41 (F6 := fX6_text) (F7 := fX7_text) (o_text hI) hK
    rw [if_neg hw]
    clear hw
    by_cases hw : w = 28
    · rw [if_pos hw]
      exact l_2 hi hL e41 (F6 := fX6_hold) (F7 := fX7_hold) (fun a1 a2 => o_hold hI a1 a2) hK
    rw [if_neg hw]
    clear hw
    by_cases hw : w = 29
    · rw [if_pos hw]
      exact l_2 hi hL e41 (F6 := fX6_as) (F7 := fX7_as) (fun a1 a2 => o_as hI a1 a2) hK
    rw [if_neg hw]
    clear hw
    by_cases hw : w = 30
    · rw [if_pos hw]
      exact l_3 hi hL e41 (F6 := fX6_sheet) (F7 := fX7_sheet) (fun a1 a2 a3 => o_sheet hI a1 a2 a3) hK
    rw [if_neg hw]
    clear hw
    by_cases hw : w = 31
    · rw [if_pos hw]
      exact l_3 hi hL e41 (F6 := fX6_write) (F7 := fX7_write) (fun a1 a2 a3 => o_write hI a1 a2 a3) hK
    rw [if_neg hw]
    clear hw
    by_cases hw : w = 32
    · rw [if_pos hw]
      exact l_5 hi hL e41 (F6 := fX6_copy) (F7 := fX7_copy) (fun a1 a2 a3 a4 a5 => o_copy hI a1 a2 a3 a4 a5) hK
    rw [if_neg hw]
    clear hw
    by_cases hw : w = 33
    · rw [if_pos hw]
      exact l_1 hi hL e41 (F6 := fX6_load) (F7 := fX7_load) (fun a1 => o_load hI a1) hK
    rw [if_neg hw]
    clear hw
    by_cases hw : w = 34
    · rw [if_pos hw]
      exact l_1 hi hL e41 (F6 := fX6_judge) (F7 := fX7_judge) (fun a1 => o_judge hI a1) hK
    rw [if_neg hw]
    clear hw
    by_cases hw : w = 35
    · rw [if_pos hw]
      exact l_0 hi hL e41 (F6 := fX6_image) (F7 := fX7_image) (o_image hI) hK
    rw [if_neg hw]
    clear hw
    by_cases hw : w = 36
    · rw [if_pos hw]
      exact l_0 hi hL e41 (F6 := fX6_undo) (F7 := fX7_undo) (o_undo hI) hK
    rw [if_neg hw]
    clear hw
    by_cases hw : w = 37
    · rw [if_pos hw]
      exact l_0 hi hL e41 (F6 := fX6_tear) (F7 := fX7_tear) (o_tear hI) hK
    rw [if_neg hw]
    clear hw
    by_cases hw : w = 38
    · rw [if_pos hw]
      exact l_1 hi hL e41 (F6 := fX6_count) (F7 := fX7_count) (fun a1 => o_count hI a1) hK
    rw [if_neg hw]
    clear hw
    by_cases hw : w = 39
    · rw [if_pos hw]
      exact l_1 hi hL e41 (F6 := fX6_status) (F7 := fX7_status) (fun a1 => o_status hI a1) hK
    rw [if_neg hw]
    clear hw
    exact hK g hI rfl rfl
