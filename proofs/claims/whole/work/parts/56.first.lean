/-! the first call at which something holds: taken, when, strained, meet -/
def q_fw (P : (Nat → Int32) → Bool) : Nat → Nat → (Nat → Int32) → Option Nat
  | 0, _, _ => none
  | m + 1, k, r => if P r = true then some k else q_fw P m (k + 1) (q_call r)
def q_fo (o : Option Nat) (g : ic_S) : (Int32 × ic_S) ⊕ (Unit × ic_S) := match o with
  | some j => .inl (nI j, g)
  | none => .inr ((), g)
def q_fa (o : Option Nat) : Int32 ⊕ Nat := match o with
  | some j => .inl (nI j)
  | none => .inr 3
theorem q_fac (o : Option Nat) : ∀ c, q_fa o = .inr c → c < 7 := by
  intro c h
  rcases o with _ | j
  · cases h
    decide
  · cases h
theorem q_fo3 (o : Option Nat) (g : ic_S) : ic_bs (some (q_fo o g)) (fun _ g => fX6_finding 3 g) = q_o6 (q_fa o) g := by
  rcases o with _ | j <;> rfl
def q_rg (p : Nat) (lo hi : Int32) (r : Nat → Int32) : Bool := decide (¬ r p < lo ∧ ¬ hi < r p)
def q_mp (t u : Nat) (r : Nat → Int32) : Bool := decide (r (15 + t) = r (15 + u))
theorem q_mpT {t u : Nat} {r : Nat → Int32} (h : r (15 + t) = r (15 + u)) : q_mp t u r = true := decide_eq_true h
theorem q_cM {r : Nat → Int32} (h : q_ok r) : q_M (q_call r) = q_M r := congrArg Int32.toNatClampNeg (q_ca h (Or.inl (by decide)) (by decide) (by decide) (by decide))
section
variable {g : ic_S}
theorem c_fwL {t w : Nat} (hw : w < 7) (lo hi : Int32) : ∀ m k n (g : ic_S) (r : Nat → Int32), k + m = 201 → m < n → q_ok r → q_as r (g.1 1) → t < q_M r → ∃ r', q_ok r' ∧ lX6_fewestCalls_7 (nI t) (nI w) lo hi n (nI k) g = some (q_fo (q_fw (q_rg (7 + 8 * w + t) lo hi) m k r) (sB g 1 r')) := by
  intro m
  induction m with
  | zero =>
    intro k n g r h1 h2 hk hT ht
    obtain ⟨n, rfl⟩ : ∃ j, n = j + 1 := ⟨n - 1, by omega⟩
    obtain rfl : k = 201 := by omega
    refine ⟨g.1 1, hT.1, ?_⟩
    unfold lX6_fewestCalls_7
    rw [if_pos (by decide), sB_id]
    rfl
  | succ m ih =>
    intro k n g r h1 h2 hk hT ht
    obtain ⟨n, rfl⟩ : ∃ j, n = j + 1 := ⟨n - 1, by omega⟩
    have a1 : ¬ (200 : Int32) < nI k := nI_nlt (a := 200) (by omega) (by decide)
    have ec : fX2_callTimes 1 1 g = some (sB g 1 (q_calls 1 (g.1 1))) := c_ca (N := 1) (by decide) hT.1 (by decide)
    obtain ⟨r', hr', e⟩ := ih (k + 1) n (sB g 1 (q_calls 1 (g.1 1))) (q_call r) (by omega) (by omega) (q_okcall hk) (by rw [sB_self]; exact hT.calls hk 1) (by rw [q_cM hk]; exact ht)
    rw [sB_sB] at e
    unfold lX6_fewestCalls_7 q_fw
    rw [if_neg a1, c_told (by decide) hT.1 (by rw [hT.2.M]; exact ht), p_b2, hT.2.told _ ht, q_toldW hw, nI_1, ec, p_b1, e]
    by_cases hP : q_rg (7 + 8 * w + t) lo hi r = true
    · refine ⟨g.1 1, hT.1, ?_⟩
      rw [if_pos hP, sB_id]
      have h := of_decide_eq_true hP
      rw [if_neg h.1, if_neg h.2]
      rfl
    · refine ⟨r', hr', ?_⟩
      rw [if_neg hP]
      by_cases h5 : r (7 + 8 * w + t) < lo
      · rw [if_pos h5]
      · have h6 : hi < r (7 + 8 * w + t) := by
          refine Classical.byContradiction fun h6 => hP (decide_eq_true ⟨h5, h6⟩)
        rw [if_neg h5, if_pos h6]
theorem c_fw {t w : Nat} (hw : w < 7) (lo hi : Int32) (hI : q_Inv g) (ht : t < q_M (g.1 3)) : ∃ r', q_ok r' ∧ fX6_fewestCalls (nI t) (nI w) lo hi g = q_o6 (q_fa (q_fw (q_rg (7 + 8 * w + t) lo hi) 201 0 (g.1 3))) (sB g 1 r') := by
  have hT0 := hI.as.mt hI.1
  obtain ⟨r', hr', e⟩ := c_fwL hw lo hi 201 0 1000 (sB g 1 (q_mt (g.1 1) (g.1 0))) (g.1 3) rfl (by decide) hI.b (by rw [sB_self]; exact hT0) ht
  refine ⟨r', hr', ?_⟩
  unfold fX6_fewestCalls
  simp only [p_eta]
  rw [c_trial hI.a, p_b1, show (0 : Int32) = nI 0 from nI_0.symm, e, sB_sB, ← q_fo3]
theorem r_rg (p : Nat) (lo hi : Int32) (r : Nat → Int32) (g : ic_S) : fX7_in (r p).toInt64 lo.toInt64 hi.toInt64 g = some (if q_rg p lo hi r = true then 1 else 0, g) := by
  rw [r_in]
  unfold q_rg
  by_cases h : r p < lo
  · rw [if_pos h, if_neg (by simp [h])]
  · by_cases h2 : hi < r p
    · rw [if_neg h, if_pos h2, if_neg (by simp [h2])]
    · rw [if_neg h, if_neg h2, if_pos (by simp [h, h2])]
theorem r_fwL {p : Nat} (hp : p < 73) (lo hi : Int32) : ∀ m k n (g : ic_S), k + m = 200 → m < n → q_ok (g.1 3) → ∃ j r', q_ok r' ∧ q_fw (q_rg p lo hi) (m + 1) k (g.1 3) = (if q_rg p lo hi r' = true then some j else none) ∧ lX7_firstOf_14 (nI p) lo hi n (nI k) g = some (nI j, sB g 3 r') := by
  intro m
  induction m with
  | zero =>
    intro k n g h1 h2 hk
    obtain ⟨n, rfl⟩ : ∃ j, n = j + 1 := ⟨n - 1, by omega⟩
    obtain rfl : k = 200 := by omega
    refine ⟨200, g.1 3, hk, rfl, ?_⟩
    unfold lX7_firstOf_14
    rw [if_pos (by decide), sB_id]
  | succ m ih =>
    intro k n g h1 h2 hk
    obtain ⟨n, rfl⟩ : ∃ j, n = j + 1 := ⟨n - 1, by omega⟩
    have a1 : ¬ (200 : Int32) ≤ nI k := nI_ge (b := 200) (by omega) (by decide)
    obtain ⟨j, r', hr', e1, e⟩ := ih (k + 1) n (sB g 3 (q_call (g.1 3))) (by omega) (by omega) (by rw [sB_self]; exact q_okcall hk)
    rw [sB_self] at e1
    rw [sB_sB] at e
    have a3 : (nI p).toNatClampNeg = p := nI_clamp (by omega)
    by_cases hP : q_rg p lo hi (g.1 3) = true
    · refine ⟨k, g.1 3, hk, ?_, ?_⟩
      · unfold q_fw
        rw [if_pos hP, if_pos hP]
      · unfold lX7_firstOf_14
        rw [if_neg a1, p_in hp (by decide), p_gd, a3, Nat.zero_add, Nat.add_zero, r_rg, if_pos hP, p_b2, if_neg (by decide), sB_id]
    · refine ⟨j, r', hr', ?_, ?_⟩
      · rw [← e1]
        conv => lhs; unfold q_fw
        rw [if_neg hP]
      · unfold lX7_firstOf_14
        rw [if_neg a1, p_in hp (by decide), p_gd, a3, Nat.zero_add, Nat.add_zero, r_rg, if_neg hP, p_b2, if_pos rfl, r_call hk, p_b1, nI_1, e]
theorem r_fw {p : Nat} (hp : p < 73) (lo hi : Int32) (hk : q_ok (g.1 3)) : ∃ d a, q_e73 d (g.1 3) ∧ fX7_firstOf (nI p) lo hi g = q_o7 (q_fa (q_fw (q_rg p lo hi) 201 0 (g.1 3))) (sB (sB g 3 d) 5 a) := by
  obtain ⟨j, r', hr', e1, e⟩ := r_fwL hp lo hi 200 0 1000 (sB g 5 (q_cp (g.1 5) (g.1 3) 0)) rfl (by decide) (by rw [sB_ne _ _ (by decide)]; exact hk)
  rw [sB_ne _ _ (by decide)] at e1
  refine ⟨q_cp r' (q_cp (g.1 5) (g.1 3) 0) 0, q_cp (g.1 5) (g.1 3) 0, (q_e73c _ _).tr (q_e73c _ _), ?_⟩
  have a3 : (nI p).toNatClampNeg = p := nI_clamp (by omega)
  have e2 : ∀ h : ic_S, fX7_copies 2 0 h = some (sB h 3 (q_cp (h.1 3) (h.1 5) 0)) := fun h => r_cp (by decide) (by decide) (by decide)
  unfold fX7_firstOf
  rw [r_cp (by decide) (by decide) (by decide), p_b1]
  show ic_b2 (lX7_firstOf_14 (nI p) lo hi 1000 0 (sB g 5 (q_cp (g.1 5) (g.1 3) 0))) _ = _
  rw [show (0 : Int32) = nI 0 from nI_0.symm, e, p_b2, p_in hp (by decide), p_gd, a3, Nat.zero_add, Nat.add_zero, sB_self, r_rg, p_b2, e2, p_b1, sB_self, sB_sB, sB_ne _ _ (by decide), sB_self, sB_53, e1]
  by_cases hP : q_rg p lo hi r' = true
  · rw [if_pos hP, if_pos hP, if_neg (by decide)]
    rfl
  · rw [if_neg hP, if_neg hP, if_pos nI_0.symm, p_eta]
    rfl
theorem q_fst2 {f6 f7 : ic_S → Option (Int32 × ic_S)} (hI : q_Inv g) {t w : Nat} (hw : w < 7) (ht : t < q_M (g.1 3)) (lo hi : Int32) (h6 : f6 g = fX6_fewestCalls (nI t) (nI w) lo hi g) (h7 : ∀ h, q_rf g h → f7 h = fX7_firstOf (nI (7 + 8 * w + t)) lo hi h) : q_go f6 f7 g := by
  have hM := (q_ok0 hI.b).2
  obtain ⟨r', hr', e⟩ := c_fw hw lo hi hI ht
  refine q_still hI (q_fa (q_fw (q_rg (7 + 8 * w + t) lo hi) 201 0 (g.1 3))) (q_fac _) hr' (h6.trans e) fun k hf => ?_
  obtain ⟨d, a, hd, e7⟩ := r_fw (g := k) (p := 7 + 8 * w + t) (by omega) lo hi (hf.b hI)
  rw [hf.r] at hd e7
  exact ⟨d, a, hd, (h7 k hf).trans e7⟩
theorem o_taken (hI : q_Inv g) (x : Int32) : q_go (fX6_taken x) (fX7_taken x) g := by
  rcases hI.2.2.1.thing x with ⟨ha, hb⟩ | ⟨t, hta, htb, rfl⟩
  · refine q_stop hI (c := 0) (by decide) ?_ fun k hf => ?_
    · unfold fX6_taken
      rw [c_hasN (by decide) ha, p_b2, if_pos rfl, p_eta]
      rfl
    · unfold fX7_taken
      rw [r_hasN (hf.b hI) (by rw [hf.r]; exact hb), p_b2, if_pos rfl, p_eta]
      rfl
  · refine q_fst2 hI (w := 5) (by decide) htb 1 1 ?_ fun k hf => ?_
    · unfold fX6_taken
      rw [c_has (by decide) hI.a hta, p_b2, if_neg (by decide), p_eta]
      rfl
    · unfold fX7_taken
      rw [r_has (hf.b hI) (by rw [hf.r]; exact htb), p_b2, if_neg (by decide), p_eta, show (47 : Int32) = nI 47 from rfl, nI_add]
theorem o_when (hI : q_Inv g) (x y : Int32) : q_go (fX6_when x y) (fX7_when x y) g := by
  rcases hI.2.2.1.thing x with ⟨ha, hb⟩ | ⟨t, hta, htb, rfl⟩
  · refine q_stop hI (c := 0) (by decide) ?_ fun k hf => ?_
    · unfold fX6_when
      rw [c_hasN (by decide) ha, p_b2, if_pos rfl, p_eta]
      rfl
    · unfold fX7_when
      rw [r_hasN (hf.b hI) (by rw [hf.r]; exact hb), p_b2, if_pos rfl, p_eta]
      rfl
  · rcases q_ix y (n := 16) (by decide) with h | ⟨j, hj, rfl⟩
    · refine q_stop hI (c := 0) (by decide) ?_ fun k hf => ?_
      · unfold fX6_when
        rw [c_has (by decide) hI.a hta, p_b2, if_neg (by decide), c_cellN h, p_b2, if_pos rfl, p_eta]
        rfl
      · unfold fX7_when
        rw [r_has (hf.b hI) (by rw [hf.r]; exact htb), p_b2, if_neg (by decide), r_cellN h, p_b2, if_pos rfl, p_eta]
        rfl
    · refine q_fst2 hI (w := 1) (by decide) htb (nI j) (nI j) ?_ fun k hf => ?_
      · unfold fX6_when
        rw [c_has (by decide) hI.a hta, p_b2, if_neg (by decide), c_cell hj, p_b2, if_neg (by decide), p_eta]
        rfl
      · unfold fX7_when
        rw [r_has (hf.b hI) (by rw [hf.r]; exact htb), p_b2, if_neg (by decide), r_cell hj, p_b2, if_neg (by decide), p_eta, show (15 : Int32) = nI 15 from rfl, nI_add]
theorem o_strained (hI : q_Inv g) (x y : Int32) : q_go (fX6_strained x y) (fX7_strained x y) g := by
  rcases hI.2.2.1.thing x with ⟨ha, hb⟩ | ⟨t, hta, htb, rfl⟩
  · refine q_stop hI (c := 0) (by decide) ?_ fun k hf => ?_
    · unfold fX6_strained
      rw [c_hasN (by decide) ha, p_b2, if_pos rfl, p_eta]
      rfl
    · unfold fX7_strained
      rw [r_hasN (hf.b hI) (by rw [hf.r]; exact hb), p_b2, if_pos rfl, p_eta]
      rfl
  · rcases q_ix y (n := 1000) (by decide) with h | ⟨j, hj, rfl⟩
    · refine q_stop hI (c := 0) (by decide) ?_ fun k hf => ?_
      · unfold fX6_strained
        rw [c_has (by decide) hI.a hta, p_b2, if_neg (by decide)]
        rcases h with h | h
        · rw [if_pos h, p_eta]
          rfl
        · have hl : ¬ y ≤ 999 := (p_gt (n := 999) h (by decide)).1
          rw [if_neg hl, p_eta, ite_self]
          rfl
      · unfold fX7_strained
        rw [r_has (hf.b hI) (by rw [hf.r]; exact htb), p_b2, if_neg (by decide), show fX7_in y.toInt64 0 999 k = some (0, k) from r_inN (n := 1000) (by decide) (by decide) h k, p_b2, if_pos rfl, p_eta]
        rfl
    · refine q_fst2 hI (w := 3) (by decide) htb (nI j) 999 ?_ fun k hf => ?_
      · unfold fX6_strained
        rw [c_has (by decide) hI.a hta, p_b2, if_neg (by decide), if_neg (nI_pos (by omega)), if_pos (show nI j ≤ 999 from nI_le (b := 999) (by omega) (by decide)), p_eta]
        rfl
      · unfold fX7_strained
        rw [r_has (hf.b hI) (by rw [hf.r]; exact htb), p_b2, if_neg (by decide), show fX7_in (nI j).toInt64 0 999 k = some (1, k) from r_inY (n := 1000) hj (by decide) k, p_b2, if_neg (by decide), p_eta, show (31 : Int32) = nI 31 from rfl, nI_add]
/-! meet -/
theorem c_mpL {t u : Nat} : ∀ m k n (g : ic_S) (r : Nat → Int32), k + m = 201 → m < n → q_ok r → q_as r (g.1 1) → t < q_M r → u < q_M r → ∃ r', q_ok r' ∧ lX6_meet_39 (nI t) (nI u) n (nI k) g = some (q_fo (q_fw (q_mp t u) m k r) (sB g 1 r')) := by
  intro m
  induction m with
  | zero =>
    intro k n g r h1 h2 hk hT ht hu
    obtain ⟨n, rfl⟩ : ∃ j, n = j + 1 := ⟨n - 1, by omega⟩
    obtain rfl : k = 201 := by omega
    refine ⟨g.1 1, hT.1, ?_⟩
    unfold lX6_meet_39
    rw [if_pos (by decide), sB_id]
    rfl
  | succ m ih =>
    intro k n g r h1 h2 hk hT ht hu
    obtain ⟨n, rfl⟩ : ∃ j, n = j + 1 := ⟨n - 1, by omega⟩
    have a1 : ¬ (200 : Int32) < nI k := nI_nlt (a := 200) (by omega) (by decide)
    have ec : fX2_callTimes 1 1 g = some (sB g 1 (q_calls 1 (g.1 1))) := c_ca (N := 1) (by decide) hT.1 (by decide)
    obtain ⟨r', hr', e⟩ := ih (k + 1) n (sB g 1 (q_calls 1 (g.1 1))) (q_call r) (by omega) (by omega) (q_okcall hk) (by rw [sB_self]; exact hT.calls hk 1) (by rw [q_cM hk]; exact ht) (by rw [q_cM hk]; exact hu)
    rw [sB_sB] at e
    unfold lX6_meet_39 q_fw
    rw [if_neg a1, c_told (by decide) hT.1 (by rw [hT.2.M]; exact ht), p_b2, c_told (by decide) hT.1 (by rw [hT.2.M]; exact hu), p_b2, hT.2.told _ ht, hT.2.told _ hu, show q_told r t 1 = r (15 + t) from rfl, show q_told r u 1 = r (15 + u) from rfl, nI_1, ec, p_b1, e]
    by_cases hP : r (15 + t) = r (15 + u)
    · refine ⟨g.1 1, hT.1, ?_⟩
      rw [if_pos hP, if_pos (q_mpT hP), sB_id]
      rfl
    · refine ⟨r', hr', ?_⟩
      rw [if_neg hP, if_neg (by unfold q_mp; simp [hP])]
theorem r_mpL {t u : Nat} (ht : t < 8) (hu : u < 8) : ∀ m k n (g : ic_S), k + m = 200 → m < n → q_ok (g.1 3) → ∃ j r', q_ok r' ∧ q_fw (q_mp t u) (m + 1) k (g.1 3) = (if r' (15 + t) = r' (15 + u) then some j else none) ∧ lX7_meet_40 (nI t) (nI u) n (nI k) g = some (nI j, sB g 3 r') := by
  intro m
  induction m with
  | zero =>
    intro k n g h1 h2 hk
    obtain ⟨n, rfl⟩ : ∃ j, n = j + 1 := ⟨n - 1, by omega⟩
    obtain rfl : k = 200 := by omega
    refine ⟨200, g.1 3, hk, ?_, ?_⟩
    · unfold q_fw
      by_cases hP : g.1 3 (15 + t) = g.1 3 (15 + u)
      · rw [if_pos hP, if_pos (q_mpT hP)]
      · rw [if_neg hP, if_neg (by unfold q_mp; simp [hP])]
        rfl
    · unfold lX7_meet_40
      rw [if_pos (by decide), sB_id]
  | succ m ih =>
    intro k n g h1 h2 hk
    obtain ⟨n, rfl⟩ : ∃ j, n = j + 1 := ⟨n - 1, by omega⟩
    have a1 : ¬ (200 : Int32) ≤ nI k := nI_ge (b := 200) (by omega) (by decide)
    obtain ⟨j, r', hr', e1, e⟩ := ih (k + 1) n (sB g 3 (q_call (g.1 3))) (by omega) (by omega) (by rw [sB_self]; exact q_okcall hk)
    rw [sB_self] at e1
    rw [sB_sB] at e
    by_cases hP : g.1 3 (15 + t) = g.1 3 (15 + u)
    · refine ⟨k, g.1 3, hk, ?_, ?_⟩
      · unfold q_fw
        rw [if_pos (q_mpT hP), if_pos hP]
      · unfold lX7_meet_40
        rw [if_neg a1, r_its1 ht, p_b2, r_its1 hu, p_b2, if_pos hP, sB_id]
    · refine ⟨j, r', hr', ?_, ?_⟩
      · rw [← e1]
        conv => lhs; unfold q_fw
        rw [if_neg (by unfold q_mp; simp [hP])]
      · unfold lX7_meet_40
        rw [if_neg a1, r_its1 ht, p_b2, r_its1 hu, p_b2, if_neg hP, r_call hk, p_b1, nI_1, e]
theorem o_meet (hI : q_Inv g) (x y : Int32) : q_go (fX6_meet x y) (fX7_meet x y) g := by
  have hM := (q_ok0 hI.b).2
  rcases hI.2.2.1.thing x with ⟨ha, hb⟩ | ⟨t, hta, htb, rfl⟩
  · refine q_stop hI (c := 0) (by decide) ?_ fun k hf => ?_
    · unfold fX6_meet
      rw [c_hasN (by decide) ha, p_b2, if_pos rfl, p_eta]
      rfl
    · unfold fX7_meet
      rw [r_hasN (hf.b hI) (by rw [hf.r]; exact hb), p_b2, if_pos rfl, p_eta]
      rfl
  · rcases hI.2.2.1.thing y with ⟨ha, hb⟩ | ⟨u, hua, hub, rfl⟩
    · refine q_stop hI (c := 0) (by decide) ?_ fun k hf => ?_
      · unfold fX6_meet
        rw [c_has (by decide) hI.a hta, p_b2, if_neg (by decide), c_hasN (by decide) ha, p_b2, if_pos rfl, p_eta]
        rfl
      · unfold fX7_meet
        rw [r_has (hf.b hI) (by rw [hf.r]; exact htb), p_b2, if_neg (by decide), r_hasN (hf.b hI) (by rw [hf.r]; exact hb), p_b2, if_pos rfl, p_eta]
        rfl
    · by_cases hxy : nI t = nI u
      · refine q_stop hI (c := 0) (by decide) ?_ fun k hf => ?_
        · unfold fX6_meet
          rw [c_has (by decide) hI.a hta, p_b2, if_neg (by decide), c_has (by decide) hI.a hua, p_b2, if_neg (by decide), if_pos hxy, p_eta]
          rfl
        · unfold fX7_meet
          rw [r_has (hf.b hI) (by rw [hf.r]; exact htb), p_b2, if_neg (by decide), r_has (hf.b hI) (by rw [hf.r]; exact hub), p_b2, if_neg (by decide), if_pos hxy, p_eta]
          rfl
      · have hT0 := hI.as.mt hI.1
        obtain ⟨r', hr', e⟩ := c_mpL (t := t) (u := u) 201 0 1000 (sB g 1 (q_mt (g.1 1) (g.1 0))) (g.1 3) rfl (by decide) hI.b (by rw [sB_self]; exact hT0) htb hub
        refine q_still hI (q_fa (q_fw (q_mp t u) 201 0 (g.1 3))) (q_fac _) hr' ?_ fun k hf => ?_
        · unfold fX6_meet
          simp only [p_eta]
          rw [c_has (by decide) hI.a hta, p_b2, if_neg (by decide), c_has (by decide) hI.a hua, p_b2, if_neg (by decide), if_neg hxy, c_trial hI.a, p_b1]
          rw [show lX6_meet_39 (nI t) (nI u) 1000 0 (sB g 1 (q_mt (g.1 1) (g.1 0))) = _ from e, sB_sB, ← q_fo3]
        · obtain ⟨j, r', hr', e1, e⟩ := r_mpL (t := t) (u := u) (by omega) (by omega) 200 0 1000 (sB k 5 (q_cp (k.1 5) (k.1 3) 0)) rfl (by decide) (by rw [sB_ne _ _ (by decide)]; exact hf.b hI)
          rw [sB_ne _ _ (by decide)] at e1
          refine ⟨q_cp r' (q_cp (k.1 5) (k.1 3) 0) 0, q_cp (k.1 5) (k.1 3) 0, ?_, ?_⟩
          · rw [← hf.r]
            exact (q_e73c _ _).tr (q_e73c _ _)
          · have e2 : ∀ h : ic_S, fX7_copies 2 0 h = some (sB h 3 (q_cp (h.1 3) (h.1 5) 0)) := fun h => r_cp (by decide) (by decide) (by decide)
            unfold fX7_meet
            rw [r_has (hf.b hI) (by rw [hf.r]; exact htb), p_b2, if_neg (by decide), r_has (hf.b hI) (by rw [hf.r]; exact hub), p_b2, if_neg (by decide), if_neg hxy, r_cp (by decide) (by decide) (by decide), p_b1]
            rw [show lX7_meet_40 (nI t) (nI u) 1000 0 (sB k (3 + 2) (q_cp (k.1 (3 + 2)) (k.1 (3 + 0)) 0)) = _ from e, p_b2, r_its1 (by omega), p_b2, r_its1 (by omega), p_b2, e2, p_b1, p_b1, sB_self, sB_sB, sB_ne _ _ (by decide), sB_self, sB_53, p_eta, ← hf.r]
            rw [show (200 + 1 : Nat) = 201 from rfl] at e1
            rw [e1]
            split <;> rfl
end
