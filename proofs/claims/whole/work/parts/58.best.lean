/-! the least or best of told ways: loudFor, startFor, layFor, kindFor, heavyFor -/
def q_fst (p : Nat → Bool) : Nat → Nat → Option Nat
  | 0, _ => none
  | m + 1, k => if p k = true then some k else q_fst p m (k + 1)
def q_bs1 (f : Nat → Int32) (x : Nat) (p : Int32 × Int32) : Int32 × Int32 := if f x ≤ p.2 then p else (nI x, f x)
theorem q_as.U {b r : Nat → Int32} (h : q_as b r) {i : Nat} {v : Int32} (hi : i ≠ 0) (hv : i < 63 → i ≠ 2 → ∃ n, n ≤ q_bd i ∧ v = nI n) : q_as (rU b i v) (rU r i v) := ⟨q_okU h.1 hv, h.2.U hi v⟩
theorem q_UM (r : Nat → Int32) {i : Nat} (v : Int32) (hi : i ≠ 0) : q_M (rU r i v) = q_M r := congrArg Int32.toNatClampNeg (rU_n _ _ (Ne.symm hi))
section
variable {g : ic_S}
theorem c_alt {s t w : Nat} (hs : s < 3) (hk : q_ok (g.1 s)) (ht : t < q_M (g.1 s)) (hw : w < 7) (v : Int32) (hv : w = 4 ∨ w = 5 → v = 0 ∨ v = 1) : fX2_alter s (nI t) (nI w) v g = some (sB g s (rU (g.1 s) (7 + 8 * w + t) v)) := by
  have ht8 : t < 8 := by have := (q_ok0 hk).2; omega
  unfold fX2_alter
  rw [p_bt hs, p_gd, c_thing hs hk ht, p_b2, p_mos, p_vk3 hs ht8, p_gd, p_eta1]
  unfold fX4_alter
  rw [p_bt hs, p_gd, p_bt ht8, p_gd]
  simp only [up_sB]
  match w, hw with
  | 0, _ => rfl
  | 1, _ => rfl
  | 2, _ => rfl
  | 3, _ => rfl
  | 4, _ =>
    rcases hv (Or.inl rfl) with rfl | rfl
    · rfl
    · rfl
  | 5, _ =>
    rcases hv (Or.inr rfl) with rfl | rfl
    · rfl
    · rfl
  | 6, _ => rfl
/-- the store of a try: its trial stands for b changed at i, and called -/
theorem c_try {b : Nat → Int32} (hb : q_ok b) (h0 : q_as b (g.1 0)) (h1 : q_ok (g.1 1)) {i : Nat} {v : Int32} (hi : i ≠ 0) (hv : i < 63 → i ≠ 2 → ∃ n, n ≤ q_bd i ∧ v = nI n) {N : Nat} : q_as b (q_mt (g.1 1) (g.1 0)) ∧ q_as (rU b i v) (rU (q_mt (g.1 1) (g.1 0)) i v) ∧ q_as (q_calls N (rU b i v)) (q_calls N (rU (q_mt (g.1 1) (g.1 0)) i v)) := by
  have a := h0.mt h1
  have c := a.U hi hv
  exact ⟨a, c, c.calls (q_okU hb hv) N⟩
theorem c_lfL {t N : Nat} (hN : N ≤ 60) {b : Nat → Int32} (hb : q_ok b) (ht : t < q_M b) : ∀ m k n (g : ic_S), k + m = 21 → m < n → q_as b (g.1 0) → q_ok (g.1 1) → ∃ r', q_ok r' ∧ lX6_loudFor_26 (nI t) (nI N) n (nI k) g = some (q_fo (q_fst (fun x => decide (q_calls N (rU b 6 (nI x)) (47 + t) = 1)) m k) (sB g 1 r')) := by
  have hM := (q_ok0 hb).2
  intro m
  induction m with
  | zero =>
    intro k n g h1 h2 h0 hk1
    obtain ⟨n, rfl⟩ : ∃ j, n = j + 1 := ⟨n - 1, by omega⟩
    obtain rfl : k = 21 := by omega
    refine ⟨g.1 1, hk1, ?_⟩
    unfold lX6_loudFor_26
    rw [if_pos (by decide), sB_id]
    rfl
  | succ m ih =>
    intro k n g h1 h2 h0 hk1
    obtain ⟨n, rfl⟩ : ∃ j, n = j + 1 := ⟨n - 1, by omega⟩
    have a1 : ¬ (20 : Int32) < nI k := nI_nlt (a := 20) (by omega) (by decide)
    obtain ⟨t1, t2, t3⟩ := c_try hb h0 hk1 (i := 6) (v := nI k) (N := N) (by omega) (fun _ _ => ⟨k, by (show k ≤ 20; omega), rfl⟩)
    have htM : t < q_M (q_calls N (rU b 6 (nI k))) := by
      rw [q_caM (q_okU hb (fun _ _ => ⟨k, by (show k ≤ 20; omega), rfl⟩)), q_UM _ _ (by omega)]
      exact ht
    obtain ⟨r', hr', e⟩ := ih (k + 1) n (sB g 1 (q_calls N (rU (q_mt (g.1 1) (g.1 0)) 6 (nI k)))) (by omega) (by omega) h0 (by rw [sB_self]; exact t3.1)
    rw [sB_sB] at e
    unfold lX6_loudFor_26 q_fst
    rw [if_neg a1, c_trial h0.1, p_b1, show fX2_alterCart 1 3 (nI k) (sB g 1 (q_mt (g.1 1) (g.1 0))) = some (ic_up (sB g 1 (q_mt (g.1 1) (g.1 0))) 1 6 (nI k)) from rfl, up_sB, p_b1, sB_self, sB_sB, c_ca (by decide) (by rw [sB_self]; exact t2.1) (by omega), p_b1, sB_self, sB_sB, c_told (by decide) (by rw [sB_self]; exact t3.1) (by rw [sB_self, t3.2.M]; exact htM), p_b2, sB_self, t3.2.told _ htM, show q_told (q_calls N (rU b 6 (nI k))) t 5 = q_calls N (rU b 6 (nI k)) (47 + t) from rfl, nI_1, e]
    by_cases hP : q_calls N (rU b 6 (nI k)) (47 + t) = 1
    · refine ⟨_, t3.1, ?_⟩
      rw [if_pos hP, if_pos (decide_eq_true hP)]
      rfl
    · refine ⟨r', hr', ?_⟩
      rw [if_neg hP, if_neg (by simp [hP])]
theorem c_hfL {t N : Nat} (hN : N ≤ 60) {b : Nat → Int32} (hb : q_ok b) (ht : t < q_M b) : ∀ m k n (g : ic_S), k + m = 100 → m < n → q_as b (g.1 0) → q_ok (g.1 1) → ∃ r', q_ok r' ∧ lX6_heavyFor_26 (nI t) (nI N) n (nI k) g = some (q_fo (q_fst (fun x => decide (q_calls N (rU b (23 + t) (nI x)) (47 + t) = 0)) m k) (sB g 1 r')) := by
  have hM := (q_ok0 hb).2
  intro m
  induction m with
  | zero =>
    intro k n g h1 h2 h0 hk1
    obtain ⟨n, rfl⟩ : ∃ j, n = j + 1 := ⟨n - 1, by omega⟩
    obtain rfl : k = 100 := by omega
    refine ⟨g.1 1, hk1, ?_⟩
    unfold lX6_heavyFor_26
    rw [if_pos (by decide), sB_id]
    rfl
  | succ m ih =>
    intro k n g h1 h2 h0 hk1
    obtain ⟨n, rfl⟩ : ∃ j, n = j + 1 := ⟨n - 1, by omega⟩
    have a1 : ¬ (99 : Int32) < nI k := nI_nlt (a := 99) (by omega) (by decide)
    obtain ⟨t1, t2, t3⟩ := c_try hb h0 hk1 (i := (23 + t)) (v := nI k) (N := N) (by omega) (fun _ _ => ⟨k, by (rw [q_bd_23 (by omega)]; omega), rfl⟩)
    have htM : t < q_M (q_calls N (rU b (23 + t) (nI k))) := by
      rw [q_caM (q_okU hb (fun _ _ => ⟨k, by (rw [q_bd_23 (by omega)]; omega), rfl⟩)), q_UM _ _ (by omega)]
      exact ht
    obtain ⟨r', hr', e⟩ := ih (k + 1) n (sB g 1 (q_calls N (rU (q_mt (g.1 1) (g.1 0)) (23 + t) (nI k)))) (by omega) (by omega) h0 (by rw [sB_self]; exact t3.1)
    rw [sB_sB] at e
    unfold lX6_heavyFor_26 q_fst
    rw [if_neg a1, c_trial h0.1, p_b1, show fX2_alter 1 (nI t) 2 (nI k) (sB g 1 (q_mt (g.1 1) (g.1 0))) = _ from c_alt (w := 2) (by decide) (by rw [sB_self]; exact t1.1) (by rw [sB_self, t1.2.M]; exact ht) (by decide) _ (fun h => absurd h (by decide)), show 7 + 8 * 2 + t = 23 + t from rfl, p_b1, sB_self, sB_sB, c_ca (by decide) (by rw [sB_self]; exact t2.1) (by omega), p_b1, sB_self, sB_sB, c_told (by decide) (by rw [sB_self]; exact t3.1) (by rw [sB_self, t3.2.M]; exact htM), p_b2, sB_self, t3.2.told _ htM, show q_told (q_calls N (rU b (23 + t) (nI k))) t 5 = q_calls N (rU b (23 + t) (nI k)) (47 + t) from rfl, nI_1, e]
    by_cases hP : q_calls N (rU b (23 + t) (nI k)) (47 + t) = 0
    · refine ⟨_, t3.1, ?_⟩
      rw [if_pos hP, if_pos (decide_eq_true hP)]
      rfl
    · refine ⟨r', hr', ?_⟩
      rw [if_neg hP, if_neg (by simp [hP])]
theorem r_lfL {t N : Nat} (hN : N ≤ 60) {b : Nat → Int32} (hb : q_ok b) (ht : t < q_M b) : ∀ m k n (g : ic_S), k + m = 21 → m < n → q_e73 (g.1 3) b → q_e73 (g.1 5) b → ∃ d, q_e73 d b ∧ lX7_loudFor_34 (nI t) (nI N) n (nI k) g = some (q_fo (q_fst (fun x => decide (q_calls N (rU b 6 (nI x)) (47 + t) = 1)) m k) (sB g 3 d)) := by
  have hM := (q_ok0 hb).2
  intro m
  induction m with
  | zero =>
    intro k n g h1 h2 h0 h5
    obtain ⟨n, rfl⟩ : ∃ j, n = j + 1 := ⟨n - 1, by omega⟩
    obtain rfl : k = 21 := by omega
    refine ⟨g.1 3, h0, ?_⟩
    unfold lX7_loudFor_34
    rw [if_pos (by decide), sB_id]
    rfl
  | succ m ih =>
    intro k n g h1 h2 h0 h5
    obtain ⟨n, rfl⟩ : ∃ j, n = j + 1 := ⟨n - 1, by omega⟩
    have a1 : ¬ (21 : Int32) ≤ nI k := nI_ge (b := 21) (by omega) (by decide)
    have hbU : q_ok (rU b 6 (nI k)) := q_okU hb (fun _ _ => ⟨k, by (show k ≤ 20; omega), rfl⟩)
    have hdU : q_ok (rU (g.1 3) 6 (nI k)) := q_okU (h0.ok hb) (fun _ _ => ⟨k, by (show k ≤ 20; omega), rfl⟩)
    have ev : q_calls N (rU (g.1 3) 6 (nI k)) (47 + t) = q_calls N (rU b 6 (nI k)) (47 + t) := (((h0.lv hb).U (by omega) (nI k)).calls hbU N).f5 (by rw [q_caM hbU, q_UM _ _ (by omega)]; exact ht)
    obtain ⟨d, hd, e⟩ := ih (k + 1) n (sB g 3 (q_cp (q_calls N (rU (g.1 3) 6 (nI k))) (g.1 5) 0)) (by omega) (by omega) (by rw [sB_self]; exact (q_e73c _ _).tr h5) (by rw [sB_ne _ _ (by decide)]; exact h5)
    rw [sB_sB] at e
    unfold lX7_loudFor_34 q_fst
    rw [if_neg a1, p_let, Nat.add_zero, up_sB, show (47 : Int32) = nI 47 from rfl, nI_add, r_beh (by omega) (by omega) (by rw [sB_self]; exact hdU), p_b2, sB_self, sB_sB, sB_ne _ _ (by decide), ev, nI_1, e]
    by_cases hP : q_calls N (rU b 6 (nI k)) (47 + t) = 1
    · refine ⟨q_cp (q_calls N (rU (g.1 3) 6 (nI k))) (g.1 5) 0, (q_e73c _ _).tr h5, ?_⟩
      rw [if_pos hP, if_pos (decide_eq_true hP)]
      rfl
    · refine ⟨d, hd, ?_⟩
      rw [if_neg hP, if_neg (by simp [hP])]
theorem r_hfL {t N : Nat} (hN : N ≤ 60) {b : Nat → Int32} (hb : q_ok b) (ht : t < q_M b) : ∀ m k n (g : ic_S), k + m = 100 → m < n → q_e73 (g.1 3) b → q_e73 (g.1 5) b → ∃ d, q_e73 d b ∧ lX7_heavyFor_34 (nI t) (nI N) n (nI k) g = some (q_fo (q_fst (fun x => decide (q_calls N (rU b (23 + t) (nI x)) (47 + t) = 0)) m k) (sB g 3 d)) := by
  have hM := (q_ok0 hb).2
  intro m
  induction m with
  | zero =>
    intro k n g h1 h2 h0 h5
    obtain ⟨n, rfl⟩ : ∃ j, n = j + 1 := ⟨n - 1, by omega⟩
    obtain rfl : k = 100 := by omega
    refine ⟨g.1 3, h0, ?_⟩
    unfold lX7_heavyFor_34
    rw [if_pos (by decide), sB_id]
    rfl
  | succ m ih =>
    intro k n g h1 h2 h0 h5
    obtain ⟨n, rfl⟩ : ∃ j, n = j + 1 := ⟨n - 1, by omega⟩
    have a1 : ¬ (99 : Int32) < nI k := nI_nlt (a := 99) (by omega) (by decide)
    have hbU : q_ok (rU b (23 + t) (nI k)) := q_okU hb (fun _ _ => ⟨k, by (rw [q_bd_23 (by omega)]; omega), rfl⟩)
    have hdU : q_ok (rU (g.1 3) (23 + t) (nI k)) := q_okU (h0.ok hb) (fun _ _ => ⟨k, by (rw [q_bd_23 (by omega)]; omega), rfl⟩)
    have ev : q_calls N (rU (g.1 3) (23 + t) (nI k)) (47 + t) = q_calls N (rU b (23 + t) (nI k)) (47 + t) := (((h0.lv hb).U (by omega) (nI k)).calls hbU N).f5 (by rw [q_caM hbU, q_UM _ _ (by omega)]; exact ht)
    obtain ⟨d, hd, e⟩ := ih (k + 1) n (sB g 3 (q_cp (q_calls N (rU (g.1 3) (23 + t) (nI k))) (g.1 5) 0)) (by omega) (by omega) (by rw [sB_self]; exact (q_e73c _ _).tr h5) (by rw [sB_ne _ _ (by decide)]; exact h5)
    rw [sB_sB] at e
    unfold lX7_heavyFor_34 q_fst
    rw [if_neg a1, r_set2 _ (by omega), p_b1, show (47 : Int32) = nI 47 from rfl, nI_add, r_beh (by omega) (by omega) (by rw [sB_self]; exact hdU), p_b2, sB_self, sB_sB, sB_ne _ _ (by decide), ev, nI_1, e]
    by_cases hP : q_calls N (rU b (23 + t) (nI k)) (47 + t) = 0
    · refine ⟨q_cp (q_calls N (rU (g.1 3) (23 + t) (nI k))) (g.1 5) 0, (q_e73c _ _).tr h5, ?_⟩
      rw [if_pos hP, if_pos (decide_eq_true hP)]
      rfl
    · refine ⟨d, hd, ?_⟩
      rw [if_neg hP, if_neg (by simp [hP])]
theorem c_pl {j : Nat} (h : j < 61) : fX6_isPlanned (nI j) g = some (1, g) := by
  unfold fX6_isPlanned
  rw [if_neg (nI_pos (by omega)), if_neg (show ¬ 60 < nI j from nI_nlt (a := 60) (by omega) (by decide))]
theorem c_plN {x : Int32} (h : x < 0 ∨ nI 61 ≤ x) : fX6_isPlanned x g = some (0, g) := by
  unfold fX6_isPlanned
  rcases h with h | h
  · rw [if_pos h]
  · have hl : 60 < x := (p_gt (n := 60) h (by decide)).2
    rw [if_pos hl, ite_self]
theorem r_pl {j : Nat} (h : j < 61) : fX7_isShort (nI j) g = some (1, g) := by
  unfold fX7_isShort
  rw [show fX7_in (nI j).toInt64 0 60 g = some (1, g) from r_inY h (by decide) g, p_b2]
  rfl
theorem r_plN {x : Int32} (h : x < 0 ∨ nI 61 ≤ x) : fX7_isShort x g = some (0, g) := by
  unfold fX7_isShort
  rw [show fX7_in x.toInt64 0 60 g = some (0, g) from r_inN (n := 61) (by decide) (by decide) h g, p_b2]
  rfl
theorem q_fo37 (o : Option Nat) (g : ic_S) : ic_bs (some (q_fo o g)) (fun _ g => fX7_finds 3 g) = q_o7 (q_fa o) g := by
  rcases o with _ | j <;> rfl
theorem r_aside (h : ic_S) : fX7_copies 0 2 h = some (sB h 5 (q_cp (h.1 5) (h.1 3) 0)) := r_cp (by decide) (by decide) (by decide)
theorem o_loudFor (hI : q_Inv g) (x y : Int32) : q_go (fX6_loudFor x y) (fX7_loudFor x y) g := by
  rcases hI.2.2.1.thing x with ⟨ha, hb⟩ | ⟨t, hta, htb, rfl⟩
  · refine q_stop hI (c := 0) (by decide) ?_ fun k hf => ?_
    · unfold fX6_loudFor
      rw [c_hasN (by decide) ha, p_b2, if_pos rfl, p_eta]
      rfl
    · unfold fX7_loudFor
      rw [r_hasN (hf.b hI) (by rw [hf.r]; exact hb), p_b2, if_pos rfl, p_eta]
      rfl
  · rcases q_ix y (n := 61) (by decide) with h | ⟨N, hN, rfl⟩
    · refine q_stop hI (c := 0) (by decide) ?_ fun k hf => ?_
      · unfold fX6_loudFor
        rw [c_has (by decide) hI.a hta, p_b2, if_neg (by decide), c_plN h, p_b2, if_pos rfl, p_eta]
        rfl
      · unfold fX7_loudFor
        rw [r_has (hf.b hI) (by rw [hf.r]; exact htb), p_b2, if_neg (by decide), r_plN h, p_b2, if_pos rfl, p_eta]
        rfl
    · obtain ⟨r', hr', e⟩ := c_lfL (t := t) (N := N) (by omega) hI.b htb 21 0 1000 g rfl (by decide) hI.as hI.1
      refine q_still hI (q_fa (q_fst (fun x => decide (q_calls N (rU (g.1 3) 6 (nI x)) (47 + t) = 1)) 21 0)) (q_fac _) hr' ?_ fun k hf => ?_
      · unfold fX6_loudFor
        simp only [p_eta]
        rw [c_has (by decide) hI.a hta, p_b2, if_neg (by decide), c_pl hN, p_b2, if_neg (by decide)]
        rw [show lX6_loudFor_26 (nI t) (nI N) 1000 0 g = _ from e, ← q_fo3]
      · obtain ⟨d, hd, e7⟩ := r_lfL (t := t) (N := N) (by omega) hI.b htb 21 0 1000 (sB k 5 (q_cp (k.1 5) (k.1 3) 0)) rfl (by decide) (by rw [sB_ne _ _ (by decide), hf.r]; exact fun _ _ => rfl) (by rw [sB_self, hf.r]; exact q_e73c _ _)
        refine ⟨d, q_cp (k.1 5) (k.1 3) 0, hd, ?_⟩
        unfold fX7_loudFor
        simp only [p_eta]
        rw [r_has (hf.b hI) (by rw [hf.r]; exact htb), p_b2, if_neg (by decide), r_pl hN, p_b2, if_neg (by decide), r_aside, p_b1]
        rw [show lX7_loudFor_34 (nI t) (nI N) 1000 0 (sB k 5 (q_cp (k.1 5) (k.1 3) 0)) = _ from e7, sB_53, ← q_fo37]
theorem o_heavyFor (hI : q_Inv g) (x y : Int32) : q_go (fX6_heavyFor x y) (fX7_heavyFor x y) g := by
  rcases hI.2.2.1.thing x with ⟨ha, hb⟩ | ⟨t, hta, htb, rfl⟩
  · refine q_stop hI (c := 0) (by decide) ?_ fun k hf => ?_
    · unfold fX6_heavyFor
      rw [c_hasN (by decide) ha, p_b2, if_pos rfl, p_eta]
      rfl
    · unfold fX7_heavyFor
      rw [r_hasN (hf.b hI) (by rw [hf.r]; exact hb), p_b2, if_pos rfl, p_eta]
      rfl
  · rcases q_ix y (n := 61) (by decide) with h | ⟨N, hN, rfl⟩
    · refine q_stop hI (c := 0) (by decide) ?_ fun k hf => ?_
      · unfold fX6_heavyFor
        rw [c_has (by decide) hI.a hta, p_b2, if_neg (by decide), c_plN h, p_b2, if_pos rfl, p_eta]
        rfl
      · unfold fX7_heavyFor
        rw [r_has (hf.b hI) (by rw [hf.r]; exact htb), p_b2, if_neg (by decide), r_plN h, p_b2, if_pos rfl, p_eta]
        rfl
    · obtain ⟨r', hr', e⟩ := c_hfL (t := t) (N := N) (by omega) hI.b htb 99 1 1000 g rfl (by decide) hI.as hI.1
      refine q_still hI (q_fa (q_fst (fun x => decide (q_calls N (rU (g.1 3) (23 + t) (nI x)) (47 + t) = 0)) 99 1)) (q_fac _) hr' ?_ fun k hf => ?_
      · unfold fX6_heavyFor
        simp only [p_eta]
        rw [c_has (by decide) hI.a hta, p_b2, if_neg (by decide), c_pl hN, p_b2, if_neg (by decide)]
        rw [show lX6_heavyFor_26 (nI t) (nI N) 1000 1 g = _ from e, ← q_fo3]
      · obtain ⟨d, hd, e7⟩ := r_hfL (t := t) (N := N) (by omega) hI.b htb 99 1 1000 (sB k 5 (q_cp (k.1 5) (k.1 3) 0)) rfl (by decide) (by rw [sB_ne _ _ (by decide), hf.r]; exact fun _ _ => rfl) (by rw [sB_self, hf.r]; exact q_e73c _ _)
        refine ⟨d, q_cp (k.1 5) (k.1 3) 0, hd, ?_⟩
        unfold fX7_heavyFor
        simp only [p_eta]
        rw [r_has (hf.b hI) (by rw [hf.r]; exact htb), p_b2, if_neg (by decide), r_pl hN, p_b2, if_neg (by decide), r_aside, p_b1]
        rw [show lX7_heavyFor_34 (nI t) (nI N) 1000 1 (sB k 5 (q_cp (k.1 5) (k.1 3) 0)) = _ from e7, sB_53, ← q_fo37]
end
