/-! calls by draws -/
def q_dz (z : Int32) : Int32 := (z * 1103515245) + 12345
def q_dv (z : Int32) : Int32 := UInt32.toInt32 (Int32.toUInt32 z >>> (Int32.toUInt32 8 &&& Int32.toUInt32 31))
def q_cl (r : Nat → Int32) : Nat → Int32 := q_calls 1 (rU (rU (rU (rU r 2 (q_dz (r 2))) 3 (q_dv (q_dz (r 2)) - q_dv (q_dz (r 2)) / 16 * 16)) 2 (q_dz (q_dz (r 2)))) 6 (q_dv (q_dz (q_dz (r 2))) - q_dv (q_dz (q_dz (r 2))) / 21 * 21))
theorem q_dvN (z : Int32) : ∃ m, m < 2 ^ 31 ∧ q_dv z = nI m := by
  refine nI_of ?_
  intro h
  have e := pk_ushr z 8 8 (by decide)
  have h2 : (q_dv z).toBitVec.toNat < 2 ^ 31 := by
    unfold q_dv
    rw [e]
    have := z.toBitVec.isLt
    omega
  have a := Int32.lt_iff_toInt_lt.mp h
  have b : (q_dv z).toInt = (q_dv z).toBitVec.toNat := BitVec.toInt_eq_toNat_of_lt (by omega)
  rw [b] at a
  have : (0 : Int32).toInt = 0 := by decide
  omega
theorem q_dm (z : Int32) {d : Nat} (h0 : 0 < d) (hd : d < 1000) : ∃ n, n ≤ d - 1 ∧ q_dv z - q_dv z / nI d * nI d = nI n := by
  obtain ⟨m, hm, e⟩ := q_dvN z
  rw [e, pk_rem hm h0 (by omega)]
  exact ⟨_, by have := Nat.mod_lt m h0; omega, rfl⟩
theorem q_R.cl {a b : Nat → Int32} (h : q_R a b) : q_R (q_cl a) (q_cl b) := by
  unfold q_cl
  rw [h.2.2.1.1 2 (by decide)]
  exact (((((h.U (i := 2) (v := q_dz (b 2)) (by decide) (by decide) (fun h => absurd rfl h)).U (i := 3) (v := q_dv (q_dz (b 2)) - q_dv (q_dz (b 2)) / 16 * 16) (by decide) (by decide) (fun _ => q_dm _ (d := 16) (by decide) (by decide))).U (i := 2) (v := q_dz (q_dz (b 2))) (by decide) (by decide) (fun h => absurd rfl h)).U (i := 6) (v := q_dv (q_dz (q_dz (b 2))) - q_dv (q_dz (q_dz (b 2))) / 21 * 21) (by decide) (by decide) (fun _ => q_dm _ (d := 21) (by decide) (by decide)))).calls 1
def q_cls (N : Nat) (r : Nat → Int32) : Nat → Int32 := q_it (fun _ r => q_cl r) N 0 r
theorem q_R.cls {a b : Nat → Int32} (h : q_R a b) (N : Nat) : q_R (q_cls N a) (q_cls N b) := q_it2 (P := q_R) N (fun _ _ _ _ h => h.cl) _ _ _ _ (Nat.le_refl _) h
section
variable {g : ic_S}
theorem c_dr (g : ic_S) : fX2_draw 0 g = some (q_dv (q_dz (g.1 0 2)), sB g 0 (rU (g.1 0) 2 (q_dz (g.1 0 2)))) := by
  unfold fX2_draw
  rw [p_bt (by decide), p_gd, p_let, up_sB, sB_self, rU_s]
  rfl
theorem r_dr (g : ic_S) : fX7_draw g = some (q_dv (q_dz (g.1 3 2)), sB g 3 (rU (g.1 3) 2 (q_dz (g.1 3 2)))) := by
  unfold fX7_draw
  rw [p_let, Nat.add_zero, up_sB, sB_self, rU_s]
  rfl
theorem c_clL {N : Nat} (hN : N ≤ 900) : ∀ m k n (g : ic_S) (b : Nat → Int32), k + m = N → m < n → q_R (g.1 0) b → lX6_calls_39 (nI N) n (nI k) g = some ((), sB g 0 (q_it (fun _ r => q_cl r) m k (g.1 0))) := by
  intro m
  induction m with
  | zero =>
    intro k n g b h1 h2 hR
    obtain ⟨n, rfl⟩ : ∃ j, n = j + 1 := ⟨n - 1, by omega⟩
    unfold lX6_calls_39
    rw [if_pos (nI_le (by omega) (by omega)), q_itz, sB_id]
  | succ m ih =>
    intro k n g b h1 h2 hR
    obtain ⟨n, rfl⟩ : ∃ j, n = j + 1 := ⟨n - 1, by omega⟩
    have e := ih (k + 1) n (sB g 0 (q_cl (g.1 0))) (q_cl b) (by omega) (by omega) (by rw [sB_self]; exact hR.cl)
    rw [sB_self, sB_sB] at e
    have hA : ∀ h v, fX2_alterCart 0 0 v h = some (sB h 0 (rU (h.1 0) 3 v)) := fun h v => by
      rw [← up_sB]
      rfl
    have hB : ∀ h v, fX2_alterCart 0 3 v h = some (sB h 0 (rU (h.1 0) 6 v)) := fun h v => by
      rw [← up_sB]
      rfl
    have ok4 := (((hR.U (i := 2) (v := q_dz (g.1 0 2)) (by decide) (by decide) (fun h => absurd rfl h)).U (i := 3) (v := q_dv (q_dz (g.1 0 2)) - q_dv (q_dz (g.1 0 2)) / 16 * 16) (by decide) (by decide) (fun _ => q_dm _ (d := 16) (by decide) (by decide))).U (i := 2) (v := q_dz (q_dz (g.1 0 2))) (by decide) (by decide) (fun h => absurd rfl h)).U (i := 6) (v := q_dv (q_dz (q_dz (g.1 0 2))) - q_dv (q_dz (q_dz (g.1 0 2))) / 21 * 21) (by decide) (by decide) (fun _ => q_dm _ (d := 21) (by decide) (by decide))
    unfold lX6_calls_39
    rw [if_neg (nI_ge (by omega) (by omega)), q_its, ← e, c_dr, p_b2, hA, p_b1, sB_self, sB_sB, c_dr, p_b2, sB_self, sB_sB, rU_n _ _ (show (2 : Nat) ≠ 3 by decide), rU_s, hB, p_b1, sB_self, sB_sB]
    rw [show ∀ h, fX2_callTimes 0 1 h = fX2_callTimes 0 (nI 1) h from fun _ => rfl, c_ca (by decide) (by rw [sB_self]; exact ok4.1) (by decide), p_b1, sB_self, sB_sB, nI_1]
    rfl
theorem r_clL {N : Nat} (hN : N ≤ 900) : ∀ m k n (g : ic_S) (a : Nat → Int32), k + m = N → m < n → q_R a (g.1 3) → lX7_calls_39 (nI N) n (nI k) g = some ((), sB g 3 (q_it (fun _ r => q_cl r) m k (g.1 3))) := by
  intro m
  induction m with
  | zero =>
    intro k n g a h1 h2 hR
    obtain ⟨n, rfl⟩ : ∃ j, n = j + 1 := ⟨n - 1, by omega⟩
    unfold lX7_calls_39
    rw [if_pos (nI_le (by omega) (by omega)), q_itz, sB_id]
  | succ m ih =>
    intro k n g a h1 h2 hR
    obtain ⟨n, rfl⟩ : ∃ j, n = j + 1 := ⟨n - 1, by omega⟩
    have e := ih (k + 1) n (sB g 3 (q_cl (g.1 3))) (q_cl a) (by omega) (by omega) (by rw [sB_self]; exact hR.cl)
    rw [sB_self, sB_sB] at e
    have ok4 := (((hR.U (i := 2) (v := q_dz (g.1 3 2)) (by decide) (by decide) (fun h => absurd rfl h)).U (i := 3) (v := q_dv (q_dz (g.1 3 2)) - q_dv (q_dz (g.1 3 2)) / 16 * 16) (by decide) (by decide) (fun _ => q_dm _ (d := 16) (by decide) (by decide))).U (i := 2) (v := q_dz (q_dz (g.1 3 2))) (by decide) (by decide) (fun h => absurd rfl h)).U (i := 6) (v := q_dv (q_dz (q_dz (g.1 3 2))) - q_dv (q_dz (q_dz (g.1 3 2))) / 21 * 21) (by decide) (by decide) (fun _ => q_dm _ (d := 21) (by decide) (by decide))
    unfold lX7_calls_39
    rw [if_neg (nI_ge (by omega) (by omega)), q_its, ← e, r_dr, p_b2, p_let, Nat.add_zero, up_sB, sB_self, sB_sB, r_dr, p_b2, p_let, up_sB, sB_self, sB_sB, sB_self, sB_sB, rU_n _ _ (show (2 : Nat) ≠ 3 by decide), rU_s, r_call (by rw [sB_self]; exact ok4.2.1), p_b1, sB_self, sB_sB, nI_1]
    rfl
theorem o_calls (hI : q_Inv g) (x : Int32) : q_go (fX6_calls x) (fX7_calls x) g := by
  have hx : ((x < 0 ∨ nI 21 ≤ x) ∨ x = 0) ∨ ∃ j, 1 ≤ j ∧ j < 21 ∧ x = nI j := by
    rcases q_ix x (n := 21) (by decide) with h | ⟨j, hj, rfl⟩
    · exact Or.inl (Or.inl h)
    · by_cases h : j = 0
      · subst h
        exact Or.inl (Or.inr rfl)
      · exact Or.inr ⟨j, by omega, hj, rfl⟩
  rcases hx with h | ⟨j, hj1, hj, rfl⟩
  · refine q_stop hI (c := 0) (by decide) ?_ fun k hf => ?_
    · unfold fX6_calls
      by_cases h1 : x < 1
      · rw [if_pos h1, p_eta]
        rfl
      · have h : nI 21 ≤ x := by
          rcases h with (h | h) | h
          · exact absurd (p_lt1 (Or.inl h)) h1
          · exact h
          · exact absurd (p_lt1 (Or.inr h)) h1
        have hl : ¬ x ≤ 20 := (p_gt (n := 20) h (by decide)).1
        rw [if_neg h1, if_neg hl, p_eta]
        rfl
    · unfold fX7_calls
      rw [show fX7_in x.toInt64 1 20 k = some (0, k) from r_inN1 (n := 21) (by decide) (by decide) h k, p_b2, if_pos rfl, p_eta]
      rfl
  · have a1 : ¬ nI j < 1 := nI_nlt (b := 1) hj1 (by omega)
    have a2 : nI j ≤ 20 := nI_le (b := 20) (by omega) (by decide)
    by_cases hc : g.1 3 1 + nI j ≤ 99999
    · have hR := hI.2.2.1.cls j
      refine q_both hI (q_set (q_cls j (g.1 3)) 47) (a' := q_cls j (g.1 0)) ?_ fun k hf => ⟨q_cls j (g.1 3), hR, ?_⟩
      · unfold fX6_calls
        rw [if_neg a1, if_pos a2, hI.l.1 1 (by decide), if_pos hc]
        rw [show lX6_calls_39 (nI j) 1000 0 g = _ from c_clL (by omega) j 0 1000 g _ (by omega) (by omega) hI.2.2.1, p_b2, c_set5 (by decide) (by rw [sB_self]; exact hR.1), p_b2, sB_self]
        show some (q_set (q_cls j (g.1 0)) 47, _) = _
        rw [show q_set (q_cls j (g.1 0)) 47 = q_set (q_cls j (g.1 3)) 47 from hR.2.2.1.set (w := 5) (by decide)]
        rfl
      · unfold fX7_calls
        rw [show fX7_in (nI j).toInt64 1 20 k = some (1, k) from r_inY1 (n := 21) hj1 hj (by decide) k, p_b2, if_neg (by decide), Nat.add_zero, hf.r, if_pos hc]
        rw [show lX7_calls_39 (nI j) 1000 0 k = _ from r_clL (by omega) j 0 1000 k (g.1 0) (by omega) (by omega) (by rw [hf.r]; exact hI.2.2.1), p_b2, hf.r, r_set_5 (by rw [sB_self]; exact hR.2.1), p_b2, sB_self]
        rfl
    · refine q_stop hI (c := 4) (by decide) ?_ fun k hf => ?_
      · unfold fX6_calls
        rw [if_neg a1, if_pos a2, hI.l.1 1 (by decide), if_neg hc, p_eta]
        rfl
      · unfold fX7_calls
        rw [show fX7_in (nI j).toInt64 1 20 k = some (1, k) from r_inY1 (n := 21) hj1 hj (by decide) k, p_b2, if_neg (by decide), Nat.add_zero, hf.r, if_neg hc, p_eta]
        rfl
end
/-! a new thing -/
def q_new (r : Nat → Int32) (t : Nat) (k c : Int32) : Nat → Int32 := fun i => if i = 0 then nI (t + 1) else if i = 7 + t then k else if i = 15 + t then c else if i = 23 + t then 10 else if i = 31 + t ∨ i = 39 + t ∨ i = 47 + t ∨ i = 55 + t then 0 else r i
theorem q_new6 (r : Nat → Int32) (t : Nat) (k c : Int32) : rU (rU (rU (rU (rU (rU (rU (rU r 0 (nI (t + 1))) (7 + t) k) (15 + t) c) (23 + t) 10) (31 + t) 0) (55 + t) 0) (39 + t) 0) (47 + t) 0 = q_new r t k c := by
  funext i
  simp only [rU, q_new]
  repeat' split
  all_goals first | rfl | omega
theorem q_new7 (r : Nat → Int32) (t : Nat) (k c : Int32) : rU (rU (rU (rU (q_it (fun w r => rU r (7 + 8 * w + t) 0) 7 0 r) (7 + t) k) (15 + t) c) (23 + t) 10) 0 (nI (t + 1)) = q_new r t k c := by
  funext i
  simp only [q_it, rU, q_new]
  repeat' split
  all_goals first | rfl | omega
theorem q_newM (r : Nat → Int32) {t : Nat} (k c : Int32) (ht : t < 8) : q_M (q_new r t k c) = t + 1 := nI_clamp (by omega)
theorem q_oknew {r : Nat → Int32} (h : q_ok r) {t : Nat} (ht : t < 8) {k c : Int32} (hk : ∃ n, n ≤ 6 ∧ k = nI n) (hc : ∃ n, n ≤ 15 ∧ c = nI n) : q_ok (q_new r t k c) := by
  rw [← q_new6]
  have z : ∀ i, ∃ n, n ≤ q_bd i ∧ (0 : Int32) = nI n := fun i => ⟨0, Nat.zero_le _, rfl⟩
  refine q_okU (q_okU (q_okU (q_okU (q_okU (q_okU (q_okU (q_okU h fun _ _ => ⟨t + 1, by show t + 1 ≤ 8; omega, rfl⟩) fun _ _ => ?_) fun _ _ => ?_) fun _ _ => ⟨10, by rw [q_bd_23 ht]; decide, rfl⟩) fun _ _ => z _) fun _ _ => z _) fun _ _ => z _) fun _ _ => z _
  · rw [q_bd_7 ht]
    exact hk
  · rw [q_bd_15 ht]
    exact hc
theorem q_lv.new {r r' : Nat → Int32} (h : q_lv r r') {t : Nat} (ht : t < 8) (hM : q_M r = t) (k c : Int32) : q_lv (q_new r t k c) (q_new r' t k c) := by
  constructor
  · intro i hi
    simp only [q_new]
    repeat' split
    all_goals first | rfl | exact h.1 i hi
  · intro w hw u hu
    rw [q_newM r k c ht] at hu
    simp only [q_new]
    repeat' split
    all_goals first | rfl | exact h.2 w hw u (by omega)
theorem q_R.new {a b : Nat → Int32} (h : q_R a b) {t : Nat} (ht : t < 8) (hM : q_M b = t) {k c : Int32} (hk : ∃ n, n ≤ 6 ∧ k = nI n) (hc : ∃ n, n ≤ 15 ∧ c = nI n) : q_R (q_new a t k c) (q_new b t k c) := by
  have e : ∀ (r : Nat → Int32) j, j < 10 → q_new r t k c (63 + j) = r (63 + j) := by
    intro r j hj
    simp only [q_new]
    repeat' split
    all_goals first | rfl | omega
  refine h.mk (q_oknew h.1 ht hk hc) (q_oknew h.2.1 ht hk hc) (h.2.2.1.new ht hM k c) (e a) (e b) ?_
  rw [q_newM b k c ht]
  omega
section
variable {g : ic_S}
theorem c_add {s : Nat} (hs : s < 3) (hk : q_ok (g.1 s)) {t : Nat} (hM : q_M (g.1 s) = t) (ht : t < 8) (k c : Int32) : fX2_addThing s k c g = some (nI t, sB g s (q_new (g.1 s) t k c)) := by
  obtain ⟨h0, _⟩ := q_ok0 hk
  rw [hM] at h0
  have h1 : nI t < 8 := nI_lt (b := 8) ht (by decide)
  have hk2 : q_ok (rU (g.1 s) 0 (nI (t + 1))) := q_okU hk fun _ _ => ⟨t + 1, by show t + 1 ≤ 8; omega, rfl⟩
  have hM2 : q_M (rU (g.1 s) 0 (nI (t + 1))) = t + 1 := nI_clamp (by omega)
  unfold fX2_addThing
  rw [p_bt hs, p_gd, h0, if_pos h1, p_let, nI_1, up_sB, sB_self, rU_s, nI_pred, c_thing hs (by rw [sB_self]; exact hk2) (by rw [sB_self, hM2]; omega), p_b2, p_mos, p_vk3 hs ht, p_gd]
  unfold fX4_renew
  simp only [p_bt hs, p_bt ht, p_gd, p_let, up_sB, sB_self, sB_sB, p_b1, q_new6]
  rw [show q_new (g.1 s) t k c 0 = nI (t + 1) from rfl, nI_pred]
theorem c_addN {s : Nat} (hs : s < 3) (hk : q_ok (g.1 s)) (hM : q_M (g.1 s) = 8) (k c : Int32) : fX2_addThing s k c g = some (-1, g) := by
  obtain ⟨h0, _⟩ := q_ok0 hk
  unfold fX2_addThing
  rw [p_bt hs, p_gd, h0, hM, if_neg (by decide)]
theorem r_comL {t : Nat} (ht : t < 8) (x1 x2 : Int32) : ∀ m k n (g : ic_S), k + m = 7 → m < n → lX7_comes_10 x1 x2 (nI t) n (nI k) g = some ((), sB g 3 (q_it (fun w r => rU r (7 + 8 * w + t) 0) m k (g.1 3))) := by
  intro m
  induction m with
  | zero =>
    intro k n g h1 h2
    obtain ⟨n, rfl⟩ : ∃ j, n = j + 1 := ⟨n - 1, by omega⟩
    obtain rfl : k = 7 := by omega
    unfold lX7_comes_10
    rw [if_pos (by decide), q_itz, sB_id]
  | succ m ih =>
    intro k n g h1 h2
    obtain ⟨n, rfl⟩ : ∃ j, n = j + 1 := ⟨n - 1, by omega⟩
    have a1 : ¬ (6 : Int32) < nI k := nI_nlt (a := 6) (by omega) (by decide)
    unfold lX7_comes_10
    rw [if_neg a1, r_set _ (by omega), p_b1, nI_1, ih (k + 1) n _ (by omega) (by omega), sB_self, sB_sB, q_its]
theorem r_com (hk : q_ok (g.1 3)) {t : Nat} (hM : q_M (g.1 3) = t) (ht : t < 8) (k c : Int32) : fX7_comes k c g = some (nI t, sB g 3 (q_new (g.1 3) t k c)) := by
  obtain ⟨h0, _⟩ := q_ok0 hk
  rw [hM] at h0
  have e : (rU (rU (rU (q_it (fun w r => rU r (7 + 8 * w + t) 0) 7 0 (g.1 3)) (7 + t) k) (15 + t) c) (23 + t) 10) 0 = nI t := by
    simp only [q_it]
    iterate 10 rw [rU_n _ _ (by omega)]
    exact h0
  unfold fX7_comes
  rw [Nat.add_zero, h0]
  rw [show lX7_comes_10 k c (nI t) 1000 0 g = _ from r_comL ht k c 7 0 1000 g rfl (by decide), p_b2, r_set0 _ ht, p_b1, sB_self, sB_sB, r_set1 _ ht, p_b1, sB_self, sB_sB, r_set2 _ ht, p_b1, sB_self, sB_sB, p_let, up_sB, sB_self, sB_sB, e, nI_1, q_new7]
theorem o_thing (hI : q_Inv g) (x1 x2 : Int32) : q_go (fX6_thing x1 x2) (fX7_thing x1 x2) g := by
  rcases q_ix x1 (n := 7) (by decide) with h | ⟨k, hk, rfl⟩
  · refine q_stop hI (c := 0) (by decide) ?_ fun h' hf => ?_
    · unfold fX6_thing
      rw [c_kindN h, p_b2, if_pos rfl, p_eta]
      rfl
    · unfold fX7_thing
      rw [show fX7_in x1.toInt64 0 6 h' = some (0, h') from r_inN (n := 7) (by decide) (by decide) h h', p_b2, if_pos rfl, p_eta]
      rfl
  · rcases q_ix x2 (n := 16) (by decide) with h | ⟨c, hc, rfl⟩
    · refine q_stop hI (c := 0) (by decide) ?_ fun h' hf => ?_
      · unfold fX6_thing
        rw [c_kind hk, p_b2, if_neg (by decide), c_cellN h, p_b2, if_pos rfl, p_eta]
        rfl
      · unfold fX7_thing
        rw [show fX7_in (nI k).toInt64 0 6 h' = some (1, h') from r_inY (n := 7) hk (by decide) h', p_b2, if_neg (by decide), r_cellN h, p_b2, if_pos rfl, p_eta]
        rfl
    · have hMM : q_M (g.1 0) = q_M (g.1 3) := hI.l.M
      have hM8 := (q_ok0 hI.b).2
      by_cases h8 : q_M (g.1 3) = 8
      · refine q_stop hI (c := 1) (by decide) ?_ fun h' hf => ?_
        · unfold fX6_thing
          rw [c_kind hk, p_b2, if_neg (by decide), c_cell hc, p_b2, if_neg (by decide), c_addN (by decide) hI.a (hMM.trans h8), p_b2, if_neg q_of0, p_eta]
          rfl
        · unfold fX7_thing
          rw [show fX7_in (nI k).toInt64 0 6 h' = some (1, h') from r_inY (n := 7) hk (by decide) h', p_b2, if_neg (by decide), r_cell hc, p_b2, if_neg (by decide), Nat.add_zero, hf.r, (q_ok0 hI.b).1, h8, if_pos (show nI 8 = 8 from rfl), p_eta]
          rfl
      · have h9 : ¬ nI (q_M (g.1 3)) = 8 := fun e => h8 ((nI_eq (b := 8) (by omega) (by decide)).mp e)
        refine q_both hI (nI (q_M (g.1 3))) (a' := q_new (g.1 0) (q_M (g.1 3)) (nI k) (nI c)) ?_ fun h' hf => ⟨q_new (g.1 3) (q_M (g.1 3)) (nI k) (nI c), hI.2.2.1.new (by omega) rfl ⟨k, by omega, rfl⟩ ⟨c, by omega, rfl⟩, ?_⟩
        · unfold fX6_thing
          rw [c_kind hk, p_b2, if_neg (by decide), c_cell hc, p_b2, if_neg (by decide), c_add (by decide) hI.a hMM (by omega), p_b2, if_pos (nI_pos' (by omega))]
        · unfold fX7_thing
          rw [show fX7_in (nI k).toInt64 0 6 h' = some (1, h') from r_inY (n := 7) hk (by decide) h', p_b2, if_neg (by decide), r_cell hc, p_b2, if_neg (by decide), Nat.add_zero, hf.r, (q_ok0 hI.b).1, if_neg h9, r_com (hf.b hI) (by rw [hf.r]) (by omega), p_b2, hf.r]
end
