/-! what would be: trials on the class's side, rows set aside on the reference's -/
theorem p_gt {x : Int32} {n : Nat} (h : nI (n + 1) ≤ x) (hn : n ≤ 100000) : ¬ x ≤ nI n ∧ nI n < x := by
  have a := Int32.le_iff_toInt_le.mp h
  rw [nI_toInt (by omega)] at a
  have c : nI n < x := by
    rw [Int32.lt_iff_toInt_lt, nI_toInt (by omega)]
    omega
  exact ⟨Int32.not_le.mpr c, c⟩
theorem q_toldW {r : Nat → Int32} {t w : Nat} (hw : w < 7) : q_told r t (nI w) = r (7 + 8 * w + t) := by
  match w, hw with
  | 0, _ => rfl
  | 1, _ => rfl
  | 2, _ => rfl
  | 3, _ => rfl
  | 4, _ => rfl
  | 5, _ => rfl
  | 6, _ => rfl
/-- a row of the class that stands for b -/
def q_as (b r : Nat → Int32) : Prop := q_ok r ∧ q_lv b r
theorem q_as.calls {b r : Nat → Int32} (hb : q_ok b) (h : q_as b r) (N : Nat) : q_as (q_calls N b) (q_calls N r) := ⟨q_okcs h.1 N, h.2.calls hb N⟩
section
variable {g : ic_S} {b : Nat → Int32}
theorem c_trial (ha : q_ok (g.1 0)) : fX6_startTrial g = some (sB g 1 (q_mt (g.1 1) (g.1 0))) := by
  unfold fX6_startTrial
  rw [c_match (by decide) (by decide) (by decide) ha, p_b1]
theorem q_as.mt {d r : Nat → Int32} (hd : q_ok d) (h : q_as b r) : q_as b (q_mt d r) := ⟨q_okmt hd h.1, h.2.tr (q_mtI (q_ok0 h.1).2).1⟩
theorem q_Inv.as (hI : q_Inv g) : q_as (g.1 3) (g.1 0) := ⟨hI.a, hI.l⟩
theorem q_ca0 {r : Nat → Int32} (h : q_ok r) (N : Nat) : q_calls N r 0 = r 0 := (q_itI (P := fun (a : Nat → Int32) => q_ok a ∧ a 0 = r 0) N (fun t a _ h => ⟨q_okcall h.1, (q_ca h.1 (Or.inl (by decide)) (by decide) (by decide) (by decide)).trans h.2⟩) N 0 r (Nat.le_refl _) ⟨h, rfl⟩).2
theorem q_caM {r : Nat → Int32} (h : q_ok r) (N : Nat) : q_M (q_calls N r) = q_M r := congrArg Int32.toNatClampNeg (q_ca0 h N)
theorem r_beh {N p : Nat} (hN : N ≤ 900) (hp : p < 73) (hk : q_ok (g.1 3)) : fX7_behind (nI N) (nI p) g = some (q_calls N (g.1 3) p, sB g 3 (q_cp (q_calls N (g.1 3)) (g.1 5) 0)) := by
  unfold fX7_behind
  rw [r_ca hk hN, p_b1, p_in hp (by decide), p_gd, p_let, nI_clamp (by omega), Nat.zero_add, Nat.add_zero, r_cp (by decide) (by decide) (by decide), p_b1, sB_self, sB_sB]
  rfl
/-- two rows that are one up to the rows' ends -/
def q_e73 (a b : Nat → Int32) : Prop := ∀ i, i < 73 → a i = b i
theorem q_e73.lv {a b : Nat → Int32} (h : q_e73 a b) (hb : q_ok b) : q_lv b a := ⟨fun i hi => h i (by omega), fun w hw t ht => h _ (by have := (q_ok0 hb).2; omega)⟩
theorem q_e73.ok {a b : Nat → Int32} (h : q_e73 a b) (hb : q_ok b) : q_ok a := fun i hi h0 => by
  rw [h i (by omega)]
  exact hb i hi h0
theorem q_e73.tr {a b c : Nat → Int32} (h : q_e73 a b) (h2 : q_e73 b c) : q_e73 a c := fun i hi => (h i hi).trans (h2 i hi)
theorem q_e73c (d a : Nat → Int32) : q_e73 (q_cp d a 0) a := fun _ hi => q_cpI _ _ hi
theorem sB_sB5 (g : ic_S) (a b c : Nat → Int32) : sB (sB (sB g 3 a) 5 b) 3 c = sB (sB g 3 c) 5 b := by
  unfold sB
  refine congrArg (fun z => (z, g.2)) ?_
  funext k
  by_cases h : k = 3
  · subst h
    rfl
  · simp only [h, if_false]
theorem sB_53 (g : ic_S) (a b : Nat → Int32) : sB (sB g 5 a) 3 b = sB (sB g 3 b) 5 a := by
  unfold sB
  refine congrArg (fun z => (z, g.2)) ?_
  funext k
  by_cases h : k = 3
  · subst h
    rfl
  · simp only [h, if_false]
theorem c_ahd {N t w : Nat} (hN : N ≤ 900) (hI : q_Inv g) (ht : t < q_M (g.1 3)) (hw : w < 7) : ∃ r, q_ok r ∧ ic_b1 (fX6_startTrial g) (fun g14 => ic_b1 (fX2_callTimes 1 (nI N) g14) (fun g16 => ic_b2 (fX2_told 1 (nI t) (nI w) g16) (fun v g => some (v, g)))) = some (q_calls N (g.1 3) (7 + 8 * w + t), sB g 1 r) := by
  have hT := (hI.as.mt hI.1).calls hI.b N
  have hT0 := hI.as.mt hI.1
  have htM : t < q_M (q_calls N (g.1 3)) := by rwa [q_caM hI.b]
  refine ⟨_, hT.1, ?_⟩
  rw [c_trial hI.a, p_b1, c_ca (by decide) (by rw [sB_self]; exact hT0.1) hN, p_b1, p_eta, sB_self, sB_sB, c_told (by decide) (by rw [sB_self]; exact hT.1) (by rw [sB_self, hT.2.M]; exact htM), sB_self, hT.2.told _ htM, q_toldW hw]
theorem r_ahd {N p : Nat} (hN : N ≤ 900) (hk : q_ok (g.1 3)) (hp : p < 73) : ∃ d a, q_e73 d (g.1 3) ∧ ic_b1 (fX7_copies 0 2 g) (fun g => ic_b2 (fX7_behind (nI N) (nI p) g) (fun v g => some (v, g))) = some (q_calls N (g.1 3) p, sB (sB g 3 d) 5 a) := by
  refine ⟨q_cp (q_calls N (g.1 3)) (q_cp (g.1 5) (g.1 3) 0) 0, q_cp (g.1 5) (g.1 3) 0, (q_e73c _ _).tr (q_e73c _ _), ?_⟩
  rw [r_cp (by decide) (by decide) (by decide), p_b1, p_eta, r_beh hN hp (by rw [sB_ne _ _ (by decide)]; exact hk), sB_ne _ _ (by decide), sB_53]
  rfl
theorem o_ahead (hI : q_Inv g) (x1 x2 x3 : Int32) : q_go (fX6_ahead x1 x2 x3) (fX7_ahead x1 x2 x3) g := by
  rcases hI.2.2.1.thing x1 with ⟨ha, hb⟩ | ⟨t, hta, htb, rfl⟩
  · refine q_stop hI (c := 0) (by decide) ?_ fun k hf => ?_
    · unfold fX6_ahead
      simp only [c_hasN (g := g) (s := 0) (by decide) ha, p_b2, p_eta, if_true, ite_self]
      rfl
    · unfold fX7_ahead
      rw [r_hasN (hf.b hI) (by rw [hf.r]; exact hb), p_b2, if_pos rfl, p_eta]
      rfl
  · have c1 := c_has (g := g) (s := 0) (by decide) hI.a hta
    have n1 : ¬ (1 : Int32) = 0 := by decide
    have hM := (q_ok0 hI.b).2
    have hw : ∀ w, w < 7 → (∀ x3 h, fX6_ahead (nI t) (nI w) x3 g = (if x3 < 0 then fX6_finding 0 g else if x3 ≤ 100 then ic_b1 (fX6_startTrial g) (fun g14 => ic_b1 (fX2_callTimes 1 x3 g14) (fun g16 => ic_b2 (fX2_told 1 (nI t) (nI w) g16) (fun v g => some (v, g)))) else fX6_finding 0 g) ∧ (q_rf g h → fX7_ahead (nI t) (nI w) x3 h = ic_b2 (fX7_in x3.toInt64 0 100 h) (fun v g => if v = 0 then fX7_finds 0 g else ic_b1 (fX7_copies 0 2 g) (fun g => ic_b2 (fX7_behind x3 ((7 + (8 * nI w)) + nI t) g) (fun v g => some (v, g)))))) → q_go (fX6_ahead (nI t) (nI w) x3) (fX7_ahead (nI t) (nI w) x3) g := by
      intro w hw H
      rcases q_ix x3 (n := 101) (by decide) with h | ⟨N, hN, rfl⟩
      · refine q_stop hI (c := 0) (by decide) ?_ fun k hf => ?_
        · rw [(H x3 g).1]
          rcases h with h | h
          · rw [if_pos h]
            rfl
          · have hl : ¬ x3 ≤ 100 := (p_gt (n := 100) h (by decide)).1
            rw [if_neg hl, ite_self]
            rfl
        · rw [(H x3 k).2 hf, show fX7_in x3.toInt64 0 100 k = some (0, k) from r_inN (n := 101) (by decide) (by decide) h k, p_b2, if_pos rfl]
          rfl
      · obtain ⟨r, hr, e⟩ := c_ahd (N := N) (by omega) hI htb hw
        refine q_still hI (.inl (q_calls N (g.1 3) (7 + 8 * w + t))) (fun c e => by cases e) hr ?_ fun k hf => ?_
        · rw [(H _ g).1, if_neg (nI_pos (by omega)), if_pos (show nI N ≤ 100 from nI_le (b := 100) (by omega) (by decide)), e]
          rfl
        · obtain ⟨d, a, hd, e7⟩ := r_ahd (g := k) (N := N) (p := 7 + 8 * w + t) (by omega) (hf.b hI) (by omega)
          refine ⟨d, a, ?_, ?_⟩
          · rw [← hf.r]
            exact hd
          · rw [(H _ k).2 hf, show fX7_in (nI N).toInt64 0 100 k = some (1, k) from r_inY (n := 101) hN (by decide) k, p_b2, if_neg (by decide), p_ix, e7, hf.r]
            rfl
    have c7 : ∀ h, q_rf g h → fX7_isThing (nI t) h = some (1, h) := fun h hf => r_has (hf.b hI) (by rw [hf.r]; exact htb)
    by_cases e1 : x2 = 1
    · subst e1
      refine hw 1 (by decide) fun x3 h => ⟨?_, fun hf => ?_⟩
      · unfold fX6_ahead
        rw [if_pos (show nI 1 = 1 from rfl), c1, p_b2, if_neg n1]
        simp only [p_eta]
      · unfold fX7_ahead
        rw [c7 h hf, p_b2, if_neg n1, if_pos (show nI 1 = 1 from rfl)]
        simp only [p_eta]
    ·
      by_cases e3 : x2 = 3
      · subst e3
        refine hw 3 (by decide) fun x3 h => ⟨?_, fun hf => ?_⟩
        · unfold fX6_ahead
          rw [if_neg (show ¬ nI 3 = 1 by decide), if_pos (show nI 3 = 3 from rfl), c1, p_b2, if_neg n1]
          simp only [p_eta]
        · unfold fX7_ahead
          rw [c7 h hf, p_b2, if_neg n1, if_neg (show ¬ nI 3 = 1 by decide), if_pos (show nI 3 = 3 from rfl)]
          simp only [p_eta]
      ·
        by_cases e5 : x2 = 5
        · subst e5
          refine hw 5 (by decide) fun x3 h => ⟨?_, fun hf => ?_⟩
          · unfold fX6_ahead
            rw [if_neg (show ¬ nI 5 = 1 by decide), if_neg (show ¬ nI 5 = 3 by decide), if_pos (show nI 5 = 5 from rfl), c1, p_b2, if_neg n1]
            simp only [p_eta]
          · unfold fX7_ahead
            rw [c7 h hf, p_b2, if_neg n1, if_neg (show ¬ nI 5 = 1 by decide), if_neg (show ¬ nI 5 = 3 by decide), if_pos (show nI 5 = 5 from rfl)]
            simp only [p_eta]
        ·
          by_cases e6 : x2 = 6
          · subst e6
            refine hw 6 (by decide) fun x3 h => ⟨?_, fun hf => ?_⟩
            · unfold fX6_ahead
              rw [if_neg (show ¬ nI 6 = 1 by decide), if_neg (show ¬ nI 6 = 3 by decide), if_neg (show ¬ nI 6 = 5 by decide), if_pos (show nI 6 = 6 from rfl), c1, p_b2, if_neg n1]
              simp only [p_eta]
            · unfold fX7_ahead
              rw [c7 h hf, p_b2, if_neg n1, if_neg (show ¬ nI 6 = 1 by decide), if_neg (show ¬ nI 6 = 3 by decide), if_neg (show ¬ nI 6 = 5 by decide), if_pos (show nI 6 = 6 from rfl)]
              simp only [p_eta]
          · refine q_stop hI (c := 0) (by decide) ?_ fun k hf => ?_
            · unfold fX6_ahead
              rw [if_neg e1, if_neg e3, if_neg e5, if_neg e6, c1, p_b2, if_neg n1, p_eta]
              rfl
            · unfold fX7_ahead
              rw [c7 k hf, p_b2, if_neg n1, if_neg e1, if_neg e3, if_neg e5, if_neg e6, p_eta]
              rfl
theorem o_where (hI : q_Inv g) (x : Int32) : q_go (fX6_where x) (fX7_where x) g := by
  rcases q_ix x (n := 101) (by decide) with h | ⟨N, hN, rfl⟩
  · refine q_stop hI (c := 0) (by decide) ?_ fun k hf => ?_
    · unfold fX6_where
      rcases h with h | h
      · rw [if_pos h, p_eta]
        rfl
      · have hl : ¬ x ≤ 100 := (p_gt (n := 100) h (by decide)).1
        rw [if_neg hl, p_eta, ite_self]
        rfl
    · unfold fX7_where
      rw [show fX7_in x.toInt64 0 100 k = some (0, k) from r_inN (n := 101) (by decide) (by decide) h k, p_b2, if_pos rfl, p_eta]
      rfl
  · have hT := (hI.as.mt hI.1).calls hI.b N
    have hT0 := hI.as.mt hI.1
    refine q_still hI (.inl (q_calls N (g.1 3) 3)) (fun c e => by cases e) hT.1 ?_ fun k hf => ?_
    · unfold fX6_where
      rw [if_neg (nI_pos (by omega)), if_pos (show nI N ≤ 100 from nI_le (b := 100) (by omega) (by decide)), c_trial hI.a, p_b1, c_ca (by decide) (by rw [sB_self]; exact hT0.1) (by omega), p_b1, sB_self, sB_sB, sB_self, hT.2.1 3 (by decide)]
      rfl
    · obtain ⟨d, a, hd, e7⟩ := r_ahd (g := k) (N := N) (p := 3) (by omega) (hf.b hI) (by omega)
      refine ⟨d, a, ?_, ?_⟩
      · rw [← hf.r]
        exact hd
      · unfold fX7_where
        rw [show fX7_in (nI N).toInt64 0 100 k = some (1, k) from r_inY (n := 101) hN (by decide) k, p_b2, if_neg (by decide), ← hf.r]
        exact e7
end
