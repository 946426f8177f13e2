/-! holdFast: the reference's search, and both -/
def q_oI (o : Option Nat) : Int32 := match o with
  | some j => nI j
  | none => -1
section
variable {g : ic_S}
theorem r_sv {α : Type} {b : Nat → Int32} (hb : q_ok b) {N : Nat} (hN : N ≤ 60) (x2 x : Int32) (h3 : q_e73 (g.1 3) b) (h5 : q_e73 (g.1 5) b) (F G : ic_S → Option α) : ∃ d, q_e73 d b ∧ ic_b2 (lX7_holdFast_66 (nI N) x2 x 1000 0 g) (fun _ g1 => ic_b1 (fX7_callsGo (nI N) g1) (fun g2 => ic_b2 (fX7_setOf 5 g2) (fun v g3 => ic_b1 (fX7_copies 2 0 g3) (fun g4 => ic_b2 (fX7_setOf 5 g4) (fun v' g5 => if v = v' then F g5 else G g5))))) = if q_gd b N x = true then F (sB g 3 d) else G (sB g 3 d) := by
  have k3 := h3.ok hb
  have k5 := h5.ok hb
  have l3 := h3.lv hb
  have l5 := h5.lv hb
  have kh := q_oksv k3 x
  have kc := q_okcs kh N
  have lh : q_lv (q_all (q_hs x) b) (q_all (q_hs x) (g.1 3)) := q_lv.all (f := q_hs x) l3 (q_ok0 hb).2 (fun t c c' _ h => h.hs) (fun t c ht => q_kphs c ht)
  have lc := lh.calls (q_oksv hb x) N
  have kd : q_ok (q_cp (q_calls N (q_all (q_hs x) (g.1 3))) (g.1 5) 0) := q_okcp _ k5
  have ed : q_e73 (q_cp (q_calls N (q_all (q_hs x) (g.1 3))) (g.1 5) 0) b := (q_e73c _ _).tr h5
  have e2 : ∀ h : ic_S, fX7_copies 2 0 h = some (sB h 3 (q_cp (h.1 3) (h.1 5) 0)) := fun h => r_cp (by decide) (by decide) (by decide)
  refine ⟨q_cp (q_calls N (q_all (q_hs x) (g.1 3))) (g.1 5) 0, ed, ?_⟩
  rw [r_hs _ _ _ k3, p_b2, r_ca (by rw [sB_self]; exact kh) (by omega), p_b1, sB_self, sB_sB, r_set_5 (by rw [sB_self]; exact kc), p_b2, e2, p_b1, sB_self, sB_sB, sB_ne _ _ (by decide), r_set_5 (by rw [sB_self]; exact kd), p_b2, sB_self]
  rw [lc.set (w := 5) (by decide), (ed.lv hb).set (w := 5) (by decide)]
  by_cases h : q_gd b N x = true
  · rw [if_pos h, if_pos (of_decide_eq_true h)]
  · rw [if_neg h, if_neg (fun e => h (decide_eq_true e))]
theorem r_hdL {b : Nat → Int32} (hb : q_ok b) {N : Nat} (hN : N ≤ 60) : ∀ m k n (o : Option Nat) (g : ic_S), k + m = 2 ^ q_M b → m < n → (∀ j, o = some j → j < k) → q_e73 (g.1 3) b → q_e73 (g.1 5) b → ∃ d, q_e73 d b ∧ lX7_holdFast_33 (nI N) n (q_oI o) (nI k) g = some (q_oI (q_it (q_hb (fun x => q_gd b N (nI x)) q_pN) m k o), sB g 3 d) := by
  have hM := (q_ok0 hb).2
  have hS : 2 ^ q_M b ≤ 2 ^ 8 := Nat.pow_le_pow_right (by decide) hM
  intro m
  induction m with
  | zero =>
    intro k n o g h1 h2 ho h3 h5
    obtain ⟨n, rfl⟩ : ∃ j, n = j + 1 := ⟨n - 1, by omega⟩
    have e0 : g.1 3 0 = nI (q_M b) := (h3 0 (by decide)).trans (q_ok0 hb).1
    refine ⟨g.1 3, h3, ?_⟩
    unfold lX7_holdFast_33
    rw [Nat.add_zero, e0, p_bitM _ hM, if_pos (nI_le (by omega) (by omega)), sB_id]
    rfl
  | succ m ih =>
    intro k n o g h1 h2 ho h3 h5
    obtain ⟨n, rfl⟩ : ∃ j, n = j + 1 := ⟨n - 1, by omega⟩
    have e0 : g.1 3 0 = nI (q_M b) := (h3 0 (by decide)).trans (q_ok0 hb).1
    have hk : k < 256 := by omega
    have fin : ∀ (o' : Option Nat) (d : Nat → Int32), (∀ j, o' = some j → j < k + 1) → q_e73 d b → ∃ d', q_e73 d' b ∧ lX7_holdFast_33 (nI N) n (q_oI o') (nI (k + 1)) (sB g 3 d) = some (q_oI (q_it (q_hb (fun x => q_gd b N (nI x)) q_pN) m (k + 1) o'), sB g 3 d') := by
      intro o' d ho' hd
      obtain ⟨d', hd', e⟩ := ih (k + 1) n o' (sB g 3 d) (by omega) (by omega) ho' (by rw [sB_self]; exact hd) (by rw [sB_ne _ _ (by decide)]; exact h5)
      rw [sB_sB] at e
      exact ⟨d', hd', e⟩
    unfold lX7_holdFast_33
    rw [Nat.add_zero, e0, p_bitM _ hM, if_neg (nI_ge (by omega) (by omega)), q_its, nI_1]
    have run := fun x2 => r_sv (α := Int32 × ic_S) (g := g) hb hN x2 (nI k) h3 h5
    rcases o with _ | j
    · obtain ⟨d, hd, e⟩ := run (q_oI none) (fun g => lX7_holdFast_33 (nI N) n (nI k) (nI (k + 1)) g) (fun g => lX7_holdFast_33 (nI N) n (q_oI none) (nI (k + 1)) g)
      rw [if_pos (show q_oI none < 0 by decide), e]
      by_cases hP : q_gd b N (nI k) = true
      · rw [if_pos hP, show q_hb (fun x => q_gd b N (nI x)) q_pN k none = some k from if_pos hP]
        exact fin (some k) d (fun j h => by cases h; exact Nat.lt_succ_self k) hd
      · rw [if_neg hP, show q_hb (fun x => q_gd b N (nI x)) q_pN k none = none from if_neg hP]
        exact fin none d (fun j h => by cases h) hd
    · have hj : j < k := ho j rfl
      rw [if_neg (show ¬ q_oI (some j) < 0 from nI_pos (by omega)), r_ones hk, p_b2, show q_oI (some j) = nI j from rfl, r_ones (show j < 256 by omega), p_b2, (p_popN hk).1, (p_popN (show j < 256 by omega)).1]
      have b1 := (p_popN hk).2
      have b2 := (p_popN (show j < 256 by omega)).2
      by_cases hw : q_pN k < q_pN j
      · rw [if_pos ((nI_ltI (by omega) (by omega)).mpr hw)]
        obtain ⟨d, hd, e⟩ := run (nI j) (fun g => lX7_holdFast_33 (nI N) n (nI k) (nI (k + 1)) g) (fun g => lX7_holdFast_33 (nI N) n (nI j) (nI (k + 1)) g)
        rw [e]
        by_cases hP : q_gd b N (nI k) = true
        · rw [if_pos hP, show q_hb (fun x => q_gd b N (nI x)) q_pN k (some j) = some k from (if_pos hw).trans (if_pos hP)]
          exact fin (some k) d (fun j h => by cases h; exact Nat.lt_succ_self k) hd
        · rw [if_neg hP, show q_hb (fun x => q_gd b N (nI x)) q_pN k (some j) = some j from (if_pos hw).trans (if_neg hP)]
          exact fin (some j) d (fun j' h => by cases h; omega) hd
      · rw [if_neg (fun h => hw ((nI_ltI (by omega) (by omega)).mp h)), show q_hb (fun x => q_gd b N (nI x)) q_pN k (some j) = some j from if_neg hw]
        have := fin (some j) (g.1 3) (fun j' h => by cases h; omega) h3
        rw [sB_id] at this
        exact this
theorem q_fo7I (o : Option Nat) (ho : ∀ j, o = some j → j < 256) (g : ic_S) : (if 0 ≤ q_oI o then some (q_oI o, g) else ic_b2 (fX7_finds 3 g) (fun v13 g11 => some (v13, g11))) = q_o7 (q_fa o) g := by
  rcases o with _ | j
  · rw [if_neg (by decide), p_eta]
    rfl
  · rw [if_pos (show 0 ≤ q_oI (some j) from nI_pos' (n := j) (by have := ho j rfl; omega))]
    rfl
theorem o_holdFast (hI : q_Inv g) (y : Int32) : q_go (fX6_holdFast y) (fX7_holdFast y) g := by
  rcases q_ix y (n := 21) (by decide) with h | ⟨N, hN, rfl⟩
  · refine q_stop hI (c := 0) (by decide) ?_ fun k hf => ?_
    · unfold fX6_holdFast
      rcases h with h | h
      · rw [if_pos h, p_eta]
        rfl
      · have h2 := p_gt (n := 20) h (by decide)
        rw [if_neg (show ¬ y ≤ 20 from h2.1), p_eta, ite_self]
        rfl
    · unfold fX7_holdFast
      rw [show fX7_in y.toInt64 0 20 k = some (0, k) from r_inN (n := 21) (by decide) (by decide) h k, p_b2, if_pos rfl, p_eta]
      rfl
  · have hM := (q_ok0 hI.b).2
    have hS : 2 ^ q_M (g.1 3) ≤ 2 ^ 8 := Nat.pow_le_pow_right (by decide) hM
    have e0 : g.1 0 0 = nI (q_M (g.1 3)) := (hI.l.1 0 (by decide)).trans (q_ok0 hI.b).1
    obtain ⟨r', hr', e⟩ := c_hfO (N := N) (S := 2 ^ q_M (g.1 3)) hI.b (by omega) (by omega) (q_M (g.1 3) + 1) 0 1000 g (by omega) (by omega) hI.as hI.1
    rw [q_fs2E hM] at e
    have ho : ∀ j, q_it (q_hb (fun x => q_gd (g.1 3) N (nI x)) q_pN) (2 ^ q_M (g.1 3)) 0 none = some j → j < 256 := by
      intro j hj
      have h := q_hbA (fun x => q_gd (g.1 3) N (nI x)) q_pN (2 ^ q_M (g.1 3))
      rw [hj] at h
      have := h.1
      omega
    refine q_still hI (q_fa (q_it (q_hb (fun x => q_gd (g.1 3) N (nI x)) q_pN) (2 ^ q_M (g.1 3)) 0 none)) (q_fac _) hr' ?_ fun k hf => ?_
    · unfold fX6_holdFast
      simp only [p_eta]
      rw [if_neg (nI_pos (by omega)), if_pos (show nI N ≤ 20 from nI_le (b := 20) (by omega) (by decide)), e0, p_let, p_bitM _ hM, show (0 : Int32) = nI 0 from nI_0.symm, e, ← q_fo3]
    · obtain ⟨d, hd, e7⟩ := r_hdL (N := N) hI.b (by omega) (2 ^ q_M (g.1 3)) 0 1000 none (sB k 5 (q_cp (k.1 5) (k.1 3) 0)) (by omega) (by omega) (fun j h => by cases h) (by rw [sB_ne _ _ (by decide), hf.r]; exact fun _ _ => rfl) (by rw [sB_self, hf.r]; exact q_e73c _ _)
      refine ⟨d, q_cp (k.1 5) (k.1 3) 0, hd, ?_⟩
      unfold fX7_holdFast
      rw [show fX7_in (nI N).toInt64 0 20 k = some (1, k) from r_inY hN (by decide) k, p_b2, if_neg (by decide), r_aside, p_b1]
      rw [show lX7_holdFast_33 (nI N) 1000 (-1) 0 (sB k 5 (q_cp (k.1 5) (k.1 3) 0)) = _ from e7, p_b2, q_fo7I _ ho, sB_53]
end
