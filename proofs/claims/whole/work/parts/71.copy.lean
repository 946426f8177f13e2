/-! copy -/
theorem sB_comm (g : ic_S) {b c : Nat} (r r' : Nat → Int32) (h : b ≠ c) : sB (sB g b r) c r' = sB (sB g c r') b r := by
  unfold sB
  refine congrArg (fun z => (z, g.2)) ?_
  funext k
  by_cases h1 : k = b
  · subst h1
    simp only [if_true, if_neg h]
  · by_cases h2 : k = c
    · subst h2
      simp only [if_true, if_neg h1]
    · simp only [if_neg h1, if_neg h2]
def q_rn (z : Nat) (x y : Int32) : Prop := ¬ x < 0 ∧ ¬ y < 0 ∧ x.toInt + y.toInt ≤ z
theorem p_l64 (x y : Int32) : (x.toInt64 + y.toInt64).toInt = x.toInt + y.toInt := by
  have h1 := x.toInt_lt
  have h2 := x.le_toInt
  have h3 := y.toInt_lt
  have h4 := y.le_toInt
  rw [Int64.toInt_add, Int32.toInt_toInt64, Int32.toInt_toInt64]
  exact Int.bmod_eq_of_le (by omega) (by omega)
theorem p_lz {x y : Int32} {z : Nat} (hz : z ≤ 40) : 0 < lg_cmp (x.toInt64 + y.toInt64) (nI z).toInt64 ↔ (z : Int) < x.toInt + y.toInt := by
  rw [(p_cl _ _).2, Int64.lt_iff_toInt_lt, p_l64, Int32.toInt_toInt64, nI_toInt (by omega)]
theorem q_rnI {z : Nat} {x y : Int32} (hz : z ≤ 40) (h : q_rn z x y) : ∃ p n, x = nI p ∧ y = nI n ∧ p + n ≤ z := by
  obtain ⟨p, hp, rfl⟩ := nI_of h.1
  obtain ⟨n, hn, rfl⟩ := nI_of h.2.1
  have := h.2.2
  rw [nI_toInt hp, nI_toInt hn] at this
  exact ⟨p, n, rfl, rfl, by omega⟩
section
variable {g : ic_S}
theorem c_run {s z : Nat} (hs : s < 4) (hz : z ≤ 40) (e : g.1 (15 + s) 1 = nI z) {x y : Int32} : (q_rn z x y → fX1_hasRun s x y g = some (1, g)) ∧ (¬ q_rn z x y → fX1_hasRun s x y g = some (0, g)) := by
  unfold fX1_hasRun q_rn
  rw [p_bt hs, p_gd, e]
  by_cases h1 : x < 0
  · exact ⟨fun h => absurd h1 h.1, fun _ => by rw [if_pos h1]⟩
  · by_cases h2 : y < 0
    · exact ⟨fun h => absurd h2 h.2.1, fun _ => by rw [if_neg h1, if_pos h2]⟩
    · rw [if_neg h1, if_neg h2]
      obtain ⟨p, hp, rfl⟩ := nI_of h1
      obtain ⟨n, hn, rfl⟩ := nI_of h2
      rw [nI_toInt hp, nI_toInt hn]
      by_cases h3 : nI z < nI p
      · have h3' := (nI_ltI (by omega) hp).mp h3
        exact ⟨fun h => absurd h.2.2 (by omega), fun _ => by rw [if_pos h3]⟩
      · have h3' : p ≤ z := by
          rcases Nat.lt_or_ge z p with h | h
          · exact absurd (nI_lt h hp) h3
          · exact h
        rw [if_neg h3, pk_sub h3']
        by_cases h4 : nI (z - p) < nI n
        · have h4' := (nI_ltI (by omega) hn).mp h4
          exact ⟨fun h => absurd h.2.2 (by omega), fun _ => by rw [if_pos h4]⟩
        · have h4' : n ≤ z - p := by
            rcases Nat.lt_or_ge (z - p) n with h | h
            · exact absurd (nI_lt h hn) h4
            · exact h
          exact ⟨fun _ => by rw [if_neg h4], fun h => absurd ⟨h1, h2, by omega⟩ h⟩
theorem r_c1L {s p n : Nat} (hs : s < 4) (hpn : p + n ≤ 40) (x3 x4 : Int32) : ∀ m k N (g : ic_S), k + m = n → m < N → lX7_copy_123 (nI s) (nI p) x3 x4 (nI n) N (nI k) g = some ((), sB g 30 (q_it (fun i r => rU r i (g.1 29 (40 * s + p + i))) m k (g.1 30))) := by
  intro m
  induction m with
  | zero =>
    intro k N g h1 h2
    obtain ⟨N, rfl⟩ : ∃ j, N = j + 1 := ⟨N - 1, by omega⟩
    unfold lX7_copy_123
    rw [if_pos (nI_le (by omega) (by omega)), q_itz, sB_id]
  | succ m ih =>
    intro k N g h1 h2
    obtain ⟨N, rfl⟩ : ∃ j, N = j + 1 := ⟨N - 1, by omega⟩
    unfold lX7_copy_123
    rw [if_neg (nI_ge (by omega) (by omega)), p_40, nI_add, p_in (show 40 * s + p + k < 160 by omega) (by decide), p_gd, p_in (show k < 40 by omega) (by decide), p_gd, p_let, up_sB, nI_clamp (show k < 2 ^ 31 by omega), nI_clamp (show 40 * s + p + k < 2 ^ 31 by omega), Nat.zero_add, Nat.zero_add, nI_1, ih (k + 1) N _ (by omega) (by omega), sB_self, sB_sB, q_its, sB_ne _ _ (by decide)]
theorem r_c2L {d p n : Nat} (hd : d < 4) (hpn : p + n ≤ 40) : ∀ m k N (g : ic_S), k + m = n → m < N → lX7_copy_160 (nI d) (nI p) (nI n) N (nI k) g = some ((), sB g 29 (q_it (fun i r => rU r (40 * d + p + i) (g.1 30 i)) m k (g.1 29))) := by
  intro m
  induction m with
  | zero =>
    intro k N g h1 h2
    obtain ⟨N, rfl⟩ : ∃ j, N = j + 1 := ⟨N - 1, by omega⟩
    unfold lX7_copy_160
    rw [if_pos (nI_le (by omega) (by omega)), q_itz, sB_id]
  | succ m ih =>
    intro k N g h1 h2
    obtain ⟨N, rfl⟩ : ∃ j, N = j + 1 := ⟨N - 1, by omega⟩
    unfold lX7_copy_160
    rw [if_neg (nI_ge (by omega) (by omega)), p_40, nI_add, p_in (show k < 40 by omega) (by decide), p_gd, p_in (show 40 * d + p + k < 160 by omega) (by decide), p_gd, p_let, up_sB, nI_clamp (show k < 2 ^ 31 by omega), nI_clamp (show 40 * d + p + k < 2 ^ 31 by omega), Nat.zero_add, Nat.zero_add, nI_1, ih (k + 1) N _ (by omega) (by omega), sB_self, sB_sB, q_its, sB_ne _ _ (by decide)]
end
theorem q_fill {v : Nat → Int32} (c n : Nat) (r : Nat → Int32) : (∀ i, i < n → q_it (fun i r => rU r (c + i) (v i)) n 0 r (c + i) = v i) ∧ ∀ j, j < c ∨ c + n ≤ j → q_it (fun i r => rU r (c + i) (v i)) n 0 r j = r j := by
  have h := q_itJ (f := fun i (r : Nat → Int32) => rU r (c + i) (v i)) (P := fun t a => (∀ i, i < t → a (c + i) = v i) ∧ ∀ j, j < c ∨ c + n ≤ j → a j = r j) n ?_ n 0 r (by omega) ⟨fun i hi => absurd hi (Nat.not_lt_zero i), fun _ _ => rfl⟩
  · exact ⟨fun i hi => h.1 i (by omega), h.2⟩
  · rintro t a ht ⟨h1, h2⟩
    refine ⟨fun i hi => ?_, fun j hj => ?_⟩
    · by_cases e : i = t
      · subst e
        exact rU_s _ _ _
      · exact (rU_n _ _ (by omega)).trans (h1 i (by omega))
    · exact (rU_n _ _ (by omega)).trans (h2 j hj)
section
variable {g : ic_S}
theorem o_copy (hI : q_Inv g) (x1 x2 x3 x4 x5 : Int32) : q_go (fX6_copy x1 x2 x3 x4 x5) (fX7_copy x1 x2 x3 x4 x5) g := by
  rcases q_ix x1 (n := 4) (by decide) with h | ⟨s, hs, rfl⟩
  · refine q_stop hI (c := 0) (by decide) ?_ fun k hf => ?_
    · have hv : ∃ v, fX6_sheetAt x3 g = some (v, g) := by
        rcases q_ix x3 (n := 4) (by decide) with h | ⟨d, hd, rfl⟩
        · exact ⟨_, c_sAN h⟩
        · exact ⟨_, c_sA hd⟩
      obtain ⟨v, hv⟩ := hv
      unfold fX6_copy
      rw [c_sAN h, p_b2, hv, p_b2, p_mon, p_eta]
      rfl
    · unfold fX7_copy
      rw [r_shN h, p_b2, if_pos rfl, p_eta]
      rfl
  · rcases q_ix x3 (n := 4) (by decide) with h | ⟨d, hd, rfl⟩
    · refine q_stop hI (c := 0) (by decide) ?_ fun k hf => ?_
      · unfold fX6_copy
        rw [c_sA hs, p_b2, c_sAN h, p_b2, p_mos, p_vk13 s hs, p_gd, p_mon, p_eta]
        rfl
      · unfold fX7_copy
        rw [r_sh hs, p_b2, if_neg (by decide), r_shN h, p_b2, if_pos rfl, p_eta]
        rfl
    · obtain ⟨e0, eb, e1, ⟨z, hz, ez⟩, en⟩ := hI.sh hs
      obtain ⟨e0', eb', e1', ⟨z', hz', ez'⟩, en'⟩ := hI.sh hd
      have f10 : ¬ (1 : Int32) = 0 := by decide
      have k27 : ∀ k, q_rf g k → k.1 27 = g.1 27 := fun k hf => hf.1 27 (by omega)
      have k28 : ∀ k, q_rf g k → k.1 28 = g.1 28 := fun k hf => hf.1 28 (by omega)
      have is4 := p_in (k := s) (n := 4) hs (by decide)
      have id4 := p_in (k := d) (n := 4) hd (by decide)
      have ts : (nI s).toNatClampNeg = s := nI_clamp (by omega)
      have td : (nI d).toNatClampNeg = d := nI_clamp (by omega)
      by_cases hm : g.1 27 s = 0
      · refine q_stop hI (c := 5) (by decide) ?_ fun k hf => ?_
        · unfold fX6_copy
          rw [c_sA hs, p_b2, c_sA hd, p_b2, p_mos, p_vk13 s hs, p_gd, p_mos, p_vk13 d hd, p_gd, c_mi hs, p_b2, e0, if_pos hm, if_neg f10, p_eta]
          rfl
        · unfold fX7_copy
          rw [r_sh hs, p_b2, if_neg f10, r_sh hd, p_b2, if_neg f10, is4, p_gd, ts, Nat.zero_add, k27 k hf, if_pos hm, p_eta]
          rfl
      · by_cases hm' : g.1 27 d = 0
        · refine q_stop hI (c := 5) (by decide) ?_ fun k hf => ?_
          · unfold fX6_copy
            rw [c_sA hs, p_b2, c_sA hd, p_b2, p_mos, p_vk13 s hs, p_gd, p_mos, p_vk13 d hd, p_gd, c_mi hs, p_b2, e0, if_neg hm, if_pos rfl, c_mi hd, p_b2, e0', if_pos hm', if_neg f10, p_eta]
            rfl
          · unfold fX7_copy
            rw [r_sh hs, p_b2, if_neg f10, r_sh hd, p_b2, if_neg f10, is4, p_gd, ts, Nat.zero_add, k27 k hf, if_neg hm, id4, p_gd, td, Nat.zero_add, if_pos hm', p_eta]
            rfl
        · have C6 : ∀ g2 : ic_S, True := fun _ => trivial
          have R7 : ∀ k, q_rf g k → fX7_copy (nI s) x2 (nI d) x4 x5 k = if g.1 27 s = g.1 27 d then (if x2 < 0 then fX7_finds 0 k else if x4 < 0 then fX7_finds 0 k else if x5 < 0 then fX7_finds 0 k else if 0 < lg_cmp (x2.toInt64 + x5.toInt64) (nI z).toInt64 then fX7_finds 0 k else if lg_cmp (x4.toInt64 + x5.toInt64) (nI z').toInt64 ≤ 0 then ic_b2 (lX7_copy_123 (nI s) x2 (nI d) x4 x5 1000 0 k) (fun _ h => ic_b2 (lX7_copy_160 (nI d) x4 x5 1000 0 h) (fun _ h => some (x5, h))) else fX7_finds 0 k) else fX7_finds 2 k := by
            intro k hf
            unfold fX7_copy
            rw [r_sh hs, p_b2, if_neg f10, r_sh hd, p_b2, if_neg f10, is4, p_gd, ts, Nat.zero_add, k27 k hf, if_neg hm, id4, p_gd, td, Nat.zero_add, if_neg hm', k28 k hf, ez, ez']
            simp only [p_gd, p_eta]
          by_cases hbb : g.1 27 s = g.1 27 d
          · by_cases hr : q_rn z x2 x5 ∧ q_rn z' x4 x5
            · obtain ⟨p, n, rfl, rfl, hpn⟩ := q_rnI hz hr.1
              obtain ⟨p', n', rfl, e5, hpn'⟩ := q_rnI hz' hr.2
              have hn40 : n < 2 ^ 31 := by omega
              have hn40' : n' < 2 ^ 31 := by omega
              obtain rfl : n' = n := ((nI_eq hn40 hn40').mp e5).symm
              have hcpk : ic_cpk (nI p) (nI p') (nI n') = true := by
                unfold ic_cpk
                rw [nI_toInt (by omega), nI_toInt (by omega), nI_toInt (by omega)]
                simp
                omega
              have hcs : ∀ h : ic_S, ic_cpS h s d p p' n' = sB h (19 + d) (va_cpy (fun j => h.1 (19 + s) (0 + j)) (fun j => h.1 (19 + d) (0 + j)) p p' n') := by
                intro h
                unfold ic_cpS sB
                refine congrArg (fun z => (z, h.2)) ?_
                funext c i
                by_cases hc : c = 19 + d
                · simp only [hc, if_true]
                · simp only [hc, if_false]
              have C : fX6_copy (nI s) (nI p) (nI d) (nI p') (nI n') g = some (nI n', sB g (19 + d) (va_cpy (fun j => g.1 (19 + s) (0 + j)) (fun j => g.1 (19 + d) (0 + j)) p p' n')) := by
                unfold fX6_copy
                rw [c_sA hs, p_b2, c_sA hd, p_b2, p_mos, p_vk13 s hs, p_gd, p_mos, p_vk13 d hd, p_gd, c_mi hs, p_b2, e0, if_neg hm, if_pos rfl, c_mi hd, p_b2, e0', if_neg hm', if_pos rfl, e0, if_pos hbb, (c_run hs hz (e1.trans ez)).1 hr.1, p_b2, if_neg f10, (c_run hd hz' (e1'.trans ez')).1 hr.2, p_b2, if_neg f10, hcpk, p_gd, p_let, nI_clamp (show p < 2 ^ 31 by omega), nI_clamp (show p' < 2 ^ 31 by omega), nI_clamp (show n' < 2 ^ 31 by omega), hcs]
              have hf : q_rf g (sB g (19 + d) (va_cpy (fun j => g.1 (19 + s) (0 + j)) (fun j => g.1 (19 + d) (0 + j)) p p' n')) := q_rfB _ (by omega)
              have e7 := R7 _ hf
              revert C hf e7
              generalize hnw : va_cpy (fun j => g.1 (19 + s) (0 + j)) (fun j => g.1 (19 + d) (0 + j)) p p' n' = nw
              intro C hf e7
              have l1 : ¬ 0 < lg_cmp ((nI p).toInt64 + (nI n').toInt64) (nI z).toInt64 := fun h => by
                have := (p_lz hz).mp h
                rw [nI_toInt (by omega), nI_toInt (by omega)] at this
                omega
              have l2 : lg_cmp ((nI p').toInt64 + (nI n').toInt64) (nI z').toInt64 ≤ 0 := by
                refine Int32.not_lt.mp fun h => ?_
                have := (p_lz hz').mp h
                rw [nI_toInt (by omega), nI_toInt (by omega)] at this
                omega
              rw [if_pos hbb, if_neg (nI_pos (by omega)), if_neg (nI_pos (by omega)), if_neg (nI_pos (by omega)), if_neg l1, if_pos l2] at e7
              rw [show ∀ h, lX7_copy_123 (nI s) (nI p) (nI d) (nI p') (nI n') 1000 0 h = _ from fun h => r_c1L hs (by omega) _ _ n' 0 1000 h (by omega) (by omega), p_b2] at e7
              rw [show ∀ h, lX7_copy_160 (nI d) (nI p') (nI n') 1000 0 h = _ from fun h => r_c2L hd (by omega) n' 0 1000 h (by omega) (by omega), p_b2, sB_self] at e7
              rw [sB_ne _ _ (show (29 : Nat) ≠ 30 by decide), sB_ne _ _ (show (29 : Nat) ≠ 19 + d by omega), sB_ne _ _ (show (30 : Nat) ≠ 19 + d by omega)] at e7
              refine ⟨nI n', _, _, C, e7, ?_, sB_ne _ _ (by omega), sB_ne _ _ (by omega), (sB_ne _ _ (by decide)).trans ((sB_ne _ _ (by decide)).trans (sB_ne _ _ (by omega))), (sB_ne _ _ (by decide)).trans ((sB_ne _ _ (by decide)).trans (sB_ne _ _ (by omega)))⟩
              have F1 := q_fill (v := fun i => g.1 29 (40 * s + p + i)) 0 n' (g.1 30)
              simp only [Nat.zero_add] at F1
              revert F1
              generalize q_it (fun i r => rU r i (g.1 29 (40 * s + p + i))) n' 0 (g.1 30) = P
              intro F1
              have F2 := q_fill (v := P) (40 * d + p') n' (g.1 29)
              revert F2
              generalize q_it (fun i r => rU r (40 * d + p' + i) (P i)) n' 0 (g.1 29) = f'
              intro F2
              have hI30 : q_Inv (sB g 30 P) := hI
              have H := hI30.sheet hd (h' := g.1 (15 + d)) (n' := nw) (b' := g.1 27) (z' := g.1 28) (f' := f') ⟨e0', eb', e1', ⟨z', hz', ez'⟩, fun u hu => ?_⟩ (fun _ _ _ => rfl) (fun _ _ _ => rfl) (fun u hu hne u' hu' => F2.2 _ (by omega))
              · rw [sB_same (b := 15 + d) (sB_ne _ _ (by omega)), sB_same (b := 27) ((sB_ne _ _ (by omega)).trans (sB_ne _ _ (by omega))), sB_same (b := 28) ((sB_ne _ _ (by omega)).trans (sB_ne _ _ (by omega)))] at H
                rw [sB_comm g _ _ (show 19 + d ≠ 30 by omega)]
                exact H
              · rw [← hnw]
                by_cases hin : p' ≤ u ∧ u < p' + n'
                · rw [pk_cpy_in hin.1 hin.2]
                  have a := F2.1 (u - p') (by omega)
                  rw [show 40 * d + p' + (u - p') = 40 * d + u by omega] at a
                  show _ = f' (40 * d + u)
                  rw [a, F1.1 _ (by omega), Nat.zero_add, en _ (by omega)]
                  show g.1 29 (40 * s + (p + (u - p'))) = _
                  rw [show 40 * s + (p + (u - p')) = 40 * s + p + (u - p') by omega]
                · rw [pk_cpy_out (by omega), Nat.zero_add]
                  show _ = f' (40 * d + u)
                  rw [F2.2 _ (by omega)]
                  exact en' u hu
            · refine q_stop hI (c := 0) (by decide) ?_ fun k hf => ?_
              · unfold fX6_copy
                rw [c_sA hs, p_b2, c_sA hd, p_b2, p_mos, p_vk13 s hs, p_gd, p_mos, p_vk13 d hd, p_gd, c_mi hs, p_b2, e0, if_neg hm, if_pos rfl, c_mi hd, p_b2, e0', if_neg hm', if_pos rfl, e0, if_pos hbb]
                by_cases hr1 : q_rn z x2 x5
                · rw [(c_run hs hz (e1.trans ez)).1 hr1, p_b2, if_neg f10, (c_run hd hz' (e1'.trans ez')).2 (fun h => hr ⟨hr1, h⟩), p_b2, if_pos rfl, p_eta]
                  rfl
                · rw [(c_run hs hz (e1.trans ez)).2 hr1, p_b2, if_pos rfl, p_eta]
                  rfl
              · rw [R7 k hf, if_pos hbb]
                by_cases h2 : x2 < 0
                · rw [if_pos h2]
                  rfl
                · by_cases h4 : x4 < 0
                  · rw [if_neg h2, if_pos h4]
                    rfl
                  · by_cases h5 : x5 < 0
                    · rw [if_neg h2, if_neg h4, if_pos h5]
                      rfl
                    · rw [if_neg h2, if_neg h4, if_neg h5]
                      by_cases h6 : 0 < lg_cmp (x2.toInt64 + x5.toInt64) (nI z).toInt64
                      · rw [if_pos h6]
                        rfl
                      · have h7 : ¬ lg_cmp (x4.toInt64 + x5.toInt64) (nI z').toInt64 ≤ 0 := by
                          intro h7
                          have a : ¬ (z : Int) < x2.toInt + x5.toInt := fun h => h6 ((p_lz hz).mpr h)
                          have b : ¬ (z' : Int) < x4.toInt + x5.toInt := fun h => Int32.not_lt.mpr h7 ((p_lz hz').mpr h)
                          exact hr ⟨⟨h2, h5, by omega⟩, ⟨h4, h5, by omega⟩⟩
                        rw [if_neg h6, if_neg h7]
                        rfl
          · refine q_stop hI (c := 2) (by decide) ?_ fun k hf => ?_
            · unfold fX6_copy
              rw [c_sA hs, p_b2, c_sA hd, p_b2, p_mos, p_vk13 s hs, p_gd, p_mos, p_vk13 d hd, p_gd, c_mi hs, p_b2, e0, if_neg hm, if_pos rfl, c_mi hd, p_b2, e0', if_neg hm', if_pos rfl, e0, if_neg hbb, p_eta]
              rfl
            · rw [R7 k hf, if_neg hbb]
              rfl
end
