set_option maxRecDepth 20000 in
theorem tX6_heavyFor_26 {x1 : Int32} {x2 : Int32} : ∀ (n : Nat) (x3 : Int32) (g : ic_S) (q : (Int32 × ic_S) ⊕ (Unit × ic_S)), lX6_heavyFor_26 x1 x2 n x3 g = some q → ∀ (r : Option ic_V) (g' : ic_S), ic_lq q r g' (fun y z => ic_Ev mX6_heavyFor 74 [(0, ic_R 0 0 0)] [] z r g') → ic_Ev mX6_heavyFor 26 [(0, ic_R 0 0 0), (1, ic_I x1), (2, ic_I x2), (3, ic_I x3)] [] g r g' := by
  intro n
  induction n with
  | zero => intro x3 g q h; cases h
  | succ n ih =>
    intro x3 g q h r g' hq
    rw [lX6_heavyFor_26] at h
    refine ev_iload_n (a := 0) (b := 14) rfl rfl ?_
    refine ev_bipush (a := 0) (b := 15) 99 rfl (by decide) ?_
    refine ev_icgt (a := 0) (b := 16) 74 rfl rfl (fun c1001 => ?_) (fun c1001 => ?_)
    · have h := (if_pos c1001).symm.trans h
      obtain rfl := ic_s1 h
      exact ev_fw (lv' := [(0, ic_R 0 0 0)]) hq (And.intro rfl trivial)
    · have h := (if_neg c1001).symm.trans h
      refine ev_aload_n (a := 0) (b := 17) rfl rfl ?_
      obtain ⟨g1002, e1003, h⟩ := ic_b1E h
      refine ev_ivV (a := 0) (b := 18) [] rfl okX6_startTrial rfl lmX6_131 rfl (rc0) (Nat.le_of_ble_eq_true rfl) (eX6_startTrial e1003) (Nat.le_of_ble_eq_true rfl) rfl ?_
      refine ev_aload_n (a := 0) (b := 19) rfl rfl ?_
      refine ev_get (a := 0) (b := 20) 6 1 rfl rfl (Nat.le_of_ble_eq_true rfl) lfX6_16 (gX6_trial) ?_
      refine ev_iload_n (a := 0) (b := 21) rfl rfl ?_
      refine ev_iconst (a := 0) (b := 22) 2 rfl (by decide) ?_
      refine ev_iload_n (a := 0) (b := 23) rfl rfl ?_
      obtain ⟨g1004, e1005, h⟩ := ic_b1E h
      refine ev_ivV (a := 0) (b := 24) [ic_I x1, ic_I 2, ic_I x3] rfl okX2_alter rfl lmX6_99 rfl (rc1 (by decide)) (Nat.le_of_ble_eq_true rfl) (eX2_alter e1005) (Nat.le_of_ble_eq_true rfl) rfl ?_
      refine ev_aload_n (a := 0) (b := 25) rfl rfl ?_
      refine ev_get (a := 0) (b := 26) 6 1 rfl rfl (Nat.le_of_ble_eq_true rfl) lfX6_16 (gX6_trial) ?_
      refine ev_iload_n (a := 0) (b := 27) rfl rfl ?_
      obtain ⟨g1006, e1007, h⟩ := ic_b1E h
      refine ev_ivV (a := 0) (b := 28) [ic_I x2] rfl okX2_callTimes rfl lmX6_111 rfl (rc1 (by decide)) (Nat.le_of_ble_eq_true rfl) (eX2_callTimes e1007) (Nat.le_of_ble_eq_true rfl) rfl ?_
      refine ev_aload_n (a := 0) (b := 29) rfl rfl ?_
      refine ev_get (a := 0) (b := 30) 6 1 rfl rfl (Nat.le_of_ble_eq_true rfl) lfX6_16 (gX6_trial) ?_
      refine ev_iload_n (a := 0) (b := 31) rfl rfl ?_
      refine ev_iconst (a := 1) (b := 0) 5 rfl (by decide) ?_
      obtain ⟨v1010, g1008, e1009, h⟩ := ic_b2E h
      refine ev_ivI (a := 1) (b := 1) [ic_I x1, ic_I 5] rfl okX2_told rfl lmX6_87 rfl (rc1 (by decide)) (Nat.le_of_ble_eq_true rfl) (eX2_told e1009) (Nat.le_of_ble_eq_true rfl) rfl ?_
      refine ev_ifne (a := 1) (b := 2) 68 rfl rfl (fun c1011 => ?_) (fun c1011 => ?_)
      · have h := (if_neg c1011).symm.trans h
        refine ev_iinc (a := 1) (b := 5) (x3 + 1) [(0, ic_R 0 0 0), (1, ic_I x1), (2, ic_I x2), (3, ic_I (x3 + 1))] rfl rfl (by first | rfl | decide) (by decide) (And.intro (Or.inr (And.intro rfl rfl)) (And.intro (Or.inr (And.intro rfl rfl)) (And.intro (Or.inr (And.intro rfl rfl)) (And.intro (Or.inl rfl) trivial)))) ?_
        refine ev_goto (a := 1) (b := 6) 26 rfl rfl ?_
        refine ev_fw (lv' := [(0, ic_R 0 0 0), (1, ic_I x1), (2, ic_I x2), (3, ic_I (x3 + 1))]) ?_ (And.intro rfl (And.intro rfl (And.intro rfl (And.intro rfl trivial))))
        exact ih (x3 + 1) g1008 _ h _ _ hq
      · have h := (if_pos c1011).symm.trans h
        refine ev_iload_n (a := 1) (b := 3) rfl rfl ?_
        obtain rfl := ic_s1 h
        obtain ⟨rfl, rfl⟩ := hq
        exact ev_ireturn (a := 1) (b := 4) rfl rfl rfl
set_option maxRecDepth 20000 in
theorem eX6_heavyFor {x1 : Int32} {x2 : Int32} {g g' : ic_S} {v : Int32} (h : fX6_heavyFor x1 x2 g = some (v, g')) : ic_Ev mX6_heavyFor 0 (ic_ag 0 [ic_R 0 0 0, ic_I x1, ic_I x2]) [] g (some (ic_I v)) g' := by
  unfold fX6_heavyFor at h
  change ic_Ev mX6_heavyFor 0 [(0, ic_R 0 0 0), (1, ic_I x1), (2, ic_I x2)] [] g _ _
  refine ev_aload_n (a := 0) (b := 0) rfl rfl ?_
  refine ev_get (a := 0) (b := 1) 6 0 rfl rfl (Nat.le_of_ble_eq_true rfl) lfX6_10 (gX6_street) ?_
  refine ev_iload_n (a := 0) (b := 2) rfl rfl ?_
  obtain ⟨v3, g1, e2, h⟩ := ic_b2E h
  refine ev_ivI (a := 0) (b := 3) [ic_I x1] rfl okX2_hasThing rfl lmX6_90 rfl (rc1 (by decide)) (Nat.le_of_ble_eq_true rfl) (eX2_hasThing e2) (Nat.le_of_ble_eq_true rfl) rfl ?_
  refine ev_ifeq (a := 0) (b := 4) 18 rfl rfl (fun c4 => ?_) (fun c4 => ?_)
  · have h := (if_pos c4).symm.trans h
    refine ev_aload_n (a := 0) (b := 8) rfl rfl ?_
    refine ev_iconst (a := 0) (b := 9) 0 rfl (by decide) ?_
    obtain ⟨v7, g5, e6, h⟩ := ic_b2E h
    refine ev_ivI (a := 0) (b := 10) [ic_I 0] rfl okX6_finding rfl lmX6_66 rfl (rc0) (Nat.le_of_ble_eq_true rfl) (eX6_finding e6) (Nat.le_of_ble_eq_true rfl) rfl ?_
    obtain ⟨rfl, rfl⟩ := ic_s2 h
    exact ev_ireturn (a := 0) (b := 11) rfl rfl rfl
  · have h := (if_neg c4).symm.trans h
    refine ev_iload_n (a := 0) (b := 5) rfl rfl ?_
    obtain ⟨v10, g8, e9, h⟩ := ic_b2E h
    refine ev_isI (a := 0) (b := 6) [ic_I x2] rfl okX6_isPlanned rfl lmX6_141 rfl (Nat.le_of_ble_eq_true rfl) (eX6_isPlanned e9) (Nat.le_of_ble_eq_true rfl) rfl ?_
    refine ev_ifne (a := 0) (b := 7) 24 rfl rfl (fun c11 => ?_) (fun c11 => ?_)
    · have h := (if_neg c11).symm.trans h
      refine ev_iconst (a := 0) (b := 12) 1 rfl (by decide) ?_
      refine ev_istore_n (a := 0) (b := 13) [(0, ic_R 0 0 0), (1, ic_I x1), (2, ic_I x2), (3, ic_I 1)] rfl (by decide) (And.intro (Or.inr (And.intro rfl rfl)) (And.intro (Or.inr (And.intro rfl rfl)) (And.intro (Or.inr (And.intro rfl rfl)) (And.intro (Or.inl rfl) trivial)))) ?_
      refine ev_fw (lv' := [(0, ic_R 0 0 0), (1, ic_I x1), (2, ic_I x2), (3, ic_I 1)]) ?_ (And.intro rfl (And.intro rfl (And.intro rfl (And.intro rfl trivial))))
      rcases ic_bsE h with e14 | ⟨y12, g13, e14, h⟩
      · exact tX6_heavyFor_26 (x1 := x1) (x2 := x2)  1000 1 g8 _ e14 _ _ ⟨rfl, rfl⟩
      · refine tX6_heavyFor_26 (x1 := x1) (x2 := x2)  1000 1 g8 _ e14 _ _ ?_
        change ic_Ev mX6_heavyFor 74 [(0, ic_R 0 0 0)] [] g13 _ _
        refine ev_aload_n (a := 1) (b := 7) rfl rfl ?_
        refine ev_iconst (a := 1) (b := 8) 3 rfl (by decide) ?_
        obtain ⟨v17, g15, e16, h⟩ := ic_b2E h
        refine ev_ivI (a := 1) (b := 9) [ic_I 3] rfl okX6_finding rfl lmX6_66 rfl (rc0) (Nat.le_of_ble_eq_true rfl) (eX6_finding e16) (Nat.le_of_ble_eq_true rfl) rfl ?_
        obtain ⟨rfl, rfl⟩ := ic_s2 h
        exact ev_ireturn (a := 1) (b := 10) rfl rfl rfl
    · have h := (if_pos c11).symm.trans h
      refine ev_aload_n (a := 0) (b := 8) rfl rfl ?_
      refine ev_iconst (a := 0) (b := 9) 0 rfl (by decide) ?_
      obtain ⟨v20, g18, e19, h⟩ := ic_b2E h
      refine ev_ivI (a := 0) (b := 10) [ic_I 0] rfl okX6_finding rfl lmX6_66 rfl (rc0) (Nat.le_of_ble_eq_true rfl) (eX6_finding e19) (Nat.le_of_ble_eq_true rfl) rfl ?_
      obtain ⟨rfl, rfl⟩ := ic_s2 h
      exact ev_ireturn (a := 0) (b := 11) rfl rfl rfl
set_option maxRecDepth 20000 in
theorem eX6_savesAll {x1 : Int32} {x2 : Int32} {g g' : ic_S} {v : Int32} (h : fX6_savesAll x1 x2 g = some (v, g')) : ic_Ev mX6_savesAll 0 (ic_ag 0 [ic_R 0 0 0, ic_I x1, ic_I x2]) [] g (some (ic_I v)) g' := by
  unfold fX6_savesAll at h
  change ic_Ev mX6_savesAll 0 [(0, ic_R 0 0 0), (1, ic_I x1), (2, ic_I x2)] [] g _ _
  refine ev_aload_n (a := 0) (b := 0) rfl rfl ?_
  obtain ⟨g1, e2, h⟩ := ic_b1E h
  refine ev_ivV (a := 0) (b := 1) [] rfl okX6_startTrial rfl lmX6_131 rfl (rc0) (Nat.le_of_ble_eq_true rfl) (eX6_startTrial e2) (Nat.le_of_ble_eq_true rfl) rfl ?_
  refine ev_aload_n (a := 0) (b := 2) rfl rfl ?_
  refine ev_get (a := 0) (b := 3) 6 1 rfl rfl (Nat.le_of_ble_eq_true rfl) lfX6_16 (gX6_trial) ?_
  refine ev_iload_n (a := 0) (b := 4) rfl rfl ?_
  obtain ⟨g3, e4, h⟩ := ic_b1E h
  refine ev_ivV (a := 0) (b := 5) [ic_I x1] rfl okX2_holdThings rfl lmX6_240 rfl (rc1 (by decide)) (Nat.le_of_ble_eq_true rfl) (eX2_holdThings e4) (Nat.le_of_ble_eq_true rfl) rfl ?_
  refine ev_aload_n (a := 0) (b := 6) rfl rfl ?_
  refine ev_get (a := 0) (b := 7) 6 1 rfl rfl (Nat.le_of_ble_eq_true rfl) lfX6_16 (gX6_trial) ?_
  refine ev_iload_n (a := 0) (b := 8) rfl rfl ?_
  obtain ⟨g5, e6, h⟩ := ic_b1E h
  refine ev_ivV (a := 0) (b := 9) [ic_I x2] rfl okX2_callTimes rfl lmX6_111 rfl (rc1 (by decide)) (Nat.le_of_ble_eq_true rfl) (eX2_callTimes e6) (Nat.le_of_ble_eq_true rfl) rfl ?_
  refine ev_aload_n (a := 0) (b := 10) rfl rfl ?_
  refine ev_get (a := 0) (b := 11) 6 1 rfl rfl (Nat.le_of_ble_eq_true rfl) lfX6_16 (gX6_trial) ?_
  refine ev_iconst (a := 0) (b := 12) 5 rfl (by decide) ?_
  obtain ⟨v9, g7, e8, h⟩ := ic_b2E h
  refine ev_ivI (a := 0) (b := 13) [ic_I 5] rfl okX2_sumOf rfl lmX6_118 rfl (rc1 (by decide)) (Nat.le_of_ble_eq_true rfl) (eX2_sumOf e8) (Nat.le_of_ble_eq_true rfl) rfl ?_
  refine ev_aload_n (a := 0) (b := 14) rfl rfl ?_
  refine ev_get (a := 0) (b := 15) 6 0 rfl rfl (Nat.le_of_ble_eq_true rfl) lfX6_10 (gX6_street) ?_
  refine ev_iconst (a := 0) (b := 16) 5 rfl (by decide) ?_
  obtain ⟨v12, g10, e11, h⟩ := ic_b2E h
  refine ev_ivI (a := 0) (b := 17) [ic_I 5] rfl okX2_sumOf rfl lmX6_118 rfl (rc1 (by decide)) (Nat.le_of_ble_eq_true rfl) (eX2_sumOf e11) (Nat.le_of_ble_eq_true rfl) rfl ?_
  refine ev_icgt (a := 0) (b := 18) 43 rfl rfl (fun c13 => ?_) (fun c13 => ?_)
  · have h := (if_pos c13).symm.trans h
    refine ev_iconst (a := 0) (b := 21) 0 rfl (by decide) ?_
    obtain ⟨rfl, rfl⟩ := ic_s2 h
    exact ev_ireturn (a := 0) (b := 22) rfl rfl rfl
  · have h := (if_neg c13).symm.trans h
    refine ev_iconst (a := 0) (b := 19) 1 rfl (by decide) ?_
    refine ev_goto (a := 0) (b := 20) 44 rfl rfl ?_
    obtain ⟨rfl, rfl⟩ := ic_s2 h
    exact ev_ireturn (a := 0) (b := 22) rfl rfl rfl
set_option maxRecDepth 20000 in
theorem tX6_holdFast_42 {x1 : Int32} {x2 : Int32} {x3 : Int32} : ∀ (n : Nat) (x4 : Int32) (g : ic_S) (q : (Int32 × ic_S) ⊕ (Unit × ic_S)), lX6_holdFast_42 x1 x2 x3 n x4 g = some q → ∀ (r : Option ic_V) (g' : ic_S), ic_lq q r g' (fun y z => ic_Ev mX6_holdFast 76 [(0, ic_R 0 0 0), (1, ic_I x1), (2, ic_I x2), (3, ic_I x3)] [] z r g') → ic_Ev mX6_holdFast 42 [(0, ic_R 0 0 0), (1, ic_I x1), (2, ic_I x2), (3, ic_I x3), (4, ic_I x4)] [] g r g' := by
  intro n
  induction n with
  | zero => intro x4 g q h; cases h
  | succ n ih =>
    intro x4 g q h r g' hq
    rw [lX6_holdFast_42] at h
    refine ev_iload (a := 0) (b := 24) rfl rfl ?_
    refine ev_iload_n (a := 0) (b := 25) rfl rfl ?_
    refine ev_icge (a := 0) (b := 26) 76 rfl rfl (fun c2001 => ?_) (fun c2001 => ?_)
    · have h := (if_pos c2001).symm.trans h
      obtain rfl := ic_s1 h
      exact ev_fw (lv' := [(0, ic_R 0 0 0), (1, ic_I x1), (2, ic_I x2), (3, ic_I x3)]) hq (And.intro rfl (And.intro rfl (And.intro rfl (And.intro rfl trivial))))
    · have h := (if_neg c2001).symm.trans h
      refine ev_iload (a := 0) (b := 27) rfl rfl ?_
      obtain ⟨v2004, g2002, e2003, h⟩ := ic_b2E h
      refine ev_isI (a := 0) (b := 28) [ic_I x4] rfl okJ6_bitCount_0f7a4 rfl lmX6_151 rfl (Nat.le_of_ble_eq_true rfl) (eJ6_bitCount_0f7a4 e2003) (Nat.le_of_ble_eq_true rfl) rfl ?_
      refine ev_iload_n (a := 0) (b := 29) rfl rfl ?_
      refine ev_icne (a := 0) (b := 30) 70 rfl rfl (fun c2005 => ?_) (fun c2005 => ?_)
      · have h := (if_neg c2005).symm.trans h
        refine ev_iinc (a := 1) (b := 6) (x4 + 1) [(0, ic_R 0 0 0), (1, ic_I x1), (2, ic_I x2), (3, ic_I x3), (4, ic_I (x4 + 1))] rfl rfl (by first | rfl | decide) (by decide) (And.intro (Or.inr (And.intro rfl rfl)) (And.intro (Or.inr (And.intro rfl rfl)) (And.intro (Or.inr (And.intro rfl rfl)) (And.intro (Or.inr (And.intro rfl rfl)) (And.intro (Or.inl rfl) trivial))))) ?_
        refine ev_goto (a := 1) (b := 7) 42 rfl rfl ?_
        refine ev_fw (lv' := [(0, ic_R 0 0 0), (1, ic_I x1), (2, ic_I x2), (3, ic_I x3), (4, ic_I (x4 + 1))]) ?_ (And.intro rfl (And.intro rfl (And.intro rfl (And.intro rfl (And.intro rfl trivial)))))
        exact ih (x4 + 1) g2002 _ h _ _ hq
      · have h := (if_pos c2005).symm.trans h
        refine ev_aload_n (a := 0) (b := 31) rfl rfl ?_
        refine ev_iload (a := 1) (b := 0) rfl rfl ?_
        refine ev_iload_n (a := 1) (b := 1) rfl rfl ?_
        obtain ⟨v2008, g2006, e2007, h⟩ := ic_b2E h
        refine ev_ivI (a := 1) (b := 2) [ic_I x4, ic_I x1] rfl okX6_savesAll rfl lmX6_156 rfl (rc0) (Nat.le_of_ble_eq_true rfl) (eX6_savesAll e2007) (Nat.le_of_ble_eq_true rfl) rfl ?_
        refine ev_ifeq (a := 1) (b := 3) 70 rfl rfl (fun c2009 => ?_) (fun c2009 => ?_)
        · have h := (if_pos c2009).symm.trans h
          refine ev_iinc (a := 1) (b := 6) (x4 + 1) [(0, ic_R 0 0 0), (1, ic_I x1), (2, ic_I x2), (3, ic_I x3), (4, ic_I (x4 + 1))] rfl rfl (by first | rfl | decide) (by decide) (And.intro (Or.inr (And.intro rfl rfl)) (And.intro (Or.inr (And.intro rfl rfl)) (And.intro (Or.inr (And.intro rfl rfl)) (And.intro (Or.inr (And.intro rfl rfl)) (And.intro (Or.inl rfl) trivial))))) ?_
          refine ev_goto (a := 1) (b := 7) 42 rfl rfl ?_
          refine ev_fw (lv' := [(0, ic_R 0 0 0), (1, ic_I x1), (2, ic_I x2), (3, ic_I x3), (4, ic_I (x4 + 1))]) ?_ (And.intro rfl (And.intro rfl (And.intro rfl (And.intro rfl (And.intro rfl trivial)))))
          exact ih (x4 + 1) g2006 _ h _ _ hq
        · have h := (if_neg c2009).symm.trans h
          refine ev_iload (a := 1) (b := 4) rfl rfl ?_
          obtain rfl := ic_s1 h
          obtain ⟨rfl, rfl⟩ := hq
          exact ev_ireturn (a := 1) (b := 5) rfl rfl rfl
set_option maxRecDepth 20000 in
theorem tX6_holdFast_28 {x1 : Int32} {x2 : Int32} : ∀ (n : Nat) (x3 : Int32) (g : ic_S) (q : (Int32 × ic_S) ⊕ (Unit × ic_S)), lX6_holdFast_28 x1 x2 n x3 g = some q → ∀ (r : Option ic_V) (g' : ic_S), ic_lq q r g' (fun y z => ic_Ev mX6_holdFast 82 [(0, ic_R 0 0 0)] [] z r g') → ic_Ev mX6_holdFast 28 [(0, ic_R 0 0 0), (1, ic_I x1), (2, ic_I x2), (3, ic_I x3)] [] g r g' := by
  intro n
  induction n with
  | zero => intro x3 g q h; cases h
  | succ n ih =>
    intro x3 g q h r g' hq
    rw [lX6_holdFast_28] at h
    refine ev_iload_n (a := 0) (b := 17) rfl rfl ?_
    refine ev_aload_n (a := 0) (b := 18) rfl rfl ?_
    refine ev_get (a := 0) (b := 19) 6 0 rfl rfl (Nat.le_of_ble_eq_true rfl) lfX6_10 (gX6_street) ?_
    refine ev_get (a := 0) (b := 20) 2 6 rfl rfl (Nat.le_of_ble_eq_true rfl) lfX6_148 (gX2_made (by decide)) ?_
    refine ev_icgt (a := 0) (b := 21) 82 rfl rfl (fun c1001 => ?_) (fun c1001 => ?_)
    · have h := (if_pos c1001).symm.trans h
      obtain rfl := ic_s1 h
      exact ev_fw (lv' := [(0, ic_R 0 0 0)]) hq (And.intro rfl trivial)
    · have h := (if_neg c1001).symm.trans h
      refine ev_iconst (a := 0) (b := 22) 0 rfl (by decide) ?_
      refine ev_istore (a := 0) (b := 23) [(0, ic_R 0 0 0), (1, ic_I x1), (2, ic_I x2), (3, ic_I x3), (4, ic_I 0)] rfl (by decide) (And.intro (Or.inr (And.intro rfl rfl)) (And.intro (Or.inr (And.intro rfl rfl)) (And.intro (Or.inr (And.intro rfl rfl)) (And.intro (Or.inr (And.intro rfl rfl)) (And.intro (Or.inl rfl) trivial))))) ?_
      refine ev_fw (lv' := [(0, ic_R 0 0 0), (1, ic_I x1), (2, ic_I x2), (3, ic_I x3), (4, ic_I 0)]) ?_ (And.intro rfl (And.intro rfl (And.intro rfl (And.intro rfl (And.intro rfl trivial)))))
      rcases ic_btE h with ⟨p0, e1004, rfl⟩ | ⟨y1002, g1003, e1004, h⟩
      · exact tX6_holdFast_42 (x1 := x1) (x2 := x2) (x3 := x3)  1000 0 g _ e1004 _ _ hq
      · refine tX6_holdFast_42 (x1 := x1) (x2 := x2) (x3 := x3)  1000 0 g _ e1004 _ _ ?_
        change ic_Ev mX6_holdFast 76 [(0, ic_R 0 0 0), (1, ic_I x1), (2, ic_I x2), (3, ic_I x3)] [] g1003 _ _
        refine ev_iinc (a := 1) (b := 8) (x3 + 1) [(0, ic_R 0 0 0), (1, ic_I x1), (2, ic_I x2), (3, ic_I (x3 + 1))] rfl rfl (by first | rfl | decide) (by decide) (And.intro (Or.inr (And.intro rfl rfl)) (And.intro (Or.inr (And.intro rfl rfl)) (And.intro (Or.inr (And.intro rfl rfl)) (And.intro (Or.inl rfl) trivial)))) ?_
        refine ev_goto (a := 1) (b := 9) 28 rfl rfl ?_
        refine ev_fw (lv' := [(0, ic_R 0 0 0), (1, ic_I x1), (2, ic_I x2), (3, ic_I (x3 + 1))]) ?_ (And.intro rfl (And.intro rfl (And.intro rfl (And.intro rfl trivial))))
        exact ih (x3 + 1) g1003 _ h _ _ hq
set_option maxRecDepth 20000 in
theorem eX6_holdFast {x1 : Int32} {g g' : ic_S} {v : Int32} (h : fX6_holdFast x1 g = some (v, g')) : ic_Ev mX6_holdFast 0 (ic_ag 0 [ic_R 0 0 0, ic_I x1]) [] g (some (ic_I v)) g' := by
  unfold fX6_holdFast at h
  change ic_Ev mX6_holdFast 0 [(0, ic_R 0 0 0), (1, ic_I x1)] [] g _ _
  refine ev_iload_n (a := 0) (b := 0) rfl rfl ?_
  refine ev_iflt (a := 0) (b := 1) 10 rfl rfl (fun c1 => ?_) (fun c1 => ?_)
  · have h := (if_pos c1).symm.trans h
    refine ev_aload_n (a := 0) (b := 5) rfl rfl ?_
    refine ev_iconst (a := 0) (b := 6) 0 rfl (by decide) ?_
    obtain ⟨v4, g2, e3, h⟩ := ic_b2E h
    refine ev_ivI (a := 0) (b := 7) [ic_I 0] rfl okX6_finding rfl lmX6_66 rfl (rc0) (Nat.le_of_ble_eq_true rfl) (eX6_finding e3) (Nat.le_of_ble_eq_true rfl) rfl ?_
    obtain ⟨rfl, rfl⟩ := ic_s2 h
    exact ev_ireturn (a := 0) (b := 8) rfl rfl rfl
  · have h := (if_neg c1).symm.trans h
    refine ev_iload_n (a := 0) (b := 2) rfl rfl ?_
    refine ev_bipush (a := 0) (b := 3) 20 rfl (by decide) ?_
    refine ev_icle (a := 0) (b := 4) 16 rfl rfl (fun c5 => ?_) (fun c5 => ?_)
    · have h := (if_pos c5).symm.trans h
      refine ev_iconst (a := 0) (b := 9) 1 rfl (by decide) ?_
      refine ev_aload_n (a := 0) (b := 10) rfl rfl ?_
      refine ev_get (a := 0) (b := 11) 6 0 rfl rfl (Nat.le_of_ble_eq_true rfl) lfX6_10 (gX6_street) ?_
      refine ev_get (a := 0) (b := 12) 2 6 rfl rfl (Nat.le_of_ble_eq_true rfl) lfX6_148 (gX2_made (by decide)) ?_
      refine ev_ishl (a := 0) (b := 13) rfl ?_
      obtain ⟨y6, ey6, h⟩ := ic_letE h
      refine ev_topI ey6 ?_
      refine ev_istore_n (a := 0) (b := 14) [(0, ic_R 0 0 0), (1, ic_I x1), (2, ic_I y6)] rfl (by decide) (And.intro (Or.inr (And.intro rfl rfl)) (And.intro (Or.inr (And.intro rfl rfl)) (And.intro (Or.inl rfl) trivial))) ?_
      refine ev_iconst (a := 0) (b := 15) 0 rfl (by decide) ?_
      refine ev_istore_n (a := 0) (b := 16) [(0, ic_R 0 0 0), (1, ic_I x1), (2, ic_I y6), (3, ic_I 0)] rfl (by decide) (And.intro (Or.inr (And.intro rfl rfl)) (And.intro (Or.inr (And.intro rfl rfl)) (And.intro (Or.inr (And.intro rfl rfl)) (And.intro (Or.inl rfl) trivial)))) ?_
      refine ev_fw (lv' := [(0, ic_R 0 0 0), (1, ic_I x1), (2, ic_I y6), (3, ic_I 0)]) ?_ (And.intro rfl (And.intro rfl (And.intro rfl (And.intro rfl trivial))))
      rcases ic_bsE h with e9 | ⟨y7, g8, e9, h⟩
      · exact tX6_holdFast_28 (x1 := x1) (x2 := y6)  1000 0 g _ e9 _ _ ⟨rfl, rfl⟩
      · refine tX6_holdFast_28 (x1 := x1) (x2 := y6)  1000 0 g _ e9 _ _ ?_
        change ic_Ev mX6_holdFast 82 [(0, ic_R 0 0 0)] [] g8 _ _
        refine ev_aload_n (a := 1) (b := 10) rfl rfl ?_
        refine ev_iconst (a := 1) (b := 11) 3 rfl (by decide) ?_
        obtain ⟨v12, g10, e11, h⟩ := ic_b2E h
        refine ev_ivI (a := 1) (b := 12) [ic_I 3] rfl okX6_finding rfl lmX6_66 rfl (rc0) (Nat.le_of_ble_eq_true rfl) (eX6_finding e11) (Nat.le_of_ble_eq_true rfl) rfl ?_
        obtain ⟨rfl, rfl⟩ := ic_s2 h
        exact ev_ireturn (a := 1) (b := 13) rfl rfl rfl
    · have h := (if_neg c5).symm.trans h
      refine ev_aload_n (a := 0) (b := 5) rfl rfl ?_
      refine ev_iconst (a := 0) (b := 6) 0 rfl (by decide) ?_
      obtain ⟨v15, g13, e14, h⟩ := ic_b2E h
      refine ev_ivI (a := 0) (b := 7) [ic_I 0] rfl okX6_finding rfl lmX6_66 rfl (rc0) (Nat.le_of_ble_eq_true rfl) (eX6_finding e14) (Nat.le_of_ble_eq_true rfl) rfl ?_
      obtain ⟨rfl, rfl⟩ := ic_s2 h
      exact ev_ireturn (a := 0) (b := 8) rfl rfl rfl
set_option maxRecDepth 20000 in
theorem eX6_sheetAt {x1 : Int32} {g g' : ic_S} {v : Option (Nat × Nat)} (h : fX6_sheetAt x1 g = some (v, g')) : ic_Ev mX6_sheetAt 0 (ic_ag 0 [ic_R 0 0 0, ic_I x1]) [] g (some (ic_O 13 v)) g' := by
  unfold fX6_sheetAt at h
  change ic_Ev mX6_sheetAt 0 [(0, ic_R 0 0 0), (1, ic_I x1)] [] g _ _
  refine ev_iload_n (a := 0) (b := 0) rfl rfl ?_
  refine ev_iflt (a := 0) (b := 1) 22 rfl rfl (fun c1 => ?_) (fun c1 => ?_)
  · have h := (if_pos c1).symm.trans h
    refine ev_null (a := 0) (b := 12) rfl ?_
    obtain ⟨rfl, rfl⟩ := ic_s2 h
    exact ev_areturn (a := 0) (b := 13) rfl rfl
  · have h := (if_neg c1).symm.trans h
    refine ev_iload_n (a := 0) (b := 2) rfl rfl ?_
    refine ev_aload_n (a := 0) (b := 3) rfl rfl ?_
    refine ev_get (a := 0) (b := 4) 6 7 rfl rfl (Nat.le_of_ble_eq_true rfl) lfX6_53 (gX6_sheets) ?_
    refine ev_alenr (a := 0) (b := 5) 4 rfl (a12) (by decide) ?_
    refine ev_icge (a := 0) (b := 6) 22 rfl rfl (fun c2 => ?_) (fun c2 => ?_)
    · have h := (if_pos c2).symm.trans h
      refine ev_null (a := 0) (b := 12) rfl ?_
      obtain ⟨rfl, rfl⟩ := ic_s2 h
      exact ev_areturn (a := 0) (b := 13) rfl rfl
    · have h := (if_neg c2).symm.trans h
      refine ev_aload_n (a := 0) (b := 7) rfl rfl ?_
      refine ev_get (a := 0) (b := 8) 6 7 rfl rfl (Nat.le_of_ble_eq_true rfl) lfX6_53 (gX6_sheets) ?_
      refine ev_iload_n (a := 0) (b := 9) rfl rfl ?_
      obtain ⟨h3, h⟩ := ic_gdE h
      refine ev_aald (a := 0) (b := 10) rfl (a12) h3 (show (13 : Nat) ≠ 26 by decide) ?_
      refine ev_goto (a := 0) (b := 11) 23 rfl rfl ?_
      obtain ⟨rfl, rfl⟩ := ic_s2 h
      exact ev_areturn (a := 0) (b := 13) rfl rfl
set_option maxRecDepth 20000 in
theorem tX6_trialGoesAs_9 {s1 : Nat} (hs1 : s1 < 4) {x2 : Int32} {x3 : Int32} : ∀ (n : Nat) (x4 : Int32) (g : ic_S) (q : (Int32 × ic_S) ⊕ (Unit × ic_S)), lX6_trialGoesAs_9 s1 x2 x3 n x4 g = some q → ∀ (r : Option ic_V) (g' : ic_S), ic_lq q r g' (fun y z => ic_Ev mX6_trialGoesAs 62 [] [] z r g') → ic_Ev mX6_trialGoesAs 9 [(0, ic_R 0 0 0), (1, ic_R 13 s1 0), (2, ic_I x2), (3, ic_I x3), (4, ic_I x4)] [] g r g' := by
  intro n
  induction n with
  | zero => intro x4 g q h; cases h
  | succ n ih =>
    intro x4 g q h r g' hq
    rw [lX6_trialGoesAs_9] at h
    refine ev_iload (a := 0) (b := 6) rfl rfl ?_
    refine ev_aload_n (a := 0) (b := 7) rfl rfl ?_
    refine ev_get (a := 0) (b := 8) 1 1 rfl rfl (Nat.le_of_ble_eq_true rfl) lfX6_211 (gX1_size hs1) ?_
    refine ev_icge (a := 0) (b := 9) 62 rfl rfl (fun c1001 => ?_) (fun c1001 => ?_)
    · have h := (if_pos c1001).symm.trans h
      obtain rfl := ic_s1 h
      exact ev_fw (lv' := []) hq trivial
    · have h := (if_neg c1001).symm.trans h
      refine ev_aload_n (a := 0) (b := 10) rfl rfl ?_
      refine ev_iload (a := 0) (b := 11) rfl rfl ?_
      obtain ⟨v1004, g1002, e1003, h⟩ := ic_b2E h
      refine ev_ivI (a := 0) (b := 12) [ic_I x4] rfl okX1_told rfl lmX6_234 rfl (rc13 hs1) (Nat.le_of_ble_eq_true rfl) (eX1_told e1003) (Nat.le_of_ble_eq_true rfl) rfl ?_
      refine ev_istore (a := 0) (b := 13) [(0, ic_R 0 0 0), (1, ic_R 13 s1 0), (2, ic_I x2), (3, ic_I x3), (4, ic_I x4), (5, ic_I v1004)] rfl (by decide) (And.intro (Or.inr (And.intro rfl rfl)) (And.intro (Or.inr (And.intro rfl rfl)) (And.intro (Or.inr (And.intro rfl rfl)) (And.intro (Or.inr (And.intro rfl rfl)) (And.intro (Or.inr (And.intro rfl rfl)) (And.intro (Or.inl rfl) trivial)))))) ?_
      refine ev_iload (a := 0) (b := 14) rfl rfl ?_
      refine ev_iconst (a := 0) (b := 15) (-1) rfl (by decide) ?_
      refine ev_iceq (a := 0) (b := 16) 48 rfl rfl (fun c1005 => ?_) (fun c1005 => ?_)
      · have h := (if_pos c1005).symm.trans h
        refine ev_aload_n (a := 0) (b := 26) rfl rfl ?_
        refine ev_get (a := 0) (b := 27) 6 1 rfl rfl (Nat.le_of_ble_eq_true rfl) lfX6_16 (gX6_trial) ?_
        refine ev_iconst (a := 0) (b := 28) 1 rfl (by decide) ?_
        obtain ⟨g1006, e1007, h⟩ := ic_b1E h
        refine ev_ivV (a := 0) (b := 29) [ic_I 1] rfl okX2_callTimes rfl lmX6_111 rfl (rc1 (by decide)) (Nat.le_of_ble_eq_true rfl) (eX2_callTimes e1007) (Nat.le_of_ble_eq_true rfl) rfl ?_
        refine ev_iinc (a := 0) (b := 30) (x4 + 1) [(0, ic_R 0 0 0), (1, ic_R 13 s1 0), (2, ic_I x2), (3, ic_I x3), (4, ic_I (x4 + 1))] rfl rfl (by first | rfl | decide) (by decide) (And.intro (Or.inr (And.intro rfl rfl)) (And.intro (Or.inr (And.intro rfl rfl)) (And.intro (Or.inr (And.intro rfl rfl)) (And.intro (Or.inr (And.intro rfl rfl)) (And.intro (Or.inl rfl) trivial))))) ?_
        refine ev_goto (a := 0) (b := 31) 9 rfl rfl ?_
        refine ev_fw (lv' := [(0, ic_R 0 0 0), (1, ic_R 13 s1 0), (2, ic_I x2), (3, ic_I x3), (4, ic_I (x4 + 1))]) ?_ (And.intro rfl (And.intro rfl (And.intro rfl (And.intro rfl (And.intro rfl trivial)))))
        exact ih (x4 + 1) g1006 _ h _ _ hq
      · have h := (if_neg c1005).symm.trans h
        refine ev_iload (a := 0) (b := 17) rfl rfl ?_
        refine ev_aload_n (a := 0) (b := 18) rfl rfl ?_
        refine ev_get (a := 0) (b := 19) 6 1 rfl rfl (Nat.le_of_ble_eq_true rfl) lfX6_16 (gX6_trial) ?_
        refine ev_iload_n (a := 0) (b := 20) rfl rfl ?_
        refine ev_iload_n (a := 0) (b := 21) rfl rfl ?_
        obtain ⟨v1010, g1008, e1009, h⟩ := ic_b2E h
        refine ev_ivI (a := 0) (b := 22) [ic_I x2, ic_I x3] rfl okX2_told rfl lmX6_87 rfl (rc1 (by decide)) (Nat.le_of_ble_eq_true rfl) (eX2_told e1009) (Nat.le_of_ble_eq_true rfl) rfl ?_
        refine ev_iceq (a := 0) (b := 23) 48 rfl rfl (fun c1011 => ?_) (fun c1011 => ?_)
        · have h := (if_pos c1011).symm.trans h
          refine ev_aload_n (a := 0) (b := 26) rfl rfl ?_
          refine ev_get (a := 0) (b := 27) 6 1 rfl rfl (Nat.le_of_ble_eq_true rfl) lfX6_16 (gX6_trial) ?_
          refine ev_iconst (a := 0) (b := 28) 1 rfl (by decide) ?_
          obtain ⟨g1012, e1013, h⟩ := ic_b1E h
          refine ev_ivV (a := 0) (b := 29) [ic_I 1] rfl okX2_callTimes rfl lmX6_111 rfl (rc1 (by decide)) (Nat.le_of_ble_eq_true rfl) (eX2_callTimes e1013) (Nat.le_of_ble_eq_true rfl) rfl ?_
          refine ev_iinc (a := 0) (b := 30) (x4 + 1) [(0, ic_R 0 0 0), (1, ic_R 13 s1 0), (2, ic_I x2), (3, ic_I x3), (4, ic_I (x4 + 1))] rfl rfl (by first | rfl | decide) (by decide) (And.intro (Or.inr (And.intro rfl rfl)) (And.intro (Or.inr (And.intro rfl rfl)) (And.intro (Or.inr (And.intro rfl rfl)) (And.intro (Or.inr (And.intro rfl rfl)) (And.intro (Or.inl rfl) trivial))))) ?_
          refine ev_goto (a := 0) (b := 31) 9 rfl rfl ?_
          refine ev_fw (lv' := [(0, ic_R 0 0 0), (1, ic_R 13 s1 0), (2, ic_I x2), (3, ic_I x3), (4, ic_I (x4 + 1))]) ?_ (And.intro rfl (And.intro rfl (And.intro rfl (And.intro rfl (And.intro rfl trivial)))))
          exact ih (x4 + 1) g1012 _ h _ _ hq
        · have h := (if_neg c1011).symm.trans h
          refine ev_iconst (a := 0) (b := 24) 0 rfl (by decide) ?_
          obtain rfl := ic_s1 h
          obtain ⟨rfl, rfl⟩ := hq
          exact ev_ireturn (a := 0) (b := 25) rfl rfl rfl
set_option maxRecDepth 20000 in
theorem eX6_trialGoesAs {o1 : Option (Nat × Nat)} {x2 : Int32} {x3 : Int32} {g g' : ic_S} {v : Int32} (h : fX6_trialGoesAs o1 x2 x3 g = some (v, g')) : ic_Ev mX6_trialGoesAs 0 (ic_ag 0 [ic_R 0 0 0, ic_O 13 o1, ic_I x2, ic_I x3]) [] g (some (ic_I v)) g' := by
  unfold fX6_trialGoesAs at h
  change ic_Ev mX6_trialGoesAs 0 [(0, ic_R 0 0 0), (1, ic_O 13 o1), (2, ic_I x2), (3, ic_I x3)] [] g _ _
  refine ev_aload_n (a := 0) (b := 0) rfl rfl ?_
  rcases o1 with _ | ⟨s1, t2⟩
  · replace h := ic_moN h
    refine ev_ifnonnull1 (a := 0) (b := 1) rfl ?_
    refine ev_iconst (a := 0) (b := 2) 0 rfl (by decide) ?_
    obtain ⟨rfl, rfl⟩ := ic_s2 h
    exact ev_ireturn (a := 0) (b := 3) rfl rfl rfl
  · replace h := ic_moS h
    have k3 := (ic_gdE h).1
    replace h := (ic_gdE h).2
    have ht0 : t2 < 1 := ic_vkt (C := 13) k3
    have hzk3 := h
    obtain rfl : t2 = 0 := by omega
    have h := hzk3
    refine ev_ifnonnull0 (a := 0) (b := 1) 6 (show (13 : Nat) ≠ 26 by decide) rfl rfl ?_
    refine ev_iconst (a := 0) (b := 4) 0 rfl (by decide) ?_
    refine ev_istore (a := 0) (b := 5) [(0, ic_R 0 0 0), (1, ic_R 13 s1 0), (2, ic_I x2), (3, ic_I x3), (4, ic_I 0)] rfl (by decide) (And.intro (Or.inr (And.intro rfl rfl)) (And.intro (Or.inr (And.intro rfl rfl)) (And.intro (Or.inr (And.intro rfl rfl)) (And.intro (Or.inr (And.intro rfl rfl)) (And.intro (Or.inl rfl) trivial))))) ?_
    refine ev_fw (lv' := [(0, ic_R 0 0 0), (1, ic_R 13 s1 0), (2, ic_I x2), (3, ic_I x3), (4, ic_I 0)]) ?_ (And.intro rfl (And.intro rfl (And.intro rfl (And.intro rfl (And.intro rfl trivial)))))
    rcases ic_bsE h with e6 | ⟨y4, g5, e6, h⟩
    · exact tX6_trialGoesAs_9 (x2 := x2) (x3 := x3) (ic_vks (C := 13) k3) 1000 0 g _ e6 _ _ ⟨rfl, rfl⟩
    · refine tX6_trialGoesAs_9 (x2 := x2) (x3 := x3) (ic_vks (C := 13) k3) 1000 0 g _ e6 _ _ ?_
      change ic_Ev mX6_trialGoesAs 62 [] [] g5 _ _
      refine ev_iconst (a := 1) (b := 0) 1 rfl (by decide) ?_
      obtain ⟨rfl, rfl⟩ := ic_s2 h
      exact ev_ireturn (a := 1) (b := 1) rfl rfl rfl
set_option maxRecDepth 20000 in
theorem tX6_choicesAsTold_55 {s4 : Nat} (hs4 : s4 < 4) {x2 : Int32} {x3 : Int32} {x4 : Int32} : ∀ (n : Nat) (x6 : Int32) (x7 : Int32) (g : ic_S) (q : (Int32) × ic_S), lX6_choicesAsTold_55 s4 x2 x3 x4 n x6 x7 g = some q → ∀ (r : Option ic_V) (g' : ic_S), ic_Ev mX6_choicesAsTold 106 [(6, ic_I q.1)] [] q.2 r g' → ic_Ev mX6_choicesAsTold 55 [(0, ic_R 0 0 0), (2, ic_I x2), (3, ic_I x3), (4, ic_I x4), (5, ic_R 13 s4 0), (6, ic_I x6), (7, ic_I x7)] [] g r g' := by
  intro n
  induction n with
  | zero => intro x6 x7 g q h; cases h
  | succ n ih =>
    intro x6 x7 g q h r g' hq
    rw [lX6_choicesAsTold_55] at h
    refine ev_iload (a := 0) (b := 30) rfl rfl ?_
    refine ev_iload_n (a := 0) (b := 31) rfl rfl ?_
    obtain ⟨v1003, g1001, e1002, h⟩ := ic_b2E h
    refine ev_isI (a := 1) (b := 0) [ic_I x3] rfl okX6_mostOf rfl lmX6_96 rfl (Nat.le_of_ble_eq_true rfl) (eX6_mostOf e1002) (Nat.le_of_ble_eq_true rfl) rfl ?_
    refine ev_icgt (a := 1) (b := 1) 106 rfl rfl (fun c1004 => ?_) (fun c1004 => ?_)
    · have h := (if_pos c1004).symm.trans h
      obtain rfl := ic_s1 h
      exact ev_fw (lv' := [(6, ic_I x6)]) hq (And.intro rfl trivial)
    · have h := (if_neg c1004).symm.trans h
      refine ev_aload_n (a := 1) (b := 2) rfl rfl ?_
      obtain ⟨g1005, e1006, h⟩ := ic_b1E h
      refine ev_ivV (a := 1) (b := 3) [] rfl okX6_startTrial rfl lmX6_131 rfl (rc0) (Nat.le_of_ble_eq_true rfl) (eX6_startTrial e1006) (Nat.le_of_ble_eq_true rfl) rfl ?_
      refine ev_aload_n (a := 1) (b := 4) rfl rfl ?_
      refine ev_get (a := 1) (b := 5) 6 1 rfl rfl (Nat.le_of_ble_eq_true rfl) lfX6_16 (gX6_trial) ?_
      refine ev_iload_n (a := 1) (b := 6) rfl rfl ?_
      refine ev_iload_n (a := 1) (b := 7) rfl rfl ?_
      refine ev_iload (a := 1) (b := 8) rfl rfl ?_
      obtain ⟨g1007, e1008, h⟩ := ic_b1E h
      refine ev_ivV (a := 1) (b := 9) [ic_I x2, ic_I x3, ic_I x7] rfl okX2_alter rfl lmX6_99 rfl (rc1 (by decide)) (Nat.le_of_ble_eq_true rfl) (eX2_alter e1008) (Nat.le_of_ble_eq_true rfl) rfl ?_
      refine ev_aload_n (a := 1) (b := 10) rfl rfl ?_
      refine ev_aload (a := 1) (b := 11) rfl rfl ?_
      refine ev_iload_n (a := 1) (b := 12) rfl rfl ?_
      refine ev_iload (a := 1) (b := 13) rfl rfl ?_
      obtain ⟨v1011, g1009, e1010, h⟩ := ic_b2E h
      refine ev_ivI (a := 1) (b := 14) [ic_O 13 (some (s4, 0)), ic_I x2, ic_I x4] rfl okX6_trialGoesAs rfl lmX6_243 rfl (rc0) (Nat.le_of_ble_eq_true rfl) (eX6_trialGoesAs e1010) (Nat.le_of_ble_eq_true rfl) rfl ?_
      refine ev_ifeq (a := 1) (b := 15) 100 rfl rfl (fun c1012 => ?_) (fun c1012 => ?_)
      · have h := (if_pos c1012).symm.trans h
        refine ev_iinc (a := 1) (b := 22) (x7 + 1) [(0, ic_R 0 0 0), (2, ic_I x2), (3, ic_I x3), (4, ic_I x4), (5, ic_R 13 s4 0), (6, ic_I x6), (7, ic_I (x7 + 1))] rfl rfl (by first | rfl | decide) (by decide) (And.intro (Or.inr (And.intro rfl rfl)) (And.intro (Or.inr (And.intro rfl rfl)) (And.intro (Or.inr (And.intro rfl rfl)) (And.intro (Or.inr (And.intro rfl rfl)) (And.intro (Or.inr (And.intro rfl rfl)) (And.intro (Or.inr (And.intro rfl rfl)) (And.intro (Or.inl rfl) trivial))))))) ?_
        refine ev_goto (a := 1) (b := 23) 55 rfl rfl ?_
        refine ev_fw (lv' := [(0, ic_R 0 0 0), (2, ic_I x2), (3, ic_I x3), (4, ic_I x4), (5, ic_R 13 s4 0), (6, ic_I x6), (7, ic_I (x7 + 1))]) ?_ (And.intro rfl (And.intro rfl (And.intro rfl (And.intro rfl (And.intro rfl (And.intro rfl (And.intro rfl trivial)))))))
        exact ih x6 (x7 + 1) g1009 _ h _ _ hq
      · have h := (if_neg c1012).symm.trans h
        refine ev_iload (a := 1) (b := 16) rfl rfl ?_
        refine ev_iconst (a := 1) (b := 17) 1 rfl (by decide) ?_
        refine ev_iload (a := 1) (b := 18) rfl rfl ?_
        refine ev_ishl (a := 1) (b := 19) rfl ?_
        refine ev_ior (a := 1) (b := 20) rfl ?_
        obtain ⟨y1013, ey1013, h⟩ := ic_letE h
        refine ev_topI ey1013 ?_
        refine ev_istore (a := 1) (b := 21) [(0, ic_R 0 0 0), (2, ic_I x2), (3, ic_I x3), (4, ic_I x4), (5, ic_R 13 s4 0), (6, ic_I y1013), (7, ic_I x7)] rfl (by decide) (And.intro (Or.inr (And.intro rfl rfl)) (And.intro (Or.inr (And.intro rfl rfl)) (And.intro (Or.inr (And.intro rfl rfl)) (And.intro (Or.inr (And.intro rfl rfl)) (And.intro (Or.inr (And.intro rfl rfl)) (And.intro (Or.inl rfl) (And.intro (Or.inr (And.intro rfl rfl)) trivial))))))) ?_
        refine ev_iinc (a := 1) (b := 22) (x7 + 1) [(0, ic_R 0 0 0), (2, ic_I x2), (3, ic_I x3), (4, ic_I x4), (5, ic_R 13 s4 0), (6, ic_I y1013), (7, ic_I (x7 + 1))] rfl rfl (by first | rfl | decide) (by decide) (And.intro (Or.inr (And.intro rfl rfl)) (And.intro (Or.inr (And.intro rfl rfl)) (And.intro (Or.inr (And.intro rfl rfl)) (And.intro (Or.inr (And.intro rfl rfl)) (And.intro (Or.inr (And.intro rfl rfl)) (And.intro (Or.inr (And.intro rfl rfl)) (And.intro (Or.inl rfl) trivial))))))) ?_
        refine ev_goto (a := 1) (b := 23) 55 rfl rfl ?_
        refine ev_fw (lv' := [(0, ic_R 0 0 0), (2, ic_I x2), (3, ic_I x3), (4, ic_I x4), (5, ic_R 13 s4 0), (6, ic_I y1013), (7, ic_I (x7 + 1))]) ?_ (And.intro rfl (And.intro rfl (And.intro rfl (And.intro rfl (And.intro rfl (And.intro rfl (And.intro rfl trivial)))))))
        exact ih y1013 (x7 + 1) g1009 _ h _ _ hq
set_option maxRecDepth 20000 in
theorem eX6_choicesAsTold {x1 : Int32} {x2 : Int32} {x3 : Int32} {x4 : Int32} {g g' : ic_S} {v : Int32} (h : fX6_choicesAsTold x1 x2 x3 x4 g = some (v, g')) : ic_Ev mX6_choicesAsTold 0 (ic_ag 0 [ic_R 0 0 0, ic_I x1, ic_I x2, ic_I x3, ic_I x4]) [] g (some (ic_I v)) g' := by
  unfold fX6_choicesAsTold at h
  change ic_Ev mX6_choicesAsTold 0 [(0, ic_R 0 0 0), (1, ic_I x1), (2, ic_I x2), (3, ic_I x3), (4, ic_I x4)] [] g _ _
  refine ev_aload_n (a := 0) (b := 0) rfl rfl ?_
  refine ev_iload_n (a := 0) (b := 1) rfl rfl ?_
  obtain ⟨v3, g1, e2, h⟩ := ic_b2E h
  refine ev_ivO (a := 0) (b := 2) [ic_I x1] rfl okX6_sheetAt rfl lmX6_204 rfl (rc0) (Nat.le_of_ble_eq_true rfl) (eX6_sheetAt e2) (Nat.le_of_ble_eq_true rfl) rfl ?_
  refine ev_astore (a := 0) (b := 3) [(0, ic_R 0 0 0), (2, ic_I x2), (3, ic_I x3), (4, ic_I x4), (5, ic_O 13 v3)] rfl (by decide) (And.intro (Or.inr (And.intro rfl rfl)) (And.intro (Or.inr (And.intro rfl rfl)) (And.intro (Or.inr (And.intro rfl rfl)) (And.intro (Or.inr (And.intro rfl rfl)) (And.intro (Or.inl rfl) trivial))))) ?_
  refine ev_aload (a := 0) (b := 4) rfl rfl ?_
  rcases v3 with _ | ⟨s4, t5⟩
  · replace h := ic_moN h
    refine ev_ifnonnull1 (a := 0) (b := 5) rfl ?_
    refine ev_aload_n (a := 0) (b := 6) rfl rfl ?_
    refine ev_iconst (a := 0) (b := 7) 0 rfl (by decide) ?_
    obtain ⟨v8, g6, e7, h⟩ := ic_b2E h
    refine ev_ivI (a := 0) (b := 8) [ic_I 0] rfl okX6_finding rfl lmX6_66 rfl (rc0) (Nat.le_of_ble_eq_true rfl) (eX6_finding e7) (Nat.le_of_ble_eq_true rfl) rfl ?_
    obtain ⟨rfl, rfl⟩ := ic_s2 h
    exact ev_ireturn (a := 0) (b := 9) rfl rfl rfl
  · replace h := ic_moS h
    have k9 := (ic_gdE h).1
    replace h := (ic_gdE h).2
    have ht0 : t5 < 1 := ic_vkt (C := 13) k9
    have hzk9 := h
    obtain rfl : t5 = 0 := by omega
    have h := hzk9
    refine ev_ifnonnull0 (a := 0) (b := 5) 18 (show (13 : Nat) ≠ 26 by decide) rfl rfl ?_
    refine ev_aload (a := 0) (b := 10) rfl rfl ?_
    obtain ⟨v12, g10, e11, h⟩ := ic_b2E h
    refine ev_ivI (a := 0) (b := 11) [] rfl okX1_isMissing rfl lmX6_212 rfl (rc13 (ic_vks (C := 13) k9)) (Nat.le_of_ble_eq_true rfl) (eX1_isMissing e11) (Nat.le_of_ble_eq_true rfl) rfl ?_
    refine ev_ifeq (a := 0) (b := 12) 32 rfl rfl (fun c13 => ?_) (fun c13 => ?_)
    · have h := (if_pos c13).symm.trans h
      refine ev_aload_n (a := 0) (b := 17) rfl rfl ?_
      refine ev_get (a := 0) (b := 18) 6 0 rfl rfl (Nat.le_of_ble_eq_true rfl) lfX6_10 (gX6_street) ?_
      refine ev_iload_n (a := 0) (b := 19) rfl rfl ?_
      obtain ⟨v16, g14, e15, h⟩ := ic_b2E h
      refine ev_ivI (a := 0) (b := 20) [ic_I x2] rfl okX2_hasThing rfl lmX6_90 rfl (rc1 (by decide)) (Nat.le_of_ble_eq_true rfl) (eX2_hasThing e15) (Nat.le_of_ble_eq_true rfl) rfl ?_
      refine ev_ifne (a := 0) (b := 21) 49 rfl rfl (fun c17 => ?_) (fun c17 => ?_)
      · have h := (if_neg c17).symm.trans h
        refine ev_iconst (a := 0) (b := 26) 0 rfl (by decide) ?_
        refine ev_istore (a := 0) (b := 27) [(0, ic_R 0 0 0), (2, ic_I x2), (3, ic_I x3), (4, ic_I x4), (5, ic_R 13 s4 0), (6, ic_I 0)] rfl (by decide) (And.intro (Or.inr (And.intro rfl rfl)) (And.intro (Or.inr (And.intro rfl rfl)) (And.intro (Or.inr (And.intro rfl rfl)) (And.intro (Or.inr (And.intro rfl rfl)) (And.intro (Or.inr (And.intro rfl rfl)) (And.intro (Or.inl rfl) trivial)))))) ?_
        refine ev_iconst (a := 0) (b := 28) 0 rfl (by decide) ?_
        refine ev_istore (a := 0) (b := 29) [(0, ic_R 0 0 0), (2, ic_I x2), (3, ic_I x3), (4, ic_I x4), (5, ic_R 13 s4 0), (6, ic_I 0), (7, ic_I 0)] rfl (by decide) (And.intro (Or.inr (And.intro rfl rfl)) (And.intro (Or.inr (And.intro rfl rfl)) (And.intro (Or.inr (And.intro rfl rfl)) (And.intro (Or.inr (And.intro rfl rfl)) (And.intro (Or.inr (And.intro rfl rfl)) (And.intro (Or.inr (And.intro rfl rfl)) (And.intro (Or.inl rfl) trivial))))))) ?_
        refine ev_fw (lv' := [(0, ic_R 0 0 0), (2, ic_I x2), (3, ic_I x3), (4, ic_I x4), (5, ic_R 13 s4 0), (6, ic_I 0), (7, ic_I 0)]) ?_ (And.intro rfl (And.intro rfl (And.intro rfl (And.intro rfl (And.intro rfl (And.intro rfl (And.intro rfl trivial)))))))
        obtain ⟨y18, g19, e20, h⟩ := ic_b2E h
        refine tX6_choicesAsTold_55 (x2 := x2) (x3 := x3) (x4 := x4) (ic_vks (C := 13) k9) 1000 0 0 g14 _ e20 _ _ ?_
        change ic_Ev mX6_choicesAsTold 106 [(6, ic_I y18)] [] g19 _ _
        refine ev_iload (a := 1) (b := 24) rfl rfl ?_
        obtain ⟨rfl, rfl⟩ := ic_s2 h
        exact ev_ireturn (a := 1) (b := 25) rfl rfl rfl
      · have h := (if_pos c17).symm.trans h
        refine ev_aload_n (a := 0) (b := 22) rfl rfl ?_
        refine ev_iconst (a := 0) (b := 23) 0 rfl (by decide) ?_
        obtain ⟨v23, g21, e22, h⟩ := ic_b2E h
        refine ev_ivI (a := 0) (b := 24) [ic_I 0] rfl okX6_finding rfl lmX6_66 rfl (rc0) (Nat.le_of_ble_eq_true rfl) (eX6_finding e22) (Nat.le_of_ble_eq_true rfl) rfl ?_
        obtain ⟨rfl, rfl⟩ := ic_s2 h
        exact ev_ireturn (a := 0) (b := 25) rfl rfl rfl
    · have h := (if_neg c13).symm.trans h
      refine ev_aload_n (a := 0) (b := 13) rfl rfl ?_
      refine ev_iconst (a := 0) (b := 14) 5 rfl (by decide) ?_
      obtain ⟨v26, g24, e25, h⟩ := ic_b2E h
      refine ev_ivI (a := 0) (b := 15) [ic_I 5] rfl okX6_finding rfl lmX6_66 rfl (rc0) (Nat.le_of_ble_eq_true rfl) (eX6_finding e25) (Nat.le_of_ble_eq_true rfl) rfl ?_
      obtain ⟨rfl, rfl⟩ := ic_s2 h
      exact ev_ireturn (a := 0) (b := 16) rfl rfl rfl
set_option maxRecDepth 20000 in
theorem eX6_fits {x1 : Int32} {x2 : Int32} {g g' : ic_S} {v : Int32} (h : fX6_fits x1 x2 g = some (v, g')) : ic_Ev mX6_fits 0 (ic_ag 0 [ic_R 0 0 0, ic_I x1, ic_I x2]) [] g (some (ic_I v)) g' := by
  unfold fX6_fits at h
  change ic_Ev mX6_fits 0 [(0, ic_R 0 0 0), (1, ic_I x1), (2, ic_I x2)] [] g _ _
  refine ev_aload_n (a := 0) (b := 0) rfl rfl ?_
  refine ev_iload_n (a := 0) (b := 1) rfl rfl ?_
  refine ev_iload_n (a := 0) (b := 2) rfl rfl ?_
  refine ev_iconst (a := 0) (b := 3) 1 rfl (by decide) ?_
  refine ev_iconst (a := 0) (b := 4) 3 rfl (by decide) ?_
  obtain ⟨v3, g1, e2, h⟩ := ic_b2E h
  refine ev_ivI (a := 0) (b := 5) [ic_I x1, ic_I x2, ic_I 1, ic_I 3] rfl okX6_choicesAsTold rfl lmX6_160 rfl (rc0) (Nat.le_of_ble_eq_true rfl) (eX6_choicesAsTold e2) (Nat.le_of_ble_eq_true rfl) rfl ?_
  obtain ⟨rfl, rfl⟩ := ic_s2 h
  exact ev_ireturn (a := 0) (b := 6) rfl rfl rfl
set_option maxRecDepth 20000 in
theorem eX6_kinds {x1 : Int32} {x2 : Int32} {g g' : ic_S} {v : Int32} (h : fX6_kinds x1 x2 g = some (v, g')) : ic_Ev mX6_kinds 0 (ic_ag 0 [ic_R 0 0 0, ic_I x1, ic_I x2]) [] g (some (ic_I v)) g' := by
  unfold fX6_kinds at h
  change ic_Ev mX6_kinds 0 [(0, ic_R 0 0 0), (1, ic_I x1), (2, ic_I x2)] [] g _ _
  refine ev_aload_n (a := 0) (b := 0) rfl rfl ?_
  refine ev_iload_n (a := 0) (b := 1) rfl rfl ?_
  refine ev_iload_n (a := 0) (b := 2) rfl rfl ?_
  refine ev_iconst (a := 0) (b := 3) 0 rfl (by decide) ?_
  refine ev_iconst (a := 0) (b := 4) 1 rfl (by decide) ?_
  obtain ⟨v3, g1, e2, h⟩ := ic_b2E h
  refine ev_ivI (a := 0) (b := 5) [ic_I x1, ic_I x2, ic_I 0, ic_I 1] rfl okX6_choicesAsTold rfl lmX6_160 rfl (rc0) (Nat.le_of_ble_eq_true rfl) (eX6_choicesAsTold e2) (Nat.le_of_ble_eq_true rfl) rfl ?_
  obtain ⟨rfl, rfl⟩ := ic_s2 h
  exact ev_ireturn (a := 0) (b := 6) rfl rfl rfl
set_option maxRecDepth 20000 in
theorem tX6_calls_39 {x1 : Int32} : ∀ (n : Nat) (x2 : Int32) (g : ic_S) (q : Unit × ic_S), lX6_calls_39 x1 n x2 g = some q → ∀ (r : Option ic_V) (g' : ic_S), ic_Ev mX6_calls 94 [(0, ic_R 0 0 0)] [] q.2 r g' → ic_Ev mX6_calls 39 [(0, ic_R 0 0 0), (1, ic_I x1), (2, ic_I x2)] [] g r g' := by
  intro n
  induction n with
  | zero => intro x2 g q h; cases h
  | succ n ih =>
    intro x2 g q h r g' hq
    rw [lX6_calls_39] at h
    refine ev_iload_n (a := 0) (b := 23) rfl rfl ?_
    refine ev_iload_n (a := 0) (b := 24) rfl rfl ?_
    refine ev_icge (a := 0) (b := 25) 94 rfl rfl (fun c1001 => ?_) (fun c1001 => ?_)
    · have h := (if_pos c1001).symm.trans h
      obtain rfl := ic_s1 h
      exact ev_fw (lv' := [(0, ic_R 0 0 0)]) hq (And.intro rfl trivial)
    · have h := (if_neg c1001).symm.trans h
      refine ev_aload_n (a := 0) (b := 26) rfl rfl ?_
      refine ev_get (a := 0) (b := 27) 6 0 rfl rfl (Nat.le_of_ble_eq_true rfl) lfX6_10 (gX6_street) ?_
      refine ev_iconst (a := 0) (b := 28) 0 rfl (by decide) ?_
      refine ev_aload_n (a := 0) (b := 29) rfl rfl ?_
      refine ev_get (a := 0) (b := 30) 6 0 rfl rfl (Nat.le_of_ble_eq_true rfl) lfX6_10 (gX6_street) ?_
      obtain ⟨v1004, g1002, e1003, h⟩ := ic_b2E h
      refine ev_ivI (a := 0) (b := 31) [] rfl okX2_draw rfl lmX6_163 rfl (rc1 (by decide)) (Nat.le_of_ble_eq_true rfl) (eX2_draw e1003) (Nat.le_of_ble_eq_true rfl) rfl ?_
      refine ev_bipush (a := 1) (b := 0) 16 rfl (by decide) ?_
      refine ev_irem (a := 1) (b := 1) rfl (by decide) ?_
      obtain ⟨g1005, e1006, h⟩ := ic_b1E h
      refine ev_ivV (a := 1) (b := 2) [ic_I 0, ic_I (v1004 - v1004 / 16 * 16)] rfl okX2_alterCart rfl lmX6_72 rfl (rc1 (by decide)) (Nat.le_of_ble_eq_true rfl) (eX2_alterCart e1006) (Nat.le_of_ble_eq_true rfl) rfl ?_
      refine ev_aload_n (a := 1) (b := 3) rfl rfl ?_
      refine ev_get (a := 1) (b := 4) 6 0 rfl rfl (Nat.le_of_ble_eq_true rfl) lfX6_10 (gX6_street) ?_
      refine ev_iconst (a := 1) (b := 5) 3 rfl (by decide) ?_
      refine ev_aload_n (a := 1) (b := 6) rfl rfl ?_
      refine ev_get (a := 1) (b := 7) 6 0 rfl rfl (Nat.le_of_ble_eq_true rfl) lfX6_10 (gX6_street) ?_
      obtain ⟨v1009, g1007, e1008, h⟩ := ic_b2E h
      refine ev_ivI (a := 1) (b := 8) [] rfl okX2_draw rfl lmX6_163 rfl (rc1 (by decide)) (Nat.le_of_ble_eq_true rfl) (eX2_draw e1008) (Nat.le_of_ble_eq_true rfl) rfl ?_
      refine ev_bipush (a := 1) (b := 9) 21 rfl (by decide) ?_
      refine ev_irem (a := 1) (b := 10) rfl (by decide) ?_
      obtain ⟨g1010, e1011, h⟩ := ic_b1E h
      refine ev_ivV (a := 1) (b := 11) [ic_I 3, ic_I (v1009 - v1009 / 21 * 21)] rfl okX2_alterCart rfl lmX6_72 rfl (rc1 (by decide)) (Nat.le_of_ble_eq_true rfl) (eX2_alterCart e1011) (Nat.le_of_ble_eq_true rfl) rfl ?_
      refine ev_aload_n (a := 1) (b := 12) rfl rfl ?_
      refine ev_get (a := 1) (b := 13) 6 0 rfl rfl (Nat.le_of_ble_eq_true rfl) lfX6_10 (gX6_street) ?_
      refine ev_iconst (a := 1) (b := 14) 1 rfl (by decide) ?_
      obtain ⟨g1012, e1013, h⟩ := ic_b1E h
      refine ev_ivV (a := 1) (b := 15) [ic_I 1] rfl okX2_callTimes rfl lmX6_111 rfl (rc1 (by decide)) (Nat.le_of_ble_eq_true rfl) (eX2_callTimes e1013) (Nat.le_of_ble_eq_true rfl) rfl ?_
      refine ev_iinc (a := 1) (b := 16) (x2 + 1) [(0, ic_R 0 0 0), (1, ic_I x1), (2, ic_I (x2 + 1))] rfl rfl (by first | rfl | decide) (by decide) (And.intro (Or.inr (And.intro rfl rfl)) (And.intro (Or.inr (And.intro rfl rfl)) (And.intro (Or.inl rfl) trivial))) ?_
      refine ev_goto (a := 1) (b := 17) 39 rfl rfl ?_
      refine ev_fw (lv' := [(0, ic_R 0 0 0), (1, ic_I x1), (2, ic_I (x2 + 1))]) ?_ (And.intro rfl (And.intro rfl (And.intro rfl trivial)))
      exact ih (x2 + 1) g1012 _ h _ _ hq
set_option maxRecDepth 20000 in
theorem eX6_calls {x1 : Int32} {g g' : ic_S} {v : Int32} (h : fX6_calls x1 g = some (v, g')) : ic_Ev mX6_calls 0 (ic_ag 0 [ic_R 0 0 0, ic_I x1]) [] g (some (ic_I v)) g' := by
  unfold fX6_calls at h
  change ic_Ev mX6_calls 0 [(0, ic_R 0 0 0), (1, ic_I x1)] [] g _ _
  refine ev_iload_n (a := 0) (b := 0) rfl rfl ?_
  refine ev_iconst (a := 0) (b := 1) 1 rfl (by decide) ?_
  refine ev_iclt (a := 0) (b := 2) 11 rfl rfl (fun c1 => ?_) (fun c1 => ?_)
  · have h := (if_pos c1).symm.trans h
    refine ev_aload_n (a := 0) (b := 6) rfl rfl ?_
    refine ev_iconst (a := 0) (b := 7) 0 rfl (by decide) ?_
    obtain ⟨v4, g2, e3, h⟩ := ic_b2E h
    refine ev_ivI (a := 0) (b := 8) [ic_I 0] rfl okX6_finding rfl lmX6_66 rfl (rc0) (Nat.le_of_ble_eq_true rfl) (eX6_finding e3) (Nat.le_of_ble_eq_true rfl) rfl ?_
    obtain ⟨rfl, rfl⟩ := ic_s2 h
    exact ev_ireturn (a := 0) (b := 9) rfl rfl rfl
  · have h := (if_neg c1).symm.trans h
    refine ev_iload_n (a := 0) (b := 3) rfl rfl ?_
    refine ev_bipush (a := 0) (b := 4) 20 rfl (by decide) ?_
    refine ev_icle (a := 0) (b := 5) 17 rfl rfl (fun c5 => ?_) (fun c5 => ?_)
    · have h := (if_pos c5).symm.trans h
      refine ev_aload_n (a := 0) (b := 10) rfl rfl ?_
      refine ev_get (a := 0) (b := 11) 6 0 rfl rfl (Nat.le_of_ble_eq_true rfl) lfX6_10 (gX6_street) ?_
      refine ev_get (a := 0) (b := 12) 2 4 rfl rfl (Nat.le_of_ble_eq_true rfl) lfX6_106 (gX2_callNumber (by decide)) ?_
      refine ev_iload_n (a := 0) (b := 13) rfl rfl ?_
      refine ev_iadd (a := 0) (b := 14) rfl ?_
      refine ev_ldc (a := 0) (b := 15) 99999 rfl lcX6_110 ?_
      refine ev_icle (a := 0) (b := 16) 37 rfl rfl (fun c6 => ?_) (fun c6 => ?_)
      · have h := (if_pos c6).symm.trans h
        refine ev_iconst (a := 0) (b := 21) 0 rfl (by decide) ?_
        refine ev_istore_n (a := 0) (b := 22) [(0, ic_R 0 0 0), (1, ic_I x1), (2, ic_I 0)] rfl (by decide) (And.intro (Or.inr (And.intro rfl rfl)) (And.intro (Or.inr (And.intro rfl rfl)) (And.intro (Or.inl rfl) trivial))) ?_
        refine ev_fw (lv' := [(0, ic_R 0 0 0), (1, ic_I x1), (2, ic_I 0)]) ?_ (And.intro rfl (And.intro rfl (And.intro rfl trivial)))
        obtain ⟨y7, g8, e9, h⟩ := ic_b2E h
        refine tX6_calls_39 (x1 := x1)  1000 0 g _ e9 _ _ ?_
        change ic_Ev mX6_calls 94 [(0, ic_R 0 0 0)] [] g8 _ _
        refine ev_aload_n (a := 1) (b := 18) rfl rfl ?_
        refine ev_get (a := 1) (b := 19) 6 0 rfl rfl (Nat.le_of_ble_eq_true rfl) lfX6_10 (gX6_street) ?_
        refine ev_iconst (a := 1) (b := 20) 5 rfl (by decide) ?_
        refine ev_iconst (a := 1) (b := 21) 1 rfl (by decide) ?_
        obtain ⟨v12, g10, e11, h⟩ := ic_b2E h
        refine ev_ivI (a := 1) (b := 22) [ic_I 5, ic_I 1] rfl okX2_thingsWith rfl lmX6_115 rfl (rc1 (by decide)) (Nat.le_of_ble_eq_true rfl) (eX2_thingsWith e11) (Nat.le_of_ble_eq_true rfl) rfl ?_
        obtain ⟨rfl, rfl⟩ := ic_s2 h
        exact ev_ireturn (a := 1) (b := 23) rfl rfl rfl
      · have h := (if_neg c6).symm.trans h
        refine ev_aload_n (a := 0) (b := 17) rfl rfl ?_
        refine ev_iconst (a := 0) (b := 18) 4 rfl (by decide) ?_
        obtain ⟨v15, g13, e14, h⟩ := ic_b2E h
        refine ev_ivI (a := 0) (b := 19) [ic_I 4] rfl okX6_finding rfl lmX6_66 rfl (rc0) (Nat.le_of_ble_eq_true rfl) (eX6_finding e14) (Nat.le_of_ble_eq_true rfl) rfl ?_
        obtain ⟨rfl, rfl⟩ := ic_s2 h
        exact ev_ireturn (a := 0) (b := 20) rfl rfl rfl
    · have h := (if_neg c5).symm.trans h
      refine ev_aload_n (a := 0) (b := 6) rfl rfl ?_
      refine ev_iconst (a := 0) (b := 7) 0 rfl (by decide) ?_
      obtain ⟨v18, g16, e17, h⟩ := ic_b2E h
      refine ev_ivI (a := 0) (b := 8) [ic_I 0] rfl okX6_finding rfl lmX6_66 rfl (rc0) (Nat.le_of_ble_eq_true rfl) (eX6_finding e17) (Nat.le_of_ble_eq_true rfl) rfl ?_
      obtain ⟨rfl, rfl⟩ := ic_s2 h
      exact ev_ireturn (a := 0) (b := 9) rfl rfl rfl
set_option maxRecDepth 20000 in
theorem tX6_power_5 {x0 : Int32} {x1 : Int32} : ∀ (n : Nat) (x2 : Int64) (x4 : Int32) (g : ic_S) (q : (Int64) × ic_S), lX6_power_5 x0 x1 n x2 x4 g = some q → ∀ (r : Option ic_V) (g' : ic_S), ic_Ev mX6_power 22 [(2, ic_J q.1)] [] q.2 r g' → ic_Ev mX6_power 5 [(0, ic_I x0), (1, ic_I x1), (2, ic_J x2), (4, ic_I x4)] [] g r g' := by
  intro n
  induction n with
  | zero => intro x2 x4 g q h; cases h
  | succ n ih =>
    intro x2 x4 g q h r g' hq
    rw [lX6_power_5] at h
    refine ev_iload (a := 0) (b := 4) rfl rfl ?_
    refine ev_iload_n (a := 0) (b := 5) rfl rfl ?_
    refine ev_icge (a := 0) (b := 6) 22 rfl rfl (fun c1001 => ?_) (fun c1001 => ?_)
    · have h := (if_pos c1001).symm.trans h
      obtain rfl := ic_s1 h
      exact ev_fw (lv' := [(2, ic_J x2)]) hq (And.intro rfl trivial)
    · have h := (if_neg c1001).symm.trans h
      refine ev_lload_n (a := 0) (b := 7) rfl rfl ?_
      refine ev_iload_n (a := 0) (b := 8) rfl rfl ?_
      refine ev_i2l (a := 0) (b := 9) rfl ?_
      refine ev_lmul (a := 0) (b := 10) rfl ?_
      obtain ⟨y1002, ey1002, h⟩ := ic_letE h
      refine ev_topJ ey1002 ?_
      refine ev_lstore_n (a := 0) (b := 11) [(0, ic_I x0), (1, ic_I x1), (2, ic_J y1002), (4, ic_I x4)] rfl (by decide) (And.intro (Or.inr (And.intro rfl rfl)) (And.intro (Or.inr (And.intro rfl rfl)) (And.intro (Or.inl rfl) (And.intro (Or.inr (And.intro rfl rfl)) trivial)))) ?_
      refine ev_iinc (a := 0) (b := 12) (x4 + 1) [(0, ic_I x0), (1, ic_I x1), (2, ic_J y1002), (4, ic_I (x4 + 1))] rfl rfl (by first | rfl | decide) (by decide) (And.intro (Or.inr (And.intro rfl rfl)) (And.intro (Or.inr (And.intro rfl rfl)) (And.intro (Or.inr (And.intro rfl rfl)) (And.intro (Or.inl rfl) trivial)))) ?_
      refine ev_goto (a := 0) (b := 13) 5 rfl rfl ?_
      refine ev_fw (lv' := [(0, ic_I x0), (1, ic_I x1), (2, ic_J y1002), (4, ic_I (x4 + 1))]) ?_ (And.intro rfl (And.intro rfl (And.intro rfl (And.intro rfl trivial))))
      exact ih y1002 (x4 + 1) g _ h _ _ hq
set_option maxRecDepth 20000 in
theorem eX6_power {x0 : Int32} {x1 : Int32} {g g' : ic_S} {v : Int64} (h : fX6_power x0 x1 g = some (v, g')) : ic_Ev mX6_power 0 (ic_ag 0 [ic_I x0, ic_I x1]) [] g (some (ic_J v)) g' := by
  unfold fX6_power at h
  change ic_Ev mX6_power 0 [(0, ic_I x0), (1, ic_I x1)] [] g _ _
  refine ev_lconst (a := 0) (b := 0) 1 rfl (by decide) ?_
  refine ev_lstore_n (a := 0) (b := 1) [(0, ic_I x0), (1, ic_I x1), (2, ic_J 1)] rfl (by decide) (And.intro (Or.inr (And.intro rfl rfl)) (And.intro (Or.inr (And.intro rfl rfl)) (And.intro (Or.inl rfl) trivial))) ?_
  refine ev_iconst (a := 0) (b := 2) 0 rfl (by decide) ?_
  refine ev_istore (a := 0) (b := 3) [(0, ic_I x0), (1, ic_I x1), (2, ic_J 1), (4, ic_I 0)] rfl (by decide) (And.intro (Or.inr (And.intro rfl rfl)) (And.intro (Or.inr (And.intro rfl rfl)) (And.intro (Or.inr (And.intro rfl rfl)) (And.intro (Or.inl rfl) trivial)))) ?_
  refine ev_fw (lv' := [(0, ic_I x0), (1, ic_I x1), (2, ic_J 1), (4, ic_I 0)]) ?_ (And.intro rfl (And.intro rfl (And.intro rfl (And.intro rfl trivial))))
  obtain ⟨y1, g2, e3, h⟩ := ic_b2E h
  refine tX6_power_5 (x0 := x0) (x1 := x1)  1000 1 0 g _ e3 _ _ ?_
  change ic_Ev mX6_power 22 [(2, ic_J y1)] [] g2 _ _
  refine ev_lload_n (a := 0) (b := 14) rfl rfl ?_
  obtain ⟨rfl, rfl⟩ := ic_s2 h
  exact ev_lreturn (a := 0) (b := 15) rfl rfl
set_option maxRecDepth 20000 in
theorem tX6_odds_64 {x3 : Int32} {x4 : Int32} : ∀ (n : Nat) (x5 : Int32) (x6 : Int32) (g : ic_S) (q : (Int32 × Int32) × ic_S), lX6_odds_64 x3 x4 n x5 x6 g = some q → ∀ (r : Option ic_V) (g' : ic_S), ic_Ev mX6_odds 92 [(3, ic_I x3), (4, ic_I x4), (5, ic_I q.1.1), (6, ic_I q.1.2)] [] q.2 r g' → ic_Ev mX6_odds 64 [(3, ic_I x3), (4, ic_I x4), (5, ic_I x5), (6, ic_I x6)] [] g r g' := by
  intro n
  induction n with
  | zero => intro x5 x6 g q h; cases h
  | succ n ih =>
    intro x5 x6 g q h r g' hq
    rw [lX6_odds_64] at h
    refine ev_iload (a := 1) (b := 1) rfl rfl ?_
    refine ev_iconst (a := 1) (b := 2) 1 rfl (by decide) ?_
    refine ev_icle (a := 1) (b := 3) 92 rfl rfl (fun c1001 => ?_) (fun c1001 => ?_)
    · have h := (if_pos c1001).symm.trans h
      obtain rfl := ic_s1 h
      exact ev_fw (lv' := [(3, ic_I x3), (4, ic_I x4), (5, ic_I x5), (6, ic_I x6)]) hq (And.intro rfl (And.intro rfl (And.intro rfl (And.intro rfl trivial))))
    · have h := (if_neg c1001).symm.trans h
      refine ev_iload (a := 1) (b := 4) rfl rfl ?_
      refine ev_iconst (a := 1) (b := 5) 2 rfl (by decide) ?_
      refine ev_irem (a := 1) (b := 6) rfl (by decide) ?_
      refine ev_ifne (a := 1) (b := 7) 92 rfl rfl (fun c1002 => ?_) (fun c1002 => ?_)
      · have h := (if_neg c1002).symm.trans h
        obtain rfl := ic_s1 h
        exact ev_fw (lv' := [(3, ic_I x3), (4, ic_I x4), (5, ic_I x5), (6, ic_I x6)]) hq (And.intro rfl (And.intro rfl (And.intro rfl (And.intro rfl trivial))))
      · have h := (if_pos c1002).symm.trans h
        refine ev_iload (a := 1) (b := 8) rfl rfl ?_
        refine ev_iconst (a := 1) (b := 9) 2 rfl (by decide) ?_
        refine ev_idiv (a := 1) (b := 10) rfl (by decide) ?_
        refine ev_istore (a := 1) (b := 11) [(3, ic_I x3), (4, ic_I x4), (5, ic_I (x5 / 2)), (6, ic_I x6)] rfl (by decide) (And.intro (Or.inr (And.intro rfl rfl)) (And.intro (Or.inr (And.intro rfl rfl)) (And.intro (Or.inl rfl) (And.intro (Or.inr (And.intro rfl rfl)) trivial)))) ?_
        refine ev_iload (a := 1) (b := 12) rfl rfl ?_
        refine ev_iconst (a := 1) (b := 13) 2 rfl (by decide) ?_
        refine ev_idiv (a := 1) (b := 14) rfl (by decide) ?_
        refine ev_istore (a := 1) (b := 15) [(3, ic_I x3), (4, ic_I x4), (5, ic_I (x5 / 2)), (6, ic_I (x6 / 2))] rfl (by decide) (And.intro (Or.inr (And.intro rfl rfl)) (And.intro (Or.inr (And.intro rfl rfl)) (And.intro (Or.inr (And.intro rfl rfl)) (And.intro (Or.inl rfl) trivial)))) ?_
        refine ev_goto (a := 1) (b := 16) 64 rfl rfl ?_
        refine ev_fw (lv' := [(3, ic_I x3), (4, ic_I x4), (5, ic_I (x5 / 2)), (6, ic_I (x6 / 2))]) ?_ (And.intro rfl (And.intro rfl (And.intro rfl (And.intro rfl trivial))))
        exact ih (x5 / 2) (x6 / 2) g _ h _ _ hq
set_option maxRecDepth 20000 in
theorem eX6_odds {x1 : Int32} {x2 : Int32} {x3 : Int32} {x4 : Int32} {g g' : ic_S} {v : Int64} (h : fX6_odds x1 x2 x3 x4 g = some (v, g')) : ic_Ev mX6_odds 0 (ic_ag 0 [ic_R 0 0 0, ic_I x1, ic_I x2, ic_I x3, ic_I x4]) [] g (some (ic_J v)) g' := by
  unfold fX6_odds at h
  change ic_Ev mX6_odds 0 [(0, ic_R 0 0 0), (1, ic_I x1), (2, ic_I x2), (3, ic_I x3), (4, ic_I x4)] [] g _ _
  refine ev_aload_n (a := 0) (b := 0) rfl rfl ?_
  refine ev_get (a := 0) (b := 1) 6 0 rfl rfl (Nat.le_of_ble_eq_true rfl) lfX6_10 (gX6_street) ?_
  refine ev_iload_n (a := 0) (b := 2) rfl rfl ?_
  obtain ⟨v3, g1, e2, h⟩ := ic_b2E h
  refine ev_ivI (a := 0) (b := 3) [ic_I x1] rfl okX2_hasThing rfl lmX6_90 rfl (rc1 (by decide)) (Nat.le_of_ble_eq_true rfl) (eX2_hasThing e2) (Nat.le_of_ble_eq_true rfl) rfl ?_
  refine ev_ifeq (a := 0) (b := 4) 42 rfl rfl (fun c4 => ?_) (fun c4 => ?_)
  · have h := (if_pos c4).symm.trans h
    refine ev_aload_n (a := 0) (b := 20) rfl rfl ?_
    refine ev_iconst (a := 0) (b := 21) 0 rfl (by decide) ?_
    obtain ⟨v7, g5, e6, h⟩ := ic_b2E h
    refine ev_ivI (a := 0) (b := 22) [ic_I 0] rfl okX6_finding rfl lmX6_66 rfl (rc0) (Nat.le_of_ble_eq_true rfl) (eX6_finding e6) (Nat.le_of_ble_eq_true rfl) rfl ?_
    refine ev_i2l (a := 0) (b := 23) rfl ?_
    obtain ⟨rfl, rfl⟩ := ic_s2 h
    exact ev_lreturn (a := 0) (b := 24) rfl rfl
  · have h := (if_neg c4).symm.trans h
    refine ev_iload_n (a := 0) (b := 5) rfl rfl ?_
    refine ev_iflt (a := 0) (b := 6) 42 rfl rfl (fun c8 => ?_) (fun c8 => ?_)
    · have h := (if_pos c8).symm.trans h
      refine ev_aload_n (a := 0) (b := 20) rfl rfl ?_
      refine ev_iconst (a := 0) (b := 21) 0 rfl (by decide) ?_
      obtain ⟨v11, g9, e10, h⟩ := ic_b2E h
      refine ev_ivI (a := 0) (b := 22) [ic_I 0] rfl okX6_finding rfl lmX6_66 rfl (rc0) (Nat.le_of_ble_eq_true rfl) (eX6_finding e10) (Nat.le_of_ble_eq_true rfl) rfl ?_
      refine ev_i2l (a := 0) (b := 23) rfl ?_
      obtain ⟨rfl, rfl⟩ := ic_s2 h
      exact ev_lreturn (a := 0) (b := 24) rfl rfl
    · have h := (if_neg c8).symm.trans h
      refine ev_iload_n (a := 0) (b := 7) rfl rfl ?_
      refine ev_bipush (a := 0) (b := 8) 99 rfl (by decide) ?_
      refine ev_icgt (a := 0) (b := 9) 42 rfl rfl (fun c12 => ?_) (fun c12 => ?_)
      · have h := (if_pos c12).symm.trans h
        refine ev_aload_n (a := 0) (b := 20) rfl rfl ?_
        refine ev_iconst (a := 0) (b := 21) 0 rfl (by decide) ?_
        obtain ⟨v15, g13, e14, h⟩ := ic_b2E h
        refine ev_ivI (a := 0) (b := 22) [ic_I 0] rfl okX6_finding rfl lmX6_66 rfl (rc0) (Nat.le_of_ble_eq_true rfl) (eX6_finding e14) (Nat.le_of_ble_eq_true rfl) rfl ?_
        refine ev_i2l (a := 0) (b := 23) rfl ?_
        obtain ⟨rfl, rfl⟩ := ic_s2 h
        exact ev_lreturn (a := 0) (b := 24) rfl rfl
      · have h := (if_neg c12).symm.trans h
        refine ev_iload_n (a := 0) (b := 10) rfl rfl ?_
        refine ev_iflt (a := 0) (b := 11) 42 rfl rfl (fun c16 => ?_) (fun c16 => ?_)
        · have h := (if_pos c16).symm.trans h
          refine ev_aload_n (a := 0) (b := 20) rfl rfl ?_
          refine ev_iconst (a := 0) (b := 21) 0 rfl (by decide) ?_
          obtain ⟨v19, g17, e18, h⟩ := ic_b2E h
          refine ev_ivI (a := 0) (b := 22) [ic_I 0] rfl okX6_finding rfl lmX6_66 rfl (rc0) (Nat.le_of_ble_eq_true rfl) (eX6_finding e18) (Nat.le_of_ble_eq_true rfl) rfl ?_
          refine ev_i2l (a := 0) (b := 23) rfl ?_
          obtain ⟨rfl, rfl⟩ := ic_s2 h
          exact ev_lreturn (a := 0) (b := 24) rfl rfl
        · have h := (if_neg c16).symm.trans h
          refine ev_iload_n (a := 0) (b := 12) rfl rfl ?_
          refine ev_bipush (a := 0) (b := 13) 15 rfl (by decide) ?_
          refine ev_icgt (a := 0) (b := 14) 42 rfl rfl (fun c20 => ?_) (fun c20 => ?_)
          · have h := (if_pos c20).symm.trans h
            refine ev_aload_n (a := 0) (b := 20) rfl rfl ?_
            refine ev_iconst (a := 0) (b := 21) 0 rfl (by decide) ?_
            obtain ⟨v23, g21, e22, h⟩ := ic_b2E h
            refine ev_ivI (a := 0) (b := 22) [ic_I 0] rfl okX6_finding rfl lmX6_66 rfl (rc0) (Nat.le_of_ble_eq_true rfl) (eX6_finding e22) (Nat.le_of_ble_eq_true rfl) rfl ?_
            refine ev_i2l (a := 0) (b := 23) rfl ?_
            obtain ⟨rfl, rfl⟩ := ic_s2 h
            exact ev_lreturn (a := 0) (b := 24) rfl rfl
          · have h := (if_neg c20).symm.trans h
            refine ev_iload (a := 0) (b := 15) rfl rfl ?_
            refine ev_iflt (a := 0) (b := 16) 42 rfl rfl (fun c24 => ?_) (fun c24 => ?_)
            · have h := (if_pos c24).symm.trans h
              refine ev_aload_n (a := 0) (b := 20) rfl rfl ?_
              refine ev_iconst (a := 0) (b := 21) 0 rfl (by decide) ?_
              obtain ⟨v27, g25, e26, h⟩ := ic_b2E h
              refine ev_ivI (a := 0) (b := 22) [ic_I 0] rfl okX6_finding rfl lmX6_66 rfl (rc0) (Nat.le_of_ble_eq_true rfl) (eX6_finding e26) (Nat.le_of_ble_eq_true rfl) rfl ?_
              refine ev_i2l (a := 0) (b := 23) rfl ?_
              obtain ⟨rfl, rfl⟩ := ic_s2 h
              exact ev_lreturn (a := 0) (b := 24) rfl rfl
            · have h := (if_neg c24).symm.trans h
              refine ev_iload (a := 0) (b := 17) rfl rfl ?_
              refine ev_iconst (a := 0) (b := 18) 1 rfl (by decide) ?_
              refine ev_icle (a := 0) (b := 19) 49 rfl rfl (fun c28 => ?_) (fun c28 => ?_)
              · have h := (if_pos c28).symm.trans h
                refine ev_aload_n (a := 0) (b := 25) rfl rfl ?_
                refine ev_get (a := 0) (b := 26) 6 0 rfl rfl (Nat.le_of_ble_eq_true rfl) lfX6_10 (gX6_street) ?_
                refine ev_iload_n (a := 0) (b := 27) rfl rfl ?_
                refine ev_iload_n (a := 0) (b := 28) rfl rfl ?_
                obtain ⟨v31, g29, e30, h⟩ := ic_b2E h
                refine ev_ivI (a := 0) (b := 29) [ic_I x1, ic_I x2] rfl okX2_cellsToFeel rfl lmX6_166 rfl (rc1 (by decide)) (Nat.le_of_ble_eq_true rfl) (eX2_cellsToFeel e30) (Nat.le_of_ble_eq_true rfl) rfl ?_
                refine ev_istore (a := 0) (b := 30) [(3, ic_I x3), (4, ic_I x4), (5, ic_I v31)] rfl (by decide) (And.intro (Or.inr (And.intro rfl rfl)) (And.intro (Or.inr (And.intro rfl rfl)) (And.intro (Or.inl rfl) trivial))) ?_
                refine ev_bipush (a := 0) (b := 31) 16 rfl (by decide) ?_
                refine ev_istore (a := 1) (b := 0) [(3, ic_I x3), (4, ic_I x4), (5, ic_I v31), (6, ic_I 16)] rfl (by decide) (And.intro (Or.inr (And.intro rfl rfl)) (And.intro (Or.inr (And.intro rfl rfl)) (And.intro (Or.inr (And.intro rfl rfl)) (And.intro (Or.inl rfl) trivial)))) ?_
                refine ev_fw (lv' := [(3, ic_I x3), (4, ic_I x4), (5, ic_I v31), (6, ic_I 16)]) ?_ (And.intro rfl (And.intro rfl (And.intro rfl (And.intro rfl trivial))))
                obtain ⟨y32, g33, e34, h⟩ := ic_b2E h
                refine tX6_odds_64 (x3 := x3) (x4 := x4)  1000 v31 16 g29 _ e34 _ _ ?_
                change ic_Ev mX6_odds 92 [(3, ic_I x3), (4, ic_I x4), (5, ic_I y32.1), (6, ic_I y32.2)] [] g33 _ _
                refine ev_iload (a := 1) (b := 17) rfl rfl ?_
                refine ev_ifne (a := 1) (b := 18) 102 rfl rfl (fun c35 => ?_) (fun c35 => ?_)
                · have h := (if_neg c35).symm.trans h
                  refine ev_iload (a := 1) (b := 21) rfl rfl ?_
                  refine ev_iload_n (a := 1) (b := 22) rfl rfl ?_
                  obtain ⟨v38, g36, e37, h⟩ := ic_b2E h
                  refine ev_isJ (a := 1) (b := 23) [ic_I y32.2, ic_I x3] rfl okX6_power rfl lmX6_169 rfl (Nat.le_of_ble_eq_true rfl) (eX6_power e37) (Nat.le_of_ble_eq_true rfl) rfl ?_
                  obtain ⟨rfl, rfl⟩ := ic_s2 h
                  exact ev_lreturn (a := 1) (b := 24) rfl rfl
                · have h := (if_pos c35).symm.trans h
                  refine ev_iload (a := 1) (b := 19) rfl rfl ?_
                  refine ev_goto (a := 1) (b := 20) 104 rfl rfl ?_
                  refine ev_iload_n (a := 1) (b := 22) rfl rfl ?_
                  obtain ⟨v41, g39, e40, h⟩ := ic_b2E h
                  refine ev_isJ (a := 1) (b := 23) [ic_I y32.1, ic_I x3] rfl okX6_power rfl lmX6_169 rfl (Nat.le_of_ble_eq_true rfl) (eX6_power e40) (Nat.le_of_ble_eq_true rfl) rfl ?_
                  obtain ⟨rfl, rfl⟩ := ic_s2 h
                  exact ev_lreturn (a := 1) (b := 24) rfl rfl
              · have h := (if_neg c28).symm.trans h
                refine ev_aload_n (a := 0) (b := 20) rfl rfl ?_
                refine ev_iconst (a := 0) (b := 21) 0 rfl (by decide) ?_
                obtain ⟨v44, g42, e43, h⟩ := ic_b2E h
                refine ev_ivI (a := 0) (b := 22) [ic_I 0] rfl okX6_finding rfl lmX6_66 rfl (rc0) (Nat.le_of_ble_eq_true rfl) (eX6_finding e43) (Nat.le_of_ble_eq_true rfl) rfl ?_
                refine ev_i2l (a := 0) (b := 23) rfl ?_
                obtain ⟨rfl, rfl⟩ := ic_s2 h
                exact ev_lreturn (a := 0) (b := 24) rfl rfl
set_option maxRecDepth 20000 in
theorem eX6_seed {x1 : Int32} {g g' : ic_S} {v : Int32} (h : fX6_seed x1 g = some (v, g')) : ic_Ev mX6_seed 0 (ic_ag 0 [ic_R 0 0 0, ic_I x1]) [] g (some (ic_I v)) g' := by
  unfold fX6_seed at h
  change ic_Ev mX6_seed 0 [(0, ic_R 0 0 0), (1, ic_I x1)] [] g _ _
  refine ev_aload_n (a := 0) (b := 0) rfl rfl ?_
  refine ev_get (a := 0) (b := 1) 6 0 rfl rfl (Nat.le_of_ble_eq_true rfl) lfX6_10 (gX6_street) ?_
  refine ev_get (a := 0) (b := 2) 2 5 rfl rfl (Nat.le_of_ble_eq_true rfl) lfX6_173 (gX2_z (by decide)) ?_
  refine ev_istore_n (a := 0) (b := 3) [(0, ic_R 0 0 0), (1, ic_I x1), (2, ic_I (g.1 0 2))] rfl (by decide) (And.intro (Or.inr (And.intro rfl rfl)) (And.intro (Or.inr (And.intro rfl rfl)) (And.intro (Or.inl rfl) trivial))) ?_
  refine ev_aload_n (a := 0) (b := 4) rfl rfl ?_
  refine ev_get (a := 0) (b := 5) 6 0 rfl rfl (Nat.le_of_ble_eq_true rfl) lfX6_10 (gX6_street) ?_
  refine ev_iload_n (a := 0) (b := 6) rfl rfl ?_
  obtain ⟨g1, eg1, h⟩ := ic_letE h
  refine ev_put (a := 0) (b := 7) 2 5 rfl rfl (Nat.le_of_ble_eq_true rfl) lfX6_173 rfl (pX2_z (by decide) eg1) ?_
  refine ev_iload_n (a := 0) (b := 8) rfl rfl ?_
  obtain ⟨rfl, rfl⟩ := ic_s2 h
  exact ev_ireturn (a := 0) (b := 9) rfl rfl rfl
set_option maxRecDepth 20000 in
theorem tX6_feed_40 {x1 : Int32} : ∀ (n : Nat) (x3 : Int32) (g : ic_S) (q : Unit × ic_S), lX6_feed_40 x1 n x3 g = some q → ∀ (r : Option ic_V) (g' : ic_S), ic_Ev mX6_feed 67 [(0, ic_R 0 0 0)] [] q.2 r g' → ic_Ev mX6_feed 40 [(0, ic_R 0 0 0), (1, ic_I x1), (3, ic_I x3)] [] g r g' := by
  intro n
  induction n with
  | zero => intro x3 g q h; cases h
  | succ n ih =>
    intro x3 g q h r g' hq
    rw [lX6_feed_40] at h
    refine ev_iload_n (a := 0) (b := 25) rfl rfl ?_
    refine ev_iflt (a := 0) (b := 26) 67 rfl rfl (fun c1001 => ?_) (fun c1001 => ?_)
    · have h := (if_pos c1001).symm.trans h
      obtain rfl := ic_s1 h
      exact ev_fw (lv' := [(0, ic_R 0 0 0)]) hq (And.intro rfl trivial)
    · have h := (if_neg c1001).symm.trans h
      refine ev_aload_n (a := 0) (b := 27) rfl rfl ?_
      refine ev_get (a := 0) (b := 28) 6 4 rfl rfl (Nat.le_of_ble_eq_true rfl) lfX6_29 (gX6_tape) ?_
      refine ev_iload_n (a := 0) (b := 29) rfl rfl ?_
      refine ev_bipush (a := 0) (b := 30) 8 rfl (by decide) ?_
      refine ev_iload_n (a := 0) (b := 31) rfl rfl ?_
      refine ev_imul (a := 1) (b := 0) rfl ?_
      refine ev_ishr (a := 1) (b := 1) rfl ?_
      refine ev_sipush (a := 1) (b := 2) 255 rfl (by decide) ?_
      refine ev_iand (a := 1) (b := 3) rfl ?_
      obtain ⟨g1002, e1003, h⟩ := ic_b1E h
      refine ev_ivV (a := 1) (b := 4) [ic_I ((x1 >>> ((8 * x3) &&& 31)) &&& 255)] rfl okX3_append rfl lmX6_179 rfl (rc5) (Nat.le_of_ble_eq_true rfl) (eX3_append e1003) (Nat.le_of_ble_eq_true rfl) rfl ?_
      refine ev_iinc (a := 1) (b := 5) (x3 + (-1)) [(0, ic_R 0 0 0), (1, ic_I x1), (3, ic_I (x3 + (-1)))] rfl rfl (by first | rfl | decide) (by decide) (And.intro (Or.inr (And.intro rfl rfl)) (And.intro (Or.inr (And.intro rfl rfl)) (And.intro (Or.inl rfl) trivial))) ?_
      refine ev_goto (a := 1) (b := 6) 40 rfl rfl ?_
      refine ev_fw (lv' := [(0, ic_R 0 0 0), (1, ic_I x1), (3, ic_I (x3 + (-1)))]) ?_ (And.intro rfl (And.intro rfl (And.intro rfl trivial)))
      exact ih (x3 + (-1)) g1002 _ h _ _ hq
set_option maxRecDepth 20000 in
theorem eX6_feed {x1 : Int32} {x2 : Int32} {g g' : ic_S} {v : Int32} (h : fX6_feed x1 x2 g = some (v, g')) : ic_Ev mX6_feed 0 (ic_ag 0 [ic_R 0 0 0, ic_I x1, ic_I x2]) [] g (some (ic_I v)) g' := by
  unfold fX6_feed at h
  change ic_Ev mX6_feed 0 [(0, ic_R 0 0 0), (1, ic_I x1), (2, ic_I x2)] [] g _ _
  refine ev_iload_n (a := 0) (b := 0) rfl rfl ?_
  refine ev_iconst (a := 0) (b := 1) 1 rfl (by decide) ?_
  refine ev_iclt (a := 0) (b := 2) 10 rfl rfl (fun c1 => ?_) (fun c1 => ?_)
  · have h := (if_pos c1).symm.trans h
    refine ev_aload_n (a := 0) (b := 6) rfl rfl ?_
    refine ev_iconst (a := 0) (b := 7) 0 rfl (by decide) ?_
    obtain ⟨v4, g2, e3, h⟩ := ic_b2E h
    refine ev_ivI (a := 0) (b := 8) [ic_I 0] rfl okX6_finding rfl lmX6_66 rfl (rc0) (Nat.le_of_ble_eq_true rfl) (eX6_finding e3) (Nat.le_of_ble_eq_true rfl) rfl ?_
    obtain ⟨rfl, rfl⟩ := ic_s2 h
    exact ev_ireturn (a := 0) (b := 9) rfl rfl rfl
  · have h := (if_neg c1).symm.trans h
    refine ev_iload_n (a := 0) (b := 3) rfl rfl ?_
    refine ev_iconst (a := 0) (b := 4) 4 rfl (by decide) ?_
    refine ev_icle (a := 0) (b := 5) 16 rfl rfl (fun c5 => ?_) (fun c5 => ?_)
    · have h := (if_pos c5).symm.trans h
      refine ev_aload_n (a := 0) (b := 10) rfl rfl ?_
      refine ev_get (a := 0) (b := 11) 6 4 rfl rfl (Nat.le_of_ble_eq_true rfl) lfX6_29 (gX6_tape) ?_
      refine ev_get (a := 0) (b := 12) 3 0 rfl rfl (Nat.le_of_ble_eq_true rfl) lfX6_176 (gX3_size) ?_
      refine ev_iload_n (a := 0) (b := 13) rfl rfl ?_
      refine ev_iadd (a := 0) (b := 14) rfl ?_
      refine ev_bipush (a := 0) (b := 15) 120 rfl (by decide) ?_
      refine ev_icle (a := 0) (b := 16) 36 rfl rfl (fun c6 => ?_) (fun c6 => ?_)
      · have h := (if_pos c6).symm.trans h
        refine ev_iload_n (a := 0) (b := 21) rfl rfl ?_
        refine ev_iconst (a := 0) (b := 22) 1 rfl (by decide) ?_
        refine ev_isub (a := 0) (b := 23) rfl ?_
        refine ev_istore_n (a := 0) (b := 24) [(0, ic_R 0 0 0), (1, ic_I x1), (3, ic_I (x2 - 1))] rfl (by decide) (And.intro (Or.inr (And.intro rfl rfl)) (And.intro (Or.inr (And.intro rfl rfl)) (And.intro (Or.inl rfl) trivial))) ?_
        refine ev_fw (lv' := [(0, ic_R 0 0 0), (1, ic_I x1), (3, ic_I (x2 - 1))]) ?_ (And.intro rfl (And.intro rfl (And.intro rfl trivial)))
        obtain ⟨y7, g8, e9, h⟩ := ic_b2E h
        refine tX6_feed_40 (x1 := x1)  1000 (x2 - 1) g _ e9 _ _ ?_
        change ic_Ev mX6_feed 67 [(0, ic_R 0 0 0)] [] g8 _ _
        refine ev_aload_n (a := 1) (b := 7) rfl rfl ?_
        refine ev_get (a := 1) (b := 8) 6 4 rfl rfl (Nat.le_of_ble_eq_true rfl) lfX6_29 (gX6_tape) ?_
        refine ev_get (a := 1) (b := 9) 3 0 rfl rfl (Nat.le_of_ble_eq_true rfl) lfX6_176 (gX3_size) ?_
        obtain ⟨rfl, rfl⟩ := ic_s2 h
        exact ev_ireturn (a := 1) (b := 10) rfl rfl rfl
      · have h := (if_neg c6).symm.trans h
        refine ev_aload_n (a := 0) (b := 17) rfl rfl ?_
        refine ev_iconst (a := 0) (b := 18) 1 rfl (by decide) ?_
        obtain ⟨v12, g10, e11, h⟩ := ic_b2E h
        refine ev_ivI (a := 0) (b := 19) [ic_I 1] rfl okX6_finding rfl lmX6_66 rfl (rc0) (Nat.le_of_ble_eq_true rfl) (eX6_finding e11) (Nat.le_of_ble_eq_true rfl) rfl ?_
        obtain ⟨rfl, rfl⟩ := ic_s2 h
        exact ev_ireturn (a := 0) (b := 20) rfl rfl rfl
    · have h := (if_neg c5).symm.trans h
      refine ev_aload_n (a := 0) (b := 6) rfl rfl ?_
      refine ev_iconst (a := 0) (b := 7) 0 rfl (by decide) ?_
      obtain ⟨v15, g13, e14, h⟩ := ic_b2E h
      refine ev_ivI (a := 0) (b := 8) [ic_I 0] rfl okX6_finding rfl lmX6_66 rfl (rc0) (Nat.le_of_ble_eq_true rfl) (eX6_finding e14) (Nat.le_of_ble_eq_true rfl) rfl ?_
      obtain ⟨rfl, rfl⟩ := ic_s2 h
      exact ev_ireturn (a := 0) (b := 9) rfl rfl rfl
set_option maxRecDepth 20000 in
theorem eX6_wipe {g g' : ic_S} {v : Int32} (h : fX6_wipe  g = some (v, g')) : ic_Ev mX6_wipe 0 (ic_ag 0 [ic_R 0 0 0]) [] g (some (ic_I v)) g' := by
  unfold fX6_wipe at h
  change ic_Ev mX6_wipe 0 [(0, ic_R 0 0 0)] [] g _ _
  refine ev_aload_n (a := 0) (b := 0) rfl rfl ?_
  refine ev_get (a := 0) (b := 1) 6 4 rfl rfl (Nat.le_of_ble_eq_true rfl) lfX6_29 (gX6_tape) ?_
  refine ev_get (a := 0) (b := 2) 3 0 rfl rfl (Nat.le_of_ble_eq_true rfl) lfX6_176 (gX3_size) ?_
  refine ev_istore_n (a := 0) (b := 3) [(0, ic_R 0 0 0), (1, ic_I (g.1 8 0))] rfl (by decide) (And.intro (Or.inr (And.intro rfl rfl)) (And.intro (Or.inl rfl) trivial)) ?_
  refine ev_aload_n (a := 0) (b := 4) rfl rfl ?_
  refine ev_get (a := 0) (b := 5) 6 4 rfl rfl (Nat.le_of_ble_eq_true rfl) lfX6_29 (gX6_tape) ?_
  refine ev_iconst (a := 0) (b := 6) 0 rfl (by decide) ?_
  obtain ⟨g1, eg1, h⟩ := ic_letE h
  refine ev_put (a := 0) (b := 7) 3 0 rfl rfl (Nat.le_of_ble_eq_true rfl) lfX6_176 rfl (pX3_size eg1) ?_
  refine ev_iload_n (a := 0) (b := 8) rfl rfl ?_
  obtain ⟨rfl, rfl⟩ := ic_s2 h
  exact ev_ireturn (a := 0) (b := 9) rfl rfl rfl
set_option maxRecDepth 20000 in
theorem eX6_text {g g' : ic_S} {v : Int32} (h : fX6_text  g = some (v, g')) : ic_Ev mX6_text 0 (ic_ag 0 [ic_R 0 0 0]) [] g (some (ic_I v)) g' := by
  unfold fX6_text at h
  change ic_Ev mX6_text 0 [(0, ic_R 0 0 0)] [] g _ _
  refine ev_aload_n (a := 0) (b := 0) rfl rfl ?_
  obtain ⟨g1, e2, h⟩ := ic_b1E h
  refine ev_ivV (a := 0) (b := 1) [] rfl okX6_startTrial rfl lmX6_131 rfl (rc0) (Nat.le_of_ble_eq_true rfl) (eX6_startTrial e2) (Nat.le_of_ble_eq_true rfl) rfl ?_
  refine ev_aload_n (a := 0) (b := 2) rfl rfl ?_
  refine ev_get (a := 0) (b := 3) 6 5 rfl rfl (Nat.le_of_ble_eq_true rfl) lfX6_38 (gX6_tokens) ?_
  obtain ⟨g3, e4, h⟩ := ic_b1E h
  refine ev_ivV (a := 0) (b := 4) [] rfl okX5_cut rfl lmX6_182 rfl (rc7) (Nat.le_of_ble_eq_true rfl) (eX5_cut e4) (Nat.le_of_ble_eq_true rfl) rfl ?_
  refine ev_aload_n (a := 0) (b := 5) rfl rfl ?_
  refine ev_get (a := 0) (b := 6) 6 6 rfl rfl (Nat.le_of_ble_eq_true rfl) lfX6_47 (gX6_reader) ?_
  obtain ⟨v7, g5, e6, h⟩ := ic_b2E h
  refine ev_ivI (a := 0) (b := 7) [] rfl okX0_readItems rfl lmX6_185 rfl (rc11) (Nat.le_of_ble_eq_true rfl) (eX0_readItems e6) (Nat.le_of_ble_eq_true rfl) rfl ?_
  refine ev_istore_n (a := 0) (b := 8) [(0, ic_R 0 0 0), (1, ic_I v7)] rfl (by decide) (And.intro (Or.inr (And.intro rfl rfl)) (And.intro (Or.inl rfl) trivial)) ?_
  refine ev_aload_n (a := 0) (b := 9) rfl rfl ?_
  refine ev_get (a := 0) (b := 10) 6 4 rfl rfl (Nat.le_of_ble_eq_true rfl) lfX6_29 (gX6_tape) ?_
  refine ev_iconst (a := 0) (b := 11) 0 rfl (by decide) ?_
  obtain ⟨g8, eg8, h⟩ := ic_letE h
  refine ev_put (a := 0) (b := 12) 3 0 rfl rfl (Nat.le_of_ble_eq_true rfl) lfX6_176 rfl (pX3_size eg8) ?_
  refine ev_iload_n (a := 0) (b := 13) rfl rfl ?_
  refine ev_iflt (a := 0) (b := 14) 42 rfl rfl (fun c9 => ?_) (fun c9 => ?_)
  · have h := (if_pos c9).symm.trans h
    refine ev_iload_n (a := 0) (b := 20) rfl rfl ?_
    obtain ⟨rfl, rfl⟩ := ic_s2 h
    exact ev_ireturn (a := 0) (b := 21) rfl rfl rfl
  · have h := (if_neg c9).symm.trans h
    refine ev_aload_n (a := 0) (b := 15) rfl rfl ?_
    refine ev_get (a := 0) (b := 16) 6 0 rfl rfl (Nat.le_of_ble_eq_true rfl) lfX6_10 (gX6_street) ?_
    refine ev_aload_n (a := 0) (b := 17) rfl rfl ?_
    refine ev_get (a := 0) (b := 18) 6 1 rfl rfl (Nat.le_of_ble_eq_true rfl) lfX6_16 (gX6_trial) ?_
    obtain ⟨g10, e11, h⟩ := ic_b1E h
    refine ev_ivV (a := 0) (b := 19) [ic_O 1 (some (1, 0))] rfl okX2_match rfl lmX6_188 rfl (rc1 (by decide)) (Nat.le_of_ble_eq_true rfl) (eX2_match e11) (Nat.le_of_ble_eq_true rfl) rfl ?_
    refine ev_iload_n (a := 0) (b := 20) rfl rfl ?_
    obtain ⟨rfl, rfl⟩ := ic_s2 h
    exact ev_ireturn (a := 0) (b := 21) rfl rfl rfl
set_option maxRecDepth 20000 in
theorem eX6_hold {x1 : Int32} {x2 : Int32} {g g' : ic_S} {v : Int32} (h : fX6_hold x1 x2 g = some (v, g')) : ic_Ev mX6_hold 0 (ic_ag 0 [ic_R 0 0 0, ic_I x1, ic_I x2]) [] g (some (ic_I v)) g' := by
  unfold fX6_hold at h
  change ic_Ev mX6_hold 0 [(0, ic_R 0 0 0), (1, ic_I x1), (2, ic_I x2)] [] g _ _
  refine ev_iload_n (a := 0) (b := 0) rfl rfl ?_
  refine ev_iconst (a := 0) (b := 1) (-1) rfl (by decide) ?_
  refine ev_iceq (a := 0) (b := 2) 16 rfl rfl (fun c1 => ?_) (fun c1 => ?_)
  · have h := (if_pos c1).symm.trans h
    refine ev_iconst (a := 0) (b := 8) 1 rfl (by decide) ?_
    refine ev_goto (a := 0) (b := 9) 21 rfl rfl ?_
    refine ev_istore_n (a := 0) (b := 11) [(0, ic_R 0 0 0), (1, ic_I x1), (2, ic_I x2), (3, ic_I 1)] rfl (by decide) (And.intro (Or.inr (And.intro rfl rfl)) (And.intro (Or.inr (And.intro rfl rfl)) (And.intro (Or.inr (And.intro rfl rfl)) (And.intro (Or.inl rfl) trivial)))) ?_
    refine ev_aload_n (a := 0) (b := 12) rfl rfl ?_
    refine ev_get (a := 0) (b := 13) 6 0 rfl rfl (Nat.le_of_ble_eq_true rfl) lfX6_10 (gX6_street) ?_
    refine ev_iload_n (a := 0) (b := 14) rfl rfl ?_
    obtain ⟨v4, g2, e3, h⟩ := ic_b2E h
    refine ev_ivI (a := 0) (b := 15) [ic_I x1] rfl okX2_hasSpot rfl lmX6_192 rfl (rc1 (by decide)) (Nat.le_of_ble_eq_true rfl) (eX2_hasSpot e3) (Nat.le_of_ble_eq_true rfl) rfl ?_
    refine ev_ifeq (a := 0) (b := 16) 37 rfl rfl (fun c5 => ?_) (fun c5 => ?_)
    · have h := (if_pos c5).symm.trans h
      refine ev_aload_n (a := 0) (b := 19) rfl rfl ?_
      refine ev_iconst (a := 0) (b := 20) 0 rfl (by decide) ?_
      obtain ⟨v8, g6, e7, h⟩ := ic_b2E h
      refine ev_ivI (a := 0) (b := 21) [ic_I 0] rfl okX6_finding rfl lmX6_66 rfl (rc0) (Nat.le_of_ble_eq_true rfl) (eX6_finding e7) (Nat.le_of_ble_eq_true rfl) rfl ?_
      obtain ⟨rfl, rfl⟩ := ic_s2 h
      exact ev_ireturn (a := 0) (b := 22) rfl rfl rfl
    · have h := (if_neg c5).symm.trans h
      refine ev_iload_n (a := 0) (b := 17) rfl rfl ?_
      refine ev_ifne (a := 0) (b := 18) 43 rfl rfl (fun _ => ?_) (fun c => absurd c (by decide))
      refine ev_aload_n (a := 0) (b := 23) rfl rfl ?_
      refine ev_get (a := 0) (b := 24) 6 0 rfl rfl (Nat.le_of_ble_eq_true rfl) lfX6_10 (gX6_street) ?_
      refine ev_iload_n (a := 0) (b := 25) rfl rfl ?_
      refine ev_iload_n (a := 0) (b := 26) rfl rfl ?_
      obtain ⟨g9, e10, h⟩ := ic_b1E h
      refine ev_ivV (a := 0) (b := 27) [ic_I x1, ic_I x2] rfl okX2_putSpot rfl lmX6_195 rfl (rc1 (by decide)) (Nat.le_of_ble_eq_true rfl) (eX2_putSpot e10) (Nat.le_of_ble_eq_true rfl) rfl ?_
      refine ev_iconst (a := 0) (b := 28) 1 rfl (by decide) ?_
      obtain ⟨rfl, rfl⟩ := ic_s2 h
      exact ev_ireturn (a := 0) (b := 29) rfl rfl rfl
  · have h := (if_neg c1).symm.trans h
    refine ev_aload_n (a := 0) (b := 3) rfl rfl ?_
    refine ev_get (a := 0) (b := 4) 6 0 rfl rfl (Nat.le_of_ble_eq_true rfl) lfX6_10 (gX6_street) ?_
    refine ev_iload_n (a := 0) (b := 5) rfl rfl ?_
    obtain ⟨v13, g11, e12, h⟩ := ic_b2E h
    refine ev_ivI (a := 0) (b := 6) [ic_I x2] rfl okX2_hasThing rfl lmX6_90 rfl (rc1 (by decide)) (Nat.le_of_ble_eq_true rfl) (eX2_hasThing e12) (Nat.le_of_ble_eq_true rfl) rfl ?_
    refine ev_ifeq (a := 0) (b := 7) 20 rfl rfl (fun c14 => ?_) (fun c14 => ?_)
    · have h := (if_pos c14).symm.trans h
      refine ev_iconst (a := 0) (b := 10) 0 rfl (by decide) ?_
      refine ev_istore_n (a := 0) (b := 11) [(0, ic_R 0 0 0), (1, ic_I x1), (2, ic_I x2), (3, ic_I 0)] rfl (by decide) (And.intro (Or.inr (And.intro rfl rfl)) (And.intro (Or.inr (And.intro rfl rfl)) (And.intro (Or.inr (And.intro rfl rfl)) (And.intro (Or.inl rfl) trivial)))) ?_
      refine ev_aload_n (a := 0) (b := 12) rfl rfl ?_
      refine ev_get (a := 0) (b := 13) 6 0 rfl rfl (Nat.le_of_ble_eq_true rfl) lfX6_10 (gX6_street) ?_
      refine ev_iload_n (a := 0) (b := 14) rfl rfl ?_
      obtain ⟨v17, g15, e16, h⟩ := ic_b2E h
      refine ev_ivI (a := 0) (b := 15) [ic_I x1] rfl okX2_hasSpot rfl lmX6_192 rfl (rc1 (by decide)) (Nat.le_of_ble_eq_true rfl) (eX2_hasSpot e16) (Nat.le_of_ble_eq_true rfl) rfl ?_
      refine ev_ifeq (a := 0) (b := 16) 37 rfl rfl (fun c18 => ?_) (fun c18 => ?_)
      · have h := (if_pos c18).symm.trans h
        refine ev_aload_n (a := 0) (b := 19) rfl rfl ?_
        refine ev_iconst (a := 0) (b := 20) 0 rfl (by decide) ?_
        obtain ⟨v21, g19, e20, h⟩ := ic_b2E h
        refine ev_ivI (a := 0) (b := 21) [ic_I 0] rfl okX6_finding rfl lmX6_66 rfl (rc0) (Nat.le_of_ble_eq_true rfl) (eX6_finding e20) (Nat.le_of_ble_eq_true rfl) rfl ?_
        obtain ⟨rfl, rfl⟩ := ic_s2 h
        exact ev_ireturn (a := 0) (b := 22) rfl rfl rfl
      · have h := (if_neg c18).symm.trans h
        refine ev_iload_n (a := 0) (b := 17) rfl rfl ?_
        refine ev_ifne (a := 0) (b := 18) 43 rfl rfl (fun c => absurd (by decide) c) (fun _ => ?_)
        refine ev_aload_n (a := 0) (b := 19) rfl rfl ?_
        refine ev_iconst (a := 0) (b := 20) 0 rfl (by decide) ?_
        obtain ⟨v24, g22, e23, h⟩ := ic_b2E h
        refine ev_ivI (a := 0) (b := 21) [ic_I 0] rfl okX6_finding rfl lmX6_66 rfl (rc0) (Nat.le_of_ble_eq_true rfl) (eX6_finding e23) (Nat.le_of_ble_eq_true rfl) rfl ?_
        obtain ⟨rfl, rfl⟩ := ic_s2 h
        exact ev_ireturn (a := 0) (b := 22) rfl rfl rfl
    · have h := (if_neg c14).symm.trans h
      refine ev_iconst (a := 0) (b := 8) 1 rfl (by decide) ?_
      refine ev_goto (a := 0) (b := 9) 21 rfl rfl ?_
      refine ev_istore_n (a := 0) (b := 11) [(0, ic_R 0 0 0), (1, ic_I x1), (2, ic_I x2), (3, ic_I 1)] rfl (by decide) (And.intro (Or.inr (And.intro rfl rfl)) (And.intro (Or.inr (And.intro rfl rfl)) (And.intro (Or.inr (And.intro rfl rfl)) (And.intro (Or.inl rfl) trivial)))) ?_
      refine ev_aload_n (a := 0) (b := 12) rfl rfl ?_
      refine ev_get (a := 0) (b := 13) 6 0 rfl rfl (Nat.le_of_ble_eq_true rfl) lfX6_10 (gX6_street) ?_
      refine ev_iload_n (a := 0) (b := 14) rfl rfl ?_
      obtain ⟨v27, g25, e26, h⟩ := ic_b2E h
      refine ev_ivI (a := 0) (b := 15) [ic_I x1] rfl okX2_hasSpot rfl lmX6_192 rfl (rc1 (by decide)) (Nat.le_of_ble_eq_true rfl) (eX2_hasSpot e26) (Nat.le_of_ble_eq_true rfl) rfl ?_
      refine ev_ifeq (a := 0) (b := 16) 37 rfl rfl (fun c28 => ?_) (fun c28 => ?_)
      · have h := (if_pos c28).symm.trans h
        refine ev_aload_n (a := 0) (b := 19) rfl rfl ?_
        refine ev_iconst (a := 0) (b := 20) 0 rfl (by decide) ?_
        obtain ⟨v31, g29, e30, h⟩ := ic_b2E h
        refine ev_ivI (a := 0) (b := 21) [ic_I 0] rfl okX6_finding rfl lmX6_66 rfl (rc0) (Nat.le_of_ble_eq_true rfl) (eX6_finding e30) (Nat.le_of_ble_eq_true rfl) rfl ?_
        obtain ⟨rfl, rfl⟩ := ic_s2 h
        exact ev_ireturn (a := 0) (b := 22) rfl rfl rfl
      · have h := (if_neg c28).symm.trans h
        refine ev_iload_n (a := 0) (b := 17) rfl rfl ?_
        refine ev_ifne (a := 0) (b := 18) 43 rfl rfl (fun _ => ?_) (fun c => absurd c (by decide))
        refine ev_aload_n (a := 0) (b := 23) rfl rfl ?_
        refine ev_get (a := 0) (b := 24) 6 0 rfl rfl (Nat.le_of_ble_eq_true rfl) lfX6_10 (gX6_street) ?_
        refine ev_iload_n (a := 0) (b := 25) rfl rfl ?_
        refine ev_iload_n (a := 0) (b := 26) rfl rfl ?_
        obtain ⟨g32, e33, h⟩ := ic_b1E h
        refine ev_ivV (a := 0) (b := 27) [ic_I x1, ic_I x2] rfl okX2_putSpot rfl lmX6_195 rfl (rc1 (by decide)) (Nat.le_of_ble_eq_true rfl) (eX2_putSpot e33) (Nat.le_of_ble_eq_true rfl) rfl ?_
        refine ev_iconst (a := 0) (b := 28) 1 rfl (by decide) ?_
        obtain ⟨rfl, rfl⟩ := ic_s2 h
        exact ev_ireturn (a := 0) (b := 29) rfl rfl rfl
set_option maxRecDepth 20000 in
theorem eX6_as {x1 : Int32} {x2 : Int32} {g g' : ic_S} {v : Int32} (h : fX6_as x1 x2 g = some (v, g')) : ic_Ev mX6_as 0 (ic_ag 0 [ic_R 0 0 0, ic_I x1, ic_I x2]) [] g (some (ic_I v)) g' := by
  unfold fX6_as at h
  change ic_Ev mX6_as 0 [(0, ic_R 0 0 0), (1, ic_I x1), (2, ic_I x2)] [] g _ _
  refine ev_aload_n (a := 0) (b := 0) rfl rfl ?_
  refine ev_get (a := 0) (b := 1) 6 0 rfl rfl (Nat.le_of_ble_eq_true rfl) lfX6_10 (gX6_street) ?_
  refine ev_iload_n (a := 0) (b := 2) rfl rfl ?_
  obtain ⟨v3, g1, e2, h⟩ := ic_b2E h
  refine ev_ivI (a := 0) (b := 3) [ic_I x1] rfl okX2_hasSpot rfl lmX6_192 rfl (rc1 (by decide)) (Nat.le_of_ble_eq_true rfl) (eX2_hasSpot e2) (Nat.le_of_ble_eq_true rfl) rfl ?_
  refine ev_ifeq (a := 0) (b := 4) 18 rfl rfl (fun c4 => ?_) (fun c4 => ?_)
  · have h := (if_pos c4).symm.trans h
    refine ev_aload_n (a := 0) (b := 8) rfl rfl ?_
    refine ev_iconst (a := 0) (b := 9) 0 rfl (by decide) ?_
    obtain ⟨v7, g5, e6, h⟩ := ic_b2E h
    refine ev_ivI (a := 0) (b := 10) [ic_I 0] rfl okX6_finding rfl lmX6_66 rfl (rc0) (Nat.le_of_ble_eq_true rfl) (eX6_finding e6) (Nat.le_of_ble_eq_true rfl) rfl ?_
    obtain ⟨rfl, rfl⟩ := ic_s2 h
    exact ev_ireturn (a := 0) (b := 11) rfl rfl rfl
  · have h := (if_neg c4).symm.trans h
    refine ev_iload_n (a := 0) (b := 5) rfl rfl ?_
    obtain ⟨v10, g8, e9, h⟩ := ic_b2E h
    refine ev_isI (a := 0) (b := 6) [ic_I x2] rfl okX6_isKind rfl lmX6_76 rfl (Nat.le_of_ble_eq_true rfl) (eX6_isKind e9) (Nat.le_of_ble_eq_true rfl) rfl ?_
    refine ev_ifne (a := 0) (b := 7) 24 rfl rfl (fun c11 => ?_) (fun c11 => ?_)
    · have h := (if_neg c11).symm.trans h
      refine ev_aload_n (a := 0) (b := 12) rfl rfl ?_
      refine ev_get (a := 0) (b := 13) 6 0 rfl rfl (Nat.le_of_ble_eq_true rfl) lfX6_10 (gX6_street) ?_
      refine ev_iload_n (a := 0) (b := 14) rfl rfl ?_
      obtain ⟨v14, g12, e13, h⟩ := ic_b2E h
      refine ev_ivI (a := 0) (b := 15) [ic_I x1] rfl okX2_spotTold rfl lmX6_198 rfl (rc1 (by decide)) (Nat.le_of_ble_eq_true rfl) (eX2_spotTold e13) (Nat.le_of_ble_eq_true rfl) rfl ?_
      refine ev_istore_n (a := 0) (b := 16) [(0, ic_R 0 0 0), (2, ic_I x2), (3, ic_I v14)] rfl (by decide) (And.intro (Or.inr (And.intro rfl rfl)) (And.intro (Or.inr (And.intro rfl rfl)) (And.intro (Or.inl rfl) trivial))) ?_
      refine ev_iload_n (a := 0) (b := 17) rfl rfl ?_
      refine ev_iconst (a := 0) (b := 18) (-1) rfl (by decide) ?_
      refine ev_icne (a := 0) (b := 19) 44 rfl rfl (fun c15 => ?_) (fun c15 => ?_)
      · have h := (if_neg c15).symm.trans h
        refine ev_aload_n (a := 0) (b := 24) rfl rfl ?_
        refine ev_get (a := 0) (b := 25) 6 0 rfl rfl (Nat.le_of_ble_eq_true rfl) lfX6_10 (gX6_street) ?_
        refine ev_iload_n (a := 0) (b := 26) rfl rfl ?_
        refine ev_iload_n (a := 0) (b := 27) rfl rfl ?_
        obtain ⟨v18, g16, e17, h⟩ := ic_b2E h
        refine ev_ivI (a := 0) (b := 28) [ic_I v14, ic_I x2] rfl okX2_isOfKind rfl lmX6_201 rfl (rc1 (by decide)) (Nat.le_of_ble_eq_true rfl) (eX2_isOfKind e17) (Nat.le_of_ble_eq_true rfl) rfl ?_
        refine ev_ifeq (a := 0) (b := 29) 60 rfl rfl (fun c19 => ?_) (fun c19 => ?_)
        · have h := (if_pos c19).symm.trans h
          refine ev_aload_n (a := 1) (b := 0) rfl rfl ?_
          refine ev_iconst (a := 1) (b := 1) 2 rfl (by decide) ?_
          obtain ⟨v22, g20, e21, h⟩ := ic_b2E h
          refine ev_ivI (a := 1) (b := 2) [ic_I 2] rfl okX6_finding rfl lmX6_66 rfl (rc0) (Nat.le_of_ble_eq_true rfl) (eX6_finding e21) (Nat.le_of_ble_eq_true rfl) rfl ?_
          obtain ⟨rfl, rfl⟩ := ic_s2 h
          exact ev_ireturn (a := 1) (b := 3) rfl rfl rfl
        · have h := (if_neg c19).symm.trans h
          refine ev_iload_n (a := 0) (b := 30) rfl rfl ?_
          refine ev_goto (a := 0) (b := 31) 65 rfl rfl ?_
          obtain ⟨rfl, rfl⟩ := ic_s2 h
          exact ev_ireturn (a := 1) (b := 3) rfl rfl rfl
      · have h := (if_pos c15).symm.trans h
        refine ev_aload_n (a := 0) (b := 20) rfl rfl ?_
        refine ev_iconst (a := 0) (b := 21) 5 rfl (by decide) ?_
        obtain ⟨v25, g23, e24, h⟩ := ic_b2E h
        refine ev_ivI (a := 0) (b := 22) [ic_I 5] rfl okX6_finding rfl lmX6_66 rfl (rc0) (Nat.le_of_ble_eq_true rfl) (eX6_finding e24) (Nat.le_of_ble_eq_true rfl) rfl ?_
        obtain ⟨rfl, rfl⟩ := ic_s2 h
        exact ev_ireturn (a := 0) (b := 23) rfl rfl rfl
    · have h := (if_pos c11).symm.trans h
      refine ev_aload_n (a := 0) (b := 8) rfl rfl ?_
      refine ev_iconst (a := 0) (b := 9) 0 rfl (by decide) ?_
      obtain ⟨v28, g26, e27, h⟩ := ic_b2E h
      refine ev_ivI (a := 0) (b := 10) [ic_I 0] rfl okX6_finding rfl lmX6_66 rfl (rc0) (Nat.le_of_ble_eq_true rfl) (eX6_finding e27) (Nat.le_of_ble_eq_true rfl) rfl ?_
      obtain ⟨rfl, rfl⟩ := ic_s2 h
      exact ev_ireturn (a := 0) (b := 11) rfl rfl rfl
set_option maxRecDepth 20000 in
theorem eX6_sheet {x1 : Int32} {x2 : Int32} {x3 : Int32} {g g' : ic_S} {v : Int32} (h : fX6_sheet x1 x2 x3 g = some (v, g')) : ic_Ev mX6_sheet 0 (ic_ag 0 [ic_R 0 0 0, ic_I x1, ic_I x2, ic_I x3]) [] g (some (ic_I v)) g' := by
  unfold fX6_sheet at h
  change ic_Ev mX6_sheet 0 [(0, ic_R 0 0 0), (1, ic_I x1), (2, ic_I x2), (3, ic_I x3)] [] g _ _
  refine ev_aload_n (a := 0) (b := 0) rfl rfl ?_
  refine ev_iload_n (a := 0) (b := 1) rfl rfl ?_
  obtain ⟨v3, g1, e2, h⟩ := ic_b2E h
  refine ev_ivO (a := 0) (b := 2) [ic_I x1] rfl okX6_sheetAt rfl lmX6_204 rfl (rc0) (Nat.le_of_ble_eq_true rfl) (eX6_sheetAt e2) (Nat.le_of_ble_eq_true rfl) rfl ?_
  refine ev_astore (a := 0) (b := 3) [(0, ic_R 0 0 0), (2, ic_I x2), (3, ic_I x3), (4, ic_O 13 v3)] rfl (by decide) (And.intro (Or.inr (And.intro rfl rfl)) (And.intro (Or.inr (And.intro rfl rfl)) (And.intro (Or.inr (And.intro rfl rfl)) (And.intro (Or.inl rfl) trivial)))) ?_
  refine ev_aload (a := 0) (b := 4) rfl rfl ?_
  rcases v3 with _ | ⟨s4, t5⟩
  · replace h := ic_moN h
    refine ev_ifnull1 (a := 0) (b := 5) 34 rfl rfl ?_
    refine ev_aload_n (a := 0) (b := 17) rfl rfl ?_
    refine ev_iconst (a := 0) (b := 18) 0 rfl (by decide) ?_
    obtain ⟨v8, g6, e7, h⟩ := ic_b2E h
    refine ev_ivI (a := 0) (b := 19) [ic_I 0] rfl okX6_finding rfl lmX6_66 rfl (rc0) (Nat.le_of_ble_eq_true rfl) (eX6_finding e7) (Nat.le_of_ble_eq_true rfl) rfl ?_
    obtain ⟨rfl, rfl⟩ := ic_s2 h
    exact ev_ireturn (a := 0) (b := 20) rfl rfl rfl
  · replace h := ic_moS h
    have k9 := (ic_gdE h).1
    replace h := (ic_gdE h).2
    have ht0 : t5 < 1 := ic_vkt (C := 13) k9
    have hzk9 := h
    obtain rfl : t5 = 0 := by omega
    have h := hzk9
    refine ev_ifnull0 (a := 0) (b := 5) (show (13 : Nat) ≠ 26 by decide) rfl ?_
    refine ev_iload_n (a := 0) (b := 6) rfl rfl ?_
    refine ev_ifeq (a := 0) (b := 7) 40 rfl rfl (fun c10 => ?_) (fun c10 => ?_)
    · have h := (if_pos c10).symm.trans h
      refine ev_iload_n (a := 0) (b := 21) rfl rfl ?_
      refine ev_ifge (a := 0) (b := 22) 51 rfl rfl (fun c11 => ?_) (fun c11 => ?_)
      · have h := (if_pos c11).symm.trans h
        refine ev_iload_n (a := 0) (b := 27) rfl rfl ?_
        refine ev_bipush (a := 0) (b := 28) 40 rfl (by decide) ?_
        refine ev_icle (a := 0) (b := 29) 63 rfl rfl (fun c12 => ?_) (fun c12 => ?_)
        · have h := (if_pos c12).symm.trans h
          refine ev_aload (a := 1) (b := 2) rfl rfl ?_
          refine ev_iload_n (a := 1) (b := 3) rfl rfl ?_
          refine ev_iload_n (a := 1) (b := 4) rfl rfl ?_
          obtain ⟨g13, e14, h⟩ := ic_b1E h
          refine ev_ivV (a := 1) (b := 5) [ic_I x2, ic_I x3] rfl okX1_renew rfl lmX6_208 rfl (rc13 (ic_vks (C := 13) k9)) (Nat.le_of_ble_eq_true rfl) (eX1_renew e14) (Nat.le_of_ble_eq_true rfl) rfl ?_
          refine ev_aload (a := 1) (b := 6) rfl rfl ?_
          refine ev_get (a := 1) (b := 7) 1 1 rfl rfl (Nat.le_of_ble_eq_true rfl) lfX6_211 (gX1_size (ic_vks (C := 13) k9)) ?_
          obtain ⟨rfl, rfl⟩ := ic_s2 h
          exact ev_ireturn (a := 1) (b := 8) rfl rfl rfl
        · have h := (if_neg c12).symm.trans h
          refine ev_aload_n (a := 0) (b := 30) rfl rfl ?_
          refine ev_iconst (a := 0) (b := 31) 0 rfl (by decide) ?_
          obtain ⟨v17, g15, e16, h⟩ := ic_b2E h
          refine ev_ivI (a := 1) (b := 0) [ic_I 0] rfl okX6_finding rfl lmX6_66 rfl (rc0) (Nat.le_of_ble_eq_true rfl) (eX6_finding e16) (Nat.le_of_ble_eq_true rfl) rfl ?_
          obtain ⟨rfl, rfl⟩ := ic_s2 h
          exact ev_ireturn (a := 1) (b := 1) rfl rfl rfl
      · have h := (if_neg c11).symm.trans h
        refine ev_aload_n (a := 0) (b := 23) rfl rfl ?_
        refine ev_bipush (a := 0) (b := 24) 6 rfl (by decide) ?_
        obtain ⟨v20, g18, e19, h⟩ := ic_b2E h
        refine ev_ivI (a := 0) (b := 25) [ic_I 6] rfl okX6_finding rfl lmX6_66 rfl (rc0) (Nat.le_of_ble_eq_true rfl) (eX6_finding e19) (Nat.le_of_ble_eq_true rfl) rfl ?_
        obtain ⟨rfl, rfl⟩ := ic_s2 h
        exact ev_ireturn (a := 0) (b := 26) rfl rfl rfl
    · have h := (if_neg c10).symm.trans h
      refine ev_iload_n (a := 0) (b := 8) rfl rfl ?_
      refine ev_bipush (a := 0) (b := 9) 8 rfl (by decide) ?_
      refine ev_iceq (a := 0) (b := 10) 40 rfl rfl (fun c21 => ?_) (fun c21 => ?_)
      · have h := (if_pos c21).symm.trans h
        refine ev_iload_n (a := 0) (b := 21) rfl rfl ?_
        refine ev_ifge (a := 0) (b := 22) 51 rfl rfl (fun c22 => ?_) (fun c22 => ?_)
        · have h := (if_pos c22).symm.trans h
          refine ev_iload_n (a := 0) (b := 27) rfl rfl ?_
          refine ev_bipush (a := 0) (b := 28) 40 rfl (by decide) ?_
          refine ev_icle (a := 0) (b := 29) 63 rfl rfl (fun c23 => ?_) (fun c23 => ?_)
          · have h := (if_pos c23).symm.trans h
            refine ev_aload (a := 1) (b := 2) rfl rfl ?_
            refine ev_iload_n (a := 1) (b := 3) rfl rfl ?_
            refine ev_iload_n (a := 1) (b := 4) rfl rfl ?_
            obtain ⟨g24, e25, h⟩ := ic_b1E h
            refine ev_ivV (a := 1) (b := 5) [ic_I x2, ic_I x3] rfl okX1_renew rfl lmX6_208 rfl (rc13 (ic_vks (C := 13) k9)) (Nat.le_of_ble_eq_true rfl) (eX1_renew e25) (Nat.le_of_ble_eq_true rfl) rfl ?_
            refine ev_aload (a := 1) (b := 6) rfl rfl ?_
            refine ev_get (a := 1) (b := 7) 1 1 rfl rfl (Nat.le_of_ble_eq_true rfl) lfX6_211 (gX1_size (ic_vks (C := 13) k9)) ?_
            obtain ⟨rfl, rfl⟩ := ic_s2 h
            exact ev_ireturn (a := 1) (b := 8) rfl rfl rfl
          · have h := (if_neg c23).symm.trans h
            refine ev_aload_n (a := 0) (b := 30) rfl rfl ?_
            refine ev_iconst (a := 0) (b := 31) 0 rfl (by decide) ?_
            obtain ⟨v28, g26, e27, h⟩ := ic_b2E h
            refine ev_ivI (a := 1) (b := 0) [ic_I 0] rfl okX6_finding rfl lmX6_66 rfl (rc0) (Nat.le_of_ble_eq_true rfl) (eX6_finding e27) (Nat.le_of_ble_eq_true rfl) rfl ?_
            obtain ⟨rfl, rfl⟩ := ic_s2 h
            exact ev_ireturn (a := 1) (b := 1) rfl rfl rfl
        · have h := (if_neg c22).symm.trans h
          refine ev_aload_n (a := 0) (b := 23) rfl rfl ?_
          refine ev_bipush (a := 0) (b := 24) 6 rfl (by decide) ?_
          obtain ⟨v31, g29, e30, h⟩ := ic_b2E h
          refine ev_ivI (a := 0) (b := 25) [ic_I 6] rfl okX6_finding rfl lmX6_66 rfl (rc0) (Nat.le_of_ble_eq_true rfl) (eX6_finding e30) (Nat.le_of_ble_eq_true rfl) rfl ?_
          obtain ⟨rfl, rfl⟩ := ic_s2 h
          exact ev_ireturn (a := 0) (b := 26) rfl rfl rfl
      · have h := (if_neg c21).symm.trans h
        refine ev_iload_n (a := 0) (b := 11) rfl rfl ?_
        refine ev_bipush (a := 0) (b := 12) 16 rfl (by decide) ?_
        refine ev_iceq (a := 0) (b := 13) 40 rfl rfl (fun c32 => ?_) (fun c32 => ?_)
        · have h := (if_pos c32).symm.trans h
          refine ev_iload_n (a := 0) (b := 21) rfl rfl ?_
          refine ev_ifge (a := 0) (b := 22) 51 rfl rfl (fun c33 => ?_) (fun c33 => ?_)
          · have h := (if_pos c33).symm.trans h
            refine ev_iload_n (a := 0) (b := 27) rfl rfl ?_
            refine ev_bipush (a := 0) (b := 28) 40 rfl (by decide) ?_
            refine ev_icle (a := 0) (b := 29) 63 rfl rfl (fun c34 => ?_) (fun c34 => ?_)
            · have h := (if_pos c34).symm.trans h
              refine ev_aload (a := 1) (b := 2) rfl rfl ?_
              refine ev_iload_n (a := 1) (b := 3) rfl rfl ?_
              refine ev_iload_n (a := 1) (b := 4) rfl rfl ?_
              obtain ⟨g35, e36, h⟩ := ic_b1E h
              refine ev_ivV (a := 1) (b := 5) [ic_I x2, ic_I x3] rfl okX1_renew rfl lmX6_208 rfl (rc13 (ic_vks (C := 13) k9)) (Nat.le_of_ble_eq_true rfl) (eX1_renew e36) (Nat.le_of_ble_eq_true rfl) rfl ?_
              refine ev_aload (a := 1) (b := 6) rfl rfl ?_
              refine ev_get (a := 1) (b := 7) 1 1 rfl rfl (Nat.le_of_ble_eq_true rfl) lfX6_211 (gX1_size (ic_vks (C := 13) k9)) ?_
              obtain ⟨rfl, rfl⟩ := ic_s2 h
              exact ev_ireturn (a := 1) (b := 8) rfl rfl rfl
            · have h := (if_neg c34).symm.trans h
              refine ev_aload_n (a := 0) (b := 30) rfl rfl ?_
              refine ev_iconst (a := 0) (b := 31) 0 rfl (by decide) ?_
              obtain ⟨v39, g37, e38, h⟩ := ic_b2E h
              refine ev_ivI (a := 1) (b := 0) [ic_I 0] rfl okX6_finding rfl lmX6_66 rfl (rc0) (Nat.le_of_ble_eq_true rfl) (eX6_finding e38) (Nat.le_of_ble_eq_true rfl) rfl ?_
              obtain ⟨rfl, rfl⟩ := ic_s2 h
              exact ev_ireturn (a := 1) (b := 1) rfl rfl rfl
          · have h := (if_neg c33).symm.trans h
            refine ev_aload_n (a := 0) (b := 23) rfl rfl ?_
            refine ev_bipush (a := 0) (b := 24) 6 rfl (by decide) ?_
            obtain ⟨v42, g40, e41, h⟩ := ic_b2E h
            refine ev_ivI (a := 0) (b := 25) [ic_I 6] rfl okX6_finding rfl lmX6_66 rfl (rc0) (Nat.le_of_ble_eq_true rfl) (eX6_finding e41) (Nat.le_of_ble_eq_true rfl) rfl ?_
            obtain ⟨rfl, rfl⟩ := ic_s2 h
            exact ev_ireturn (a := 0) (b := 26) rfl rfl rfl
        · have h := (if_neg c32).symm.trans h
          refine ev_iload_n (a := 0) (b := 14) rfl rfl ?_
          refine ev_bipush (a := 0) (b := 15) 32 rfl (by decide) ?_
          refine ev_iceq (a := 0) (b := 16) 40 rfl rfl (fun c43 => ?_) (fun c43 => ?_)
          · have h := (if_pos c43).symm.trans h
            refine ev_iload_n (a := 0) (b := 21) rfl rfl ?_
            refine ev_ifge (a := 0) (b := 22) 51 rfl rfl (fun c44 => ?_) (fun c44 => ?_)
            · have h := (if_pos c44).symm.trans h
              refine ev_iload_n (a := 0) (b := 27) rfl rfl ?_
              refine ev_bipush (a := 0) (b := 28) 40 rfl (by decide) ?_
              refine ev_icle (a := 0) (b := 29) 63 rfl rfl (fun c45 => ?_) (fun c45 => ?_)
              · have h := (if_pos c45).symm.trans h
                refine ev_aload (a := 1) (b := 2) rfl rfl ?_
                refine ev_iload_n (a := 1) (b := 3) rfl rfl ?_
                refine ev_iload_n (a := 1) (b := 4) rfl rfl ?_
                obtain ⟨g46, e47, h⟩ := ic_b1E h
                refine ev_ivV (a := 1) (b := 5) [ic_I x2, ic_I x3] rfl okX1_renew rfl lmX6_208 rfl (rc13 (ic_vks (C := 13) k9)) (Nat.le_of_ble_eq_true rfl) (eX1_renew e47) (Nat.le_of_ble_eq_true rfl) rfl ?_
                refine ev_aload (a := 1) (b := 6) rfl rfl ?_
                refine ev_get (a := 1) (b := 7) 1 1 rfl rfl (Nat.le_of_ble_eq_true rfl) lfX6_211 (gX1_size (ic_vks (C := 13) k9)) ?_
                obtain ⟨rfl, rfl⟩ := ic_s2 h
                exact ev_ireturn (a := 1) (b := 8) rfl rfl rfl
              · have h := (if_neg c45).symm.trans h
                refine ev_aload_n (a := 0) (b := 30) rfl rfl ?_
                refine ev_iconst (a := 0) (b := 31) 0 rfl (by decide) ?_
                obtain ⟨v50, g48, e49, h⟩ := ic_b2E h
                refine ev_ivI (a := 1) (b := 0) [ic_I 0] rfl okX6_finding rfl lmX6_66 rfl (rc0) (Nat.le_of_ble_eq_true rfl) (eX6_finding e49) (Nat.le_of_ble_eq_true rfl) rfl ?_
                obtain ⟨rfl, rfl⟩ := ic_s2 h
                exact ev_ireturn (a := 1) (b := 1) rfl rfl rfl
            · have h := (if_neg c44).symm.trans h
              refine ev_aload_n (a := 0) (b := 23) rfl rfl ?_
              refine ev_bipush (a := 0) (b := 24) 6 rfl (by decide) ?_
              obtain ⟨v53, g51, e52, h⟩ := ic_b2E h
              refine ev_ivI (a := 0) (b := 25) [ic_I 6] rfl okX6_finding rfl lmX6_66 rfl (rc0) (Nat.le_of_ble_eq_true rfl) (eX6_finding e52) (Nat.le_of_ble_eq_true rfl) rfl ?_
              obtain ⟨rfl, rfl⟩ := ic_s2 h
              exact ev_ireturn (a := 0) (b := 26) rfl rfl rfl
          · have h := (if_neg c43).symm.trans h
            refine ev_aload_n (a := 0) (b := 17) rfl rfl ?_
            refine ev_iconst (a := 0) (b := 18) 0 rfl (by decide) ?_
            obtain ⟨v56, g54, e55, h⟩ := ic_b2E h
            refine ev_ivI (a := 0) (b := 19) [ic_I 0] rfl okX6_finding rfl lmX6_66 rfl (rc0) (Nat.le_of_ble_eq_true rfl) (eX6_finding e55) (Nat.le_of_ble_eq_true rfl) rfl ?_
            obtain ⟨rfl, rfl⟩ := ic_s2 h
            exact ev_ireturn (a := 0) (b := 20) rfl rfl rfl
set_option maxRecDepth 20000 in
theorem eX6_write {x1 : Int32} {x2 : Int32} {x3 : Int32} {g g' : ic_S} {v : Int32} (h : fX6_write x1 x2 x3 g = some (v, g')) : ic_Ev mX6_write 0 (ic_ag 0 [ic_R 0 0 0, ic_I x1, ic_I x2, ic_I x3]) [] g (some (ic_I v)) g' := by
  unfold fX6_write at h
  change ic_Ev mX6_write 0 [(0, ic_R 0 0 0), (1, ic_I x1), (2, ic_I x2), (3, ic_I x3)] [] g _ _
  refine ev_aload_n (a := 0) (b := 0) rfl rfl ?_
  refine ev_iload_n (a := 0) (b := 1) rfl rfl ?_
  obtain ⟨v3, g1, e2, h⟩ := ic_b2E h
  refine ev_ivO (a := 0) (b := 2) [ic_I x1] rfl okX6_sheetAt rfl lmX6_204 rfl (rc0) (Nat.le_of_ble_eq_true rfl) (eX6_sheetAt e2) (Nat.le_of_ble_eq_true rfl) rfl ?_
  refine ev_astore (a := 0) (b := 3) [(0, ic_R 0 0 0), (2, ic_I x2), (3, ic_I x3), (4, ic_O 13 v3)] rfl (by decide) (And.intro (Or.inr (And.intro rfl rfl)) (And.intro (Or.inr (And.intro rfl rfl)) (And.intro (Or.inr (And.intro rfl rfl)) (And.intro (Or.inl rfl) trivial)))) ?_
  refine ev_aload (a := 0) (b := 4) rfl rfl ?_
  rcases v3 with _ | ⟨s4, t5⟩
  · replace h := ic_moN h
    refine ev_ifnonnull1 (a := 0) (b := 5) rfl ?_
    refine ev_aload_n (a := 0) (b := 6) rfl rfl ?_
    refine ev_iconst (a := 0) (b := 7) 0 rfl (by decide) ?_
    obtain ⟨v8, g6, e7, h⟩ := ic_b2E h
    refine ev_ivI (a := 0) (b := 8) [ic_I 0] rfl okX6_finding rfl lmX6_66 rfl (rc0) (Nat.le_of_ble_eq_true rfl) (eX6_finding e7) (Nat.le_of_ble_eq_true rfl) rfl ?_
    obtain ⟨rfl, rfl⟩ := ic_s2 h
    exact ev_ireturn (a := 0) (b := 9) rfl rfl rfl
  · replace h := ic_moS h
    have k9 := (ic_gdE h).1
    replace h := (ic_gdE h).2
    have ht0 : t5 < 1 := ic_vkt (C := 13) k9
    have hzk9 := h
    obtain rfl : t5 = 0 := by omega
    have h := hzk9
    refine ev_ifnonnull0 (a := 0) (b := 5) 18 (show (13 : Nat) ≠ 26 by decide) rfl rfl ?_
    refine ev_aload (a := 0) (b := 10) rfl rfl ?_
    obtain ⟨v12, g10, e11, h⟩ := ic_b2E h
    refine ev_ivI (a := 0) (b := 11) [] rfl okX1_isMissing rfl lmX6_212 rfl (rc13 (ic_vks (C := 13) k9)) (Nat.le_of_ble_eq_true rfl) (eX1_isMissing e11) (Nat.le_of_ble_eq_true rfl) rfl ?_
    refine ev_ifeq (a := 0) (b := 12) 32 rfl rfl (fun c13 => ?_) (fun c13 => ?_)
    · have h := (if_pos c13).symm.trans h
      refine ev_iload_n (a := 0) (b := 17) rfl rfl ?_
      refine ev_iflt (a := 0) (b := 18) 45 rfl rfl (fun c14 => ?_) (fun c14 => ?_)
      · have h := (if_pos c14).symm.trans h
        refine ev_aload_n (a := 0) (b := 23) rfl rfl ?_
        refine ev_iconst (a := 0) (b := 24) 0 rfl (by decide) ?_
        obtain ⟨v17, g15, e16, h⟩ := ic_b2E h
        refine ev_ivI (a := 0) (b := 25) [ic_I 0] rfl okX6_finding rfl lmX6_66 rfl (rc0) (Nat.le_of_ble_eq_true rfl) (eX6_finding e16) (Nat.le_of_ble_eq_true rfl) rfl ?_
        obtain ⟨rfl, rfl⟩ := ic_s2 h
        exact ev_ireturn (a := 0) (b := 26) rfl rfl rfl
      · have h := (if_neg c14).symm.trans h
        refine ev_iload_n (a := 0) (b := 19) rfl rfl ?_
        refine ev_aload (a := 0) (b := 20) rfl rfl ?_
        refine ev_get (a := 0) (b := 21) 1 1 rfl rfl (Nat.le_of_ble_eq_true rfl) lfX6_211 (gX1_size (ic_vks (C := 13) k9)) ?_
        refine ev_iclt (a := 0) (b := 22) 51 rfl rfl (fun c18 => ?_) (fun c18 => ?_)
        · have h := (if_pos c18).symm.trans h
          refine ev_aload (a := 0) (b := 27) rfl rfl ?_
          refine ev_iload_n (a := 0) (b := 28) rfl rfl ?_
          refine ev_iload_n (a := 0) (b := 29) rfl rfl ?_
          obtain ⟨g19, e20, h⟩ := ic_b1E h
          refine ev_ivV (a := 0) (b := 30) [ic_I x2, ic_I x3] rfl okX1_put rfl lmX6_216 rfl (rc13 (ic_vks (C := 13) k9)) (Nat.le_of_ble_eq_true rfl) (eX1_put e20) (Nat.le_of_ble_eq_true rfl) rfl ?_
          refine ev_iconst (a := 0) (b := 31) 1 rfl (by decide) ?_
          obtain ⟨rfl, rfl⟩ := ic_s2 h
          exact ev_ireturn (a := 1) (b := 0) rfl rfl rfl
        · have h := (if_neg c18).symm.trans h
          refine ev_aload_n (a := 0) (b := 23) rfl rfl ?_
          refine ev_iconst (a := 0) (b := 24) 0 rfl (by decide) ?_
          obtain ⟨v23, g21, e22, h⟩ := ic_b2E h
          refine ev_ivI (a := 0) (b := 25) [ic_I 0] rfl okX6_finding rfl lmX6_66 rfl (rc0) (Nat.le_of_ble_eq_true rfl) (eX6_finding e22) (Nat.le_of_ble_eq_true rfl) rfl ?_
          obtain ⟨rfl, rfl⟩ := ic_s2 h
          exact ev_ireturn (a := 0) (b := 26) rfl rfl rfl
    · have h := (if_neg c13).symm.trans h
      refine ev_aload_n (a := 0) (b := 13) rfl rfl ?_
      refine ev_iconst (a := 0) (b := 14) 5 rfl (by decide) ?_
      obtain ⟨v26, g24, e25, h⟩ := ic_b2E h
      refine ev_ivI (a := 0) (b := 15) [ic_I 5] rfl okX6_finding rfl lmX6_66 rfl (rc0) (Nat.le_of_ble_eq_true rfl) (eX6_finding e25) (Nat.le_of_ble_eq_true rfl) rfl ?_
      obtain ⟨rfl, rfl⟩ := ic_s2 h
      exact ev_ireturn (a := 0) (b := 16) rfl rfl rfl
set_option maxRecDepth 20000 in
theorem eX6_copy {x1 : Int32} {x2 : Int32} {x3 : Int32} {x4 : Int32} {x5 : Int32} {g g' : ic_S} {v : Int32} (h : fX6_copy x1 x2 x3 x4 x5 g = some (v, g')) : ic_Ev mX6_copy 0 (ic_ag 0 [ic_R 0 0 0, ic_I x1, ic_I x2, ic_I x3, ic_I x4, ic_I x5]) [] g (some (ic_I v)) g' := by
  unfold fX6_copy at h
  change ic_Ev mX6_copy 0 [(0, ic_R 0 0 0), (1, ic_I x1), (2, ic_I x2), (3, ic_I x3), (4, ic_I x4), (5, ic_I x5)] [] g _ _
  refine ev_aload_n (a := 0) (b := 0) rfl rfl ?_
  refine ev_iload_n (a := 0) (b := 1) rfl rfl ?_
  obtain ⟨v3, g1, e2, h⟩ := ic_b2E h
  refine ev_ivO (a := 0) (b := 2) [ic_I x1] rfl okX6_sheetAt rfl lmX6_204 rfl (rc0) (Nat.le_of_ble_eq_true rfl) (eX6_sheetAt e2) (Nat.le_of_ble_eq_true rfl) rfl ?_
  refine ev_astore (a := 0) (b := 3) [(0, ic_R 0 0 0), (2, ic_I x2), (3, ic_I x3), (4, ic_I x4), (5, ic_I x5), (6, ic_O 13 v3)] rfl (by decide) (And.intro (Or.inr (And.intro rfl rfl)) (And.intro (Or.inr (And.intro rfl rfl)) (And.intro (Or.inr (And.intro rfl rfl)) (And.intro (Or.inr (And.intro rfl rfl)) (And.intro (Or.inr (And.intro rfl rfl)) (And.intro (Or.inl rfl) trivial)))))) ?_
  refine ev_aload_n (a := 0) (b := 4) rfl rfl ?_
  refine ev_iload_n (a := 0) (b := 5) rfl rfl ?_
  obtain ⟨v6, g4, e5, h⟩ := ic_b2E h
  refine ev_ivO (a := 0) (b := 6) [ic_I x3] rfl okX6_sheetAt rfl lmX6_204 rfl (rc0) (Nat.le_of_ble_eq_true rfl) (eX6_sheetAt e5) (Nat.le_of_ble_eq_true rfl) rfl ?_
  refine ev_astore (a := 0) (b := 7) [(0, ic_R 0 0 0), (2, ic_I x2), (4, ic_I x4), (5, ic_I x5), (6, ic_O 13 v3), (7, ic_O 13 v6)] rfl (by decide) (And.intro (Or.inr (And.intro rfl rfl)) (And.intro (Or.inr (And.intro rfl rfl)) (And.intro (Or.inr (And.intro rfl rfl)) (And.intro (Or.inr (And.intro rfl rfl)) (And.intro (Or.inr (And.intro rfl rfl)) (And.intro (Or.inl rfl) trivial)))))) ?_
  refine ev_aload (a := 0) (b := 8) rfl rfl ?_
  rcases v3 with _ | ⟨s7, t8⟩
  · replace h := ic_moN h
    refine ev_ifnull1 (a := 0) (b := 9) 24 rfl rfl ?_
    refine ev_aload_n (a := 0) (b := 12) rfl rfl ?_
    refine ev_iconst (a := 0) (b := 13) 0 rfl (by decide) ?_
    obtain ⟨v11, g9, e10, h⟩ := ic_b2E h
    refine ev_ivI (a := 0) (b := 14) [ic_I 0] rfl okX6_finding rfl lmX6_66 rfl (rc0) (Nat.le_of_ble_eq_true rfl) (eX6_finding e10) (Nat.le_of_ble_eq_true rfl) rfl ?_
    obtain ⟨rfl, rfl⟩ := ic_s2 h
    exact ev_ireturn (a := 0) (b := 15) rfl rfl rfl
  · replace h := ic_moS h
    have k12 := (ic_gdE h).1
    replace h := (ic_gdE h).2
    have ht0 : t8 < 1 := ic_vkt (C := 13) k12
    have hzk12 := h
    obtain rfl : t8 = 0 := by omega
    have h := hzk12
    refine ev_ifnull0 (a := 0) (b := 9) (show (13 : Nat) ≠ 26 by decide) rfl ?_
    refine ev_aload (a := 0) (b := 10) rfl rfl ?_
    rcases v6 with _ | ⟨s13, t14⟩
    · replace h := ic_moN h
      refine ev_ifnonnull1 (a := 0) (b := 11) rfl ?_
      refine ev_aload_n (a := 0) (b := 12) rfl rfl ?_
      refine ev_iconst (a := 0) (b := 13) 0 rfl (by decide) ?_
      obtain ⟨v17, g15, e16, h⟩ := ic_b2E h
      refine ev_ivI (a := 0) (b := 14) [ic_I 0] rfl okX6_finding rfl lmX6_66 rfl (rc0) (Nat.le_of_ble_eq_true rfl) (eX6_finding e16) (Nat.le_of_ble_eq_true rfl) rfl ?_
      obtain ⟨rfl, rfl⟩ := ic_s2 h
      exact ev_ireturn (a := 0) (b := 15) rfl rfl rfl
    · replace h := ic_moS h
      have k18 := (ic_gdE h).1
      replace h := (ic_gdE h).2
      have ht0 : t14 < 1 := ic_vkt (C := 13) k18
      have hzk18 := h
      obtain rfl : t14 = 0 := by omega
      have h := hzk18
      refine ev_ifnonnull0 (a := 0) (b := 11) 30 (show (13 : Nat) ≠ 26 by decide) rfl rfl ?_
      refine ev_aload (a := 0) (b := 16) rfl rfl ?_
      obtain ⟨v21, g19, e20, h⟩ := ic_b2E h
      refine ev_ivI (a := 0) (b := 17) [] rfl okX1_isMissing rfl lmX6_212 rfl (rc13 (ic_vks (C := 13) k12)) (Nat.le_of_ble_eq_true rfl) (eX1_isMissing e20) (Nat.le_of_ble_eq_true rfl) rfl ?_
      refine ev_ifne (a := 0) (b := 18) 46 rfl rfl (fun c22 => ?_) (fun c22 => ?_)
      · have h := (if_neg c22).symm.trans h
        refine ev_aload_n (a := 0) (b := 22) rfl rfl ?_
        refine ev_iconst (a := 0) (b := 23) 5 rfl (by decide) ?_
        obtain ⟨v25, g23, e24, h⟩ := ic_b2E h
        refine ev_ivI (a := 0) (b := 24) [ic_I 5] rfl okX6_finding rfl lmX6_66 rfl (rc0) (Nat.le_of_ble_eq_true rfl) (eX6_finding e24) (Nat.le_of_ble_eq_true rfl) rfl ?_
        obtain ⟨rfl, rfl⟩ := ic_s2 h
        exact ev_ireturn (a := 0) (b := 25) rfl rfl rfl
      · have h := (if_pos c22).symm.trans h
        refine ev_aload (a := 0) (b := 19) rfl rfl ?_
        obtain ⟨v28, g26, e27, h⟩ := ic_b2E h
        refine ev_ivI (a := 0) (b := 20) [] rfl okX1_isMissing rfl lmX6_212 rfl (rc13 (ic_vks (C := 13) k18)) (Nat.le_of_ble_eq_true rfl) (eX1_isMissing e27) (Nat.le_of_ble_eq_true rfl) rfl ?_
        refine ev_ifeq (a := 0) (b := 21) 52 rfl rfl (fun c29 => ?_) (fun c29 => ?_)
        · have h := (if_pos c29).symm.trans h
          refine ev_aload (a := 0) (b := 26) rfl rfl ?_
          refine ev_get (a := 0) (b := 27) 1 0 rfl rfl (Nat.le_of_ble_eq_true rfl) lfX6_219 (gX1_bits (ic_vks (C := 13) k12)) ?_
          refine ev_aload (a := 0) (b := 28) rfl rfl ?_
          refine ev_get (a := 0) (b := 29) 1 0 rfl rfl (Nat.le_of_ble_eq_true rfl) lfX6_219 (gX1_bits (ic_vks (C := 13) k18)) ?_
          refine ev_iceq (a := 0) (b := 30) 71 rfl rfl (fun c30 => ?_) (fun c30 => ?_)
          · have h := (if_pos c30).symm.trans h
            refine ev_aload (a := 1) (b := 3) rfl rfl ?_
            refine ev_iload_n (a := 1) (b := 4) rfl rfl ?_
            refine ev_iload (a := 1) (b := 5) rfl rfl ?_
            obtain ⟨v33, g31, e32, h⟩ := ic_b2E h
            refine ev_ivI (a := 1) (b := 6) [ic_I x2, ic_I x5] rfl okX1_hasRun rfl lmX6_222 rfl (rc13 (ic_vks (C := 13) k12)) (Nat.le_of_ble_eq_true rfl) (eX1_hasRun e32) (Nat.le_of_ble_eq_true rfl) rfl ?_
            refine ev_ifeq (a := 1) (b := 7) 94 rfl rfl (fun c34 => ?_) (fun c34 => ?_)
            · have h := (if_pos c34).symm.trans h
              refine ev_aload_n (a := 1) (b := 13) rfl rfl ?_
              refine ev_iconst (a := 1) (b := 14) 0 rfl (by decide) ?_
              obtain ⟨v37, g35, e36, h⟩ := ic_b2E h
              refine ev_ivI (a := 1) (b := 15) [ic_I 0] rfl okX6_finding rfl lmX6_66 rfl (rc0) (Nat.le_of_ble_eq_true rfl) (eX6_finding e36) (Nat.le_of_ble_eq_true rfl) rfl ?_
              obtain ⟨rfl, rfl⟩ := ic_s2 h
              exact ev_ireturn (a := 1) (b := 16) rfl rfl rfl
            · have h := (if_neg c34).symm.trans h
              refine ev_aload (a := 1) (b := 8) rfl rfl ?_
              refine ev_iload (a := 1) (b := 9) rfl rfl ?_
              refine ev_iload (a := 1) (b := 10) rfl rfl ?_
              obtain ⟨v40, g38, e39, h⟩ := ic_b2E h
              refine ev_ivI (a := 1) (b := 11) [ic_I x4, ic_I x5] rfl okX1_hasRun rfl lmX6_222 rfl (rc13 (ic_vks (C := 13) k18)) (Nat.le_of_ble_eq_true rfl) (eX1_hasRun e39) (Nat.le_of_ble_eq_true rfl) rfl ?_
              refine ev_ifne (a := 1) (b := 12) 100 rfl rfl (fun c41 => ?_) (fun c41 => ?_)
              · have h := (if_neg c41).symm.trans h
                refine ev_aload (a := 1) (b := 17) rfl rfl ?_
                refine ev_get (a := 1) (b := 18) 1 2 rfl rfl (Nat.le_of_ble_eq_true rfl) lfX6_225 (gX1_numbers (ic_vks (C := 13) k12)) ?_
                refine ev_iload_n (a := 1) (b := 19) rfl rfl ?_
                refine ev_aload (a := 1) (b := 20) rfl rfl ?_
                refine ev_get (a := 1) (b := 21) 1 2 rfl rfl (Nat.le_of_ble_eq_true rfl) lfX6_225 (gX1_numbers (ic_vks (C := 13) k18)) ?_
                refine ev_iload (a := 1) (b := 22) rfl rfl ?_
                refine ev_iload (a := 1) (b := 23) rfl rfl ?_
                obtain ⟨h42, h⟩ := ic_gdE h
                obtain ⟨g43, eg43, h⟩ := ic_letE h
                refine ev_cpn (a := 1) (b := 24) rfl lmX6_228 (ic_vks (C := 13) k12) (ic_vks (C := 13) k18) h42 eg43 rfl ?_
                refine ev_iload (a := 1) (b := 25) rfl rfl ?_
                obtain ⟨rfl, rfl⟩ := ic_s2 h
                exact ev_ireturn (a := 1) (b := 26) rfl rfl rfl
              · have h := (if_pos c41).symm.trans h
                refine ev_aload_n (a := 1) (b := 13) rfl rfl ?_
                refine ev_iconst (a := 1) (b := 14) 0 rfl (by decide) ?_
                obtain ⟨v46, g44, e45, h⟩ := ic_b2E h
                refine ev_ivI (a := 1) (b := 15) [ic_I 0] rfl okX6_finding rfl lmX6_66 rfl (rc0) (Nat.le_of_ble_eq_true rfl) (eX6_finding e45) (Nat.le_of_ble_eq_true rfl) rfl ?_
                obtain ⟨rfl, rfl⟩ := ic_s2 h
                exact ev_ireturn (a := 1) (b := 16) rfl rfl rfl
          · have h := (if_neg c30).symm.trans h
            refine ev_aload_n (a := 0) (b := 31) rfl rfl ?_
            refine ev_iconst (a := 1) (b := 0) 2 rfl (by decide) ?_
            obtain ⟨v49, g47, e48, h⟩ := ic_b2E h
            refine ev_ivI (a := 1) (b := 1) [ic_I 2] rfl okX6_finding rfl lmX6_66 rfl (rc0) (Nat.le_of_ble_eq_true rfl) (eX6_finding e48) (Nat.le_of_ble_eq_true rfl) rfl ?_
            obtain ⟨rfl, rfl⟩ := ic_s2 h
            exact ev_ireturn (a := 1) (b := 2) rfl rfl rfl
        · have h := (if_neg c29).symm.trans h
          refine ev_aload_n (a := 0) (b := 22) rfl rfl ?_
          refine ev_iconst (a := 0) (b := 23) 5 rfl (by decide) ?_
          obtain ⟨v52, g50, e51, h⟩ := ic_b2E h
          refine ev_ivI (a := 0) (b := 24) [ic_I 5] rfl okX6_finding rfl lmX6_66 rfl (rc0) (Nat.le_of_ble_eq_true rfl) (eX6_finding e51) (Nat.le_of_ble_eq_true rfl) rfl ?_
          obtain ⟨rfl, rfl⟩ := ic_s2 h
          exact ev_ireturn (a := 0) (b := 25) rfl rfl rfl
