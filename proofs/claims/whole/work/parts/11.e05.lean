set_option maxRecDepth 20000 in
theorem tX6_load_31 {s4 : Nat} (hs4 : s4 < 4) : ∀ (n : Nat) (x3 : Int32) (g : ic_S) (q : (Int32 × ic_S) ⊕ (Unit × ic_S)), lX6_load_31 s4 n x3 g = some q → ∀ (r : Option ic_V) (g' : ic_S), ic_lq q r g' (fun y z => ic_Ev mX6_load 89 [(2, ic_R 13 s4 0)] [] z r g') → ic_Ev mX6_load 31 [(0, ic_R 0 0 0), (2, ic_R 13 s4 0), (3, ic_I x3)] [] g r g' := by
  intro n
  induction n with
  | zero => intro x3 g q h; cases h
  | succ n ih =>
    intro x3 g q h r g' hq
    rw [lX6_load_31] at h
    refine ev_iload_n (a := 0) (b := 19) rfl rfl ?_
    refine ev_aload_n (a := 0) (b := 20) rfl rfl ?_
    refine ev_get (a := 0) (b := 21) 1 1 rfl rfl (Nat.le_of_ble_eq_true rfl) lfX6_211 (gX1_size hs4) ?_
    refine ev_icge (a := 0) (b := 22) 89 rfl rfl (fun c1001 => ?_) (fun c1001 => ?_)
    · have h := (if_pos c1001).symm.trans h
      obtain rfl := ic_s1 h
      exact ev_fw (lv' := [(2, ic_R 13 s4 0)]) hq (And.intro rfl trivial)
    · have h := (if_neg c1001).symm.trans h
      refine ev_aload_n (a := 0) (b := 23) rfl rfl ?_
      refine ev_iload_n (a := 0) (b := 24) rfl rfl ?_
      obtain ⟨v1004, g1002, e1003, h⟩ := ic_b2E h
      refine ev_ivI (a := 0) (b := 25) [ic_I x3] rfl okX1_told rfl lmX6_234 rfl (rc13 hs4) (Nat.le_of_ble_eq_true rfl) (eX1_told e1003) (Nat.le_of_ble_eq_true rfl) rfl ?_
      refine ev_istore (a := 0) (b := 26) [(0, ic_R 0 0 0), (2, ic_R 13 s4 0), (3, ic_I x3), (4, ic_I v1004)] rfl (by decide) (And.intro (Or.inr (And.intro rfl rfl)) (And.intro (Or.inr (And.intro rfl rfl)) (And.intro (Or.inr (And.intro rfl rfl)) (And.intro (Or.inl rfl) trivial)))) ?_
      refine ev_aload_n (a := 0) (b := 27) rfl rfl ?_
      refine ev_get (a := 0) (b := 28) 6 0 rfl rfl (Nat.le_of_ble_eq_true rfl) lfX6_10 (gX6_street) ?_
      refine ev_iload_n (a := 0) (b := 29) rfl rfl ?_
      obtain ⟨v1007, g1005, e1006, h⟩ := ic_b2E h
      refine ev_ivI (a := 0) (b := 30) [ic_I x3] rfl okX2_hasThing rfl lmX6_90 rfl (rc1 (by decide)) (Nat.le_of_ble_eq_true rfl) (eX2_hasThing e1006) (Nat.le_of_ble_eq_true rfl) rfl ?_
      refine ev_ifeq (a := 0) (b := 31) 70 rfl rfl (fun c1008 => ?_) (fun c1008 => ?_)
      · have h := (if_pos c1008).symm.trans h
        refine ev_iload_n (a := 1) (b := 6) rfl rfl ?_
        obtain rfl := ic_s1 h
        obtain ⟨rfl, rfl⟩ := hq
        exact ev_ireturn (a := 1) (b := 7) rfl rfl rfl
      · have h := (if_neg c1008).symm.trans h
        refine ev_iload (a := 1) (b := 0) rfl rfl ?_
        refine ev_iconst (a := 1) (b := 1) 1 rfl (by decide) ?_
        refine ev_iclt (a := 1) (b := 2) 70 rfl rfl (fun c1009 => ?_) (fun c1009 => ?_)
        · have h := (if_pos c1009).symm.trans h
          refine ev_iload_n (a := 1) (b := 6) rfl rfl ?_
          obtain rfl := ic_s1 h
          obtain ⟨rfl, rfl⟩ := hq
          exact ev_ireturn (a := 1) (b := 7) rfl rfl rfl
        · have h := (if_neg c1009).symm.trans h
          refine ev_iload (a := 1) (b := 3) rfl rfl ?_
          refine ev_bipush (a := 1) (b := 4) 99 rfl (by decide) ?_
          refine ev_icle (a := 1) (b := 5) 72 rfl rfl (fun c1010 => ?_) (fun c1010 => ?_)
          · have h := (if_pos c1010).symm.trans h
            refine ev_aload_n (a := 1) (b := 8) rfl rfl ?_
            refine ev_get (a := 1) (b := 9) 6 0 rfl rfl (Nat.le_of_ble_eq_true rfl) lfX6_10 (gX6_street) ?_
            refine ev_iload_n (a := 1) (b := 10) rfl rfl ?_
            refine ev_iconst (a := 1) (b := 11) 2 rfl (by decide) ?_
            refine ev_iload (a := 1) (b := 12) rfl rfl ?_
            obtain ⟨g1011, e1012, h⟩ := ic_b1E h
            refine ev_ivV (a := 1) (b := 13) [ic_I x3, ic_I 2, ic_I v1004] rfl okX2_alter rfl lmX6_99 rfl (rc1 (by decide)) (Nat.le_of_ble_eq_true rfl) (eX2_alter e1012) (Nat.le_of_ble_eq_true rfl) rfl ?_
            refine ev_iinc (a := 1) (b := 14) (x3 + 1) [(0, ic_R 0 0 0), (2, ic_R 13 s4 0), (3, ic_I (x3 + 1))] rfl rfl (by first | rfl | decide) (by decide) (And.intro (Or.inr (And.intro rfl rfl)) (And.intro (Or.inr (And.intro rfl rfl)) (And.intro (Or.inl rfl) trivial))) ?_
            refine ev_goto (a := 1) (b := 15) 31 rfl rfl ?_
            refine ev_fw (lv' := [(0, ic_R 0 0 0), (2, ic_R 13 s4 0), (3, ic_I (x3 + 1))]) ?_ (And.intro rfl (And.intro rfl (And.intro rfl trivial)))
            exact ih (x3 + 1) g1011 _ h _ _ hq
          · have h := (if_neg c1010).symm.trans h
            refine ev_iload_n (a := 1) (b := 6) rfl rfl ?_
            obtain rfl := ic_s1 h
            obtain ⟨rfl, rfl⟩ := hq
            exact ev_ireturn (a := 1) (b := 7) rfl rfl rfl
set_option maxRecDepth 20000 in
theorem eX6_load {x1 : Int32} {g g' : ic_S} {v : Int32} (h : fX6_load x1 g = some (v, g')) : ic_Ev mX6_load 0 (ic_ag 0 [ic_R 0 0 0, ic_I x1]) [] g (some (ic_I v)) g' := by
  unfold fX6_load at h
  change ic_Ev mX6_load 0 [(0, ic_R 0 0 0), (1, ic_I x1)] [] g _ _
  refine ev_aload_n (a := 0) (b := 0) rfl rfl ?_
  refine ev_iload_n (a := 0) (b := 1) rfl rfl ?_
  obtain ⟨v3, g1, e2, h⟩ := ic_b2E h
  refine ev_ivO (a := 0) (b := 2) [ic_I x1] rfl okX6_sheetAt rfl lmX6_204 rfl (rc0) (Nat.le_of_ble_eq_true rfl) (eX6_sheetAt e2) (Nat.le_of_ble_eq_true rfl) rfl ?_
  refine ev_astore_n (a := 0) (b := 3) [(0, ic_R 0 0 0), (2, ic_O 13 v3)] rfl (by decide) (And.intro (Or.inr (And.intro rfl rfl)) (And.intro (Or.inl rfl) trivial)) ?_
  refine ev_aload_n (a := 0) (b := 4) rfl rfl ?_
  rcases v3 with _ | ⟨s4, t5⟩
  · replace h := ic_moN h
    refine ev_ifnonnull1 (a := 0) (b := 5) rfl ?_
    refine ev_aload_n (a := 0) (b := 6) rfl rfl ?_
    refine ev_iconst (a := 0) (b := 7) 0 rfl (by decide) ?_
    obtain ⟨v8, g6, e7, h⟩ := ic_b2E h
    refine ev_ivI (a := 0) (b := 8) [ic_I 0] rfl okX6_finding rfl lmX6_66 rfl (rc0) (Nat.le_of_ble_eq_true rfl) (eX6_finding e7) (Nat.le_of_ble_eq_true rfl) rfl ?_
    obtain ⟨rfl, rfl⟩ := ic_s2 h
    exact ev_ireturn (a := 0) (b := 9) rfl rfl rfl
  · replace h := ic_moS h
    have k9 := (ic_gdE h).1
    replace h := (ic_gdE h).2
    have ht0 : t5 < 1 := ic_vkt (C := 13) k9
    have hzk9 := h
    obtain rfl : t5 = 0 := by omega
    have h := hzk9
    refine ev_ifnonnull0 (a := 0) (b := 5) 16 (show (13 : Nat) ≠ 26 by decide) rfl rfl ?_
    refine ev_aload_n (a := 0) (b := 10) rfl rfl ?_
    obtain ⟨v12, g10, e11, h⟩ := ic_b2E h
    refine ev_ivI (a := 0) (b := 11) [] rfl okX1_isMissing rfl lmX6_212 rfl (rc13 (ic_vks (C := 13) k9)) (Nat.le_of_ble_eq_true rfl) (eX1_isMissing e11) (Nat.le_of_ble_eq_true rfl) rfl ?_
    refine ev_ifeq (a := 0) (b := 12) 29 rfl rfl (fun c13 => ?_) (fun c13 => ?_)
    · have h := (if_pos c13).symm.trans h
      refine ev_iconst (a := 0) (b := 17) 0 rfl (by decide) ?_
      refine ev_istore_n (a := 0) (b := 18) [(0, ic_R 0 0 0), (2, ic_R 13 s4 0), (3, ic_I 0)] rfl (by decide) (And.intro (Or.inr (And.intro rfl rfl)) (And.intro (Or.inr (And.intro rfl rfl)) (And.intro (Or.inl rfl) trivial))) ?_
      refine ev_fw (lv' := [(0, ic_R 0 0 0), (2, ic_R 13 s4 0), (3, ic_I 0)]) ?_ (And.intro rfl (And.intro rfl (And.intro rfl trivial)))
      rcases ic_bsE h with e16 | ⟨y14, g15, e16, h⟩
      · exact tX6_load_31 (ic_vks (C := 13) k9) 1000 0 g10 _ e16 _ _ ⟨rfl, rfl⟩
      · refine tX6_load_31 (ic_vks (C := 13) k9) 1000 0 g10 _ e16 _ _ ?_
        change ic_Ev mX6_load 89 [(2, ic_R 13 s4 0)] [] g15 _ _
        refine ev_aload_n (a := 1) (b := 16) rfl rfl ?_
        refine ev_get (a := 1) (b := 17) 1 1 rfl rfl (Nat.le_of_ble_eq_true rfl) lfX6_211 (gX1_size (ic_vks (C := 13) k9)) ?_
        obtain ⟨rfl, rfl⟩ := ic_s2 h
        exact ev_ireturn (a := 1) (b := 18) rfl rfl rfl
    · have h := (if_neg c13).symm.trans h
      refine ev_aload_n (a := 0) (b := 13) rfl rfl ?_
      refine ev_iconst (a := 0) (b := 14) 5 rfl (by decide) ?_
      obtain ⟨v19, g17, e18, h⟩ := ic_b2E h
      refine ev_ivI (a := 0) (b := 15) [ic_I 5] rfl okX6_finding rfl lmX6_66 rfl (rc0) (Nat.le_of_ble_eq_true rfl) (eX6_finding e18) (Nat.le_of_ble_eq_true rfl) rfl ?_
      obtain ⟨rfl, rfl⟩ := ic_s2 h
      exact ev_ireturn (a := 0) (b := 16) rfl rfl rfl
set_option maxRecDepth 20000 in
theorem tX6_judge_31 {s4 : Nat} (hs4 : s4 < 4) : ∀ (n : Nat) (x3 : Int32) (g : ic_S) (q : (Int32 × ic_S) ⊕ (Unit × ic_S)), lX6_judge_31 s4 n x3 g = some q → ∀ (r : Option ic_V) (g' : ic_S), ic_lq q r g' (fun y z => ic_Ev mX6_judge 77 [] [] z r g') → ic_Ev mX6_judge 31 [(0, ic_R 0 0 0), (2, ic_R 13 s4 0), (3, ic_I x3)] [] g r g' := by
  intro n
  induction n with
  | zero => intro x3 g q h; cases h
  | succ n ih =>
    intro x3 g q h r g' hq
    rw [lX6_judge_31] at h
    refine ev_iload_n (a := 0) (b := 19) rfl rfl ?_
    refine ev_aload_n (a := 0) (b := 20) rfl rfl ?_
    refine ev_get (a := 0) (b := 21) 1 1 rfl rfl (Nat.le_of_ble_eq_true rfl) lfX6_211 (gX1_size hs4) ?_
    refine ev_icge (a := 0) (b := 22) 77 rfl rfl (fun c1001 => ?_) (fun c1001 => ?_)
    · have h := (if_pos c1001).symm.trans h
      obtain rfl := ic_s1 h
      exact ev_fw (lv' := []) hq trivial
    · have h := (if_neg c1001).symm.trans h
      refine ev_aload_n (a := 0) (b := 23) rfl rfl ?_
      refine ev_get (a := 0) (b := 24) 6 0 rfl rfl (Nat.le_of_ble_eq_true rfl) lfX6_10 (gX6_street) ?_
      refine ev_iload_n (a := 0) (b := 25) rfl rfl ?_
      obtain ⟨v1004, g1002, e1003, h⟩ := ic_b2E h
      refine ev_ivI (a := 0) (b := 26) [ic_I x3] rfl okX2_hasThing rfl lmX6_90 rfl (rc1 (by decide)) (Nat.le_of_ble_eq_true rfl) (eX2_hasThing e1003) (Nat.le_of_ble_eq_true rfl) rfl ?_
      refine ev_ifeq (a := 0) (b := 27) 67 rfl rfl (fun c1005 => ?_) (fun c1005 => ?_)
      · have h := (if_pos c1005).symm.trans h
        refine ev_iconst (a := 1) (b := 5) 1 rfl (by decide) ?_
        refine ev_iload_n (a := 1) (b := 6) rfl rfl ?_
        refine ev_iadd (a := 1) (b := 7) rfl ?_
        obtain rfl := ic_s1 h
        obtain ⟨rfl, rfl⟩ := hq
        exact ev_ireturn (a := 1) (b := 8) rfl rfl rfl
      · have h := (if_neg c1005).symm.trans h
        refine ev_aload_n (a := 0) (b := 28) rfl rfl ?_
        refine ev_get (a := 0) (b := 29) 6 0 rfl rfl (Nat.le_of_ble_eq_true rfl) lfX6_10 (gX6_street) ?_
        refine ev_iload_n (a := 0) (b := 30) rfl rfl ?_
        refine ev_iconst (a := 0) (b := 31) 1 rfl (by decide) ?_
        obtain ⟨v1008, g1006, e1007, h⟩ := ic_b2E h
        refine ev_ivI (a := 1) (b := 0) [ic_I x3, ic_I 1] rfl okX2_told rfl lmX6_87 rfl (rc1 (by decide)) (Nat.le_of_ble_eq_true rfl) (eX2_told e1007) (Nat.le_of_ble_eq_true rfl) rfl ?_
        refine ev_aload_n (a := 1) (b := 1) rfl rfl ?_
        refine ev_iload_n (a := 1) (b := 2) rfl rfl ?_
        obtain ⟨v1011, g1009, e1010, h⟩ := ic_b2E h
        refine ev_ivI (a := 1) (b := 3) [ic_I x3] rfl okX1_told rfl lmX6_234 rfl (rc13 hs4) (Nat.le_of_ble_eq_true rfl) (eX1_told e1010) (Nat.le_of_ble_eq_true rfl) rfl ?_
        refine ev_iceq (a := 1) (b := 4) 71 rfl rfl (fun c1012 => ?_) (fun c1012 => ?_)
        · have h := (if_pos c1012).symm.trans h
          refine ev_iinc (a := 1) (b := 9) (x3 + 1) [(0, ic_R 0 0 0), (2, ic_R 13 s4 0), (3, ic_I (x3 + 1))] rfl rfl (by first | rfl | decide) (by decide) (And.intro (Or.inr (And.intro rfl rfl)) (And.intro (Or.inr (And.intro rfl rfl)) (And.intro (Or.inl rfl) trivial))) ?_
          refine ev_goto (a := 1) (b := 10) 31 rfl rfl ?_
          refine ev_fw (lv' := [(0, ic_R 0 0 0), (2, ic_R 13 s4 0), (3, ic_I (x3 + 1))]) ?_ (And.intro rfl (And.intro rfl (And.intro rfl trivial)))
          exact ih (x3 + 1) g1009 _ h _ _ hq
        · have h := (if_neg c1012).symm.trans h
          refine ev_iconst (a := 1) (b := 5) 1 rfl (by decide) ?_
          refine ev_iload_n (a := 1) (b := 6) rfl rfl ?_
          refine ev_iadd (a := 1) (b := 7) rfl ?_
          obtain rfl := ic_s1 h
          obtain ⟨rfl, rfl⟩ := hq
          exact ev_ireturn (a := 1) (b := 8) rfl rfl rfl
set_option maxRecDepth 20000 in
theorem eX6_judge {x1 : Int32} {g g' : ic_S} {v : Int32} (h : fX6_judge x1 g = some (v, g')) : ic_Ev mX6_judge 0 (ic_ag 0 [ic_R 0 0 0, ic_I x1]) [] g (some (ic_I v)) g' := by
  unfold fX6_judge at h
  change ic_Ev mX6_judge 0 [(0, ic_R 0 0 0), (1, ic_I x1)] [] g _ _
  refine ev_aload_n (a := 0) (b := 0) rfl rfl ?_
  refine ev_iload_n (a := 0) (b := 1) rfl rfl ?_
  obtain ⟨v3, g1, e2, h⟩ := ic_b2E h
  refine ev_ivO (a := 0) (b := 2) [ic_I x1] rfl okX6_sheetAt rfl lmX6_204 rfl (rc0) (Nat.le_of_ble_eq_true rfl) (eX6_sheetAt e2) (Nat.le_of_ble_eq_true rfl) rfl ?_
  refine ev_astore_n (a := 0) (b := 3) [(0, ic_R 0 0 0), (2, ic_O 13 v3)] rfl (by decide) (And.intro (Or.inr (And.intro rfl rfl)) (And.intro (Or.inl rfl) trivial)) ?_
  refine ev_aload_n (a := 0) (b := 4) rfl rfl ?_
  rcases v3 with _ | ⟨s4, t5⟩
  · replace h := ic_moN h
    refine ev_ifnonnull1 (a := 0) (b := 5) rfl ?_
    refine ev_aload_n (a := 0) (b := 6) rfl rfl ?_
    refine ev_iconst (a := 0) (b := 7) 0 rfl (by decide) ?_
    obtain ⟨v8, g6, e7, h⟩ := ic_b2E h
    refine ev_ivI (a := 0) (b := 8) [ic_I 0] rfl okX6_finding rfl lmX6_66 rfl (rc0) (Nat.le_of_ble_eq_true rfl) (eX6_finding e7) (Nat.le_of_ble_eq_true rfl) rfl ?_
    obtain ⟨rfl, rfl⟩ := ic_s2 h
    exact ev_ireturn (a := 0) (b := 9) rfl rfl rfl
  · replace h := ic_moS h
    have k9 := (ic_gdE h).1
    replace h := (ic_gdE h).2
    have ht0 : t5 < 1 := ic_vkt (C := 13) k9
    have hzk9 := h
    obtain rfl : t5 = 0 := by omega
    have h := hzk9
    refine ev_ifnonnull0 (a := 0) (b := 5) 16 (show (13 : Nat) ≠ 26 by decide) rfl rfl ?_
    refine ev_aload_n (a := 0) (b := 10) rfl rfl ?_
    obtain ⟨v12, g10, e11, h⟩ := ic_b2E h
    refine ev_ivI (a := 0) (b := 11) [] rfl okX1_isMissing rfl lmX6_212 rfl (rc13 (ic_vks (C := 13) k9)) (Nat.le_of_ble_eq_true rfl) (eX1_isMissing e11) (Nat.le_of_ble_eq_true rfl) rfl ?_
    refine ev_ifeq (a := 0) (b := 12) 29 rfl rfl (fun c13 => ?_) (fun c13 => ?_)
    · have h := (if_pos c13).symm.trans h
      refine ev_iconst (a := 0) (b := 17) 0 rfl (by decide) ?_
      refine ev_istore_n (a := 0) (b := 18) [(0, ic_R 0 0 0), (2, ic_R 13 s4 0), (3, ic_I 0)] rfl (by decide) (And.intro (Or.inr (And.intro rfl rfl)) (And.intro (Or.inr (And.intro rfl rfl)) (And.intro (Or.inl rfl) trivial))) ?_
      refine ev_fw (lv' := [(0, ic_R 0 0 0), (2, ic_R 13 s4 0), (3, ic_I 0)]) ?_ (And.intro rfl (And.intro rfl (And.intro rfl trivial)))
      rcases ic_bsE h with e16 | ⟨y14, g15, e16, h⟩
      · exact tX6_judge_31 (ic_vks (C := 13) k9) 1000 0 g10 _ e16 _ _ ⟨rfl, rfl⟩
      · refine tX6_judge_31 (ic_vks (C := 13) k9) 1000 0 g10 _ e16 _ _ ?_
        change ic_Ev mX6_judge 77 [] [] g15 _ _
        refine ev_iconst (a := 1) (b := 11) 0 rfl (by decide) ?_
        obtain ⟨rfl, rfl⟩ := ic_s2 h
        exact ev_ireturn (a := 1) (b := 12) rfl rfl rfl
    · have h := (if_neg c13).symm.trans h
      refine ev_aload_n (a := 0) (b := 13) rfl rfl ?_
      refine ev_iconst (a := 0) (b := 14) 5 rfl (by decide) ?_
      obtain ⟨v19, g17, e18, h⟩ := ic_b2E h
      refine ev_ivI (a := 0) (b := 15) [ic_I 5] rfl okX6_finding rfl lmX6_66 rfl (rc0) (Nat.le_of_ble_eq_true rfl) (eX6_finding e18) (Nat.le_of_ble_eq_true rfl) rfl ?_
      obtain ⟨rfl, rfl⟩ := ic_s2 h
      exact ev_ireturn (a := 0) (b := 16) rfl rfl rfl
set_option maxRecDepth 20000 in
theorem eX6_image {g g' : ic_S} {v : Int32} (h : fX6_image  g = some (v, g')) : ic_Ev mX6_image 0 (ic_ag 0 [ic_R 0 0 0]) [] g (some (ic_I v)) g' := by
  unfold fX6_image at h
  change ic_Ev mX6_image 0 [(0, ic_R 0 0 0)] [] g _ _
  refine ev_aload_n (a := 0) (b := 0) rfl rfl ?_
  refine ev_get (a := 0) (b := 1) 6 2 rfl rfl (Nat.le_of_ble_eq_true rfl) lfX6_19 (gX6_kept) ?_
  refine ev_aload_n (a := 0) (b := 2) rfl rfl ?_
  refine ev_get (a := 0) (b := 3) 6 0 rfl rfl (Nat.le_of_ble_eq_true rfl) lfX6_10 (gX6_street) ?_
  obtain ⟨g1, e2, h⟩ := ic_b1E h
  refine ev_ivV (a := 0) (b := 4) [ic_O 1 (some (0, 0))] rfl okX2_match rfl lmX6_188 rfl (rc1 (by decide)) (Nat.le_of_ble_eq_true rfl) (eX2_match e2) (Nat.le_of_ble_eq_true rfl) rfl ?_
  refine ev_aload_n (a := 0) (b := 5) rfl rfl ?_
  refine ev_iconst (a := 0) (b := 6) 1 rfl (by decide) ?_
  obtain ⟨g3, eg3, h⟩ := ic_letE h
  refine ev_put (a := 0) (b := 7) 6 3 rfl rfl (Nat.le_of_ble_eq_true rfl) lfX6_22 rfl (pX6_hasKept rfl eg3) ?_
  refine ev_iconst (a := 0) (b := 8) 1 rfl (by decide) ?_
  obtain ⟨rfl, rfl⟩ := ic_s2 h
  exact ev_ireturn (a := 0) (b := 9) rfl rfl rfl
set_option maxRecDepth 20000 in
theorem eX6_undo {g g' : ic_S} {v : Int32} (h : fX6_undo  g = some (v, g')) : ic_Ev mX6_undo 0 (ic_ag 0 [ic_R 0 0 0]) [] g (some (ic_I v)) g' := by
  unfold fX6_undo at h
  change ic_Ev mX6_undo 0 [(0, ic_R 0 0 0)] [] g _ _
  refine ev_aload_n (a := 0) (b := 0) rfl rfl ?_
  refine ev_get (a := 0) (b := 1) 6 3 rfl rfl (Nat.le_of_ble_eq_true rfl) lfX6_22 (gX6_hasKept) ?_
  refine ev_ifne (a := 0) (b := 2) 13 rfl rfl (fun c1 => ?_) (fun c1 => ?_)
  · have h := (if_neg c1).symm.trans h
    refine ev_aload_n (a := 0) (b := 7) rfl rfl ?_
    refine ev_get (a := 0) (b := 8) 6 0 rfl rfl (Nat.le_of_ble_eq_true rfl) lfX6_10 (gX6_street) ?_
    refine ev_aload_n (a := 0) (b := 9) rfl rfl ?_
    refine ev_get (a := 0) (b := 10) 6 2 rfl rfl (Nat.le_of_ble_eq_true rfl) lfX6_19 (gX6_kept) ?_
    obtain ⟨g2, e3, h⟩ := ic_b1E h
    refine ev_ivV (a := 0) (b := 11) [ic_O 1 (some (2, 0))] rfl okX2_match rfl lmX6_188 rfl (rc1 (by decide)) (Nat.le_of_ble_eq_true rfl) (eX2_match e3) (Nat.le_of_ble_eq_true rfl) rfl ?_
    refine ev_aload_n (a := 0) (b := 12) rfl rfl ?_
    refine ev_get (a := 0) (b := 13) 6 0 rfl rfl (Nat.le_of_ble_eq_true rfl) lfX6_10 (gX6_street) ?_
    refine ev_get (a := 0) (b := 14) 2 4 rfl rfl (Nat.le_of_ble_eq_true rfl) lfX6_106 (gX2_callNumber (by decide)) ?_
    obtain ⟨rfl, rfl⟩ := ic_s2 h
    exact ev_ireturn (a := 0) (b := 15) rfl rfl rfl
  · have h := (if_pos c1).symm.trans h
    refine ev_aload_n (a := 0) (b := 3) rfl rfl ?_
    refine ev_iconst (a := 0) (b := 4) 3 rfl (by decide) ?_
    obtain ⟨v6, g4, e5, h⟩ := ic_b2E h
    refine ev_ivI (a := 0) (b := 5) [ic_I 3] rfl okX6_finding rfl lmX6_66 rfl (rc0) (Nat.le_of_ble_eq_true rfl) (eX6_finding e5) (Nat.le_of_ble_eq_true rfl) rfl ?_
    obtain ⟨rfl, rfl⟩ := ic_s2 h
    exact ev_ireturn (a := 0) (b := 6) rfl rfl rfl
set_option maxRecDepth 20000 in
theorem eX6_tear {g g' : ic_S} {v : Int32} (h : fX6_tear  g = some (v, g')) : ic_Ev mX6_tear 0 (ic_ag 0 [ic_R 0 0 0]) [] g (some (ic_I v)) g' := by
  unfold fX6_tear at h
  change ic_Ev mX6_tear 0 [(0, ic_R 0 0 0)] [] g _ _
  refine ev_aload_n (a := 0) (b := 0) rfl rfl ?_
  refine ev_get (a := 0) (b := 1) 6 3 rfl rfl (Nat.le_of_ble_eq_true rfl) lfX6_22 (gX6_hasKept) ?_
  refine ev_ifeq (a := 0) (b := 2) 11 rfl rfl (fun c1 => ?_) (fun c1 => ?_)
  · have h := (if_pos c1).symm.trans h
    refine ev_iconst (a := 0) (b := 5) 0 rfl (by decide) ?_
    refine ev_istore_n (a := 0) (b := 6) [(0, ic_R 0 0 0), (1, ic_I 0)] rfl (by decide) (And.intro (Or.inr (And.intro rfl rfl)) (And.intro (Or.inl rfl) trivial)) ?_
    refine ev_aload_n (a := 0) (b := 7) rfl rfl ?_
    refine ev_iconst (a := 0) (b := 8) 0 rfl (by decide) ?_
    obtain ⟨g2, eg2, h⟩ := ic_letE h
    refine ev_put (a := 0) (b := 9) 6 3 rfl rfl (Nat.le_of_ble_eq_true rfl) lfX6_22 rfl (pX6_hasKept rfl eg2) ?_
    refine ev_iload_n (a := 0) (b := 10) rfl rfl ?_
    obtain ⟨rfl, rfl⟩ := ic_s2 h
    exact ev_ireturn (a := 0) (b := 11) rfl rfl rfl
  · have h := (if_neg c1).symm.trans h
    refine ev_iconst (a := 0) (b := 3) 1 rfl (by decide) ?_
    refine ev_goto (a := 0) (b := 4) 12 rfl rfl ?_
    refine ev_istore_n (a := 0) (b := 6) [(0, ic_R 0 0 0), (1, ic_I 1)] rfl (by decide) (And.intro (Or.inr (And.intro rfl rfl)) (And.intro (Or.inl rfl) trivial)) ?_
    refine ev_aload_n (a := 0) (b := 7) rfl rfl ?_
    refine ev_iconst (a := 0) (b := 8) 0 rfl (by decide) ?_
    obtain ⟨g3, eg3, h⟩ := ic_letE h
    refine ev_put (a := 0) (b := 9) 6 3 rfl rfl (Nat.le_of_ble_eq_true rfl) lfX6_22 rfl (pX6_hasKept rfl eg3) ?_
    refine ev_iload_n (a := 0) (b := 10) rfl rfl ?_
    obtain ⟨rfl, rfl⟩ := ic_s2 h
    exact ev_ireturn (a := 0) (b := 11) rfl rfl rfl
set_option maxRecDepth 20000 in
theorem eX6_count {x1 : Int32} {g g' : ic_S} {v : Int32} (h : fX6_count x1 g = some (v, g')) : ic_Ev mX6_count 0 (ic_ag 0 [ic_R 0 0 0, ic_I x1]) [] g (some (ic_I v)) g' := by
  unfold fX6_count at h
  change ic_Ev mX6_count 0 [(0, ic_R 0 0 0), (1, ic_I x1)] [] g _ _
  refine ev_iload_n (a := 0) (b := 0) rfl rfl ?_
  rcases Decidable.em (x1 = 0) with c1 | c1
  · have h := (if_pos c1).symm.trans h
    refine ev_tsw1 (a := 0) (b := 1) 0 (47) 48 rfl c1 (by decide) (by decide) rfl rfl ?_
    refine ev_aload_n (a := 0) (b := 2) rfl rfl ?_
    refine ev_get (a := 0) (b := 3) 6 0 rfl rfl (Nat.le_of_ble_eq_true rfl) lfX6_10 (gX6_street) ?_
    refine ev_get (a := 0) (b := 4) 2 4 rfl rfl (Nat.le_of_ble_eq_true rfl) lfX6_106 (gX2_callNumber (by decide)) ?_
    obtain ⟨rfl, rfl⟩ := ic_s2 h
    exact ev_ireturn (a := 0) (b := 5) rfl rfl rfl
  · have h := (if_neg c1).symm.trans h
    rcases Decidable.em (x1 = 1) with c2 | c2
    · have h := (if_pos c2).symm.trans h
      refine ev_tsw1 (a := 0) (b := 1) 1 (55) 56 rfl c2 (by decide) (by decide) rfl rfl ?_
      refine ev_aload_n (a := 0) (b := 6) rfl rfl ?_
      refine ev_get (a := 0) (b := 7) 6 0 rfl rfl (Nat.le_of_ble_eq_true rfl) lfX6_10 (gX6_street) ?_
      refine ev_get (a := 0) (b := 8) 2 6 rfl rfl (Nat.le_of_ble_eq_true rfl) lfX6_148 (gX2_made (by decide)) ?_
      obtain ⟨rfl, rfl⟩ := ic_s2 h
      exact ev_ireturn (a := 0) (b := 9) rfl rfl rfl
    · have h := (if_neg c2).symm.trans h
      rcases Decidable.em (x1 = 2) with c3 | c3
      · have h := (if_pos c3).symm.trans h
        refine ev_tsw1 (a := 0) (b := 1) 2 (63) 64 rfl c3 (by decide) (by decide) rfl rfl ?_
        refine ev_aload_n (a := 0) (b := 10) rfl rfl ?_
        refine ev_get (a := 0) (b := 11) 6 0 rfl rfl (Nat.le_of_ble_eq_true rfl) lfX6_10 (gX6_street) ?_
        refine ev_iconst (a := 0) (b := 12) 5 rfl (by decide) ?_
        obtain ⟨v11, g9, e10, h⟩ := ic_b2E h
        refine ev_ivI (a := 0) (b := 13) [ic_I 5] rfl okX2_sumOf rfl lmX6_118 rfl (rc1 (by decide)) (Nat.le_of_ble_eq_true rfl) (eX2_sumOf e10) (Nat.le_of_ble_eq_true rfl) rfl ?_
        obtain ⟨rfl, rfl⟩ := ic_s2 h
        exact ev_ireturn (a := 0) (b := 14) rfl rfl rfl
      · have h := (if_neg c3).symm.trans h
        rcases Decidable.em (x1 = 3) with c4 | c4
        · have h := (if_pos c4).symm.trans h
          refine ev_tsw1 (a := 0) (b := 1) 3 (72) 73 rfl c4 (by decide) (by decide) rfl rfl ?_
          refine ev_aload_n (a := 0) (b := 15) rfl rfl ?_
          refine ev_get (a := 0) (b := 16) 6 0 rfl rfl (Nat.le_of_ble_eq_true rfl) lfX6_10 (gX6_street) ?_
          refine ev_iconst (a := 0) (b := 17) 3 rfl (by decide) ?_
          obtain ⟨v14, g12, e13, h⟩ := ic_b2E h
          refine ev_ivI (a := 0) (b := 18) [ic_I 3] rfl okX2_sumOf rfl lmX6_118 rfl (rc1 (by decide)) (Nat.le_of_ble_eq_true rfl) (eX2_sumOf e13) (Nat.le_of_ble_eq_true rfl) rfl ?_
          obtain ⟨rfl, rfl⟩ := ic_s2 h
          exact ev_ireturn (a := 0) (b := 19) rfl rfl rfl
        · have h := (if_neg c4).symm.trans h
          rcases Decidable.em (x1 = 4) with c5 | c5
          · have h := (if_pos c5).symm.trans h
            refine ev_tsw1 (a := 0) (b := 1) 4 (81) 82 rfl c5 (by decide) (by decide) rfl rfl ?_
            refine ev_aload_n (a := 0) (b := 20) rfl rfl ?_
            refine ev_get (a := 0) (b := 21) 6 0 rfl rfl (Nat.le_of_ble_eq_true rfl) lfX6_10 (gX6_street) ?_
            refine ev_bipush (a := 0) (b := 22) 6 rfl (by decide) ?_
            obtain ⟨v17, g15, e16, h⟩ := ic_b2E h
            refine ev_ivI (a := 0) (b := 23) [ic_I 6] rfl okX2_sumOf rfl lmX6_118 rfl (rc1 (by decide)) (Nat.le_of_ble_eq_true rfl) (eX2_sumOf e16) (Nat.le_of_ble_eq_true rfl) rfl ?_
            obtain ⟨rfl, rfl⟩ := ic_s2 h
            exact ev_ireturn (a := 0) (b := 24) rfl rfl rfl
          · have h := (if_neg c5).symm.trans h
            rcases Decidable.em (x1 = 5) with c6 | c6
            · have h := (if_pos c6).symm.trans h
              refine ev_tsw1 (a := 0) (b := 1) 5 (91) 92 rfl c6 (by decide) (by decide) rfl rfl ?_
              refine ev_aload_n (a := 0) (b := 25) rfl rfl ?_
              refine ev_get (a := 0) (b := 26) 6 4 rfl rfl (Nat.le_of_ble_eq_true rfl) lfX6_29 (gX6_tape) ?_
              refine ev_get (a := 0) (b := 27) 3 0 rfl rfl (Nat.le_of_ble_eq_true rfl) lfX6_176 (gX3_size) ?_
              obtain ⟨rfl, rfl⟩ := ic_s2 h
              exact ev_ireturn (a := 0) (b := 28) rfl rfl rfl
            · have h := (if_neg c6).symm.trans h
              rcases Decidable.em (x1 = 6) with c7 | c7
              · have h := (if_pos c7).symm.trans h
                refine ev_tsw1 (a := 0) (b := 1) 6 (99) 100 rfl c7 (by decide) (by decide) rfl rfl ?_
                refine ev_aload_n (a := 0) (b := 29) rfl rfl ?_
                refine ev_get (a := 0) (b := 30) 6 0 rfl rfl (Nat.le_of_ble_eq_true rfl) lfX6_10 (gX6_street) ?_
                refine ev_get (a := 0) (b := 31) 2 5 rfl rfl (Nat.le_of_ble_eq_true rfl) lfX6_173 (gX2_z (by decide)) ?_
                obtain ⟨rfl, rfl⟩ := ic_s2 h
                exact ev_ireturn (a := 1) (b := 0) rfl rfl rfl
              · have h := (if_neg c7).symm.trans h
                rcases Decidable.em (x1 = 7) with c8 | c8
                · have h := (if_pos c8).symm.trans h
                  refine ev_tsw1 (a := 0) (b := 1) 7 (107) 108 rfl c8 (by decide) (by decide) rfl rfl ?_
                  refine ev_aload_n (a := 1) (b := 1) rfl rfl ?_
                  refine ev_get (a := 1) (b := 2) 6 0 rfl rfl (Nat.le_of_ble_eq_true rfl) lfX6_10 (gX6_street) ?_
                  obtain ⟨v20, g18, e19, h⟩ := ic_b2E h
                  refine ev_ivI (a := 1) (b := 3) [] rfl okX2_spotsInUse rfl lmX6_236 rfl (rc1 (by decide)) (Nat.le_of_ble_eq_true rfl) (eX2_spotsInUse e19) (Nat.le_of_ble_eq_true rfl) rfl ?_
                  obtain ⟨rfl, rfl⟩ := ic_s2 h
                  exact ev_ireturn (a := 1) (b := 4) rfl rfl rfl
                · have h := (if_neg c8).symm.trans h
                  refine ev_tsw0 (a := 0) (b := 1) [0, 1, 2, 3, 4, 5, 6, 7] 116 rfl (List.forall_mem_cons.mpr ⟨c1, List.forall_mem_cons.mpr ⟨c2, List.forall_mem_cons.mpr ⟨c3, List.forall_mem_cons.mpr ⟨c4, List.forall_mem_cons.mpr ⟨c5, List.forall_mem_cons.mpr ⟨c6, List.forall_mem_cons.mpr ⟨c7, List.forall_mem_cons.mpr ⟨c8, fun _ hh => absurd hh List.not_mem_nil⟩⟩⟩⟩⟩⟩⟩⟩) (by decide) (by decide) rfl ?_
                  refine ev_aload_n (a := 1) (b := 5) rfl rfl ?_
                  refine ev_iconst (a := 1) (b := 6) 0 rfl (by decide) ?_
                  obtain ⟨v23, g21, e22, h⟩ := ic_b2E h
                  refine ev_ivI (a := 1) (b := 7) [ic_I 0] rfl okX6_finding rfl lmX6_66 rfl (rc0) (Nat.le_of_ble_eq_true rfl) (eX6_finding e22) (Nat.le_of_ble_eq_true rfl) rfl ?_
                  obtain ⟨rfl, rfl⟩ := ic_s2 h
                  exact ev_ireturn (a := 1) (b := 8) rfl rfl rfl
set_option maxRecDepth 20000 in
theorem tX6_status_45 : ∀ (n : Nat) (x2 : Int32) (x5 : Int32) (g : ic_S) (q : (Int32) × ic_S), lX6_status_45 n x2 x5 g = some q → ∀ (r : Option ic_V) (g' : ic_S), ic_Ev mX6_status 69 [(2, ic_I q.1)] [] q.2 r g' → ic_Ev mX6_status 45 [(2, ic_I x2), (3, ic_R 15 0 0), (4, ic_I 7), (5, ic_I x5)] [] g r g' := by
  intro n
  induction n with
  | zero => intro x2 x5 g q h; cases h
  | succ n ih =>
    intro x2 x5 g q h r g' hq
    rw [lX6_status_45] at h
    refine ev_iload (a := 0) (b := 29) rfl rfl ?_
    refine ev_iload (a := 0) (b := 30) rfl rfl ?_
    refine ev_icge (a := 0) (b := 31) 69 rfl rfl (fun c1001 => ?_) (fun c1001 => ?_)
    · have h := (if_pos c1001).symm.trans h
      obtain rfl := ic_s1 h
      exact ev_fw (lv' := [(2, ic_I x2)]) hq (And.intro rfl trivial)
    · have h := (if_neg c1001).symm.trans h
      refine ev_aload_n (a := 1) (b := 0) rfl rfl ?_
      refine ev_iload (a := 1) (b := 1) rfl rfl ?_
      obtain ⟨h1002, h⟩ := ic_gdE h
      refine ev_iald (a := 1) (b := 2) rfl (a15) h1002 ?_
      obtain ⟨y1003, ey1003, h⟩ := ic_letE h
      refine ev_topI ey1003 ?_
      refine ev_istore (a := 1) (b := 3) [(2, ic_I x2), (3, ic_R 15 0 0), (4, ic_I 7), (5, ic_I x5), (6, ic_I y1003)] rfl (by decide) (And.intro (Or.inr (And.intro rfl rfl)) (And.intro (Or.inr (And.intro rfl rfl)) (And.intro (Or.inr (And.intro rfl rfl)) (And.intro (Or.inr (And.intro rfl rfl)) (And.intro (Or.inl rfl) trivial))))) ?_
      refine ev_iload_n (a := 1) (b := 4) rfl rfl ?_
      refine ev_iload (a := 1) (b := 5) rfl rfl ?_
      refine ev_iadd (a := 1) (b := 6) rfl ?_
      refine ev_istore_n (a := 1) (b := 7) [(2, ic_I (x2 + y1003)), (3, ic_R 15 0 0), (4, ic_I 7), (5, ic_I x5)] rfl (by decide) (And.intro (Or.inl rfl) (And.intro (Or.inr (And.intro rfl rfl)) (And.intro (Or.inr (And.intro rfl rfl)) (And.intro (Or.inr (And.intro rfl rfl)) trivial)))) ?_
      refine ev_iinc (a := 1) (b := 8) (x5 + 1) [(2, ic_I (x2 + y1003)), (3, ic_R 15 0 0), (4, ic_I 7), (5, ic_I (x5 + 1))] rfl rfl (by first | rfl | decide) (by decide) (And.intro (Or.inr (And.intro rfl rfl)) (And.intro (Or.inr (And.intro rfl rfl)) (And.intro (Or.inr (And.intro rfl rfl)) (And.intro (Or.inl rfl) trivial)))) ?_
      refine ev_goto (a := 1) (b := 9) 45 rfl rfl ?_
      refine ev_fw (lv' := [(2, ic_I (x2 + y1003)), (3, ic_R 15 0 0), (4, ic_I 7), (5, ic_I (x5 + 1))]) ?_ (And.intro rfl (And.intro rfl (And.intro rfl (And.intro rfl trivial))))
      exact ih (x2 + y1003) (x5 + 1) g _ h _ _ hq
set_option maxRecDepth 20000 in
theorem eX6_status {x1 : Int32} {g g' : ic_S} {v : Int32} (h : fX6_status x1 g = some (v, g')) : ic_Ev mX6_status 0 (ic_ag 0 [ic_R 0 0 0, ic_I x1]) [] g (some (ic_I v)) g' := by
  unfold fX6_status at h
  change ic_Ev mX6_status 0 [(0, ic_R 0 0 0), (1, ic_I x1)] [] g _ _
  refine ev_iload_n (a := 0) (b := 0) rfl rfl ?_
  refine ev_iconst (a := 0) (b := 1) (-1) rfl (by decide) ?_
  refine ev_iclt (a := 0) (b := 2) 14 rfl rfl (fun c1 => ?_) (fun c1 => ?_)
  · have h := (if_pos c1).symm.trans h
    refine ev_aload_n (a := 0) (b := 8) rfl rfl ?_
    refine ev_iconst (a := 0) (b := 9) 0 rfl (by decide) ?_
    obtain ⟨v4, g2, e3, h⟩ := ic_b2E h
    refine ev_ivI (a := 0) (b := 10) [ic_I 0] rfl okX6_finding rfl lmX6_66 rfl (rc0) (Nat.le_of_ble_eq_true rfl) (eX6_finding e3) (Nat.le_of_ble_eq_true rfl) rfl ?_
    obtain ⟨rfl, rfl⟩ := ic_s2 h
    exact ev_ireturn (a := 0) (b := 11) rfl rfl rfl
  · have h := (if_neg c1).symm.trans h
    refine ev_iload_n (a := 0) (b := 3) rfl rfl ?_
    refine ev_aload_n (a := 0) (b := 4) rfl rfl ?_
    refine ev_get (a := 0) (b := 5) 6 8 rfl rfl (Nat.le_of_ble_eq_true rfl) lfX6_58 (gX6_findings) ?_
    refine ev_alen (a := 0) (b := 6) 7 rfl (a15) (by decide) ?_
    refine ev_iclt (a := 0) (b := 7) 20 rfl rfl (fun c5 => ?_) (fun c5 => ?_)
    · have h := (if_pos c5).symm.trans h
      refine ev_iload_n (a := 0) (b := 12) rfl rfl ?_
      refine ev_iflt (a := 0) (b := 13) 31 rfl rfl (fun c6 => ?_) (fun c6 => ?_)
      · have h := (if_pos c6).symm.trans h
        refine ev_iconst (a := 0) (b := 19) 0 rfl (by decide) ?_
        refine ev_istore_n (a := 0) (b := 20) [(0, ic_R 0 0 0), (2, ic_I 0)] rfl (by decide) (And.intro (Or.inr (And.intro rfl rfl)) (And.intro (Or.inl rfl) trivial)) ?_
        refine ev_aload_n (a := 0) (b := 21) rfl rfl ?_
        refine ev_get (a := 0) (b := 22) 6 8 rfl rfl (Nat.le_of_ble_eq_true rfl) lfX6_58 (gX6_findings) ?_
        refine ev_astore_n (a := 0) (b := 23) [(2, ic_I 0), (3, ic_R 15 0 0)] rfl (by decide) (And.intro (Or.inr (And.intro rfl rfl)) (And.intro (Or.inl rfl) trivial)) ?_
        refine ev_aload_n (a := 0) (b := 24) rfl rfl ?_
        refine ev_alen (a := 0) (b := 25) 7 rfl (a15) (by decide) ?_
        refine ev_istore (a := 0) (b := 26) [(2, ic_I 0), (3, ic_R 15 0 0), (4, ic_I 7)] rfl (by decide) (And.intro (Or.inr (And.intro rfl rfl)) (And.intro (Or.inr (And.intro rfl rfl)) (And.intro (Or.inl rfl) trivial))) ?_
        refine ev_iconst (a := 0) (b := 27) 0 rfl (by decide) ?_
        refine ev_istore (a := 0) (b := 28) [(2, ic_I 0), (3, ic_R 15 0 0), (4, ic_I 7), (5, ic_I 0)] rfl (by decide) (And.intro (Or.inr (And.intro rfl rfl)) (And.intro (Or.inr (And.intro rfl rfl)) (And.intro (Or.inr (And.intro rfl rfl)) (And.intro (Or.inl rfl) trivial)))) ?_
        refine ev_fw (lv' := [(2, ic_I 0), (3, ic_R 15 0 0), (4, ic_I 7), (5, ic_I 0)]) ?_ (And.intro rfl (And.intro rfl (And.intro rfl (And.intro rfl trivial))))
        obtain ⟨y7, g8, e9, h⟩ := ic_b2E h
        refine tX6_status_45  1000 0 0 g _ e9 _ _ ?_
        change ic_Ev mX6_status 69 [(2, ic_I y7)] [] g8 _ _
        refine ev_iload_n (a := 1) (b := 10) rfl rfl ?_
        obtain ⟨rfl, rfl⟩ := ic_s2 h
        exact ev_ireturn (a := 1) (b := 11) rfl rfl rfl
      · have h := (if_neg c6).symm.trans h
        refine ev_aload_n (a := 0) (b := 14) rfl rfl ?_
        refine ev_get (a := 0) (b := 15) 6 8 rfl rfl (Nat.le_of_ble_eq_true rfl) lfX6_58 (gX6_findings) ?_
        refine ev_iload_n (a := 0) (b := 16) rfl rfl ?_
        obtain ⟨h10, h⟩ := ic_gdE h
        refine ev_iald (a := 0) (b := 17) rfl (a15) h10 ?_
        obtain ⟨rfl, rfl⟩ := ic_s2 h
        exact ev_ireturn (a := 0) (b := 18) rfl rfl rfl
    · have h := (if_neg c5).symm.trans h
      refine ev_aload_n (a := 0) (b := 8) rfl rfl ?_
      refine ev_iconst (a := 0) (b := 9) 0 rfl (by decide) ?_
      obtain ⟨v13, g11, e12, h⟩ := ic_b2E h
      refine ev_ivI (a := 0) (b := 10) [ic_I 0] rfl okX6_finding rfl lmX6_66 rfl (rc0) (Nat.le_of_ble_eq_true rfl) (eX6_finding e12) (Nat.le_of_ble_eq_true rfl) rfl ?_
      obtain ⟨rfl, rfl⟩ := ic_s2 h
      exact ev_ireturn (a := 0) (b := 11) rfl rfl rfl
set_option maxRecDepth 20000 in
theorem eX7_finds {x1 : Int32} {g g' : ic_S} {v : Int32} (h : fX7_finds x1 g = some (v, g')) : ic_Ev mX7_finds 0 (ic_ag 0 [ic_R 16 0 0, ic_I x1]) [] g (some (ic_I v)) g' := by
  unfold fX7_finds at h
  change ic_Ev mX7_finds 0 [(0, ic_R 16 0 0), (1, ic_I x1)] [] g _ _
  refine ev_aload_n (a := 0) (b := 0) rfl rfl ?_
  refine ev_get (a := 0) (b := 1) 7 5 rfl rfl (Nat.le_of_ble_eq_true rfl) lfX7_22 (gX7_found) ?_
  refine ev_iload_n (a := 0) (b := 2) rfl rfl ?_
  refine ev_dup2 (a := 0) (b := 3) rfl rfl rfl ?_
  obtain ⟨h1, h⟩ := ic_gdE h
  refine ev_iald (a := 0) (b := 4) rfl (a18) h1 ?_
  refine ev_iconst (a := 0) (b := 5) 1 rfl (by decide) ?_
  refine ev_iadd (a := 0) (b := 6) rfl ?_
  obtain ⟨h2, h⟩ := ic_gdE h
  obtain ⟨g3, eg3, h⟩ := ic_letE h
  refine ev_iast (a := 0) (b := 7) rfl h2 (w18 eg3) ?_
  refine ev_ldc (a := 0) (b := 8) (-1000001) rfl lcX7_41 ?_
  refine ev_iload_n (a := 0) (b := 9) rfl rfl ?_
  refine ev_isub (a := 0) (b := 10) rfl ?_
  obtain ⟨rfl, rfl⟩ := ic_s2 h
  exact ev_ireturn (a := 0) (b := 11) rfl rfl rfl
set_option maxRecDepth 20000 in
theorem eX7_in {x0 : Int64} {x2 : Int64} {x4 : Int64} {g g' : ic_S} {v : Int32} (h : fX7_in x0 x2 x4 g = some (v, g')) : ic_Ev mX7_in 0 (ic_ag 0 [ic_J x0, ic_J x2, ic_J x4]) [] g (some (ic_I v)) g' := by
  unfold fX7_in at h
  change ic_Ev mX7_in 0 [(0, ic_J x0), (2, ic_J x2), (4, ic_J x4)] [] g _ _
  refine ev_lload_n (a := 0) (b := 0) rfl rfl ?_
  refine ev_lload_n (a := 0) (b := 1) rfl rfl ?_
  refine ev_lcmp (a := 0) (b := 2) rfl ?_
  refine ev_iflt (a := 0) (b := 3) 17 rfl rfl (fun c1 => ?_) (fun c1 => ?_)
  · have h := (if_pos c1).symm.trans h
    refine ev_iconst (a := 0) (b := 10) 0 rfl (by decide) ?_
    obtain ⟨rfl, rfl⟩ := ic_s2 h
    exact ev_ireturn (a := 0) (b := 11) rfl rfl rfl
  · have h := (if_neg c1).symm.trans h
    refine ev_lload_n (a := 0) (b := 4) rfl rfl ?_
    refine ev_lload (a := 0) (b := 5) rfl rfl ?_
    refine ev_lcmp (a := 0) (b := 6) rfl ?_
    refine ev_ifgt (a := 0) (b := 7) 17 rfl rfl (fun c2 => ?_) (fun c2 => ?_)
    · have h := (if_pos c2).symm.trans h
      refine ev_iconst (a := 0) (b := 10) 0 rfl (by decide) ?_
      obtain ⟨rfl, rfl⟩ := ic_s2 h
      exact ev_ireturn (a := 0) (b := 11) rfl rfl rfl
    · have h := (if_neg c2).symm.trans h
      refine ev_iconst (a := 0) (b := 8) 1 rfl (by decide) ?_
      refine ev_goto (a := 0) (b := 9) 18 rfl rfl ?_
      obtain ⟨rfl, rfl⟩ := ic_s2 h
      exact ev_ireturn (a := 0) (b := 11) rfl rfl rfl
set_option maxRecDepth 20000 in
theorem eX7_held {x0 : Int32} {x1 : Int32} {x2 : Int32} {g g' : ic_S} {v : Int32} (h : fX7_held x0 x1 x2 g = some (v, g')) : ic_Ev mX7_held 0 (ic_ag 0 [ic_I x0, ic_I x1, ic_I x2]) [] g (some (ic_I v)) g' := by
  unfold fX7_held at h
  change ic_Ev mX7_held 0 [(0, ic_I x0), (1, ic_I x1), (2, ic_I x2)] [] g _ _
  refine ev_iload_n (a := 0) (b := 0) rfl rfl ?_
  refine ev_iload_n (a := 0) (b := 1) rfl rfl ?_
  refine ev_icge (a := 0) (b := 2) 9 rfl rfl (fun c1 => ?_) (fun c1 => ?_)
  · have h := (if_pos c1).symm.trans h
    refine ev_iload_n (a := 0) (b := 5) rfl rfl ?_
    refine ev_iload_n (a := 0) (b := 6) rfl rfl ?_
    refine ev_icle (a := 0) (b := 7) 18 rfl rfl (fun c2 => ?_) (fun c2 => ?_)
    · have h := (if_pos c2).symm.trans h
      refine ev_iload_n (a := 0) (b := 10) rfl rfl ?_
      obtain ⟨rfl, rfl⟩ := ic_s2 h
      exact ev_ireturn (a := 0) (b := 11) rfl rfl rfl
    · have h := (if_neg c2).symm.trans h
      refine ev_iload_n (a := 0) (b := 8) rfl rfl ?_
      refine ev_goto (a := 0) (b := 9) 19 rfl rfl ?_
      obtain ⟨rfl, rfl⟩ := ic_s2 h
      exact ev_ireturn (a := 0) (b := 11) rfl rfl rfl
  · have h := (if_neg c1).symm.trans h
    refine ev_iload_n (a := 0) (b := 3) rfl rfl ?_
    refine ev_goto (a := 0) (b := 4) 19 rfl rfl ?_
    obtain ⟨rfl, rfl⟩ := ic_s2 h
    exact ev_ireturn (a := 0) (b := 11) rfl rfl rfl
set_option maxRecDepth 20000 in
theorem tX7_copies_2 {a0 : Nat} (ha0 : a0 < 4) {a1 : Nat} (ha1 : a1 < 4) : ∀ (n : Nat) (x2 : Int32) (g : ic_S) (q : Unit × ic_S), lX7_copies_2 a0 a1 n x2 g = some q → ∀ (r : Option ic_V) (g' : ic_S), ic_Ev mX7_copies 20 [] [] q.2 r g' → ic_Ev mX7_copies 2 [(0, ic_R 17 a0 0), (1, ic_R 17 a1 0), (2, ic_I x2)] [] g r g' := by
  intro n
  induction n with
  | zero => intro x2 g q h; cases h
  | succ n ih =>
    intro x2 g q h r g' hq
    rw [lX7_copies_2] at h
    refine ev_iload_n (a := 0) (b := 2) rfl rfl ?_
    refine ev_bipush (a := 0) (b := 3) 73 rfl (by decide) ?_
    refine ev_icge (a := 0) (b := 4) 20 rfl rfl (fun c1001 => ?_) (fun c1001 => ?_)
    · have h := (if_pos c1001).symm.trans h
      obtain rfl := ic_s1 h
      exact ev_fw (lv' := []) hq trivial
    · have h := (if_neg c1001).symm.trans h
      refine ev_aload_n (a := 0) (b := 5) rfl rfl ?_
      refine ev_iload_n (a := 0) (b := 6) rfl rfl ?_
      refine ev_aload_n (a := 0) (b := 7) rfl rfl ?_
      refine ev_iload_n (a := 0) (b := 8) rfl rfl ?_
      obtain ⟨h1002, h⟩ := ic_gdE h
      refine ev_iald (a := 0) (b := 9) rfl (a17 ha0) h1002 ?_
      obtain ⟨h1003, h⟩ := ic_gdE h
      obtain ⟨g1004, eg1004, h⟩ := ic_letE h
      refine ev_iast (a := 0) (b := 10) rfl h1003 (w17 ha1 eg1004) ?_
      refine ev_iinc (a := 0) (b := 11) (x2 + 1) [(0, ic_R 17 a0 0), (1, ic_R 17 a1 0), (2, ic_I (x2 + 1))] rfl rfl (by first | rfl | decide) (by decide) (And.intro (Or.inr (And.intro rfl rfl)) (And.intro (Or.inr (And.intro rfl rfl)) (And.intro (Or.inl rfl) trivial))) ?_
      refine ev_goto (a := 0) (b := 12) 2 rfl rfl ?_
      refine ev_fw (lv' := [(0, ic_R 17 a0 0), (1, ic_R 17 a1 0), (2, ic_I (x2 + 1))]) ?_ (And.intro rfl (And.intro rfl (And.intro rfl trivial)))
      exact ih (x2 + 1) g1004 _ h _ _ hq
set_option maxRecDepth 20000 in
theorem eX7_copies {a0 : Nat} {a1 : Nat} {g g' : ic_S} (h : fX7_copies a0 a1 g = some g') : ic_Ev mX7_copies 0 (ic_ag 0 [ic_R 17 a0 0, ic_R 17 a1 0]) [] g (none) g' := by
  unfold fX7_copies at h
  obtain ⟨ha0, h⟩ := ic_gdE h
  have ha0 : a0 < 4 := Nat.le_of_ble_eq_true ha0
  obtain ⟨ha1, h⟩ := ic_gdE h
  have ha1 : a1 < 4 := Nat.le_of_ble_eq_true ha1
  change ic_Ev mX7_copies 0 [(0, ic_R 17 a0 0), (1, ic_R 17 a1 0)] [] g _ _
  refine ev_iconst (a := 0) (b := 0) 0 rfl (by decide) ?_
  refine ev_istore_n (a := 0) (b := 1) [(0, ic_R 17 a0 0), (1, ic_R 17 a1 0), (2, ic_I 0)] rfl (by decide) (And.intro (Or.inr (And.intro rfl rfl)) (And.intro (Or.inr (And.intro rfl rfl)) (And.intro (Or.inl rfl) trivial))) ?_
  refine ev_fw (lv' := [(0, ic_R 17 a0 0), (1, ic_R 17 a1 0), (2, ic_I 0)]) ?_ (And.intro rfl (And.intro rfl (And.intro rfl trivial)))
  obtain ⟨y1, g2, e3, h⟩ := ic_b2E h
  refine tX7_copies_2 ha0 ha1 1000 0 g _ e3 _ _ ?_
  change ic_Ev mX7_copies 20 [] [] g2 _ _
  obtain rfl := ic_s1 h
  exact ev_return (a := 0) (b := 13) rfl rfl
set_option maxRecDepth 20000 in
theorem eX7_isThing {x1 : Int32} {g g' : ic_S} {v : Int32} (h : fX7_isThing x1 g = some (v, g')) : ic_Ev mX7_isThing 0 (ic_ag 0 [ic_R 16 0 0, ic_I x1]) [] g (some (ic_I v)) g' := by
  unfold fX7_isThing at h
  change ic_Ev mX7_isThing 0 [(0, ic_R 16 0 0), (1, ic_I x1)] [] g _ _
  refine ev_iload_n (a := 0) (b := 0) rfl rfl ?_
  refine ev_i2l (a := 0) (b := 1) rfl ?_
  refine ev_lconst (a := 0) (b := 2) 0 rfl (by decide) ?_
  refine ev_aload_n (a := 0) (b := 3) rfl rfl ?_
  refine ev_get (a := 0) (b := 4) 7 0 rfl rfl (Nat.le_of_ble_eq_true rfl) lfX7_7 (gX7_d) ?_
  refine ev_iconst (a := 0) (b := 5) 0 rfl (by decide) ?_
  refine ev_ialdk (a := 0) (b := 6) 0 (by decide) rfl (a17 (by decide)) (by decide) ?_
  refine ev_iconst (a := 0) (b := 7) 1 rfl (by decide) ?_
  refine ev_isub (a := 0) (b := 8) rfl ?_
  refine ev_i2l (a := 0) (b := 9) rfl ?_
  obtain ⟨v3, g1, e2, h⟩ := ic_b2E h
  refine ev_isI (a := 0) (b := 10) [ic_J (Int32.toInt64 x1), ic_J 0, ic_J (Int32.toInt64 ((g.1 (3 + 0) 0) - 1))] rfl okX7_in rfl lmX7_42 rfl (Nat.le_of_ble_eq_true rfl) (eX7_in e2) (Nat.le_of_ble_eq_true rfl) rfl ?_
  obtain ⟨h4, h⟩ := ic_gdE h
  obtain ⟨rfl, rfl⟩ := ic_s2 h
  exact ev_ireturn (a := 0) (b := 11) rfl rfl (ic_nzn h4).1
set_option maxRecDepth 20000 in
theorem eX7_isCell {x0 : Int32} {g g' : ic_S} {v : Int32} (h : fX7_isCell x0 g = some (v, g')) : ic_Ev mX7_isCell 0 (ic_ag 0 [ic_I x0]) [] g (some (ic_I v)) g' := by
  unfold fX7_isCell at h
  change ic_Ev mX7_isCell 0 [(0, ic_I x0)] [] g _ _
  refine ev_iload_n (a := 0) (b := 0) rfl rfl ?_
  refine ev_i2l (a := 0) (b := 1) rfl ?_
  refine ev_lconst (a := 0) (b := 2) 0 rfl (by decide) ?_
  refine ev_ldc2 (a := 0) (b := 3) 15 rfl lcX7_46 ?_
  obtain ⟨v3, g1, e2, h⟩ := ic_b2E h
  refine ev_isI (a := 0) (b := 4) [ic_J (Int32.toInt64 x0), ic_J 0, ic_J 15] rfl okX7_in rfl lmX7_42 rfl (Nat.le_of_ble_eq_true rfl) (eX7_in e2) (Nat.le_of_ble_eq_true rfl) rfl ?_
  obtain ⟨h4, h⟩ := ic_gdE h
  obtain ⟨rfl, rfl⟩ := ic_s2 h
  exact ev_ireturn (a := 0) (b := 5) rfl rfl (ic_nzn h4).1
set_option maxRecDepth 20000 in
theorem eX7_its {x1 : Int32} {x2 : Int32} {g g' : ic_S} {v : Int32} (h : fX7_its x1 x2 g = some (v, g')) : ic_Ev mX7_its 0 (ic_ag 0 [ic_R 16 0 0, ic_I x1, ic_I x2]) [] g (some (ic_I v)) g' := by
  unfold fX7_its at h
  change ic_Ev mX7_its 0 [(0, ic_R 16 0 0), (1, ic_I x1), (2, ic_I x2)] [] g _ _
  refine ev_aload_n (a := 0) (b := 0) rfl rfl ?_
  refine ev_get (a := 0) (b := 1) 7 0 rfl rfl (Nat.le_of_ble_eq_true rfl) lfX7_7 (gX7_d) ?_
  refine ev_bipush (a := 0) (b := 2) 7 rfl (by decide) ?_
  refine ev_bipush (a := 0) (b := 3) 8 rfl (by decide) ?_
  refine ev_iload_n (a := 0) (b := 4) rfl rfl ?_
  refine ev_imul (a := 0) (b := 5) rfl ?_
  refine ev_iadd (a := 0) (b := 6) rfl ?_
  refine ev_iload_n (a := 0) (b := 7) rfl rfl ?_
  refine ev_iadd (a := 0) (b := 8) rfl ?_
  obtain ⟨h1, h⟩ := ic_gdE h
  refine ev_iald (a := 0) (b := 9) rfl (a17 (by decide)) h1 ?_
  obtain ⟨rfl, rfl⟩ := ic_s2 h
  exact ev_ireturn (a := 0) (b := 10) rfl rfl rfl
set_option maxRecDepth 20000 in
theorem eX7_sets {x1 : Int32} {x2 : Int32} {x3 : Int32} {g g' : ic_S} (h : fX7_sets x1 x2 x3 g = some g') : ic_Ev mX7_sets 0 (ic_ag 0 [ic_R 16 0 0, ic_I x1, ic_I x2, ic_I x3]) [] g (none) g' := by
  unfold fX7_sets at h
  change ic_Ev mX7_sets 0 [(0, ic_R 16 0 0), (1, ic_I x1), (2, ic_I x2), (3, ic_I x3)] [] g _ _
  refine ev_aload_n (a := 0) (b := 0) rfl rfl ?_
  refine ev_get (a := 0) (b := 1) 7 0 rfl rfl (Nat.le_of_ble_eq_true rfl) lfX7_7 (gX7_d) ?_
  refine ev_bipush (a := 0) (b := 2) 7 rfl (by decide) ?_
  refine ev_bipush (a := 0) (b := 3) 8 rfl (by decide) ?_
  refine ev_iload_n (a := 0) (b := 4) rfl rfl ?_
  refine ev_imul (a := 0) (b := 5) rfl ?_
  refine ev_iadd (a := 0) (b := 6) rfl ?_
  refine ev_iload_n (a := 0) (b := 7) rfl rfl ?_
  refine ev_iadd (a := 0) (b := 8) rfl ?_
  refine ev_iload_n (a := 0) (b := 9) rfl rfl ?_
  obtain ⟨h1, h⟩ := ic_gdE h
  obtain ⟨g2, eg2, h⟩ := ic_letE h
  refine ev_iast (a := 0) (b := 10) rfl h1 (w17 (by decide) eg2) ?_
  obtain rfl := ic_s1 h
  exact ev_return (a := 0) (b := 11) rfl rfl
set_option maxRecDepth 20000 in
theorem eX7_becomes {x1 : Int32} {x2 : Int32} {g g' : ic_S} {v : Int32} (h : fX7_becomes x1 x2 g = some (v, g')) : ic_Ev mX7_becomes 0 (ic_ag 0 [ic_R 16 0 0, ic_I x1, ic_I x2]) [] g (some (ic_I v)) g' := by
  unfold fX7_becomes at h
  change ic_Ev mX7_becomes 0 [(0, ic_R 16 0 0), (1, ic_I x1), (2, ic_I x2)] [] g _ _
  refine ev_aload_n (a := 0) (b := 0) rfl rfl ?_
  refine ev_get (a := 0) (b := 1) 7 0 rfl rfl (Nat.le_of_ble_eq_true rfl) lfX7_7 (gX7_d) ?_
  refine ev_iload_n (a := 0) (b := 2) rfl rfl ?_
  obtain ⟨h1, h⟩ := ic_gdE h
  refine ev_iald (a := 0) (b := 3) rfl (a17 (by decide)) h1 ?_
  obtain ⟨y2, ey2, h⟩ := ic_letE h
  refine ev_topI ey2 ?_
  refine ev_istore_n (a := 0) (b := 4) [(0, ic_R 16 0 0), (1, ic_I x1), (2, ic_I x2), (3, ic_I y2)] rfl (by decide) (And.intro (Or.inr (And.intro rfl rfl)) (And.intro (Or.inr (And.intro rfl rfl)) (And.intro (Or.inr (And.intro rfl rfl)) (And.intro (Or.inl rfl) trivial)))) ?_
  refine ev_aload_n (a := 0) (b := 5) rfl rfl ?_
  refine ev_get (a := 0) (b := 6) 7 0 rfl rfl (Nat.le_of_ble_eq_true rfl) lfX7_7 (gX7_d) ?_
  refine ev_iload_n (a := 0) (b := 7) rfl rfl ?_
  refine ev_iload_n (a := 0) (b := 8) rfl rfl ?_
  obtain ⟨h3, h⟩ := ic_gdE h
  obtain ⟨g4, eg4, h⟩ := ic_letE h
  refine ev_iast (a := 0) (b := 9) rfl h3 (w17 (by decide) eg4) ?_
  refine ev_iload_n (a := 0) (b := 10) rfl rfl ?_
  obtain ⟨rfl, rfl⟩ := ic_s2 h
  exact ev_ireturn (a := 0) (b := 11) rfl rfl rfl
set_option maxRecDepth 20000 in
theorem tX7_ones_4 {x0 : Int32} : ∀ (n : Nat) (x1 : Int32) (x2 : Int32) (g : ic_S) (q : (Int32) × ic_S), lX7_ones_4 x0 n x1 x2 g = some q → ∀ (r : Option ic_V) (g' : ic_S), ic_Ev mX7_ones 24 [(1, ic_I q.1)] [] q.2 r g' → ic_Ev mX7_ones 4 [(0, ic_I x0), (1, ic_I x1), (2, ic_I x2)] [] g r g' := by
  intro n
  induction n with
  | zero => intro x1 x2 g q h; cases h
  | succ n ih =>
    intro x1 x2 g q h r g' hq
    rw [lX7_ones_4] at h
    refine ev_iload_n (a := 0) (b := 4) rfl rfl ?_
    refine ev_bipush (a := 0) (b := 5) 8 rfl (by decide) ?_
    refine ev_icge (a := 0) (b := 6) 24 rfl rfl (fun c1001 => ?_) (fun c1001 => ?_)
    · have h := (if_pos c1001).symm.trans h
      obtain rfl := ic_s1 h
      exact ev_fw (lv' := [(1, ic_I x1)]) hq (And.intro rfl trivial)
    · have h := (if_neg c1001).symm.trans h
      refine ev_iload_n (a := 0) (b := 7) rfl rfl ?_
      refine ev_iload_n (a := 0) (b := 8) rfl rfl ?_
      refine ev_iload_n (a := 0) (b := 9) rfl rfl ?_
      refine ev_ishr (a := 0) (b := 10) rfl ?_
      refine ev_iconst (a := 0) (b := 11) 1 rfl (by decide) ?_
      refine ev_iand (a := 0) (b := 12) rfl ?_
      refine ev_iadd (a := 0) (b := 13) rfl ?_
      obtain ⟨y1002, ey1002, h⟩ := ic_letE h
      refine ev_topI ey1002 ?_
      refine ev_istore_n (a := 0) (b := 14) [(0, ic_I x0), (1, ic_I y1002), (2, ic_I x2)] rfl (by decide) (And.intro (Or.inr (And.intro rfl rfl)) (And.intro (Or.inl rfl) (And.intro (Or.inr (And.intro rfl rfl)) trivial))) ?_
      refine ev_iinc (a := 0) (b := 15) (x2 + 1) [(0, ic_I x0), (1, ic_I y1002), (2, ic_I (x2 + 1))] rfl rfl (by first | rfl | decide) (by decide) (And.intro (Or.inr (And.intro rfl rfl)) (And.intro (Or.inr (And.intro rfl rfl)) (And.intro (Or.inl rfl) trivial))) ?_
      refine ev_goto (a := 0) (b := 16) 4 rfl rfl ?_
      refine ev_fw (lv' := [(0, ic_I x0), (1, ic_I y1002), (2, ic_I (x2 + 1))]) ?_ (And.intro rfl (And.intro rfl (And.intro rfl trivial)))
      exact ih y1002 (x2 + 1) g _ h _ _ hq
set_option maxRecDepth 20000 in
theorem eX7_ones {x0 : Int32} {g g' : ic_S} {v : Int32} (h : fX7_ones x0 g = some (v, g')) : ic_Ev mX7_ones 0 (ic_ag 0 [ic_I x0]) [] g (some (ic_I v)) g' := by
  unfold fX7_ones at h
  change ic_Ev mX7_ones 0 [(0, ic_I x0)] [] g _ _
  refine ev_iconst (a := 0) (b := 0) 0 rfl (by decide) ?_
  refine ev_istore_n (a := 0) (b := 1) [(0, ic_I x0), (1, ic_I 0)] rfl (by decide) (And.intro (Or.inr (And.intro rfl rfl)) (And.intro (Or.inl rfl) trivial)) ?_
  refine ev_iconst (a := 0) (b := 2) 0 rfl (by decide) ?_
  refine ev_istore_n (a := 0) (b := 3) [(0, ic_I x0), (1, ic_I 0), (2, ic_I 0)] rfl (by decide) (And.intro (Or.inr (And.intro rfl rfl)) (And.intro (Or.inr (And.intro rfl rfl)) (And.intro (Or.inl rfl) trivial))) ?_
  refine ev_fw (lv' := [(0, ic_I x0), (1, ic_I 0), (2, ic_I 0)]) ?_ (And.intro rfl (And.intro rfl (And.intro rfl trivial)))
  obtain ⟨y1, g2, e3, h⟩ := ic_b2E h
  refine tX7_ones_4 (x0 := x0)  1000 0 0 g _ e3 _ _ ?_
  change ic_Ev mX7_ones 24 [(1, ic_I y1)] [] g2 _ _
  refine ev_iload_n (a := 0) (b := 17) rfl rfl ?_
  obtain ⟨rfl, rfl⟩ := ic_s2 h
  exact ev_ireturn (a := 0) (b := 18) rfl rfl rfl
set_option maxRecDepth 20000 in
theorem eX7_size {x0 : Int32} {g g' : ic_S} {v : Int32} (h : fX7_size x0 g = some (v, g')) : ic_Ev mX7_size 0 (ic_ag 0 [ic_I x0]) [] g (some (ic_I v)) g' := by
  unfold fX7_size at h
  change ic_Ev mX7_size 0 [(0, ic_I x0)] [] g _ _
  refine ev_iload_n (a := 0) (b := 0) rfl rfl ?_
  refine ev_ifge (a := 0) (b := 1) 9 rfl rfl (fun c1 => ?_) (fun c1 => ?_)
  · have h := (if_pos c1).symm.trans h
    refine ev_iload_n (a := 0) (b := 5) rfl rfl ?_
    obtain ⟨rfl, rfl⟩ := ic_s2 h
    exact ev_ireturn (a := 0) (b := 6) rfl rfl rfl
  · have h := (if_neg c1).symm.trans h
    refine ev_iload_n (a := 0) (b := 2) rfl rfl ?_
    refine ev_ineg (a := 0) (b := 3) rfl ?_
    refine ev_goto (a := 0) (b := 4) 10 rfl rfl ?_
    obtain ⟨rfl, rfl⟩ := ic_s2 h
    exact ev_ireturn (a := 0) (b := 6) rfl rfl rfl
set_option maxRecDepth 20000 in
theorem eX7_isTaken {x1 : Int32} {g g' : ic_S} {v : Int32} (h : fX7_isTaken x1 g = some (v, g')) : ic_Ev mX7_isTaken 0 (ic_ag 0 [ic_R 16 0 0, ic_I x1]) [] g (some (ic_I v)) g' := by
  unfold fX7_isTaken at h
  change ic_Ev mX7_isTaken 0 [(0, ic_R 16 0 0), (1, ic_I x1)] [] g _ _
  refine ev_aload_n (a := 0) (b := 0) rfl rfl ?_
  refine ev_iload_n (a := 0) (b := 1) rfl rfl ?_
  refine ev_iconst (a := 0) (b := 2) 5 rfl (by decide) ?_
  obtain ⟨v3, g1, e2, h⟩ := ic_b2E h
  refine ev_ivI (a := 0) (b := 3) [ic_I x1, ic_I 5] rfl okX7_its rfl lmX7_48 rfl (rc16) (Nat.le_of_ble_eq_true rfl) (eX7_its e2) (Nat.le_of_ble_eq_true rfl) rfl ?_
  refine ev_iconst (a := 0) (b := 4) 1 rfl (by decide) ?_
  refine ev_icne (a := 0) (b := 5) 14 rfl rfl (fun c4 => ?_) (fun c4 => ?_)
  · have h := (if_neg c4).symm.trans h
    refine ev_iconst (a := 0) (b := 8) 0 rfl (by decide) ?_
    obtain ⟨rfl, rfl⟩ := ic_s2 h
    exact ev_ireturn (a := 0) (b := 9) rfl rfl rfl
  · have h := (if_pos c4).symm.trans h
    refine ev_iconst (a := 0) (b := 6) 1 rfl (by decide) ?_
    refine ev_goto (a := 0) (b := 7) 15 rfl rfl ?_
    obtain ⟨rfl, rfl⟩ := ic_s2 h
    exact ev_ireturn (a := 0) (b := 9) rfl rfl rfl
set_option maxRecDepth 20000 in
theorem eX7_far {x1 : Int32} {g g' : ic_S} {v : Int32} (h : fX7_far x1 g = some (v, g')) : ic_Ev mX7_far 0 (ic_ag 0 [ic_R 16 0 0, ic_I x1]) [] g (some (ic_I v)) g' := by
  unfold fX7_far at h
  change ic_Ev mX7_far 0 [(0, ic_R 16 0 0), (1, ic_I x1)] [] g _ _
  refine ev_aload_n (a := 0) (b := 0) rfl rfl ?_
  refine ev_iload_n (a := 0) (b := 1) rfl rfl ?_
  refine ev_iconst (a := 0) (b := 2) 1 rfl (by decide) ?_
  obtain ⟨v3, g1, e2, h⟩ := ic_b2E h
  refine ev_ivI (a := 0) (b := 3) [ic_I x1, ic_I 1] rfl okX7_its rfl lmX7_48 rfl (rc16) (Nat.le_of_ble_eq_true rfl) (eX7_its e2) (Nat.le_of_ble_eq_true rfl) rfl ?_
  refine ev_aload_n (a := 0) (b := 4) rfl rfl ?_
  refine ev_get (a := 0) (b := 5) 7 0 rfl rfl (Nat.le_of_ble_eq_true rfl) lfX7_7 (gX7_d) ?_
  refine ev_iconst (a := 0) (b := 6) 3 rfl (by decide) ?_
  refine ev_ialdk (a := 0) (b := 7) 3 (by decide) rfl (a17 (by decide)) (by decide) ?_
  refine ev_isub (a := 0) (b := 8) rfl ?_
  obtain ⟨v6, g4, e5, h⟩ := ic_b2E h
  refine ev_isI (a := 0) (b := 9) [ic_I (v3 - (g1.1 (3 + 0) 3))] rfl okX7_size rfl lmX7_52 rfl (Nat.le_of_ble_eq_true rfl) (eX7_size e5) (Nat.le_of_ble_eq_true rfl) rfl ?_
  obtain ⟨rfl, rfl⟩ := ic_s2 h
  exact ev_ireturn (a := 0) (b := 10) rfl rfl rfl
set_option maxRecDepth 20000 in
theorem tX7_lying_4 {x1 : Int32} : ∀ (n : Nat) (x2 : Int32) (x3 : Int32) (g : ic_S) (q : (Int32) × ic_S), lX7_lying_4 x1 n x2 x3 g = some q → ∀ (r : Option ic_V) (g' : ic_S), ic_Ev mX7_lying 48 [(2, ic_I q.1)] [] q.2 r g' → ic_Ev mX7_lying 4 [(0, ic_R 16 0 0), (1, ic_I x1), (2, ic_I x2), (3, ic_I x3)] [] g r g' := by
  intro n
  induction n with
  | zero => intro x2 x3 g q h; cases h
  | succ n ih =>
    intro x2 x3 g q h r g' hq
    rw [lX7_lying_4] at h
    refine ev_iload_n (a := 0) (b := 4) rfl rfl ?_
    refine ev_aload_n (a := 0) (b := 5) rfl rfl ?_
    refine ev_get (a := 0) (b := 6) 7 0 rfl rfl (Nat.le_of_ble_eq_true rfl) lfX7_7 (gX7_d) ?_
    refine ev_iconst (a := 0) (b := 7) 0 rfl (by decide) ?_
    refine ev_ialdk (a := 0) (b := 8) 0 (by decide) rfl (a17 (by decide)) (by decide) ?_
    refine ev_icge (a := 0) (b := 9) 48 rfl rfl (fun c1001 => ?_) (fun c1001 => ?_)
    · have h := (if_pos c1001).symm.trans h
      obtain rfl := ic_s1 h
      exact ev_fw (lv' := [(2, ic_I x2)]) hq (And.intro rfl trivial)
    · have h := (if_neg c1001).symm.trans h
      refine ev_iload_n (a := 0) (b := 10) rfl rfl ?_
      refine ev_aload_n (a := 0) (b := 11) rfl rfl ?_
      refine ev_iload_n (a := 0) (b := 12) rfl rfl ?_
      obtain ⟨v1004, g1002, e1003, h⟩ := ic_b2E h
      refine ev_ivI (a := 0) (b := 13) [ic_I x3] rfl okX7_isTaken rfl lmX7_56 rfl (rc16) (Nat.le_of_ble_eq_true rfl) (eX7_isTaken e1003) (Nat.le_of_ble_eq_true rfl) rfl ?_
      refine ev_ifne (a := 0) (b := 14) 39 rfl rfl (fun c1005 => ?_) (fun c1005 => ?_)
      · have h := (if_neg c1005).symm.trans h
        refine ev_iconst (a := 0) (b := 25) 0 rfl (by decide) ?_
        refine ev_ior (a := 0) (b := 26) rfl ?_
        refine ev_istore_n (a := 0) (b := 27) [(0, ic_R 16 0 0), (1, ic_I x1), (2, ic_I (x2 ||| 0)), (3, ic_I x3)] rfl (by decide) (And.intro (Or.inr (And.intro rfl rfl)) (And.intro (Or.inr (And.intro rfl rfl)) (And.intro (Or.inl rfl) (And.intro (Or.inr (And.intro rfl rfl)) trivial)))) ?_
        refine ev_iinc (a := 0) (b := 28) (x3 + 1) [(0, ic_R 16 0 0), (1, ic_I x1), (2, ic_I (x2 ||| 0)), (3, ic_I (x3 + 1))] rfl rfl (by first | rfl | decide) (by decide) (And.intro (Or.inr (And.intro rfl rfl)) (And.intro (Or.inr (And.intro rfl rfl)) (And.intro (Or.inr (And.intro rfl rfl)) (And.intro (Or.inl rfl) trivial)))) ?_
        refine ev_goto (a := 0) (b := 29) 4 rfl rfl ?_
        refine ev_fw (lv' := [(0, ic_R 16 0 0), (1, ic_I x1), (2, ic_I (x2 ||| 0)), (3, ic_I (x3 + 1))]) ?_ (And.intro rfl (And.intro rfl (And.intro rfl (And.intro rfl trivial))))
        exact ih (x2 ||| 0) (x3 + 1) g1002 _ h _ _ hq
      · have h := (if_pos c1005).symm.trans h
        refine ev_aload_n (a := 0) (b := 15) rfl rfl ?_
        refine ev_iload_n (a := 0) (b := 16) rfl rfl ?_
        refine ev_iconst (a := 0) (b := 17) 1 rfl (by decide) ?_
        obtain ⟨v1008, g1006, e1007, h⟩ := ic_b2E h
        refine ev_ivI (a := 0) (b := 18) [ic_I x3, ic_I 1] rfl okX7_its rfl lmX7_48 rfl (rc16) (Nat.le_of_ble_eq_true rfl) (eX7_its e1007) (Nat.le_of_ble_eq_true rfl) rfl ?_
        refine ev_iload_n (a := 0) (b := 19) rfl rfl ?_
        refine ev_icne (a := 0) (b := 20) 39 rfl rfl (fun c1009 => ?_) (fun c1009 => ?_)
        · have h := (if_neg c1009).symm.trans h
          refine ev_iconst (a := 0) (b := 25) 0 rfl (by decide) ?_
          refine ev_ior (a := 0) (b := 26) rfl ?_
          refine ev_istore_n (a := 0) (b := 27) [(0, ic_R 16 0 0), (1, ic_I x1), (2, ic_I (x2 ||| 0)), (3, ic_I x3)] rfl (by decide) (And.intro (Or.inr (And.intro rfl rfl)) (And.intro (Or.inr (And.intro rfl rfl)) (And.intro (Or.inl rfl) (And.intro (Or.inr (And.intro rfl rfl)) trivial)))) ?_
          refine ev_iinc (a := 0) (b := 28) (x3 + 1) [(0, ic_R 16 0 0), (1, ic_I x1), (2, ic_I (x2 ||| 0)), (3, ic_I (x3 + 1))] rfl rfl (by first | rfl | decide) (by decide) (And.intro (Or.inr (And.intro rfl rfl)) (And.intro (Or.inr (And.intro rfl rfl)) (And.intro (Or.inr (And.intro rfl rfl)) (And.intro (Or.inl rfl) trivial)))) ?_
          refine ev_goto (a := 0) (b := 29) 4 rfl rfl ?_
          refine ev_fw (lv' := [(0, ic_R 16 0 0), (1, ic_I x1), (2, ic_I (x2 ||| 0)), (3, ic_I (x3 + 1))]) ?_ (And.intro rfl (And.intro rfl (And.intro rfl (And.intro rfl trivial))))
          exact ih (x2 ||| 0) (x3 + 1) g1006 _ h _ _ hq
        · have h := (if_pos c1009).symm.trans h
          refine ev_iconst (a := 0) (b := 21) 1 rfl (by decide) ?_
          refine ev_iload_n (a := 0) (b := 22) rfl rfl ?_
          refine ev_ishl (a := 0) (b := 23) rfl ?_
          refine ev_goto (a := 0) (b := 24) 40 rfl rfl ?_
          refine ev_ior (a := 0) (b := 26) rfl ?_
          obtain ⟨y1010, ey1010, h⟩ := ic_letE h
          refine ev_topI ey1010 ?_
          refine ev_istore_n (a := 0) (b := 27) [(0, ic_R 16 0 0), (1, ic_I x1), (2, ic_I y1010), (3, ic_I x3)] rfl (by decide) (And.intro (Or.inr (And.intro rfl rfl)) (And.intro (Or.inr (And.intro rfl rfl)) (And.intro (Or.inl rfl) (And.intro (Or.inr (And.intro rfl rfl)) trivial)))) ?_
          refine ev_iinc (a := 0) (b := 28) (x3 + 1) [(0, ic_R 16 0 0), (1, ic_I x1), (2, ic_I y1010), (3, ic_I (x3 + 1))] rfl rfl (by first | rfl | decide) (by decide) (And.intro (Or.inr (And.intro rfl rfl)) (And.intro (Or.inr (And.intro rfl rfl)) (And.intro (Or.inr (And.intro rfl rfl)) (And.intro (Or.inl rfl) trivial)))) ?_
          refine ev_goto (a := 0) (b := 29) 4 rfl rfl ?_
          refine ev_fw (lv' := [(0, ic_R 16 0 0), (1, ic_I x1), (2, ic_I y1010), (3, ic_I (x3 + 1))]) ?_ (And.intro rfl (And.intro rfl (And.intro rfl (And.intro rfl trivial))))
          exact ih y1010 (x3 + 1) g1006 _ h _ _ hq
set_option maxRecDepth 20000 in
theorem eX7_lying {x1 : Int32} {g g' : ic_S} {v : Int32} (h : fX7_lying x1 g = some (v, g')) : ic_Ev mX7_lying 0 (ic_ag 0 [ic_R 16 0 0, ic_I x1]) [] g (some (ic_I v)) g' := by
  unfold fX7_lying at h
  change ic_Ev mX7_lying 0 [(0, ic_R 16 0 0), (1, ic_I x1)] [] g _ _
  refine ev_iconst (a := 0) (b := 0) 0 rfl (by decide) ?_
  refine ev_istore_n (a := 0) (b := 1) [(0, ic_R 16 0 0), (1, ic_I x1), (2, ic_I 0)] rfl (by decide) (And.intro (Or.inr (And.intro rfl rfl)) (And.intro (Or.inr (And.intro rfl rfl)) (And.intro (Or.inl rfl) trivial))) ?_
  refine ev_iconst (a := 0) (b := 2) 0 rfl (by decide) ?_
  refine ev_istore_n (a := 0) (b := 3) [(0, ic_R 16 0 0), (1, ic_I x1), (2, ic_I 0), (3, ic_I 0)] rfl (by decide) (And.intro (Or.inr (And.intro rfl rfl)) (And.intro (Or.inr (And.intro rfl rfl)) (And.intro (Or.inr (And.intro rfl rfl)) (And.intro (Or.inl rfl) trivial)))) ?_
  refine ev_fw (lv' := [(0, ic_R 16 0 0), (1, ic_I x1), (2, ic_I 0), (3, ic_I 0)]) ?_ (And.intro rfl (And.intro rfl (And.intro rfl (And.intro rfl trivial))))
  obtain ⟨y1, g2, e3, h⟩ := ic_b2E h
  refine tX7_lying_4 (x1 := x1)  1000 0 0 g _ e3 _ _ ?_
  change ic_Ev mX7_lying 48 [(2, ic_I y1)] [] g2 _ _
  refine ev_iload_n (a := 0) (b := 30) rfl rfl ?_
  obtain ⟨rfl, rfl⟩ := ic_s2 h
  exact ev_ireturn (a := 0) (b := 31) rfl rfl rfl
set_option maxRecDepth 20000 in
theorem eX7_feels {x1 : Int32} {g g' : ic_S} {v : Int32} (h : fX7_feels x1 g = some (v, g')) : ic_Ev mX7_feels 0 (ic_ag 0 [ic_R 16 0 0, ic_I x1]) [] g (some (ic_I v)) g' := by
  unfold fX7_feels at h
  change ic_Ev mX7_feels 0 [(0, ic_R 16 0 0), (1, ic_I x1)] [] g _ _
  refine ev_aload_n (a := 0) (b := 0) rfl rfl ?_
  refine ev_iload_n (a := 0) (b := 1) rfl rfl ?_
  obtain ⟨v3, g1, e2, h⟩ := ic_b2E h
  refine ev_ivI (a := 0) (b := 2) [ic_I x1] rfl okX7_far rfl lmX7_60 rfl (rc16) (Nat.le_of_ble_eq_true rfl) (eX7_far e2) (Nat.le_of_ble_eq_true rfl) rfl ?_
  refine ev_istore_n (a := 0) (b := 3) [(0, ic_R 16 0 0), (1, ic_I x1), (2, ic_I v3)] rfl (by decide) (And.intro (Or.inr (And.intro rfl rfl)) (And.intro (Or.inr (And.intro rfl rfl)) (And.intro (Or.inl rfl) trivial))) ?_
  refine ev_aload_n (a := 0) (b := 4) rfl rfl ?_
  refine ev_get (a := 0) (b := 5) 7 0 rfl rfl (Nat.le_of_ble_eq_true rfl) lfX7_7 (gX7_d) ?_
  refine ev_bipush (a := 0) (b := 6) 6 rfl (by decide) ?_
  refine ev_ialdk (a := 0) (b := 7) 6 (by decide) rfl (a17 (by decide)) (by decide) ?_
  refine ev_iload_n (a := 0) (b := 8) rfl rfl ?_
  refine ev_isub (a := 0) (b := 9) rfl ?_
  refine ev_iconst (a := 0) (b := 10) 0 rfl (by decide) ?_
  refine ev_bipush (a := 0) (b := 11) 99 rfl (by decide) ?_
  obtain ⟨v6, g4, e5, h⟩ := ic_b2E h
  refine ev_isI (a := 0) (b := 12) [ic_I ((g1.1 (3 + 0) 6) - v3), ic_I 0, ic_I 99] rfl okX7_held rfl lmX7_63 rfl (Nat.le_of_ble_eq_true rfl) (eX7_held e5) (Nat.le_of_ble_eq_true rfl) rfl ?_
  refine ev_istore_n (a := 0) (b := 13) [(0, ic_R 16 0 0), (1, ic_I x1), (2, ic_I v3), (3, ic_I v6)] rfl (by decide) (And.intro (Or.inr (And.intro rfl rfl)) (And.intro (Or.inr (And.intro rfl rfl)) (And.intro (Or.inr (And.intro rfl rfl)) (And.intro (Or.inl rfl) trivial)))) ?_
  refine ev_iconst (a := 0) (b := 14) 2 rfl (by decide) ?_
  refine ev_iload_n (a := 0) (b := 15) rfl rfl ?_
  refine ev_imul (a := 0) (b := 16) rfl ?_
  refine ev_iload_n (a := 0) (b := 17) rfl rfl ?_
  refine ev_iconst (a := 0) (b := 18) 3 rfl (by decide) ?_
  refine ev_icgt (a := 0) (b := 19) 34 rfl rfl (fun c7 => ?_) (fun c7 => ?_)
  · have h := (if_pos c7).symm.trans h
    refine ev_iconst (a := 0) (b := 22) 0 rfl (by decide) ?_
    refine ev_iadd (a := 0) (b := 23) rfl ?_
    refine ev_istore (a := 0) (b := 24) [(0, ic_R 16 0 0), (1, ic_I x1), (2, ic_I v3), (3, ic_I v6), (4, ic_I ((2 * v6) + 0))] rfl (by decide) (And.intro (Or.inr (And.intro rfl rfl)) (And.intro (Or.inr (And.intro rfl rfl)) (And.intro (Or.inr (And.intro rfl rfl)) (And.intro (Or.inr (And.intro rfl rfl)) (And.intro (Or.inl rfl) trivial))))) ?_
    refine ev_aload_n (a := 0) (b := 25) rfl rfl ?_
    refine ev_iload_n (a := 0) (b := 26) rfl rfl ?_
    refine ev_iconst (a := 0) (b := 27) 0 rfl (by decide) ?_
    obtain ⟨v10, g8, e9, h⟩ := ic_b2E h
    refine ev_ivI (a := 0) (b := 28) [ic_I x1, ic_I 0] rfl okX7_its rfl lmX7_48 rfl (rc16) (Nat.le_of_ble_eq_true rfl) (eX7_its e9) (Nat.le_of_ble_eq_true rfl) rfl ?_
    rcases Decidable.em (v10 = 1) with c11 | c11
    · have h := (if_pos c11).symm.trans h
      refine ev_tsw1 (a := 0) (b := 29) 1 (40) 84 rfl c11 (by decide) (by decide) rfl rfl ?_
      refine ev_iconst (a := 0) (b := 30) 2 rfl (by decide) ?_
      refine ev_iload_n (a := 0) (b := 31) rfl rfl ?_
      refine ev_imul (a := 1) (b := 0) rfl ?_
      obtain ⟨rfl, rfl⟩ := ic_s2 h
      exact ev_ireturn (a := 1) (b := 1) rfl rfl rfl
    · have h := (if_neg c11).symm.trans h
      rcases Decidable.em (v10 = 2) with c12 | c12
      · have h := (if_pos c12).symm.trans h
        refine ev_tsw1 (a := 0) (b := 29) 2 (44) 88 rfl c12 (by decide) (by decide) rfl rfl ?_
        refine ev_iload_n (a := 1) (b := 2) rfl rfl ?_
        refine ev_iconst (a := 1) (b := 3) 3 rfl (by decide) ?_
        refine ev_idiv (a := 1) (b := 4) rfl (by decide) ?_
        obtain ⟨rfl, rfl⟩ := ic_s2 h
        exact ev_ireturn (a := 1) (b := 5) rfl rfl rfl
      · have h := (if_neg c12).symm.trans h
        rcases Decidable.em (v10 = 3) with c13 | c13
        · have h := (if_pos c13).symm.trans h
          refine ev_tsw1 (a := 0) (b := 29) 3 (48) 92 rfl c13 (by decide) (by decide) rfl rfl ?_
          refine ev_iload (a := 1) (b := 6) rfl rfl ?_
          obtain ⟨rfl, rfl⟩ := ic_s2 h
          exact ev_ireturn (a := 1) (b := 7) rfl rfl rfl
        · have h := (if_neg c13).symm.trans h
          rcases Decidable.em (v10 = 4) with c14 | c14
          · have h := (if_pos c14).symm.trans h
            refine ev_tsw1 (a := 0) (b := 29) 4 (51) 95 rfl c14 (by decide) (by decide) rfl rfl ?_
            refine ev_iload (a := 1) (b := 8) rfl rfl ?_
            refine ev_iconst (a := 1) (b := 9) 4 rfl (by decide) ?_
            refine ev_isub (a := 1) (b := 10) rfl ?_
            refine ev_iconst (a := 1) (b := 11) 0 rfl (by decide) ?_
            refine ev_bipush (a := 1) (b := 12) 99 rfl (by decide) ?_
            obtain ⟨v19, g17, e18, h⟩ := ic_b2E h
            refine ev_isI (a := 1) (b := 13) [ic_I (((2 * v6) + 0) - 4), ic_I 0, ic_I 99] rfl okX7_held rfl lmX7_63 rfl (Nat.le_of_ble_eq_true rfl) (eX7_held e18) (Nat.le_of_ble_eq_true rfl) rfl ?_
            obtain ⟨rfl, rfl⟩ := ic_s2 h
            exact ev_ireturn (a := 1) (b := 14) rfl rfl rfl
          · have h := (if_neg c14).symm.trans h
            rcases Decidable.em (v10 = 5) with c15 | c15
            · have h := (if_pos c15).symm.trans h
              refine ev_tsw1 (a := 0) (b := 29) 5 (62) 106 rfl c15 (by decide) (by decide) rfl rfl ?_
              refine ev_iload_n (a := 1) (b := 15) rfl rfl ?_
              refine ev_iconst (a := 1) (b := 16) 2 rfl (by decide) ?_
              refine ev_irem (a := 1) (b := 17) rfl (by decide) ?_
              refine ev_ifne (a := 1) (b := 18) 122 rfl rfl (fun c20 => ?_) (fun c20 => ?_)
              · have h := (if_neg c20).symm.trans h
                refine ev_iload_n (a := 1) (b := 24) rfl rfl ?_
                obtain ⟨rfl, rfl⟩ := ic_s2 h
                exact ev_ireturn (a := 1) (b := 25) rfl rfl rfl
              · have h := (if_pos c20).symm.trans h
                refine ev_aload_n (a := 1) (b := 19) rfl rfl ?_
                refine ev_get (a := 1) (b := 20) 7 0 rfl rfl (Nat.le_of_ble_eq_true rfl) lfX7_7 (gX7_d) ?_
                refine ev_bipush (a := 1) (b := 21) 6 rfl (by decide) ?_
                refine ev_ialdk (a := 1) (b := 22) 6 (by decide) rfl (a17 (by decide)) (by decide) ?_
                refine ev_goto (a := 1) (b := 23) 123 rfl rfl ?_
                obtain ⟨rfl, rfl⟩ := ic_s2 h
                exact ev_ireturn (a := 1) (b := 25) rfl rfl rfl
            · have h := (if_neg c15).symm.trans h
              rcases Decidable.em (v10 = 6) with c16 | c16
              · have h := (if_pos c16).symm.trans h
                refine ev_tsw1 (a := 0) (b := 29) 6 (80) 124 rfl c16 (by decide) (by decide) rfl rfl ?_
                refine ev_iload_n (a := 1) (b := 26) rfl rfl ?_
                refine ev_iconst (a := 1) (b := 27) 3 rfl (by decide) ?_
                refine ev_idiv (a := 1) (b := 28) rfl (by decide) ?_
                refine ev_aload_n (a := 1) (b := 29) rfl rfl ?_
                refine ev_aload_n (a := 1) (b := 30) rfl rfl ?_
                refine ev_iload_n (a := 1) (b := 31) rfl rfl ?_
                refine ev_iconst (a := 2) (b := 0) 1 rfl (by decide) ?_
                obtain ⟨v23, g21, e22, h⟩ := ic_b2E h
                refine ev_ivI (a := 2) (b := 1) [ic_I x1, ic_I 1] rfl okX7_its rfl lmX7_48 rfl (rc16) (Nat.le_of_ble_eq_true rfl) (eX7_its e22) (Nat.le_of_ble_eq_true rfl) rfl ?_
                obtain ⟨v26, g24, e25, h⟩ := ic_b2E h
                refine ev_ivI (a := 2) (b := 2) [ic_I v23] rfl okX7_lying rfl lmX7_67 rfl (rc16) (Nat.le_of_ble_eq_true rfl) (eX7_lying e25) (Nat.le_of_ble_eq_true rfl) rfl ?_
                refine ev_iconst (a := 2) (b := 3) 1 rfl (by decide) ?_
                refine ev_iload_n (a := 2) (b := 4) rfl rfl ?_
                refine ev_ishl (a := 2) (b := 5) rfl ?_
                refine ev_iconst (a := 2) (b := 6) (-1) rfl (by decide) ?_
                refine ev_ixor (a := 2) (b := 7) rfl ?_
                refine ev_iand (a := 2) (b := 8) rfl ?_
                obtain ⟨v29, g27, e28, h⟩ := ic_b2E h
                refine ev_isI (a := 2) (b := 9) [ic_I (v26 &&& (((1 : Int32) <<< (x1 &&& 31)) ^^^ (-1)))] rfl okX7_ones rfl lmX7_70 rfl (Nat.le_of_ble_eq_true rfl) (eX7_ones e28) (Nat.le_of_ble_eq_true rfl) rfl ?_
                refine ev_iadd (a := 2) (b := 10) rfl ?_
                obtain ⟨rfl, rfl⟩ := ic_s2 h
                exact ev_ireturn (a := 2) (b := 11) rfl rfl rfl
              · have h := (if_neg c16).symm.trans h
                refine ev_tsw0 (a := 0) (b := 29) [1, 2, 3, 4, 5, 6] 148 rfl (List.forall_mem_cons.mpr ⟨c11, List.forall_mem_cons.mpr ⟨c12, List.forall_mem_cons.mpr ⟨c13, List.forall_mem_cons.mpr ⟨c14, List.forall_mem_cons.mpr ⟨c15, List.forall_mem_cons.mpr ⟨c16, fun _ hh => absurd hh List.not_mem_nil⟩⟩⟩⟩⟩⟩) (by decide) (by decide) rfl ?_
                refine ev_iload_n (a := 2) (b := 12) rfl rfl ?_
                obtain ⟨rfl, rfl⟩ := ic_s2 h
                exact ev_ireturn (a := 2) (b := 13) rfl rfl rfl
  · have h := (if_neg c7).symm.trans h
    refine ev_iconst (a := 0) (b := 20) 3 rfl (by decide) ?_
    refine ev_goto (a := 0) (b := 21) 35 rfl rfl ?_
    refine ev_iadd (a := 0) (b := 23) rfl ?_
    refine ev_istore (a := 0) (b := 24) [(0, ic_R 16 0 0), (1, ic_I x1), (2, ic_I v3), (3, ic_I v6), (4, ic_I ((2 * v6) + 3))] rfl (by decide) (And.intro (Or.inr (And.intro rfl rfl)) (And.intro (Or.inr (And.intro rfl rfl)) (And.intro (Or.inr (And.intro rfl rfl)) (And.intro (Or.inr (And.intro rfl rfl)) (And.intro (Or.inl rfl) trivial))))) ?_
    refine ev_aload_n (a := 0) (b := 25) rfl rfl ?_
    refine ev_iload_n (a := 0) (b := 26) rfl rfl ?_
    refine ev_iconst (a := 0) (b := 27) 0 rfl (by decide) ?_
    obtain ⟨v32, g30, e31, h⟩ := ic_b2E h
    refine ev_ivI (a := 0) (b := 28) [ic_I x1, ic_I 0] rfl okX7_its rfl lmX7_48 rfl (rc16) (Nat.le_of_ble_eq_true rfl) (eX7_its e31) (Nat.le_of_ble_eq_true rfl) rfl ?_
    rcases Decidable.em (v32 = 1) with c33 | c33
    · have h := (if_pos c33).symm.trans h
      refine ev_tsw1 (a := 0) (b := 29) 1 (40) 84 rfl c33 (by decide) (by decide) rfl rfl ?_
      refine ev_iconst (a := 0) (b := 30) 2 rfl (by decide) ?_
      refine ev_iload_n (a := 0) (b := 31) rfl rfl ?_
      refine ev_imul (a := 1) (b := 0) rfl ?_
      obtain ⟨rfl, rfl⟩ := ic_s2 h
      exact ev_ireturn (a := 1) (b := 1) rfl rfl rfl
    · have h := (if_neg c33).symm.trans h
      rcases Decidable.em (v32 = 2) with c34 | c34
      · have h := (if_pos c34).symm.trans h
        refine ev_tsw1 (a := 0) (b := 29) 2 (44) 88 rfl c34 (by decide) (by decide) rfl rfl ?_
        refine ev_iload_n (a := 1) (b := 2) rfl rfl ?_
        refine ev_iconst (a := 1) (b := 3) 3 rfl (by decide) ?_
        refine ev_idiv (a := 1) (b := 4) rfl (by decide) ?_
        obtain ⟨rfl, rfl⟩ := ic_s2 h
        exact ev_ireturn (a := 1) (b := 5) rfl rfl rfl
      · have h := (if_neg c34).symm.trans h
        rcases Decidable.em (v32 = 3) with c35 | c35
        · have h := (if_pos c35).symm.trans h
          refine ev_tsw1 (a := 0) (b := 29) 3 (48) 92 rfl c35 (by decide) (by decide) rfl rfl ?_
          refine ev_iload (a := 1) (b := 6) rfl rfl ?_
          obtain ⟨rfl, rfl⟩ := ic_s2 h
          exact ev_ireturn (a := 1) (b := 7) rfl rfl rfl
        · have h := (if_neg c35).symm.trans h
          rcases Decidable.em (v32 = 4) with c36 | c36
          · have h := (if_pos c36).symm.trans h
            refine ev_tsw1 (a := 0) (b := 29) 4 (51) 95 rfl c36 (by decide) (by decide) rfl rfl ?_
            refine ev_iload (a := 1) (b := 8) rfl rfl ?_
            refine ev_iconst (a := 1) (b := 9) 4 rfl (by decide) ?_
            refine ev_isub (a := 1) (b := 10) rfl ?_
            refine ev_iconst (a := 1) (b := 11) 0 rfl (by decide) ?_
            refine ev_bipush (a := 1) (b := 12) 99 rfl (by decide) ?_
            obtain ⟨v41, g39, e40, h⟩ := ic_b2E h
            refine ev_isI (a := 1) (b := 13) [ic_I (((2 * v6) + 3) - 4), ic_I 0, ic_I 99] rfl okX7_held rfl lmX7_63 rfl (Nat.le_of_ble_eq_true rfl) (eX7_held e40) (Nat.le_of_ble_eq_true rfl) rfl ?_
            obtain ⟨rfl, rfl⟩ := ic_s2 h
            exact ev_ireturn (a := 1) (b := 14) rfl rfl rfl
          · have h := (if_neg c36).symm.trans h
            rcases Decidable.em (v32 = 5) with c37 | c37
            · have h := (if_pos c37).symm.trans h
              refine ev_tsw1 (a := 0) (b := 29) 5 (62) 106 rfl c37 (by decide) (by decide) rfl rfl ?_
              refine ev_iload_n (a := 1) (b := 15) rfl rfl ?_
              refine ev_iconst (a := 1) (b := 16) 2 rfl (by decide) ?_
              refine ev_irem (a := 1) (b := 17) rfl (by decide) ?_
              refine ev_ifne (a := 1) (b := 18) 122 rfl rfl (fun c42 => ?_) (fun c42 => ?_)
              · have h := (if_neg c42).symm.trans h
                refine ev_iload_n (a := 1) (b := 24) rfl rfl ?_
                obtain ⟨rfl, rfl⟩ := ic_s2 h
                exact ev_ireturn (a := 1) (b := 25) rfl rfl rfl
              · have h := (if_pos c42).symm.trans h
                refine ev_aload_n (a := 1) (b := 19) rfl rfl ?_
                refine ev_get (a := 1) (b := 20) 7 0 rfl rfl (Nat.le_of_ble_eq_true rfl) lfX7_7 (gX7_d) ?_
                refine ev_bipush (a := 1) (b := 21) 6 rfl (by decide) ?_
                refine ev_ialdk (a := 1) (b := 22) 6 (by decide) rfl (a17 (by decide)) (by decide) ?_
                refine ev_goto (a := 1) (b := 23) 123 rfl rfl ?_
                obtain ⟨rfl, rfl⟩ := ic_s2 h
                exact ev_ireturn (a := 1) (b := 25) rfl rfl rfl
            · have h := (if_neg c37).symm.trans h
              rcases Decidable.em (v32 = 6) with c38 | c38
              · have h := (if_pos c38).symm.trans h
                refine ev_tsw1 (a := 0) (b := 29) 6 (80) 124 rfl c38 (by decide) (by decide) rfl rfl ?_
                refine ev_iload_n (a := 1) (b := 26) rfl rfl ?_
                refine ev_iconst (a := 1) (b := 27) 3 rfl (by decide) ?_
                refine ev_idiv (a := 1) (b := 28) rfl (by decide) ?_
                refine ev_aload_n (a := 1) (b := 29) rfl rfl ?_
                refine ev_aload_n (a := 1) (b := 30) rfl rfl ?_
                refine ev_iload_n (a := 1) (b := 31) rfl rfl ?_
                refine ev_iconst (a := 2) (b := 0) 1 rfl (by decide) ?_
                obtain ⟨v45, g43, e44, h⟩ := ic_b2E h
                refine ev_ivI (a := 2) (b := 1) [ic_I x1, ic_I 1] rfl okX7_its rfl lmX7_48 rfl (rc16) (Nat.le_of_ble_eq_true rfl) (eX7_its e44) (Nat.le_of_ble_eq_true rfl) rfl ?_
                obtain ⟨v48, g46, e47, h⟩ := ic_b2E h
                refine ev_ivI (a := 2) (b := 2) [ic_I v45] rfl okX7_lying rfl lmX7_67 rfl (rc16) (Nat.le_of_ble_eq_true rfl) (eX7_lying e47) (Nat.le_of_ble_eq_true rfl) rfl ?_
                refine ev_iconst (a := 2) (b := 3) 1 rfl (by decide) ?_
                refine ev_iload_n (a := 2) (b := 4) rfl rfl ?_
                refine ev_ishl (a := 2) (b := 5) rfl ?_
                refine ev_iconst (a := 2) (b := 6) (-1) rfl (by decide) ?_
                refine ev_ixor (a := 2) (b := 7) rfl ?_
                refine ev_iand (a := 2) (b := 8) rfl ?_
                obtain ⟨v51, g49, e50, h⟩ := ic_b2E h
                refine ev_isI (a := 2) (b := 9) [ic_I (v48 &&& (((1 : Int32) <<< (x1 &&& 31)) ^^^ (-1)))] rfl okX7_ones rfl lmX7_70 rfl (Nat.le_of_ble_eq_true rfl) (eX7_ones e50) (Nat.le_of_ble_eq_true rfl) rfl ?_
                refine ev_iadd (a := 2) (b := 10) rfl ?_
                obtain ⟨rfl, rfl⟩ := ic_s2 h
                exact ev_ireturn (a := 2) (b := 11) rfl rfl rfl
              · have h := (if_neg c38).symm.trans h
                refine ev_tsw0 (a := 0) (b := 29) [1, 2, 3, 4, 5, 6] 148 rfl (List.forall_mem_cons.mpr ⟨c33, List.forall_mem_cons.mpr ⟨c34, List.forall_mem_cons.mpr ⟨c35, List.forall_mem_cons.mpr ⟨c36, List.forall_mem_cons.mpr ⟨c37, List.forall_mem_cons.mpr ⟨c38, fun _ hh => absurd hh List.not_mem_nil⟩⟩⟩⟩⟩⟩) (by decide) (by decide) rfl ?_
                refine ev_iload_n (a := 2) (b := 12) rfl rfl ?_
                obtain ⟨rfl, rfl⟩ := ic_s2 h
                exact ev_ireturn (a := 2) (b := 13) rfl rfl rfl
set_option maxRecDepth 20000 in
theorem eX7_steps {x1 : Int32} {g g' : ic_S} {v : Int32} (h : fX7_steps x1 g = some (v, g')) : ic_Ev mX7_steps 0 (ic_ag 0 [ic_R 16 0 0, ic_I x1]) [] g (some (ic_I v)) g' := by
  unfold fX7_steps at h
  change ic_Ev mX7_steps 0 [(0, ic_R 16 0 0), (1, ic_I x1)] [] g _ _
  refine ev_aload_n (a := 0) (b := 0) rfl rfl ?_
  refine ev_iload_n (a := 0) (b := 1) rfl rfl ?_
  refine ev_iconst (a := 0) (b := 2) 0 rfl (by decide) ?_
  obtain ⟨v3, g1, e2, h⟩ := ic_b2E h
  refine ev_ivI (a := 0) (b := 3) [ic_I x1, ic_I 0] rfl okX7_its rfl lmX7_48 rfl (rc16) (Nat.le_of_ble_eq_true rfl) (eX7_its e2) (Nat.le_of_ble_eq_true rfl) rfl ?_
  refine ev_istore_n (a := 0) (b := 4) [(0, ic_R 16 0 0), (1, ic_I x1), (2, ic_I v3)] rfl (by decide) (And.intro (Or.inr (And.intro rfl rfl)) (And.intro (Or.inr (And.intro rfl rfl)) (And.intro (Or.inl rfl) trivial))) ?_
  refine ev_iload_n (a := 0) (b := 5) rfl rfl ?_
  refine ev_iconst (a := 0) (b := 6) 3 rfl (by decide) ?_
  refine ev_icne (a := 0) (b := 7) 16 rfl rfl (fun c4 => ?_) (fun c4 => ?_)
  · have h := (if_neg c4).symm.trans h
    refine ev_iload_n (a := 0) (b := 10) rfl rfl ?_
    refine ev_iconst (a := 0) (b := 11) 5 rfl (by decide) ?_
    refine ev_icne (a := 0) (b := 12) 35 rfl rfl (fun c5 => ?_) (fun c5 => ?_)
    · have h := (if_neg c5).symm.trans h
      refine ev_iconst (a := 0) (b := 21) 1 rfl (by decide) ?_
      obtain ⟨rfl, rfl⟩ := ic_s2 h
      exact ev_ireturn (a := 0) (b := 22) rfl rfl rfl
    · have h := (if_pos c5).symm.trans h
      refine ev_aload_n (a := 0) (b := 13) rfl rfl ?_
      refine ev_iload_n (a := 0) (b := 14) rfl rfl ?_
      refine ev_iconst (a := 0) (b := 15) 2 rfl (by decide) ?_
      obtain ⟨v8, g6, e7, h⟩ := ic_b2E h
      refine ev_ivI (a := 0) (b := 16) [ic_I x1, ic_I 2] rfl okX7_its rfl lmX7_48 rfl (rc16) (Nat.le_of_ble_eq_true rfl) (eX7_its e7) (Nat.le_of_ble_eq_true rfl) rfl ?_
      refine ev_iconst (a := 0) (b := 17) 5 rfl (by decide) ?_
      refine ev_icgt (a := 0) (b := 18) 35 rfl rfl (fun c9 => ?_) (fun c9 => ?_)
      · have h := (if_pos c9).symm.trans h
        refine ev_iconst (a := 0) (b := 21) 1 rfl (by decide) ?_
        obtain ⟨rfl, rfl⟩ := ic_s2 h
        exact ev_ireturn (a := 0) (b := 22) rfl rfl rfl
      · have h := (if_neg c9).symm.trans h
        refine ev_iconst (a := 0) (b := 19) 3 rfl (by decide) ?_
        refine ev_goto (a := 0) (b := 20) 36 rfl rfl ?_
        obtain ⟨rfl, rfl⟩ := ic_s2 h
        exact ev_ireturn (a := 0) (b := 22) rfl rfl rfl
  · have h := (if_pos c4).symm.trans h
    refine ev_iconst (a := 0) (b := 8) 2 rfl (by decide) ?_
    refine ev_goto (a := 0) (b := 9) 36 rfl rfl ?_
    obtain ⟨rfl, rfl⟩ := ic_s2 h
    exact ev_ireturn (a := 0) (b := 22) rfl rfl rfl
set_option maxRecDepth 20000 in
theorem eX7_isLiked {x1 : Int32} {g g' : ic_S} {v : Int32} (h : fX7_isLiked x1 g = some (v, g')) : ic_Ev mX7_isLiked 0 (ic_ag 0 [ic_R 16 0 0, ic_I x1]) [] g (some (ic_I v)) g' := by
  unfold fX7_isLiked at h
  change ic_Ev mX7_isLiked 0 [(0, ic_R 16 0 0), (1, ic_I x1)] [] g _ _
  refine ev_aload_n (a := 0) (b := 0) rfl rfl ?_
  refine ev_iload_n (a := 0) (b := 1) rfl rfl ?_
  refine ev_iconst (a := 0) (b := 2) 2 rfl (by decide) ?_
  obtain ⟨v3, g1, e2, h⟩ := ic_b2E h
  refine ev_ivI (a := 0) (b := 3) [ic_I x1, ic_I 2] rfl okX7_its rfl lmX7_48 rfl (rc16) (Nat.le_of_ble_eq_true rfl) (eX7_its e2) (Nat.le_of_ble_eq_true rfl) rfl ?_
  refine ev_bipush (a := 0) (b := 4) 20 rfl (by decide) ?_
  refine ev_icgt (a := 0) (b := 5) 15 rfl rfl (fun c4 => ?_) (fun c4 => ?_)
  · have h := (if_pos c4).symm.trans h
    refine ev_iconst (a := 0) (b := 8) 0 rfl (by decide) ?_
    refine ev_istore_n (a := 0) (b := 9) [(0, ic_R 16 0 0), (1, ic_I x1), (2, ic_I 0)] rfl (by decide) (And.intro (Or.inr (And.intro rfl rfl)) (And.intro (Or.inr (And.intro rfl rfl)) (And.intro (Or.inl rfl) trivial))) ?_
    refine ev_aload_n (a := 0) (b := 10) rfl rfl ?_
    refine ev_iload_n (a := 0) (b := 11) rfl rfl ?_
    refine ev_iconst (a := 0) (b := 12) 0 rfl (by decide) ?_
    obtain ⟨v7, g5, e6, h⟩ := ic_b2E h
    refine ev_ivI (a := 0) (b := 13) [ic_I x1, ic_I 0] rfl okX7_its rfl lmX7_48 rfl (rc16) (Nat.le_of_ble_eq_true rfl) (eX7_its e6) (Nat.le_of_ble_eq_true rfl) rfl ?_
    rcases Decidable.em (v7 = 1) with c8 | c8
    · have h := (if_pos c8).symm.trans h
      refine ev_tsw1 (a := 0) (b := 14) 1 (37) 60 rfl c8 (by decide) (by decide) rfl rfl ?_
      refine ev_iload_n (a := 0) (b := 15) rfl rfl ?_
      obtain ⟨rfl, rfl⟩ := ic_s2 h
      exact ev_ireturn (a := 0) (b := 16) rfl rfl rfl
    · have h := (if_neg c8).symm.trans h
      rcases Decidable.em (v7 = 3) with c9 | c9
      · have h := (if_pos c9).symm.trans h
        refine ev_tsw1 (a := 0) (b := 14) 3 (39) 62 rfl c9 (by decide) (by decide) rfl rfl ?_
        refine ev_iload_n (a := 0) (b := 17) rfl rfl ?_
        refine ev_ifne (a := 0) (b := 18) 77 rfl rfl (fun c => absurd (by decide) c) (fun _ => ?_)
        refine ev_aload_n (a := 0) (b := 19) rfl rfl ?_
        refine ev_iload_n (a := 0) (b := 20) rfl rfl ?_
        refine ev_bipush (a := 0) (b := 21) 6 rfl (by decide) ?_
        obtain ⟨v15, g13, e14, h⟩ := ic_b2E h
        refine ev_ivI (a := 0) (b := 22) [ic_I x1, ic_I 6] rfl okX7_its rfl lmX7_48 rfl (rc16) (Nat.le_of_ble_eq_true rfl) (eX7_its e14) (Nat.le_of_ble_eq_true rfl) rfl ?_
        refine ev_iconst (a := 0) (b := 23) 5 rfl (by decide) ?_
        refine ev_iclt (a := 0) (b := 24) 81 rfl rfl (fun c16 => ?_) (fun c16 => ?_)
        · have h := (if_pos c16).symm.trans h
          refine ev_iconst (a := 0) (b := 27) 0 rfl (by decide) ?_
          obtain ⟨rfl, rfl⟩ := ic_s2 h
          exact ev_ireturn (a := 0) (b := 28) rfl rfl rfl
        · have h := (if_neg c16).symm.trans h
          refine ev_iconst (a := 0) (b := 25) 1 rfl (by decide) ?_
          refine ev_goto (a := 0) (b := 26) 82 rfl rfl ?_
          obtain ⟨rfl, rfl⟩ := ic_s2 h
          exact ev_ireturn (a := 0) (b := 28) rfl rfl rfl
      · have h := (if_neg c9).symm.trans h
        rcases Decidable.em (v7 = 4) with c10 | c10
        · have h := (if_pos c10).symm.trans h
          refine ev_tsw1 (a := 0) (b := 14) 4 (60) 83 rfl c10 (by decide) (by decide) rfl rfl ?_
          refine ev_iconst (a := 0) (b := 29) 0 rfl (by decide) ?_
          obtain ⟨rfl, rfl⟩ := ic_s2 h
          exact ev_ireturn (a := 0) (b := 30) rfl rfl rfl
        · have h := (if_neg c10).symm.trans h
          rcases Decidable.em (v7 = 5) with c11 | c11
          · have h := (if_pos c11).symm.trans h
            refine ev_tsw1 (a := 0) (b := 14) 5 (60) 83 rfl c11 (by decide) (by decide) rfl rfl ?_
            refine ev_iconst (a := 0) (b := 29) 0 rfl (by decide) ?_
            obtain ⟨rfl, rfl⟩ := ic_s2 h
            exact ev_ireturn (a := 0) (b := 30) rfl rfl rfl
          · have h := (if_neg c11).symm.trans h
            rcases Decidable.em (v7 = 6) with c12 | c12
            · have h := (if_pos c12).symm.trans h
              refine ev_tsw1 (a := 0) (b := 14) 6 (62) 85 rfl c12 (by decide) (by decide) rfl rfl ?_
              refine ev_aload_n (a := 0) (b := 31) rfl rfl ?_
              refine ev_iload_n (a := 1) (b := 0) rfl rfl ?_
              refine ev_iconst (a := 1) (b := 1) 3 rfl (by decide) ?_
              obtain ⟨v19, g17, e18, h⟩ := ic_b2E h
              refine ev_ivI (a := 1) (b := 2) [ic_I x1, ic_I 3] rfl okX7_its rfl lmX7_48 rfl (rc16) (Nat.le_of_ble_eq_true rfl) (eX7_its e18) (Nat.le_of_ble_eq_true rfl) rfl ?_
              refine ev_iconst (a := 1) (b := 3) 5 rfl (by decide) ?_
              refine ev_iclt (a := 1) (b := 4) 99 rfl rfl (fun c20 => ?_) (fun c20 => ?_)
              · have h := (if_pos c20).symm.trans h
                refine ev_iconst (a := 1) (b := 7) 0 rfl (by decide) ?_
                obtain ⟨rfl, rfl⟩ := ic_s2 h
                exact ev_ireturn (a := 1) (b := 8) rfl rfl rfl
              · have h := (if_neg c20).symm.trans h
                refine ev_iconst (a := 1) (b := 5) 1 rfl (by decide) ?_
                refine ev_goto (a := 1) (b := 6) 100 rfl rfl ?_
                obtain ⟨rfl, rfl⟩ := ic_s2 h
                exact ev_ireturn (a := 1) (b := 8) rfl rfl rfl
            · have h := (if_neg c12).symm.trans h
              refine ev_tsw0 (a := 0) (b := 14) [1, 3, 4, 5, 6] 101 rfl (List.forall_mem_cons.mpr ⟨c8, List.forall_mem_cons.mpr ⟨c9, List.forall_mem_cons.mpr ⟨c10, List.forall_mem_cons.mpr ⟨c11, List.forall_mem_cons.mpr ⟨c12, fun _ hh => absurd hh List.not_mem_nil⟩⟩⟩⟩⟩) (by decide) (by decide) rfl ?_
              refine ev_iconst (a := 1) (b := 9) 1 rfl (by decide) ?_
              obtain ⟨rfl, rfl⟩ := ic_s2 h
              exact ev_ireturn (a := 1) (b := 10) rfl rfl rfl
  · have h := (if_neg c4).symm.trans h
    refine ev_iconst (a := 0) (b := 6) 1 rfl (by decide) ?_
    refine ev_goto (a := 0) (b := 7) 16 rfl rfl ?_
    refine ev_istore_n (a := 0) (b := 9) [(0, ic_R 16 0 0), (1, ic_I x1), (2, ic_I 1)] rfl (by decide) (And.intro (Or.inr (And.intro rfl rfl)) (And.intro (Or.inr (And.intro rfl rfl)) (And.intro (Or.inl rfl) trivial))) ?_
    refine ev_aload_n (a := 0) (b := 10) rfl rfl ?_
    refine ev_iload_n (a := 0) (b := 11) rfl rfl ?_
    refine ev_iconst (a := 0) (b := 12) 0 rfl (by decide) ?_
    obtain ⟨v23, g21, e22, h⟩ := ic_b2E h
    refine ev_ivI (a := 0) (b := 13) [ic_I x1, ic_I 0] rfl okX7_its rfl lmX7_48 rfl (rc16) (Nat.le_of_ble_eq_true rfl) (eX7_its e22) (Nat.le_of_ble_eq_true rfl) rfl ?_
    rcases Decidable.em (v23 = 1) with c24 | c24
    · have h := (if_pos c24).symm.trans h
      refine ev_tsw1 (a := 0) (b := 14) 1 (37) 60 rfl c24 (by decide) (by decide) rfl rfl ?_
      refine ev_iload_n (a := 0) (b := 15) rfl rfl ?_
      obtain ⟨rfl, rfl⟩ := ic_s2 h
      exact ev_ireturn (a := 0) (b := 16) rfl rfl rfl
    · have h := (if_neg c24).symm.trans h
      rcases Decidable.em (v23 = 3) with c25 | c25
      · have h := (if_pos c25).symm.trans h
        refine ev_tsw1 (a := 0) (b := 14) 3 (39) 62 rfl c25 (by decide) (by decide) rfl rfl ?_
        refine ev_iload_n (a := 0) (b := 17) rfl rfl ?_
        refine ev_ifne (a := 0) (b := 18) 77 rfl rfl (fun _ => ?_) (fun c => absurd c (by decide))
        refine ev_iconst (a := 0) (b := 25) 1 rfl (by decide) ?_
        refine ev_goto (a := 0) (b := 26) 82 rfl rfl ?_
        obtain ⟨rfl, rfl⟩ := ic_s2 h
        exact ev_ireturn (a := 0) (b := 28) rfl rfl rfl
      · have h := (if_neg c25).symm.trans h
        rcases Decidable.em (v23 = 4) with c26 | c26
        · have h := (if_pos c26).symm.trans h
          refine ev_tsw1 (a := 0) (b := 14) 4 (60) 83 rfl c26 (by decide) (by decide) rfl rfl ?_
          refine ev_iconst (a := 0) (b := 29) 0 rfl (by decide) ?_
          obtain ⟨rfl, rfl⟩ := ic_s2 h
          exact ev_ireturn (a := 0) (b := 30) rfl rfl rfl
        · have h := (if_neg c26).symm.trans h
          rcases Decidable.em (v23 = 5) with c27 | c27
          · have h := (if_pos c27).symm.trans h
            refine ev_tsw1 (a := 0) (b := 14) 5 (60) 83 rfl c27 (by decide) (by decide) rfl rfl ?_
            refine ev_iconst (a := 0) (b := 29) 0 rfl (by decide) ?_
            obtain ⟨rfl, rfl⟩ := ic_s2 h
            exact ev_ireturn (a := 0) (b := 30) rfl rfl rfl
          · have h := (if_neg c27).symm.trans h
            rcases Decidable.em (v23 = 6) with c28 | c28
            · have h := (if_pos c28).symm.trans h
              refine ev_tsw1 (a := 0) (b := 14) 6 (62) 85 rfl c28 (by decide) (by decide) rfl rfl ?_
              refine ev_aload_n (a := 0) (b := 31) rfl rfl ?_
              refine ev_iload_n (a := 1) (b := 0) rfl rfl ?_
              refine ev_iconst (a := 1) (b := 1) 3 rfl (by decide) ?_
              obtain ⟨v31, g29, e30, h⟩ := ic_b2E h
              refine ev_ivI (a := 1) (b := 2) [ic_I x1, ic_I 3] rfl okX7_its rfl lmX7_48 rfl (rc16) (Nat.le_of_ble_eq_true rfl) (eX7_its e30) (Nat.le_of_ble_eq_true rfl) rfl ?_
              refine ev_iconst (a := 1) (b := 3) 5 rfl (by decide) ?_
              refine ev_iclt (a := 1) (b := 4) 99 rfl rfl (fun c32 => ?_) (fun c32 => ?_)
              · have h := (if_pos c32).symm.trans h
                refine ev_iconst (a := 1) (b := 7) 0 rfl (by decide) ?_
                obtain ⟨rfl, rfl⟩ := ic_s2 h
                exact ev_ireturn (a := 1) (b := 8) rfl rfl rfl
              · have h := (if_neg c32).symm.trans h
                refine ev_iconst (a := 1) (b := 5) 1 rfl (by decide) ?_
                refine ev_goto (a := 1) (b := 6) 100 rfl rfl ?_
                obtain ⟨rfl, rfl⟩ := ic_s2 h
                exact ev_ireturn (a := 1) (b := 8) rfl rfl rfl
            · have h := (if_neg c28).symm.trans h
              refine ev_tsw0 (a := 0) (b := 14) [1, 3, 4, 5, 6] 101 rfl (List.forall_mem_cons.mpr ⟨c24, List.forall_mem_cons.mpr ⟨c25, List.forall_mem_cons.mpr ⟨c26, List.forall_mem_cons.mpr ⟨c27, List.forall_mem_cons.mpr ⟨c28, fun _ hh => absurd hh List.not_mem_nil⟩⟩⟩⟩⟩) (by decide) (by decide) rfl ?_
              refine ev_iconst (a := 1) (b := 9) 1 rfl (by decide) ?_
              obtain ⟨rfl, rfl⟩ := ic_s2 h
              exact ev_ireturn (a := 1) (b := 10) rfl rfl rfl
set_option maxRecDepth 20000 in
theorem eX7_rests {x1 : Int32} {g g' : ic_S} {v : Int32} (h : fX7_rests x1 g = some (v, g')) : ic_Ev mX7_rests 0 (ic_ag 0 [ic_R 16 0 0, ic_I x1]) [] g (some (ic_I v)) g' := by
  unfold fX7_rests at h
  change ic_Ev mX7_rests 0 [(0, ic_R 16 0 0), (1, ic_I x1)] [] g _ _
  refine ev_aload_n (a := 0) (b := 0) rfl rfl ?_
  refine ev_iload_n (a := 0) (b := 1) rfl rfl ?_
  refine ev_iconst (a := 0) (b := 2) 0 rfl (by decide) ?_
  obtain ⟨v3, g1, e2, h⟩ := ic_b2E h
  refine ev_ivI (a := 0) (b := 3) [ic_I x1, ic_I 0] rfl okX7_its rfl lmX7_48 rfl (rc16) (Nat.le_of_ble_eq_true rfl) (eX7_its e2) (Nat.le_of_ble_eq_true rfl) rfl ?_
  rcases Decidable.em (v3 = 1) with c4 | c4
  · have h := (if_pos c4).symm.trans h
    refine ev_tsw1 (a := 0) (b := 4) 1 (38) 44 rfl c4 (by decide) (by decide) rfl rfl ?_
    refine ev_iconst (a := 0) (b := 5) 0 rfl (by decide) ?_
    obtain ⟨rfl, rfl⟩ := ic_s2 h
    exact ev_ireturn (a := 0) (b := 6) rfl rfl rfl
  · have h := (if_neg c4).symm.trans h
    rcases Decidable.em (v3 = 2) with c5 | c5
    · have h := (if_pos c5).symm.trans h
      refine ev_tsw1 (a := 0) (b := 4) 2 (40) 46 rfl c5 (by decide) (by decide) rfl rfl ?_
      refine ev_iconst (a := 0) (b := 7) 2 rfl (by decide) ?_
      obtain ⟨rfl, rfl⟩ := ic_s2 h
      exact ev_ireturn (a := 0) (b := 8) rfl rfl rfl
    · have h := (if_neg c5).symm.trans h
      rcases Decidable.em (v3 = 3) with c6 | c6
      · have h := (if_pos c6).symm.trans h
        refine ev_tsw1 (a := 0) (b := 4) 3 (38) 44 rfl c6 (by decide) (by decide) rfl rfl ?_
        refine ev_iconst (a := 0) (b := 5) 0 rfl (by decide) ?_
        obtain ⟨rfl, rfl⟩ := ic_s2 h
        exact ev_ireturn (a := 0) (b := 6) rfl rfl rfl
      · have h := (if_neg c6).symm.trans h
        rcases Decidable.em (v3 = 4) with c7 | c7
        · have h := (if_pos c7).symm.trans h
          refine ev_tsw1 (a := 0) (b := 4) 4 (40) 46 rfl c7 (by decide) (by decide) rfl rfl ?_
          refine ev_iconst (a := 0) (b := 7) 2 rfl (by decide) ?_
          obtain ⟨rfl, rfl⟩ := ic_s2 h
          exact ev_ireturn (a := 0) (b := 8) rfl rfl rfl
        · have h := (if_neg c7).symm.trans h
          rcases Decidable.em (v3 = 5) with c8 | c8
          · have h := (if_pos c8).symm.trans h
            refine ev_tsw1 (a := 0) (b := 4) 5 (38) 44 rfl c8 (by decide) (by decide) rfl rfl ?_
            refine ev_iconst (a := 0) (b := 5) 0 rfl (by decide) ?_
            obtain ⟨rfl, rfl⟩ := ic_s2 h
            exact ev_ireturn (a := 0) (b := 6) rfl rfl rfl
          · have h := (if_neg c8).symm.trans h
            rcases Decidable.em (v3 = 6) with c9 | c9
            · have h := (if_pos c9).symm.trans h
              refine ev_tsw1 (a := 0) (b := 4) 6 (42) 48 rfl c9 (by decide) (by decide) rfl rfl ?_
              refine ev_iconst (a := 0) (b := 9) 4 rfl (by decide) ?_
              obtain ⟨rfl, rfl⟩ := ic_s2 h
              exact ev_ireturn (a := 0) (b := 10) rfl rfl rfl
            · have h := (if_neg c9).symm.trans h
              refine ev_tsw0 (a := 0) (b := 4) [1, 2, 3, 4, 5, 6] 50 rfl (List.forall_mem_cons.mpr ⟨c4, List.forall_mem_cons.mpr ⟨c5, List.forall_mem_cons.mpr ⟨c6, List.forall_mem_cons.mpr ⟨c7, List.forall_mem_cons.mpr ⟨c8, List.forall_mem_cons.mpr ⟨c9, fun _ hh => absurd hh List.not_mem_nil⟩⟩⟩⟩⟩⟩) (by decide) (by decide) rfl ?_
              refine ev_iconst (a := 0) (b := 11) 1 rfl (by decide) ?_
              obtain ⟨rfl, rfl⟩ := ic_s2 h
              exact ev_ireturn (a := 0) (b := 12) rfl rfl rfl
set_option maxRecDepth 20000 in
theorem eX7_turns {g g' : ic_S} (h : fX7_turns  g = some g') : ic_Ev mX7_turns 0 (ic_ag 0 [ic_R 16 0 0]) [] g (none) g' := by
  unfold fX7_turns at h
  change ic_Ev mX7_turns 0 [(0, ic_R 16 0 0)] [] g _ _
  refine ev_aload_n (a := 0) (b := 0) rfl rfl ?_
  refine ev_get (a := 0) (b := 1) 7 0 rfl rfl (Nat.le_of_ble_eq_true rfl) lfX7_7 (gX7_d) ?_
  refine ev_iconst (a := 0) (b := 2) 4 rfl (by decide) ?_
  refine ev_aload_n (a := 0) (b := 3) rfl rfl ?_
  refine ev_get (a := 0) (b := 4) 7 0 rfl rfl (Nat.le_of_ble_eq_true rfl) lfX7_7 (gX7_d) ?_
  refine ev_iconst (a := 0) (b := 5) 3 rfl (by decide) ?_
  refine ev_ialdk (a := 0) (b := 6) 3 (by decide) rfl (a17 (by decide)) (by decide) ?_
  refine ev_ifne (a := 0) (b := 7) 18 rfl rfl (fun c1 => ?_) (fun c1 => ?_)
  · have h := (if_neg c1).symm.trans h
    refine ev_aload_n (a := 0) (b := 10) rfl rfl ?_
    refine ev_get (a := 0) (b := 11) 7 0 rfl rfl (Nat.le_of_ble_eq_true rfl) lfX7_7 (gX7_d) ?_
    refine ev_iconst (a := 0) (b := 12) 3 rfl (by decide) ?_
    refine ev_ialdk (a := 0) (b := 13) 3 (by decide) rfl (a17 (by decide)) (by decide) ?_
    refine ev_bipush (a := 0) (b := 14) 15 rfl (by decide) ?_
    refine ev_icne (a := 0) (b := 15) 33 rfl rfl (fun c2 => ?_) (fun c2 => ?_)
    · have h := (if_neg c2).symm.trans h
      refine ev_aload_n (a := 0) (b := 18) rfl rfl ?_
      refine ev_get (a := 0) (b := 19) 7 0 rfl rfl (Nat.le_of_ble_eq_true rfl) lfX7_7 (gX7_d) ?_
      refine ev_iconst (a := 0) (b := 20) 4 rfl (by decide) ?_
      refine ev_ialdk (a := 0) (b := 21) 4 (by decide) rfl (a17 (by decide)) (by decide) ?_
      obtain ⟨g3, eg3, h⟩ := ic_letE h
      refine ev_iastk (a := 0) (b := 22) 4 (by decide) rfl (by decide) (w17 (by decide) eg3) ?_
      obtain rfl := ic_s1 h
      exact ev_return (a := 0) (b := 23) rfl rfl
    · have h := (if_pos c2).symm.trans h
      refine ev_iconst (a := 0) (b := 16) 0 rfl (by decide) ?_
      refine ev_goto (a := 0) (b := 17) 39 rfl rfl ?_
      obtain ⟨g4, eg4, h⟩ := ic_letE h
      refine ev_iastk (a := 0) (b := 22) 4 (by decide) rfl (by decide) (w17 (by decide) eg4) ?_
      obtain rfl := ic_s1 h
      exact ev_return (a := 0) (b := 23) rfl rfl
  · have h := (if_pos c1).symm.trans h
    refine ev_iconst (a := 0) (b := 8) 1 rfl (by decide) ?_
    refine ev_goto (a := 0) (b := 9) 39 rfl rfl ?_
    obtain ⟨g5, eg5, h⟩ := ic_letE h
    refine ev_iastk (a := 0) (b := 22) 4 (by decide) rfl (by decide) (w17 (by decide) eg5) ?_
    obtain rfl := ic_s1 h
    exact ev_return (a := 0) (b := 23) rfl rfl
set_option maxRecDepth 20000 in
theorem tX7_cartGoes_6 : ∀ (n : Nat) (x1 : Int32) (g : ic_S) (q : Unit × ic_S), lX7_cartGoes_6 n x1 g = some q → ∀ (r : Option ic_V) (g' : ic_S), ic_Ev mX7_cartGoes 50 [] [] q.2 r g' → ic_Ev mX7_cartGoes 6 [(0, ic_R 16 0 0), (1, ic_I x1)] [] g r g' := by
  intro n
  induction n with
  | zero => intro x1 g q h; cases h
  | succ n ih =>
    intro x1 g q h r g' hq
    rw [lX7_cartGoes_6] at h
    refine ev_iload_n (a := 0) (b := 4) rfl rfl ?_
    refine ev_aload_n (a := 0) (b := 5) rfl rfl ?_
    refine ev_get (a := 0) (b := 6) 7 0 rfl rfl (Nat.le_of_ble_eq_true rfl) lfX7_7 (gX7_d) ?_
    refine ev_iconst (a := 0) (b := 7) 5 rfl (by decide) ?_
    refine ev_ialdk (a := 0) (b := 8) 5 (by decide) rfl (a17 (by decide)) (by decide) ?_
    refine ev_icge (a := 0) (b := 9) 50 rfl rfl (fun c1001 => ?_) (fun c1001 => ?_)
    · have h := (if_pos c1001).symm.trans h
      obtain rfl := ic_s1 h
      exact ev_fw (lv' := []) hq trivial
    · have h := (if_neg c1001).symm.trans h
      refine ev_aload_n (a := 0) (b := 10) rfl rfl ?_
      refine ev_get (a := 0) (b := 11) 7 0 rfl rfl (Nat.le_of_ble_eq_true rfl) lfX7_7 (gX7_d) ?_
      refine ev_iconst (a := 0) (b := 12) 3 rfl (by decide) ?_
      refine ev_dup2 (a := 0) (b := 13) rfl rfl rfl ?_
      refine ev_ialdk (a := 0) (b := 14) 3 (by decide) rfl (a17 (by decide)) (by decide) ?_
      refine ev_aload_n (a := 0) (b := 15) rfl rfl ?_
      refine ev_get (a := 0) (b := 16) 7 0 rfl rfl (Nat.le_of_ble_eq_true rfl) lfX7_7 (gX7_d) ?_
      refine ev_iconst (a := 0) (b := 17) 4 rfl (by decide) ?_
      refine ev_ialdk (a := 0) (b := 18) 4 (by decide) rfl (a17 (by decide)) (by decide) ?_
      refine ev_iconst (a := 0) (b := 19) 1 rfl (by decide) ?_
      refine ev_icne (a := 0) (b := 20) 37 rfl rfl (fun c1002 => ?_) (fun c1002 => ?_)
      · have h := (if_neg c1002).symm.trans h
        refine ev_iconst (a := 0) (b := 23) (-1) rfl (by decide) ?_
        refine ev_iadd (a := 0) (b := 24) rfl ?_
        obtain ⟨g1003, eg1003, h⟩ := ic_letE h
        refine ev_iastk (a := 0) (b := 25) 3 (by decide) rfl (by decide) (w17 (by decide) eg1003) ?_
        refine ev_aload_n (a := 0) (b := 26) rfl rfl ?_
        obtain ⟨g1004, e1005, h⟩ := ic_b1E h
        refine ev_ivV (a := 0) (b := 27) [] rfl okX7_turns rfl lmX7_73 rfl (rc16) (Nat.le_of_ble_eq_true rfl) (eX7_turns e1005) (Nat.le_of_ble_eq_true rfl) rfl ?_
        refine ev_iinc (a := 0) (b := 28) (x1 + 1) [(0, ic_R 16 0 0), (1, ic_I (x1 + 1))] rfl rfl (by first | rfl | decide) (by decide) (And.intro (Or.inr (And.intro rfl rfl)) (And.intro (Or.inl rfl) trivial)) ?_
        refine ev_goto (a := 0) (b := 29) 6 rfl rfl ?_
        refine ev_fw (lv' := [(0, ic_R 16 0 0), (1, ic_I (x1 + 1))]) ?_ (And.intro rfl (And.intro rfl trivial))
        exact ih (x1 + 1) g1004 _ h _ _ hq
      · have h := (if_pos c1002).symm.trans h
        refine ev_iconst (a := 0) (b := 21) 1 rfl (by decide) ?_
        refine ev_goto (a := 0) (b := 22) 38 rfl rfl ?_
        refine ev_iadd (a := 0) (b := 24) rfl ?_
        obtain ⟨g1006, eg1006, h⟩ := ic_letE h
        refine ev_iastk (a := 0) (b := 25) 3 (by decide) rfl (by decide) (w17 (by decide) eg1006) ?_
        refine ev_aload_n (a := 0) (b := 26) rfl rfl ?_
        obtain ⟨g1007, e1008, h⟩ := ic_b1E h
        refine ev_ivV (a := 0) (b := 27) [] rfl okX7_turns rfl lmX7_73 rfl (rc16) (Nat.le_of_ble_eq_true rfl) (eX7_turns e1008) (Nat.le_of_ble_eq_true rfl) rfl ?_
        refine ev_iinc (a := 0) (b := 28) (x1 + 1) [(0, ic_R 16 0 0), (1, ic_I (x1 + 1))] rfl rfl (by first | rfl | decide) (by decide) (And.intro (Or.inr (And.intro rfl rfl)) (And.intro (Or.inl rfl) trivial)) ?_
        refine ev_goto (a := 0) (b := 29) 6 rfl rfl ?_
        refine ev_fw (lv' := [(0, ic_R 16 0 0), (1, ic_I (x1 + 1))]) ?_ (And.intro rfl (And.intro rfl trivial))
        exact ih (x1 + 1) g1007 _ h _ _ hq
set_option maxRecDepth 20000 in
theorem eX7_cartGoes {g g' : ic_S} (h : fX7_cartGoes  g = some g') : ic_Ev mX7_cartGoes 0 (ic_ag 0 [ic_R 16 0 0]) [] g (none) g' := by
  unfold fX7_cartGoes at h
  change ic_Ev mX7_cartGoes 0 [(0, ic_R 16 0 0)] [] g _ _
  refine ev_aload_n (a := 0) (b := 0) rfl rfl ?_
  obtain ⟨g1, e2, h⟩ := ic_b1E h
  refine ev_ivV (a := 0) (b := 1) [] rfl okX7_turns rfl lmX7_73 rfl (rc16) (Nat.le_of_ble_eq_true rfl) (eX7_turns e2) (Nat.le_of_ble_eq_true rfl) rfl ?_
  refine ev_iconst (a := 0) (b := 2) 0 rfl (by decide) ?_
  refine ev_istore_n (a := 0) (b := 3) [(0, ic_R 16 0 0), (1, ic_I 0)] rfl (by decide) (And.intro (Or.inr (And.intro rfl rfl)) (And.intro (Or.inl rfl) trivial)) ?_
  refine ev_fw (lv' := [(0, ic_R 16 0 0), (1, ic_I 0)]) ?_ (And.intro rfl (And.intro rfl trivial))
  obtain ⟨y3, g4, e5, h⟩ := ic_b2E h
  refine tX7_cartGoes_6  1000 0 g1 _ e5 _ _ ?_
  change ic_Ev mX7_cartGoes 50 [] [] g4 _ _
  obtain rfl := ic_s1 h
  exact ev_return (a := 0) (b := 30) rfl rfl
