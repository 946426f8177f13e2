set_option maxRecDepth 20000 in
theorem eX5_valueAt {x1 : Int32} {g g' : ic_S} {v : Int32} (h : fX5_valueAt x1 g = some (v, g')) : ic_Ev mX5_valueAt 0 (ic_ag 0 [ic_R 7 0 0, ic_I x1]) [] g (some (ic_I v)) g' := by
  unfold fX5_valueAt at h
  change ic_Ev mX5_valueAt 0 [(0, ic_R 7 0 0), (1, ic_I x1)] [] g _ _
  refine ev_iload_n (a := 0) (b := 0) rfl rfl ?_
  refine ev_iflt (a := 0) (b := 1) 30 rfl rfl (fun c1 => ?_) (fun c1 => ?_)
  · have h := (if_pos c1).symm.trans h
    refine ev_iconst (a := 0) (b := 16) 0 rfl (by decide) ?_
    obtain ⟨rfl, rfl⟩ := ic_s2 h
    exact ev_ireturn (a := 0) (b := 17) rfl rfl rfl
  · have h := (if_neg c1).symm.trans h
    refine ev_iload_n (a := 0) (b := 2) rfl rfl ?_
    refine ev_aload_n (a := 0) (b := 3) rfl rfl ?_
    refine ev_get (a := 0) (b := 4) 5 1 rfl rfl (Nat.le_of_ble_eq_true rfl) lfX5_15 (gX5_size) ?_
    refine ev_icge (a := 0) (b := 5) 30 rfl rfl (fun c2 => ?_) (fun c2 => ?_)
    · have h := (if_pos c2).symm.trans h
      refine ev_iconst (a := 0) (b := 16) 0 rfl (by decide) ?_
      obtain ⟨rfl, rfl⟩ := ic_s2 h
      exact ev_ireturn (a := 0) (b := 17) rfl rfl rfl
    · have h := (if_neg c2).symm.trans h
      refine ev_iload_n (a := 0) (b := 6) rfl rfl ?_
      refine ev_aload_n (a := 0) (b := 7) rfl rfl ?_
      refine ev_get (a := 0) (b := 8) 5 4 rfl rfl (Nat.le_of_ble_eq_true rfl) lfX5_26 (gX5_values) ?_
      refine ev_alen (a := 0) (b := 9) 121 rfl (a10) (by decide) ?_
      refine ev_icge (a := 0) (b := 10) 30 rfl rfl (fun c3 => ?_) (fun c3 => ?_)
      · have h := (if_pos c3).symm.trans h
        refine ev_iconst (a := 0) (b := 16) 0 rfl (by decide) ?_
        obtain ⟨rfl, rfl⟩ := ic_s2 h
        exact ev_ireturn (a := 0) (b := 17) rfl rfl rfl
      · have h := (if_neg c3).symm.trans h
        refine ev_aload_n (a := 0) (b := 11) rfl rfl ?_
        refine ev_get (a := 0) (b := 12) 5 4 rfl rfl (Nat.le_of_ble_eq_true rfl) lfX5_26 (gX5_values) ?_
        refine ev_iload_n (a := 0) (b := 13) rfl rfl ?_
        obtain ⟨h4, h⟩ := ic_gdE h
        refine ev_iald (a := 0) (b := 14) rfl (a10) h4 ?_
        refine ev_goto (a := 0) (b := 15) 31 rfl rfl ?_
        obtain ⟨rfl, rfl⟩ := ic_s2 h
        exact ev_ireturn (a := 0) (b := 17) rfl rfl rfl
set_option maxRecDepth 20000 in
theorem eX5_sortAt {x1 : Int32} {g g' : ic_S} {v : Int32} (h : fX5_sortAt x1 g = some (v, g')) : ic_Ev mX5_sortAt 0 (ic_ag 0 [ic_R 7 0 0, ic_I x1]) [] g (some (ic_I v)) g' := by
  unfold fX5_sortAt at h
  change ic_Ev mX5_sortAt 0 [(0, ic_R 7 0 0), (1, ic_I x1)] [] g _ _
  refine ev_iload_n (a := 0) (b := 0) rfl rfl ?_
  refine ev_iflt (a := 0) (b := 1) 30 rfl rfl (fun c1 => ?_) (fun c1 => ?_)
  · have h := (if_pos c1).symm.trans h
    refine ev_iconst (a := 0) (b := 16) 0 rfl (by decide) ?_
    obtain ⟨rfl, rfl⟩ := ic_s2 h
    exact ev_ireturn (a := 0) (b := 17) rfl rfl rfl
  · have h := (if_neg c1).symm.trans h
    refine ev_iload_n (a := 0) (b := 2) rfl rfl ?_
    refine ev_aload_n (a := 0) (b := 3) rfl rfl ?_
    refine ev_get (a := 0) (b := 4) 5 1 rfl rfl (Nat.le_of_ble_eq_true rfl) lfX5_15 (gX5_size) ?_
    refine ev_icge (a := 0) (b := 5) 30 rfl rfl (fun c2 => ?_) (fun c2 => ?_)
    · have h := (if_pos c2).symm.trans h
      refine ev_iconst (a := 0) (b := 16) 0 rfl (by decide) ?_
      obtain ⟨rfl, rfl⟩ := ic_s2 h
      exact ev_ireturn (a := 0) (b := 17) rfl rfl rfl
    · have h := (if_neg c2).symm.trans h
      refine ev_iload_n (a := 0) (b := 6) rfl rfl ?_
      refine ev_aload_n (a := 0) (b := 7) rfl rfl ?_
      refine ev_get (a := 0) (b := 8) 5 2 rfl rfl (Nat.le_of_ble_eq_true rfl) lfX5_19 (gX5_sorts) ?_
      refine ev_alen (a := 0) (b := 9) 121 rfl (a8) (by decide) ?_
      refine ev_icge (a := 0) (b := 10) 30 rfl rfl (fun c3 => ?_) (fun c3 => ?_)
      · have h := (if_pos c3).symm.trans h
        refine ev_iconst (a := 0) (b := 16) 0 rfl (by decide) ?_
        obtain ⟨rfl, rfl⟩ := ic_s2 h
        exact ev_ireturn (a := 0) (b := 17) rfl rfl rfl
      · have h := (if_neg c3).symm.trans h
        refine ev_aload_n (a := 0) (b := 11) rfl rfl ?_
        refine ev_get (a := 0) (b := 12) 5 2 rfl rfl (Nat.le_of_ble_eq_true rfl) lfX5_19 (gX5_sorts) ?_
        refine ev_iload_n (a := 0) (b := 13) rfl rfl ?_
        obtain ⟨h4, h⟩ := ic_gdE h
        refine ev_iald (a := 0) (b := 14) rfl (a8) h4 ?_
        refine ev_goto (a := 0) (b := 15) 31 rfl rfl ?_
        obtain ⟨rfl, rfl⟩ := ic_s2 h
        exact ev_ireturn (a := 0) (b := 17) rfl rfl rfl
set_option maxRecDepth 20000 in
theorem eX6_isKind {x0 : Int32} {g g' : ic_S} {v : Int32} (h : fX6_isKind x0 g = some (v, g')) : ic_Ev mX6_isKind 0 (ic_ag 0 [ic_I x0]) [] g (some (ic_I v)) g' := by
  unfold fX6_isKind at h
  change ic_Ev mX6_isKind 0 [(0, ic_I x0)] [] g _ _
  refine ev_iload_n (a := 0) (b := 0) rfl rfl ?_
  refine ev_iflt (a := 0) (b := 1) 14 rfl rfl (fun c1 => ?_) (fun c1 => ?_)
  · have h := (if_pos c1).symm.trans h
    refine ev_iconst (a := 0) (b := 7) 0 rfl (by decide) ?_
    obtain ⟨rfl, rfl⟩ := ic_s2 h
    exact ev_ireturn (a := 0) (b := 8) rfl rfl rfl
  · have h := (if_neg c1).symm.trans h
    refine ev_iload_n (a := 0) (b := 2) rfl rfl ?_
    refine ev_bipush (a := 0) (b := 3) 7 rfl (by decide) ?_
    refine ev_icge (a := 0) (b := 4) 14 rfl rfl (fun c2 => ?_) (fun c2 => ?_)
    · have h := (if_pos c2).symm.trans h
      refine ev_iconst (a := 0) (b := 7) 0 rfl (by decide) ?_
      obtain ⟨rfl, rfl⟩ := ic_s2 h
      exact ev_ireturn (a := 0) (b := 8) rfl rfl rfl
    · have h := (if_neg c2).symm.trans h
      refine ev_iconst (a := 0) (b := 5) 1 rfl (by decide) ?_
      refine ev_goto (a := 0) (b := 6) 15 rfl rfl ?_
      obtain ⟨rfl, rfl⟩ := ic_s2 h
      exact ev_ireturn (a := 0) (b := 8) rfl rfl rfl
set_option maxRecDepth 20000 in
theorem eX2_thingAt {s : Nat} {x1 : Int32} {g g' : ic_S} {v : Option (Nat × Nat)} (h : fX2_thingAt s x1 g = some (v, g')) : ic_Ev mX2_thingAt 0 (ic_ag 0 [ic_R 1 s 0, ic_I x1]) [] g (some (ic_O 3 v)) g' := by
  unfold fX2_thingAt at h
  obtain ⟨hs, h⟩ := ic_gdE h
  have hs : s < 3 := Nat.le_of_ble_eq_true hs
  change ic_Ev mX2_thingAt 0 [(0, ic_R 1 s 0), (1, ic_I x1)] [] g _ _
  refine ev_iload_n (a := 0) (b := 0) rfl rfl ?_
  refine ev_iflt (a := 0) (b := 1) 30 rfl rfl (fun c1 => ?_) (fun c1 => ?_)
  · have h := (if_pos c1).symm.trans h
    refine ev_null (a := 0) (b := 16) rfl ?_
    obtain ⟨rfl, rfl⟩ := ic_s2 h
    exact ev_areturn (a := 0) (b := 17) rfl rfl
  · have h := (if_neg c1).symm.trans h
    refine ev_iload_n (a := 0) (b := 2) rfl rfl ?_
    refine ev_aload_n (a := 0) (b := 3) rfl rfl ?_
    refine ev_get (a := 0) (b := 4) 2 6 rfl rfl (Nat.le_of_ble_eq_true rfl) lfX2_30 (gX2_made hs) ?_
    refine ev_icge (a := 0) (b := 5) 30 rfl rfl (fun c2 => ?_) (fun c2 => ?_)
    · have h := (if_pos c2).symm.trans h
      refine ev_null (a := 0) (b := 16) rfl ?_
      obtain ⟨rfl, rfl⟩ := ic_s2 h
      exact ev_areturn (a := 0) (b := 17) rfl rfl
    · have h := (if_neg c2).symm.trans h
      refine ev_iload_n (a := 0) (b := 6) rfl rfl ?_
      refine ev_aload_n (a := 0) (b := 7) rfl rfl ?_
      refine ev_get (a := 0) (b := 8) 2 7 rfl rfl (Nat.le_of_ble_eq_true rfl) lfX2_35 (gX2_things hs) ?_
      refine ev_alenr (a := 0) (b := 9) 8 rfl (a2 hs) (by decide) ?_
      refine ev_icge (a := 0) (b := 10) 30 rfl rfl (fun c3 => ?_) (fun c3 => ?_)
      · have h := (if_pos c3).symm.trans h
        refine ev_null (a := 0) (b := 16) rfl ?_
        obtain ⟨rfl, rfl⟩ := ic_s2 h
        exact ev_areturn (a := 0) (b := 17) rfl rfl
      · have h := (if_neg c3).symm.trans h
        refine ev_aload_n (a := 0) (b := 11) rfl rfl ?_
        refine ev_get (a := 0) (b := 12) 2 7 rfl rfl (Nat.le_of_ble_eq_true rfl) lfX2_35 (gX2_things hs) ?_
        refine ev_iload_n (a := 0) (b := 13) rfl rfl ?_
        obtain ⟨h4, h⟩ := ic_gdE h
        refine ev_aald (a := 0) (b := 14) rfl (a2 hs) h4 (show (3 : Nat) ≠ 26 by decide) ?_
        refine ev_goto (a := 0) (b := 15) 31 rfl rfl ?_
        obtain ⟨rfl, rfl⟩ := ic_s2 h
        exact ev_areturn (a := 0) (b := 17) rfl rfl
set_option maxRecDepth 20000 in
theorem eX4_renew {s : Nat} {t : Nat} {x1 : Int32} {x2 : Int32} {g g' : ic_S} (h : fX4_renew s t x1 x2 g = some g') : ic_Ev mX4_renew 0 (ic_ag 0 [ic_R 3 s t, ic_I x1, ic_I x2]) [] g (none) g' := by
  unfold fX4_renew at h
  obtain ⟨hs, h⟩ := ic_gdE h
  have hs : s < 3 := Nat.le_of_ble_eq_true hs
  obtain ⟨ht, h⟩ := ic_gdE h
  have ht : t < 8 := Nat.le_of_ble_eq_true ht
  change ic_Ev mX4_renew 0 [(0, ic_R 3 s t), (1, ic_I x1), (2, ic_I x2)] [] g _ _
  refine ev_aload_n (a := 0) (b := 0) rfl rfl ?_
  refine ev_iload_n (a := 0) (b := 1) rfl rfl ?_
  obtain ⟨g1, eg1, h⟩ := ic_letE h
  refine ev_put (a := 0) (b := 2) 4 1 rfl rfl (Nat.le_of_ble_eq_true rfl) lfX4_15 rfl (pX4_kind hs ht eg1) ?_
  refine ev_aload_n (a := 0) (b := 3) rfl rfl ?_
  refine ev_iload_n (a := 0) (b := 4) rfl rfl ?_
  obtain ⟨g2, eg2, h⟩ := ic_letE h
  refine ev_put (a := 0) (b := 5) 4 2 rfl rfl (Nat.le_of_ble_eq_true rfl) lfX4_18 rfl (pX4_cell hs ht eg2) ?_
  refine ev_aload_n (a := 0) (b := 6) rfl rfl ?_
  refine ev_bipush (a := 0) (b := 7) 10 rfl (by decide) ?_
  obtain ⟨g3, eg3, h⟩ := ic_letE h
  refine ev_put (a := 0) (b := 8) 4 3 rfl rfl (Nat.le_of_ble_eq_true rfl) lfX4_21 rfl (pX4_heavy hs ht eg3) ?_
  refine ev_aload_n (a := 0) (b := 9) rfl rfl ?_
  refine ev_iconst (a := 0) (b := 10) 0 rfl (by decide) ?_
  obtain ⟨g4, eg4, h⟩ := ic_letE h
  refine ev_put (a := 0) (b := 11) 4 4 rfl rfl (Nat.le_of_ble_eq_true rfl) lfX4_24 rfl (pX4_pulled hs ht eg4) ?_
  refine ev_aload_n (a := 0) (b := 12) rfl rfl ?_
  refine ev_iconst (a := 0) (b := 13) 0 rfl (by decide) ?_
  obtain ⟨g5, eg5, h⟩ := ic_letE h
  refine ev_put (a := 0) (b := 14) 4 5 rfl rfl (Nat.le_of_ble_eq_true rfl) lfX4_27 rfl (pX4_moved hs ht eg5) ?_
  refine ev_aload_n (a := 0) (b := 15) rfl rfl ?_
  refine ev_iconst (a := 0) (b := 16) 0 rfl (by decide) ?_
  obtain ⟨g6, eg6, h⟩ := ic_letE h
  refine ev_put (a := 0) (b := 17) 4 6 rfl rfl (Nat.le_of_ble_eq_true rfl) lfX4_30 rfl (pX4_isHeld hs ht rfl eg6) ?_
  refine ev_aload_n (a := 0) (b := 18) rfl rfl ?_
  refine ev_iconst (a := 0) (b := 19) 0 rfl (by decide) ?_
  obtain ⟨g7, eg7, h⟩ := ic_letE h
  refine ev_put (a := 0) (b := 20) 4 7 rfl rfl (Nat.le_of_ble_eq_true rfl) lfX4_34 rfl (pX4_isTaken hs ht rfl eg7) ?_
  obtain rfl := ic_s1 h
  exact ev_return (a := 0) (b := 21) rfl rfl
set_option maxRecDepth 20000 in
theorem eX2_addThing {s : Nat} {x1 : Int32} {x2 : Int32} {g g' : ic_S} {v : Int32} (h : fX2_addThing s x1 x2 g = some (v, g')) : ic_Ev mX2_addThing 0 (ic_ag 0 [ic_R 1 s 0, ic_I x1, ic_I x2]) [] g (some (ic_I v)) g' := by
  unfold fX2_addThing at h
  obtain ⟨hs, h⟩ := ic_gdE h
  have hs : s < 3 := Nat.le_of_ble_eq_true hs
  change ic_Ev mX2_addThing 0 [(0, ic_R 1 s 0), (1, ic_I x1), (2, ic_I x2)] [] g _ _
  refine ev_aload_n (a := 0) (b := 0) rfl rfl ?_
  refine ev_get (a := 0) (b := 1) 2 6 rfl rfl (Nat.le_of_ble_eq_true rfl) lfX2_30 (gX2_made hs) ?_
  refine ev_aload_n (a := 0) (b := 2) rfl rfl ?_
  refine ev_get (a := 0) (b := 3) 2 7 rfl rfl (Nat.le_of_ble_eq_true rfl) lfX2_35 (gX2_things hs) ?_
  refine ev_alenr (a := 0) (b := 4) 8 rfl (a2 hs) (by decide) ?_
  refine ev_iclt (a := 0) (b := 5) 14 rfl rfl (fun c1 => ?_) (fun c1 => ?_)
  · have h := (if_pos c1).symm.trans h
    refine ev_aload_n (a := 0) (b := 8) rfl rfl ?_
    refine ev_dup (a := 0) (b := 9) rfl rfl ?_
    refine ev_get (a := 0) (b := 10) 2 6 rfl rfl (Nat.le_of_ble_eq_true rfl) lfX2_30 (gX2_made hs) ?_
    refine ev_iconst (a := 0) (b := 11) 1 rfl (by decide) ?_
    refine ev_iadd (a := 0) (b := 12) rfl ?_
    obtain ⟨g2, eg2, h⟩ := ic_letE h
    refine ev_put (a := 0) (b := 13) 2 6 rfl rfl (Nat.le_of_ble_eq_true rfl) lfX2_30 rfl (pX2_made hs eg2) ?_
    refine ev_aload_n (a := 0) (b := 14) rfl rfl ?_
    refine ev_aload_n (a := 0) (b := 15) rfl rfl ?_
    refine ev_get (a := 0) (b := 16) 2 6 rfl rfl (Nat.le_of_ble_eq_true rfl) lfX2_30 (gX2_made hs) ?_
    refine ev_iconst (a := 0) (b := 17) 1 rfl (by decide) ?_
    refine ev_isub (a := 0) (b := 18) rfl ?_
    obtain ⟨v5, g3, e4, h⟩ := ic_b2E h
    refine ev_ivO (a := 0) (b := 19) [ic_I ((g2.1 s 0) - 1)] rfl okX2_thingAt rfl lmX2_46 rfl (rc1 hs) (Nat.le_of_ble_eq_true rfl) (eX2_thingAt e4) (Nat.le_of_ble_eq_true rfl) rfl ?_
    refine ev_astore_n (a := 0) (b := 20) [(0, ic_R 1 s 0), (1, ic_I x1), (2, ic_I x2), (3, ic_O 3 v5)] rfl (by decide) (And.intro (Or.inr (And.intro rfl rfl)) (And.intro (Or.inr (And.intro rfl rfl)) (And.intro (Or.inr (And.intro rfl rfl)) (And.intro (Or.inl rfl) trivial)))) ?_
    refine ev_aload_n (a := 0) (b := 21) rfl rfl ?_
    rcases v5 with _ | ⟨s6, t7⟩
    · replace h := ic_moN h
      refine ev_ifnull1 (a := 0) (b := 22) 45 rfl rfl ?_
      refine ev_aload_n (a := 0) (b := 27) rfl rfl ?_
      refine ev_get (a := 0) (b := 28) 2 6 rfl rfl (Nat.le_of_ble_eq_true rfl) lfX2_30 (gX2_made hs) ?_
      refine ev_iconst (a := 0) (b := 29) 1 rfl (by decide) ?_
      refine ev_isub (a := 0) (b := 30) rfl ?_
      obtain ⟨rfl, rfl⟩ := ic_s2 h
      exact ev_ireturn (a := 0) (b := 31) rfl rfl rfl
    · replace h := ic_moS h
      have k8 := (ic_gdE h).1
      replace h := (ic_gdE h).2
      refine ev_ifnull0 (a := 0) (b := 22) (show (3 : Nat) ≠ 26 by decide) rfl ?_
      refine ev_aload_n (a := 0) (b := 23) rfl rfl ?_
      refine ev_iload_n (a := 0) (b := 24) rfl rfl ?_
      refine ev_iload_n (a := 0) (b := 25) rfl rfl ?_
      obtain ⟨g9, e10, h⟩ := ic_b1E h
      refine ev_ivV (a := 0) (b := 26) [ic_I x1, ic_I x2] rfl okX4_renew rfl lmX2_62 rfl (rc3 (ic_vks (C := 3) k8) (ic_vkt (C := 3) k8)) (Nat.le_of_ble_eq_true rfl) (eX4_renew e10) (Nat.le_of_ble_eq_true rfl) rfl ?_
      refine ev_aload_n (a := 0) (b := 27) rfl rfl ?_
      refine ev_get (a := 0) (b := 28) 2 6 rfl rfl (Nat.le_of_ble_eq_true rfl) lfX2_30 (gX2_made hs) ?_
      refine ev_iconst (a := 0) (b := 29) 1 rfl (by decide) ?_
      refine ev_isub (a := 0) (b := 30) rfl ?_
      obtain ⟨rfl, rfl⟩ := ic_s2 h
      exact ev_ireturn (a := 0) (b := 31) rfl rfl rfl
  · have h := (if_neg c1).symm.trans h
    refine ev_iconst (a := 0) (b := 6) (-1) rfl (by decide) ?_
    obtain ⟨rfl, rfl⟩ := ic_s2 h
    exact ev_ireturn (a := 0) (b := 7) rfl rfl rfl
set_option maxRecDepth 20000 in
theorem eX0_passWord {x1 : Int32} {g g' : ic_S} {v : Int32} (h : fX0_passWord x1 g = some (v, g')) : ic_Ev mX0_passWord 0 (ic_ag 0 [ic_R 11 0 0, ic_I x1]) [] g (some (ic_I v)) g' := by
  unfold fX0_passWord at h
  change ic_Ev mX0_passWord 0 [(0, ic_R 11 0 0), (1, ic_I x1)] [] g _ _
  refine ev_aload_n (a := 0) (b := 0) rfl rfl ?_
  refine ev_get (a := 0) (b := 1) 0 3 rfl rfl (Nat.le_of_ble_eq_true rfl) lfX0_23 (gX0_isFaulty) ?_
  refine ev_ifne (a := 0) (b := 2) 41 rfl rfl (fun c1 => ?_) (fun c1 => ?_)
  · have h := (if_neg c1).symm.trans h
    refine ev_iconst (a := 0) (b := 19) 0 rfl (by decide) ?_
    refine ev_istore_n (a := 0) (b := 20) [(0, ic_R 11 0 0), (2, ic_I 0)] rfl (by decide) (And.intro (Or.inr (And.intro rfl rfl)) (And.intro (Or.inl rfl) trivial)) ?_
    refine ev_iload_n (a := 0) (b := 21) rfl rfl ?_
    refine ev_ifeq (a := 0) (b := 22) 57 rfl rfl (fun _ => ?_) (fun c => absurd (by decide) c)
    refine ev_iload_n (a := 0) (b := 29) rfl rfl ?_
    obtain ⟨rfl, rfl⟩ := ic_s2 h
    exact ev_ireturn (a := 0) (b := 30) rfl rfl rfl
  · have h := (if_pos c1).symm.trans h
    refine ev_aload_n (a := 0) (b := 3) rfl rfl ?_
    refine ev_get (a := 0) (b := 4) 0 0 rfl rfl (Nat.le_of_ble_eq_true rfl) lfX0_9 (gX0_tokens) ?_
    refine ev_aload_n (a := 0) (b := 5) rfl rfl ?_
    refine ev_get (a := 0) (b := 6) 0 2 rfl rfl (Nat.le_of_ble_eq_true rfl) lfX0_19 (gX0_next) ?_
    obtain ⟨v4, g2, e3, h⟩ := ic_b2E h
    refine ev_ivI (a := 0) (b := 7) [ic_I (g.1 14 0)] rfl okX5_sortAt rfl lmX0_30 rfl (rc7) (Nat.le_of_ble_eq_true rfl) (eX5_sortAt e3) (Nat.le_of_ble_eq_true rfl) rfl ?_
    refine ev_iconst (a := 0) (b := 8) 1 rfl (by decide) ?_
    refine ev_icne (a := 0) (b := 9) 41 rfl rfl (fun c5 => ?_) (fun c5 => ?_)
    · have h := (if_neg c5).symm.trans h
      refine ev_iconst (a := 0) (b := 19) 0 rfl (by decide) ?_
      refine ev_istore_n (a := 0) (b := 20) [(0, ic_R 11 0 0), (2, ic_I 0)] rfl (by decide) (And.intro (Or.inr (And.intro rfl rfl)) (And.intro (Or.inl rfl) trivial)) ?_
      refine ev_iload_n (a := 0) (b := 21) rfl rfl ?_
      refine ev_ifeq (a := 0) (b := 22) 57 rfl rfl (fun _ => ?_) (fun c => absurd (by decide) c)
      refine ev_iload_n (a := 0) (b := 29) rfl rfl ?_
      obtain ⟨rfl, rfl⟩ := ic_s2 h
      exact ev_ireturn (a := 0) (b := 30) rfl rfl rfl
    · have h := (if_pos c5).symm.trans h
      refine ev_aload_n (a := 0) (b := 10) rfl rfl ?_
      refine ev_get (a := 0) (b := 11) 0 0 rfl rfl (Nat.le_of_ble_eq_true rfl) lfX0_9 (gX0_tokens) ?_
      refine ev_aload_n (a := 0) (b := 12) rfl rfl ?_
      refine ev_get (a := 0) (b := 13) 0 2 rfl rfl (Nat.le_of_ble_eq_true rfl) lfX0_19 (gX0_next) ?_
      obtain ⟨v8, g6, e7, h⟩ := ic_b2E h
      refine ev_ivI (a := 0) (b := 14) [ic_I (g2.1 14 0)] rfl okX5_valueAt rfl lmX0_39 rfl (rc7) (Nat.le_of_ble_eq_true rfl) (eX5_valueAt e7) (Nat.le_of_ble_eq_true rfl) rfl ?_
      refine ev_iload_n (a := 0) (b := 15) rfl rfl ?_
      refine ev_icne (a := 0) (b := 16) 41 rfl rfl (fun c9 => ?_) (fun c9 => ?_)
      · have h := (if_neg c9).symm.trans h
        refine ev_iconst (a := 0) (b := 19) 0 rfl (by decide) ?_
        refine ev_istore_n (a := 0) (b := 20) [(0, ic_R 11 0 0), (2, ic_I 0)] rfl (by decide) (And.intro (Or.inr (And.intro rfl rfl)) (And.intro (Or.inl rfl) trivial)) ?_
        refine ev_iload_n (a := 0) (b := 21) rfl rfl ?_
        refine ev_ifeq (a := 0) (b := 22) 57 rfl rfl (fun _ => ?_) (fun c => absurd (by decide) c)
        refine ev_iload_n (a := 0) (b := 29) rfl rfl ?_
        obtain ⟨rfl, rfl⟩ := ic_s2 h
        exact ev_ireturn (a := 0) (b := 30) rfl rfl rfl
      · have h := (if_pos c9).symm.trans h
        refine ev_iconst (a := 0) (b := 17) 1 rfl (by decide) ?_
        refine ev_goto (a := 0) (b := 18) 42 rfl rfl ?_
        refine ev_istore_n (a := 0) (b := 20) [(0, ic_R 11 0 0), (2, ic_I 1)] rfl (by decide) (And.intro (Or.inr (And.intro rfl rfl)) (And.intro (Or.inl rfl) trivial)) ?_
        refine ev_iload_n (a := 0) (b := 21) rfl rfl ?_
        refine ev_ifeq (a := 0) (b := 22) 57 rfl rfl (fun c => absurd c (by decide)) (fun _ => ?_)
        refine ev_aload_n (a := 0) (b := 23) rfl rfl ?_
        refine ev_dup (a := 0) (b := 24) rfl rfl ?_
        refine ev_get (a := 0) (b := 25) 0 2 rfl rfl (Nat.le_of_ble_eq_true rfl) lfX0_19 (gX0_next) ?_
        refine ev_iconst (a := 0) (b := 26) 1 rfl (by decide) ?_
        refine ev_iadd (a := 0) (b := 27) rfl ?_
        obtain ⟨g10, eg10, h⟩ := ic_letE h
        refine ev_put (a := 0) (b := 28) 0 2 rfl rfl (Nat.le_of_ble_eq_true rfl) lfX0_19 rfl (pX0_next eg10) ?_
        refine ev_iload_n (a := 0) (b := 29) rfl rfl ?_
        obtain ⟨rfl, rfl⟩ := ic_s2 h
        exact ev_ireturn (a := 0) (b := 30) rfl rfl rfl
set_option maxRecDepth 20000 in
theorem eX6_leastOf {x0 : Int32} {g g' : ic_S} {v : Int32} (h : fX6_leastOf x0 g = some (v, g')) : ic_Ev mX6_leastOf 0 (ic_ag 0 [ic_I x0]) [] g (some (ic_I v)) g' := by
  unfold fX6_leastOf at h
  change ic_Ev mX6_leastOf 0 [(0, ic_I x0)] [] g _ _
  refine ev_iload_n (a := 0) (b := 0) rfl rfl ?_
  refine ev_iconst (a := 0) (b := 1) 2 rfl (by decide) ?_
  refine ev_icne (a := 0) (b := 2) 9 rfl rfl (fun c1 => ?_) (fun c1 => ?_)
  · have h := (if_neg c1).symm.trans h
    refine ev_iconst (a := 0) (b := 5) 0 rfl (by decide) ?_
    obtain ⟨rfl, rfl⟩ := ic_s2 h
    exact ev_ireturn (a := 0) (b := 6) rfl rfl rfl
  · have h := (if_pos c1).symm.trans h
    refine ev_iconst (a := 0) (b := 3) 1 rfl (by decide) ?_
    refine ev_goto (a := 0) (b := 4) 10 rfl rfl ?_
    obtain ⟨rfl, rfl⟩ := ic_s2 h
    exact ev_ireturn (a := 0) (b := 6) rfl rfl rfl
set_option maxRecDepth 20000 in
theorem eX6_mostOf {x0 : Int32} {g g' : ic_S} {v : Int32} (h : fX6_mostOf x0 g = some (v, g')) : ic_Ev mX6_mostOf 0 (ic_ag 0 [ic_I x0]) [] g (some (ic_I v)) g' := by
  unfold fX6_mostOf at h
  change ic_Ev mX6_mostOf 0 [(0, ic_I x0)] [] g _ _
  refine ev_iload_n (a := 0) (b := 0) rfl rfl ?_
  rcases Decidable.em (x0 = 0) with c1 | c1
  · have h := (if_pos c1).symm.trans h
    refine ev_tsw1 (a := 0) (b := 1) 0 (43) 44 rfl c1 (by decide) (by decide) rfl rfl ?_
    refine ev_bipush (a := 0) (b := 2) 6 rfl (by decide) ?_
    obtain ⟨rfl, rfl⟩ := ic_s2 h
    exact ev_ireturn (a := 0) (b := 3) rfl rfl rfl
  · have h := (if_neg c1).symm.trans h
    rcases Decidable.em (x0 = 1) with c2 | c2
    · have h := (if_pos c2).symm.trans h
      refine ev_tsw1 (a := 0) (b := 1) 1 (46) 47 rfl c2 (by decide) (by decide) rfl rfl ?_
      refine ev_bipush (a := 0) (b := 4) 15 rfl (by decide) ?_
      obtain ⟨rfl, rfl⟩ := ic_s2 h
      exact ev_ireturn (a := 0) (b := 5) rfl rfl rfl
    · have h := (if_neg c2).symm.trans h
      rcases Decidable.em (x0 = 2) with c3 | c3
      · have h := (if_pos c3).symm.trans h
        refine ev_tsw1 (a := 0) (b := 1) 2 (49) 50 rfl c3 (by decide) (by decide) rfl rfl ?_
        refine ev_bipush (a := 0) (b := 6) 99 rfl (by decide) ?_
        obtain ⟨rfl, rfl⟩ := ic_s2 h
        exact ev_ireturn (a := 0) (b := 7) rfl rfl rfl
      · have h := (if_neg c3).symm.trans h
        rcases Decidable.em (x0 = 3) with c4 | c4
        · have h := (if_pos c4).symm.trans h
          refine ev_tsw1 (a := 0) (b := 1) 3 (52) 53 rfl c4 (by decide) (by decide) rfl rfl ?_
          refine ev_sipush (a := 0) (b := 8) 999 rfl (by decide) ?_
          obtain ⟨rfl, rfl⟩ := ic_s2 h
          exact ev_ireturn (a := 0) (b := 9) rfl rfl rfl
        · have h := (if_neg c4).symm.trans h
          rcases Decidable.em (x0 = 4) with c5 | c5
          · have h := (if_pos c5).symm.trans h
            refine ev_tsw1 (a := 0) (b := 1) 4 (56) 57 rfl c5 (by decide) (by decide) rfl rfl ?_
            refine ev_iconst (a := 0) (b := 10) 1 rfl (by decide) ?_
            obtain ⟨rfl, rfl⟩ := ic_s2 h
            exact ev_ireturn (a := 0) (b := 11) rfl rfl rfl
          · have h := (if_neg c5).symm.trans h
            rcases Decidable.em (x0 = 5) with c6 | c6
            · have h := (if_pos c6).symm.trans h
              refine ev_tsw1 (a := 0) (b := 1) 5 (58) 59 rfl c6 (by decide) (by decide) rfl rfl ?_
              refine ev_iconst (a := 0) (b := 12) 1 rfl (by decide) ?_
              obtain ⟨rfl, rfl⟩ := ic_s2 h
              exact ev_ireturn (a := 0) (b := 13) rfl rfl rfl
            · have h := (if_neg c6).symm.trans h
              rcases Decidable.em (x0 = 6) with c7 | c7
              · have h := (if_pos c7).symm.trans h
                refine ev_tsw1 (a := 0) (b := 1) 6 (60) 61 rfl c7 (by decide) (by decide) rfl rfl ?_
                refine ev_sipush (a := 0) (b := 14) 9999 rfl (by decide) ?_
                obtain ⟨rfl, rfl⟩ := ic_s2 h
                exact ev_ireturn (a := 0) (b := 15) rfl rfl rfl
              · have h := (if_neg c7).symm.trans h
                refine ev_tsw0 (a := 0) (b := 1) [0, 1, 2, 3, 4, 5, 6] 65 rfl (List.forall_mem_cons.mpr ⟨c1, List.forall_mem_cons.mpr ⟨c2, List.forall_mem_cons.mpr ⟨c3, List.forall_mem_cons.mpr ⟨c4, List.forall_mem_cons.mpr ⟨c5, List.forall_mem_cons.mpr ⟨c6, List.forall_mem_cons.mpr ⟨c7, fun _ hh => absurd hh List.not_mem_nil⟩⟩⟩⟩⟩⟩⟩) (by decide) (by decide) rfl ?_
                refine ev_iconst (a := 0) (b := 16) (-1) rfl (by decide) ?_
                obtain ⟨rfl, rfl⟩ := ic_s2 h
                exact ev_ireturn (a := 0) (b := 17) rfl rfl rfl
set_option maxRecDepth 20000 in
theorem eX0_passNumber {x1 : Int32} {x2 : Int32} {g g' : ic_S} {v : Int32} (h : fX0_passNumber x1 x2 g = some (v, g')) : ic_Ev mX0_passNumber 0 (ic_ag 0 [ic_R 11 0 0, ic_I x1, ic_I x2]) [] g (some (ic_I v)) g' := by
  unfold fX0_passNumber at h
  change ic_Ev mX0_passNumber 0 [(0, ic_R 11 0 0), (1, ic_I x1), (2, ic_I x2)] [] g _ _
  refine ev_aload_n (a := 0) (b := 0) rfl rfl ?_
  refine ev_get (a := 0) (b := 1) 0 0 rfl rfl (Nat.le_of_ble_eq_true rfl) lfX0_9 (gX0_tokens) ?_
  refine ev_aload_n (a := 0) (b := 2) rfl rfl ?_
  refine ev_get (a := 0) (b := 3) 0 2 rfl rfl (Nat.le_of_ble_eq_true rfl) lfX0_19 (gX0_next) ?_
  obtain ⟨v3, g1, e2, h⟩ := ic_b2E h
  refine ev_ivI (a := 0) (b := 4) [ic_I (g.1 14 0)] rfl okX5_valueAt rfl lmX0_39 rfl (rc7) (Nat.le_of_ble_eq_true rfl) (eX5_valueAt e2) (Nat.le_of_ble_eq_true rfl) rfl ?_
  refine ev_istore_n (a := 0) (b := 5) [(0, ic_R 11 0 0), (1, ic_I x1), (2, ic_I x2), (3, ic_I v3)] rfl (by decide) (And.intro (Or.inr (And.intro rfl rfl)) (And.intro (Or.inr (And.intro rfl rfl)) (And.intro (Or.inr (And.intro rfl rfl)) (And.intro (Or.inl rfl) trivial)))) ?_
  refine ev_aload_n (a := 0) (b := 6) rfl rfl ?_
  refine ev_get (a := 0) (b := 7) 0 3 rfl rfl (Nat.le_of_ble_eq_true rfl) lfX0_23 (gX0_isFaulty) ?_
  refine ev_ifne (a := 0) (b := 8) 44 rfl rfl (fun c4 => ?_) (fun c4 => ?_)
  · have h := (if_neg c4).symm.trans h
    refine ev_aload_n (a := 0) (b := 22) rfl rfl ?_
    refine ev_iconst (a := 0) (b := 23) 1 rfl (by decide) ?_
    obtain ⟨g5, eg5, h⟩ := ic_letE h
    refine ev_put (a := 0) (b := 24) 0 3 rfl rfl (Nat.le_of_ble_eq_true rfl) lfX0_23 rfl (pX0_isFaulty rfl eg5) ?_
    refine ev_iload_n (a := 0) (b := 25) rfl rfl ?_
    obtain ⟨rfl, rfl⟩ := ic_s2 h
    exact ev_ireturn (a := 0) (b := 26) rfl rfl rfl
  · have h := (if_pos c4).symm.trans h
    refine ev_aload_n (a := 0) (b := 9) rfl rfl ?_
    refine ev_get (a := 0) (b := 10) 0 0 rfl rfl (Nat.le_of_ble_eq_true rfl) lfX0_9 (gX0_tokens) ?_
    refine ev_aload_n (a := 0) (b := 11) rfl rfl ?_
    refine ev_get (a := 0) (b := 12) 0 2 rfl rfl (Nat.le_of_ble_eq_true rfl) lfX0_19 (gX0_next) ?_
    obtain ⟨v8, g6, e7, h⟩ := ic_b2E h
    refine ev_ivI (a := 0) (b := 13) [ic_I (g1.1 14 0)] rfl okX5_sortAt rfl lmX0_30 rfl (rc7) (Nat.le_of_ble_eq_true rfl) (eX5_sortAt e7) (Nat.le_of_ble_eq_true rfl) rfl ?_
    refine ev_iconst (a := 0) (b := 14) 2 rfl (by decide) ?_
    refine ev_icne (a := 0) (b := 15) 44 rfl rfl (fun c9 => ?_) (fun c9 => ?_)
    · have h := (if_neg c9).symm.trans h
      refine ev_aload_n (a := 0) (b := 22) rfl rfl ?_
      refine ev_iconst (a := 0) (b := 23) 1 rfl (by decide) ?_
      obtain ⟨g10, eg10, h⟩ := ic_letE h
      refine ev_put (a := 0) (b := 24) 0 3 rfl rfl (Nat.le_of_ble_eq_true rfl) lfX0_23 rfl (pX0_isFaulty rfl eg10) ?_
      refine ev_iload_n (a := 0) (b := 25) rfl rfl ?_
      obtain ⟨rfl, rfl⟩ := ic_s2 h
      exact ev_ireturn (a := 0) (b := 26) rfl rfl rfl
    · have h := (if_pos c9).symm.trans h
      refine ev_iload_n (a := 0) (b := 16) rfl rfl ?_
      refine ev_iload_n (a := 0) (b := 17) rfl rfl ?_
      refine ev_iclt (a := 0) (b := 18) 44 rfl rfl (fun c11 => ?_) (fun c11 => ?_)
      · have h := (if_pos c11).symm.trans h
        refine ev_aload_n (a := 0) (b := 22) rfl rfl ?_
        refine ev_iconst (a := 0) (b := 23) 1 rfl (by decide) ?_
        obtain ⟨g12, eg12, h⟩ := ic_letE h
        refine ev_put (a := 0) (b := 24) 0 3 rfl rfl (Nat.le_of_ble_eq_true rfl) lfX0_23 rfl (pX0_isFaulty rfl eg12) ?_
        refine ev_iload_n (a := 0) (b := 25) rfl rfl ?_
        obtain ⟨rfl, rfl⟩ := ic_s2 h
        exact ev_ireturn (a := 0) (b := 26) rfl rfl rfl
      · have h := (if_neg c11).symm.trans h
        refine ev_iload_n (a := 0) (b := 19) rfl rfl ?_
        refine ev_iload_n (a := 0) (b := 20) rfl rfl ?_
        refine ev_icle (a := 0) (b := 21) 51 rfl rfl (fun c13 => ?_) (fun c13 => ?_)
        · have h := (if_pos c13).symm.trans h
          refine ev_aload_n (a := 0) (b := 27) rfl rfl ?_
          refine ev_dup (a := 0) (b := 28) rfl rfl ?_
          refine ev_get (a := 0) (b := 29) 0 2 rfl rfl (Nat.le_of_ble_eq_true rfl) lfX0_19 (gX0_next) ?_
          refine ev_iconst (a := 0) (b := 30) 1 rfl (by decide) ?_
          refine ev_iadd (a := 0) (b := 31) rfl ?_
          obtain ⟨g14, eg14, h⟩ := ic_letE h
          refine ev_put (a := 1) (b := 0) 0 2 rfl rfl (Nat.le_of_ble_eq_true rfl) lfX0_19 rfl (pX0_next eg14) ?_
          refine ev_iload_n (a := 1) (b := 1) rfl rfl ?_
          obtain ⟨rfl, rfl⟩ := ic_s2 h
          exact ev_ireturn (a := 1) (b := 2) rfl rfl rfl
        · have h := (if_neg c13).symm.trans h
          refine ev_aload_n (a := 0) (b := 22) rfl rfl ?_
          refine ev_iconst (a := 0) (b := 23) 1 rfl (by decide) ?_
          obtain ⟨g15, eg15, h⟩ := ic_letE h
          refine ev_put (a := 0) (b := 24) 0 3 rfl rfl (Nat.le_of_ble_eq_true rfl) lfX0_23 rfl (pX0_isFaulty rfl eg15) ?_
          refine ev_iload_n (a := 0) (b := 25) rfl rfl ?_
          obtain ⟨rfl, rfl⟩ := ic_s2 h
          exact ev_ireturn (a := 0) (b := 26) rfl rfl rfl
set_option maxRecDepth 20000 in
theorem eX4_alter {s : Nat} {t : Nat} {x1 : Int32} {x2 : Int32} {g g' : ic_S} (h : fX4_alter s t x1 x2 g = some g') : ic_Ev mX4_alter 0 (ic_ag 0 [ic_R 3 s t, ic_I x1, ic_I x2]) [] g (none) g' := by
  unfold fX4_alter at h
  obtain ⟨hs, h⟩ := ic_gdE h
  have hs : s < 3 := Nat.le_of_ble_eq_true hs
  obtain ⟨ht, h⟩ := ic_gdE h
  have ht : t < 8 := Nat.le_of_ble_eq_true ht
  change ic_Ev mX4_alter 0 [(0, ic_R 3 s t), (1, ic_I x1), (2, ic_I x2)] [] g _ _
  refine ev_iload_n (a := 0) (b := 0) rfl rfl ?_
  rcases Decidable.em (x1 = 0) with c1 | c1
  · have h := (if_pos c1).symm.trans h
    refine ev_tsw1 (a := 0) (b := 1) 0 (43) 44 rfl c1 (by decide) (by decide) rfl rfl ?_
    refine ev_aload_n (a := 0) (b := 2) rfl rfl ?_
    refine ev_iload_n (a := 0) (b := 3) rfl rfl ?_
    obtain ⟨g8, eg8, h⟩ := ic_letE h
    refine ev_put (a := 0) (b := 4) 4 1 rfl rfl (Nat.le_of_ble_eq_true rfl) lfX4_15 rfl (pX4_kind hs ht eg8) ?_
    refine ev_goto (a := 0) (b := 5) 118 rfl rfl ?_
    obtain rfl := ic_s1 h
    exact ev_return (a := 1) (b := 8) rfl rfl
  · have h := (if_neg c1).symm.trans h
    rcases Decidable.em (x1 = 1) with c2 | c2
    · have h := (if_pos c2).symm.trans h
      refine ev_tsw1 (a := 0) (b := 1) 1 (51) 52 rfl c2 (by decide) (by decide) rfl rfl ?_
      refine ev_aload_n (a := 0) (b := 6) rfl rfl ?_
      refine ev_iload_n (a := 0) (b := 7) rfl rfl ?_
      obtain ⟨g9, eg9, h⟩ := ic_letE h
      refine ev_put (a := 0) (b := 8) 4 2 rfl rfl (Nat.le_of_ble_eq_true rfl) lfX4_18 rfl (pX4_cell hs ht eg9) ?_
      refine ev_goto (a := 0) (b := 9) 118 rfl rfl ?_
      obtain rfl := ic_s1 h
      exact ev_return (a := 1) (b := 8) rfl rfl
    · have h := (if_neg c2).symm.trans h
      rcases Decidable.em (x1 = 2) with c3 | c3
      · have h := (if_pos c3).symm.trans h
        refine ev_tsw1 (a := 0) (b := 1) 2 (59) 60 rfl c3 (by decide) (by decide) rfl rfl ?_
        refine ev_aload_n (a := 0) (b := 10) rfl rfl ?_
        refine ev_iload_n (a := 0) (b := 11) rfl rfl ?_
        obtain ⟨g10, eg10, h⟩ := ic_letE h
        refine ev_put (a := 0) (b := 12) 4 3 rfl rfl (Nat.le_of_ble_eq_true rfl) lfX4_21 rfl (pX4_heavy hs ht eg10) ?_
        refine ev_goto (a := 0) (b := 13) 118 rfl rfl ?_
        obtain rfl := ic_s1 h
        exact ev_return (a := 1) (b := 8) rfl rfl
      · have h := (if_neg c3).symm.trans h
        rcases Decidable.em (x1 = 3) with c4 | c4
        · have h := (if_pos c4).symm.trans h
          refine ev_tsw1 (a := 0) (b := 1) 3 (67) 68 rfl c4 (by decide) (by decide) rfl rfl ?_
          refine ev_aload_n (a := 0) (b := 14) rfl rfl ?_
          refine ev_iload_n (a := 0) (b := 15) rfl rfl ?_
          obtain ⟨g11, eg11, h⟩ := ic_letE h
          refine ev_put (a := 0) (b := 16) 4 4 rfl rfl (Nat.le_of_ble_eq_true rfl) lfX4_24 rfl (pX4_pulled hs ht eg11) ?_
          refine ev_goto (a := 0) (b := 17) 118 rfl rfl ?_
          obtain rfl := ic_s1 h
          exact ev_return (a := 1) (b := 8) rfl rfl
        · have h := (if_neg c4).symm.trans h
          rcases Decidable.em (x1 = 4) with c5 | c5
          · have h := (if_pos c5).symm.trans h
            refine ev_tsw1 (a := 0) (b := 1) 4 (75) 76 rfl c5 (by decide) (by decide) rfl rfl ?_
            refine ev_aload_n (a := 0) (b := 18) rfl rfl ?_
            refine ev_iload_n (a := 0) (b := 19) rfl rfl ?_
            refine ev_iconst (a := 0) (b := 20) 1 rfl (by decide) ?_
            refine ev_icne (a := 0) (b := 21) 86 rfl rfl (fun c12 => ?_) (fun c12 => ?_)
            · have h := (if_neg c12).symm.trans h
              refine ev_iconst (a := 0) (b := 24) 0 rfl (by decide) ?_
              obtain ⟨g13, eg13, h⟩ := ic_letE h
              refine ev_put (a := 0) (b := 25) 4 6 rfl rfl (Nat.le_of_ble_eq_true rfl) lfX4_30 rfl (pX4_isHeld hs ht rfl eg13) ?_
              refine ev_goto (a := 0) (b := 26) 118 rfl rfl ?_
              obtain rfl := ic_s1 h
              exact ev_return (a := 1) (b := 8) rfl rfl
            · have h := (if_pos c12).symm.trans h
              refine ev_iconst (a := 0) (b := 22) 1 rfl (by decide) ?_
              refine ev_goto (a := 0) (b := 23) 87 rfl rfl ?_
              obtain ⟨g14, eg14, h⟩ := ic_letE h
              refine ev_put (a := 0) (b := 25) 4 6 rfl rfl (Nat.le_of_ble_eq_true rfl) lfX4_30 rfl (pX4_isHeld hs ht rfl eg14) ?_
              refine ev_goto (a := 0) (b := 26) 118 rfl rfl ?_
              obtain rfl := ic_s1 h
              exact ev_return (a := 1) (b := 8) rfl rfl
          · have h := (if_neg c5).symm.trans h
            rcases Decidable.em (x1 = 5) with c6 | c6
            · have h := (if_pos c6).symm.trans h
              refine ev_tsw1 (a := 0) (b := 1) 5 (92) 93 rfl c6 (by decide) (by decide) rfl rfl ?_
              refine ev_aload_n (a := 0) (b := 27) rfl rfl ?_
              refine ev_iload_n (a := 0) (b := 28) rfl rfl ?_
              refine ev_iconst (a := 0) (b := 29) 1 rfl (by decide) ?_
              refine ev_icne (a := 0) (b := 30) 103 rfl rfl (fun c15 => ?_) (fun c15 => ?_)
              · have h := (if_neg c15).symm.trans h
                refine ev_iconst (a := 1) (b := 1) 0 rfl (by decide) ?_
                obtain ⟨g16, eg16, h⟩ := ic_letE h
                refine ev_put (a := 1) (b := 2) 4 7 rfl rfl (Nat.le_of_ble_eq_true rfl) lfX4_34 rfl (pX4_isTaken hs ht rfl eg16) ?_
                refine ev_goto (a := 1) (b := 3) 118 rfl rfl ?_
                obtain rfl := ic_s1 h
                exact ev_return (a := 1) (b := 8) rfl rfl
              · have h := (if_pos c15).symm.trans h
                refine ev_iconst (a := 0) (b := 31) 1 rfl (by decide) ?_
                refine ev_goto (a := 1) (b := 0) 104 rfl rfl ?_
                obtain ⟨g17, eg17, h⟩ := ic_letE h
                refine ev_put (a := 1) (b := 2) 4 7 rfl rfl (Nat.le_of_ble_eq_true rfl) lfX4_34 rfl (pX4_isTaken hs ht rfl eg17) ?_
                refine ev_goto (a := 1) (b := 3) 118 rfl rfl ?_
                obtain rfl := ic_s1 h
                exact ev_return (a := 1) (b := 8) rfl rfl
            · have h := (if_neg c6).symm.trans h
              rcases Decidable.em (x1 = 6) with c7 | c7
              · have h := (if_pos c7).symm.trans h
                refine ev_tsw1 (a := 0) (b := 1) 6 (109) 110 rfl c7 (by decide) (by decide) rfl rfl ?_
                refine ev_aload_n (a := 1) (b := 4) rfl rfl ?_
                refine ev_iload_n (a := 1) (b := 5) rfl rfl ?_
                obtain ⟨g18, eg18, h⟩ := ic_letE h
                refine ev_put (a := 1) (b := 6) 4 5 rfl rfl (Nat.le_of_ble_eq_true rfl) lfX4_27 rfl (pX4_moved hs ht eg18) ?_
                refine ev_goto (a := 1) (b := 7) 118 rfl rfl ?_
                obtain rfl := ic_s1 h
                exact ev_return (a := 1) (b := 8) rfl rfl
              · have h := (if_neg c7).symm.trans h
                refine ev_tsw0 (a := 0) (b := 1) [0, 1, 2, 3, 4, 5, 6] 118 rfl (List.forall_mem_cons.mpr ⟨c1, List.forall_mem_cons.mpr ⟨c2, List.forall_mem_cons.mpr ⟨c3, List.forall_mem_cons.mpr ⟨c4, List.forall_mem_cons.mpr ⟨c5, List.forall_mem_cons.mpr ⟨c6, List.forall_mem_cons.mpr ⟨c7, fun _ hh => absurd hh List.not_mem_nil⟩⟩⟩⟩⟩⟩⟩) (by decide) (by decide) rfl ?_
                obtain rfl := ic_s1 h
                exact ev_return (a := 1) (b := 8) rfl rfl
set_option maxRecDepth 20000 in
theorem eX2_alter {s : Nat} {x1 : Int32} {x2 : Int32} {x3 : Int32} {g g' : ic_S} (h : fX2_alter s x1 x2 x3 g = some g') : ic_Ev mX2_alter 0 (ic_ag 0 [ic_R 1 s 0, ic_I x1, ic_I x2, ic_I x3]) [] g (none) g' := by
  unfold fX2_alter at h
  obtain ⟨hs, h⟩ := ic_gdE h
  have hs : s < 3 := Nat.le_of_ble_eq_true hs
  change ic_Ev mX2_alter 0 [(0, ic_R 1 s 0), (1, ic_I x1), (2, ic_I x2), (3, ic_I x3)] [] g _ _
  refine ev_aload_n (a := 0) (b := 0) rfl rfl ?_
  refine ev_iload_n (a := 0) (b := 1) rfl rfl ?_
  obtain ⟨v3, g1, e2, h⟩ := ic_b2E h
  refine ev_ivO (a := 0) (b := 2) [ic_I x1] rfl okX2_thingAt rfl lmX2_46 rfl (rc1 hs) (Nat.le_of_ble_eq_true rfl) (eX2_thingAt e2) (Nat.le_of_ble_eq_true rfl) rfl ?_
  refine ev_astore (a := 0) (b := 3) [(2, ic_I x2), (3, ic_I x3), (4, ic_O 3 v3)] rfl (by decide) (And.intro (Or.inr (And.intro rfl rfl)) (And.intro (Or.inr (And.intro rfl rfl)) (And.intro (Or.inl rfl) trivial))) ?_
  refine ev_aload (a := 0) (b := 4) rfl rfl ?_
  rcases v3 with _ | ⟨s4, t5⟩
  · replace h := ic_moN h
    refine ev_ifnull1 (a := 0) (b := 5) 19 rfl rfl ?_
    obtain rfl := ic_s1 h
    exact ev_return (a := 0) (b := 10) rfl rfl
  · replace h := ic_moS h
    have k6 := (ic_gdE h).1
    replace h := (ic_gdE h).2
    refine ev_ifnull0 (a := 0) (b := 5) (show (3 : Nat) ≠ 26 by decide) rfl ?_
    refine ev_aload (a := 0) (b := 6) rfl rfl ?_
    refine ev_iload_n (a := 0) (b := 7) rfl rfl ?_
    refine ev_iload_n (a := 0) (b := 8) rfl rfl ?_
    obtain ⟨g7, e8, h⟩ := ic_b1E h
    refine ev_ivV (a := 0) (b := 9) [ic_I x2, ic_I x3] rfl okX4_alter rfl lmX2_78 rfl (rc3 (ic_vks (C := 3) k6) (ic_vkt (C := 3) k6)) (Nat.le_of_ble_eq_true rfl) (eX4_alter e8) (Nat.le_of_ble_eq_true rfl) rfl ?_
    obtain rfl := ic_s1 h
    exact ev_return (a := 0) (b := 10) rfl rfl
set_option maxRecDepth 20000 in
theorem eX0_readTrait {x1 : Int32} {x2 : Int32} {x3 : Int32} {g g' : ic_S} (h : fX0_readTrait x1 x2 x3 g = some g') : ic_Ev mX0_readTrait 0 (ic_ag 0 [ic_R 11 0 0, ic_I x1, ic_I x2, ic_I x3]) [] g (none) g' := by
  unfold fX0_readTrait at h
  change ic_Ev mX0_readTrait 0 [(0, ic_R 11 0 0), (1, ic_I x1), (2, ic_I x2), (3, ic_I x3)] [] g _ _
  refine ev_aload_n (a := 0) (b := 0) rfl rfl ?_
  refine ev_iload_n (a := 0) (b := 1) rfl rfl ?_
  obtain ⟨v3, g1, e2, h⟩ := ic_b2E h
  refine ev_ivI (a := 0) (b := 2) [ic_I x1] rfl okX0_passWord rfl lmX0_50 rfl (rc11) (Nat.le_of_ble_eq_true rfl) (eX0_passWord e2) (Nat.le_of_ble_eq_true rfl) rfl ?_
  refine ev_ifeq (a := 0) (b := 3) 29 rfl rfl (fun c4 => ?_) (fun c4 => ?_)
  · have h := (if_pos c4).symm.trans h
    obtain rfl := ic_s1 h
    exact ev_return (a := 0) (b := 15) rfl rfl
  · have h := (if_neg c4).symm.trans h
    refine ev_aload_n (a := 0) (b := 4) rfl rfl ?_
    refine ev_get (a := 0) (b := 5) 0 1 rfl rfl (Nat.le_of_ble_eq_true rfl) lfX0_15 (gX0_street) ?_
    refine ev_iload_n (a := 0) (b := 6) rfl rfl ?_
    refine ev_iload_n (a := 0) (b := 7) rfl rfl ?_
    refine ev_aload_n (a := 0) (b := 8) rfl rfl ?_
    refine ev_iload_n (a := 0) (b := 9) rfl rfl ?_
    obtain ⟨v7, g5, e6, h⟩ := ic_b2E h
    refine ev_isnI (a := 0) (b := 10) [ic_I x3] rfl okX6_leastOf rfl lmX0_76 rfl (Nat.le_of_ble_eq_true rfl) (eX6_leastOf e6) (Nat.le_of_ble_eq_true rfl) rfl ?_
    refine ev_iload_n (a := 0) (b := 11) rfl rfl ?_
    obtain ⟨v10, g8, e9, h⟩ := ic_b2E h
    refine ev_isnI (a := 0) (b := 12) [ic_I x3] rfl okX6_mostOf rfl lmX0_79 rfl (Nat.le_of_ble_eq_true rfl) (eX6_mostOf e9) (Nat.le_of_ble_eq_true rfl) rfl ?_
    obtain ⟨v13, g11, e12, h⟩ := ic_b2E h
    refine ev_ivI (a := 0) (b := 13) [ic_I v7, ic_I v10] rfl okX0_passNumber rfl lmX0_56 rfl (rc11) (Nat.le_of_ble_eq_true rfl) (eX0_passNumber e12) (Nat.le_of_ble_eq_true rfl) rfl ?_
    obtain ⟨g14, e15, h⟩ := ic_b1E h
    refine ev_ivV (a := 0) (b := 14) [ic_I x2, ic_I x3, ic_I v13] rfl okX2_alter rfl lmX0_73 rfl (rc1 (by decide)) (Nat.le_of_ble_eq_true rfl) (eX2_alter e15) (Nat.le_of_ble_eq_true rfl) rfl ?_
    obtain rfl := ic_s1 h
    exact ev_return (a := 0) (b := 15) rfl rfl
set_option maxRecDepth 20000 in
theorem eX0_readThing {x1 : Int32} {g g' : ic_S} (h : fX0_readThing x1 g = some g') : ic_Ev mX0_readThing 0 (ic_ag 0 [ic_R 11 0 0, ic_I x1]) [] g (none) g' := by
  unfold fX0_readThing at h
  change ic_Ev mX0_readThing 0 [(0, ic_R 11 0 0), (1, ic_I x1)] [] g _ _
  refine ev_aload_n (a := 0) (b := 0) rfl rfl ?_
  refine ev_get (a := 0) (b := 1) 0 1 rfl rfl (Nat.le_of_ble_eq_true rfl) lfX0_15 (gX0_street) ?_
  refine ev_iload_n (a := 0) (b := 2) rfl rfl ?_
  refine ev_iconst (a := 0) (b := 3) 0 rfl (by decide) ?_
  obtain ⟨v3, g1, e2, h⟩ := ic_b2E h
  refine ev_ivI (a := 0) (b := 4) [ic_I x1, ic_I 0] rfl okX2_addThing rfl lmX0_66 rfl (rc1 (by decide)) (Nat.le_of_ble_eq_true rfl) (eX2_addThing e2) (Nat.le_of_ble_eq_true rfl) rfl ?_
  refine ev_istore_n (a := 0) (b := 5) [(0, ic_R 11 0 0), (2, ic_I v3)] rfl (by decide) (And.intro (Or.inr (And.intro rfl rfl)) (And.intro (Or.inl rfl) trivial)) ?_
  refine ev_iload_n (a := 0) (b := 6) rfl rfl ?_
  refine ev_ifge (a := 0) (b := 7) 20 rfl rfl (fun c4 => ?_) (fun c4 => ?_)
  · have h := (if_pos c4).symm.trans h
    refine ev_aload_n (a := 0) (b := 12) rfl rfl ?_
    refine ev_dup (a := 0) (b := 13) rfl rfl ?_
    refine ev_get (a := 0) (b := 14) 0 2 rfl rfl (Nat.le_of_ble_eq_true rfl) lfX0_19 (gX0_next) ?_
    refine ev_iconst (a := 0) (b := 15) 1 rfl (by decide) ?_
    refine ev_iadd (a := 0) (b := 16) rfl ?_
    obtain ⟨g5, eg5, h⟩ := ic_letE h
    refine ev_put (a := 0) (b := 17) 0 2 rfl rfl (Nat.le_of_ble_eq_true rfl) lfX0_19 rfl (pX0_next eg5) ?_
    refine ev_aload_n (a := 0) (b := 18) rfl rfl ?_
    refine ev_bipush (a := 0) (b := 19) 7 rfl (by decide) ?_
    refine ev_iload_n (a := 0) (b := 20) rfl rfl ?_
    refine ev_iconst (a := 0) (b := 21) 1 rfl (by decide) ?_
    obtain ⟨g6, e7, h⟩ := ic_b1E h
    refine ev_ivV (a := 0) (b := 22) [ic_I 7, ic_I v3, ic_I 1] rfl okX0_readTrait rfl lmX0_69 rfl (rc11) (Nat.le_of_ble_eq_true rfl) (eX0_readTrait e7) (Nat.le_of_ble_eq_true rfl) rfl ?_
    refine ev_aload_n (a := 0) (b := 23) rfl rfl ?_
    refine ev_bipush (a := 0) (b := 24) 8 rfl (by decide) ?_
    refine ev_iload_n (a := 0) (b := 25) rfl rfl ?_
    refine ev_iconst (a := 0) (b := 26) 2 rfl (by decide) ?_
    obtain ⟨g8, e9, h⟩ := ic_b1E h
    refine ev_ivV (a := 0) (b := 27) [ic_I 8, ic_I v3, ic_I 2] rfl okX0_readTrait rfl lmX0_69 rfl (rc11) (Nat.le_of_ble_eq_true rfl) (eX0_readTrait e9) (Nat.le_of_ble_eq_true rfl) rfl ?_
    refine ev_aload_n (a := 0) (b := 28) rfl rfl ?_
    refine ev_bipush (a := 0) (b := 29) 9 rfl (by decide) ?_
    refine ev_iload_n (a := 0) (b := 30) rfl rfl ?_
    refine ev_iconst (a := 0) (b := 31) 3 rfl (by decide) ?_
    obtain ⟨g10, e11, h⟩ := ic_b1E h
    refine ev_ivV (a := 1) (b := 0) [ic_I 9, ic_I v3, ic_I 3] rfl okX0_readTrait rfl lmX0_69 rfl (rc11) (Nat.le_of_ble_eq_true rfl) (eX0_readTrait e11) (Nat.le_of_ble_eq_true rfl) rfl ?_
    refine ev_aload_n (a := 1) (b := 1) rfl rfl ?_
    refine ev_bipush (a := 1) (b := 2) 10 rfl (by decide) ?_
    obtain ⟨v14, g12, e13, h⟩ := ic_b2E h
    refine ev_ivI (a := 1) (b := 3) [ic_I 10] rfl okX0_passWord rfl lmX0_50 rfl (rc11) (Nat.le_of_ble_eq_true rfl) (eX0_passWord e13) (Nat.le_of_ble_eq_true rfl) rfl ?_
    refine ev_ifeq (a := 1) (b := 4) 73 rfl rfl (fun c15 => ?_) (fun c15 => ?_)
    · have h := (if_pos c15).symm.trans h
      obtain rfl := ic_s1 h
      exact ev_return (a := 1) (b := 11) rfl rfl
    · have h := (if_neg c15).symm.trans h
      refine ev_aload_n (a := 1) (b := 5) rfl rfl ?_
      refine ev_get (a := 1) (b := 6) 0 1 rfl rfl (Nat.le_of_ble_eq_true rfl) lfX0_15 (gX0_street) ?_
      refine ev_iload_n (a := 1) (b := 7) rfl rfl ?_
      refine ev_iconst (a := 1) (b := 8) 4 rfl (by decide) ?_
      refine ev_iconst (a := 1) (b := 9) 1 rfl (by decide) ?_
      obtain ⟨g16, e17, h⟩ := ic_b1E h
      refine ev_ivV (a := 1) (b := 10) [ic_I v3, ic_I 4, ic_I 1] rfl okX2_alter rfl lmX0_73 rfl (rc1 (by decide)) (Nat.le_of_ble_eq_true rfl) (eX2_alter e17) (Nat.le_of_ble_eq_true rfl) rfl ?_
      obtain rfl := ic_s1 h
      exact ev_return (a := 1) (b := 11) rfl rfl
  · have h := (if_neg c4).symm.trans h
    refine ev_aload_n (a := 0) (b := 8) rfl rfl ?_
    refine ev_iconst (a := 0) (b := 9) 1 rfl (by decide) ?_
    obtain ⟨g18, eg18, h⟩ := ic_letE h
    refine ev_put (a := 0) (b := 10) 0 3 rfl rfl (Nat.le_of_ble_eq_true rfl) lfX0_23 rfl (pX0_isFaulty rfl eg18) ?_
    obtain rfl := ic_s1 h
    exact ev_return (a := 0) (b := 11) rfl rfl
set_option maxRecDepth 20000 in
theorem eX2_alterCart {s : Nat} {x1 : Int32} {x2 : Int32} {g g' : ic_S} (h : fX2_alterCart s x1 x2 g = some g') : ic_Ev mX2_alterCart 0 (ic_ag 0 [ic_R 1 s 0, ic_I x1, ic_I x2]) [] g (none) g' := by
  unfold fX2_alterCart at h
  obtain ⟨hs, h⟩ := ic_gdE h
  have hs : s < 3 := Nat.le_of_ble_eq_true hs
  change ic_Ev mX2_alterCart 0 [(0, ic_R 1 s 0), (1, ic_I x1), (2, ic_I x2)] [] g _ _
  refine ev_iload_n (a := 0) (b := 0) rfl rfl ?_
  rcases Decidable.em (x1 = 0) with c1 | c1
  · have h := (if_pos c1).symm.trans h
    refine ev_tsw1 (a := 0) (b := 1) 0 (31) 32 rfl c1 (by decide) (by decide) rfl rfl ?_
    refine ev_aload_n (a := 0) (b := 2) rfl rfl ?_
    refine ev_iload_n (a := 0) (b := 3) rfl rfl ?_
    obtain ⟨g5, eg5, h⟩ := ic_letE h
    refine ev_put (a := 0) (b := 4) 2 0 rfl rfl (Nat.le_of_ble_eq_true rfl) lfX2_9 rfl (pX2_cell hs eg5) ?_
    refine ev_goto (a := 0) (b := 5) 64 rfl rfl ?_
    obtain rfl := ic_s1 h
    exact ev_return (a := 0) (b := 18) rfl rfl
  · have h := (if_neg c1).symm.trans h
    rcases Decidable.em (x1 = 1) with c2 | c2
    · have h := (if_pos c2).symm.trans h
      refine ev_tsw1 (a := 0) (b := 1) 1 (39) 40 rfl c2 (by decide) (by decide) rfl rfl ?_
      refine ev_aload_n (a := 0) (b := 6) rfl rfl ?_
      refine ev_iload_n (a := 0) (b := 7) rfl rfl ?_
      obtain ⟨g6, eg6, h⟩ := ic_letE h
      refine ev_put (a := 0) (b := 8) 2 1 rfl rfl (Nat.le_of_ble_eq_true rfl) lfX2_15 rfl (pX2_way hs eg6) ?_
      refine ev_goto (a := 0) (b := 9) 64 rfl rfl ?_
      obtain rfl := ic_s1 h
      exact ev_return (a := 0) (b := 18) rfl rfl
    · have h := (if_neg c2).symm.trans h
      rcases Decidable.em (x1 = 2) with c3 | c3
      · have h := (if_pos c3).symm.trans h
        refine ev_tsw1 (a := 0) (b := 1) 2 (47) 48 rfl c3 (by decide) (by decide) rfl rfl ?_
        refine ev_aload_n (a := 0) (b := 10) rfl rfl ?_
        refine ev_iload_n (a := 0) (b := 11) rfl rfl ?_
        obtain ⟨g7, eg7, h⟩ := ic_letE h
        refine ev_put (a := 0) (b := 12) 2 2 rfl rfl (Nat.le_of_ble_eq_true rfl) lfX2_18 rfl (pX2_pace hs eg7) ?_
        refine ev_goto (a := 0) (b := 13) 64 rfl rfl ?_
        obtain rfl := ic_s1 h
        exact ev_return (a := 0) (b := 18) rfl rfl
      · have h := (if_neg c3).symm.trans h
        rcases Decidable.em (x1 = 3) with c4 | c4
        · have h := (if_pos c4).symm.trans h
          refine ev_tsw1 (a := 0) (b := 1) 3 (55) 56 rfl c4 (by decide) (by decide) rfl rfl ?_
          refine ev_aload_n (a := 0) (b := 14) rfl rfl ?_
          refine ev_iload_n (a := 0) (b := 15) rfl rfl ?_
          obtain ⟨g8, eg8, h⟩ := ic_letE h
          refine ev_put (a := 0) (b := 16) 2 3 rfl rfl (Nat.le_of_ble_eq_true rfl) lfX2_21 rfl (pX2_loud hs eg8) ?_
          refine ev_goto (a := 0) (b := 17) 64 rfl rfl ?_
          obtain rfl := ic_s1 h
          exact ev_return (a := 0) (b := 18) rfl rfl
        · have h := (if_neg c4).symm.trans h
          refine ev_tsw0 (a := 0) (b := 1) [0, 1, 2, 3] 64 rfl (List.forall_mem_cons.mpr ⟨c1, List.forall_mem_cons.mpr ⟨c2, List.forall_mem_cons.mpr ⟨c3, List.forall_mem_cons.mpr ⟨c4, fun _ hh => absurd hh List.not_mem_nil⟩⟩⟩⟩) (by decide) (by decide) rfl ?_
          obtain rfl := ic_s1 h
          exact ev_return (a := 0) (b := 18) rfl rfl
set_option maxRecDepth 20000 in
theorem eX0_readCart {g g' : ic_S} (h : fX0_readCart  g = some g') : ic_Ev mX0_readCart 0 (ic_ag 0 [ic_R 11 0 0]) [] g (none) g' := by
  unfold fX0_readCart at h
  change ic_Ev mX0_readCart 0 [(0, ic_R 11 0 0)] [] g _ _
  refine ev_aload_n (a := 0) (b := 0) rfl rfl ?_
  refine ev_get (a := 0) (b := 1) 0 1 rfl rfl (Nat.le_of_ble_eq_true rfl) lfX0_15 (gX0_street) ?_
  refine ev_iconst (a := 0) (b := 2) 0 rfl (by decide) ?_
  refine ev_aload_n (a := 0) (b := 3) rfl rfl ?_
  refine ev_iconst (a := 0) (b := 4) 0 rfl (by decide) ?_
  refine ev_bipush (a := 0) (b := 5) 15 rfl (by decide) ?_
  obtain ⟨v3, g1, e2, h⟩ := ic_b2E h
  refine ev_ivI (a := 0) (b := 6) [ic_I 0, ic_I 15] rfl okX0_passNumber rfl lmX0_56 rfl (rc11) (Nat.le_of_ble_eq_true rfl) (eX0_passNumber e2) (Nat.le_of_ble_eq_true rfl) rfl ?_
  obtain ⟨g4, e5, h⟩ := ic_b1E h
  refine ev_ivV (a := 0) (b := 7) [ic_I 0, ic_I v3] rfl okX2_alterCart rfl lmX0_60 rfl (rc1 (by decide)) (Nat.le_of_ble_eq_true rfl) (eX2_alterCart e5) (Nat.le_of_ble_eq_true rfl) rfl ?_
  refine ev_aload_n (a := 0) (b := 8) rfl rfl ?_
  refine ev_get (a := 0) (b := 9) 0 1 rfl rfl (Nat.le_of_ble_eq_true rfl) lfX0_15 (gX0_street) ?_
  refine ev_iconst (a := 0) (b := 10) 1 rfl (by decide) ?_
  refine ev_aload_n (a := 0) (b := 11) rfl rfl ?_
  refine ev_bipush (a := 0) (b := 12) 12 rfl (by decide) ?_
  obtain ⟨v8, g6, e7, h⟩ := ic_b2E h
  refine ev_ivI (a := 0) (b := 13) [ic_I 12] rfl okX0_passWord rfl lmX0_50 rfl (rc11) (Nat.le_of_ble_eq_true rfl) (eX0_passWord e7) (Nat.le_of_ble_eq_true rfl) rfl ?_
  refine ev_ifeq (a := 0) (b := 14) 33 rfl rfl (fun c9 => ?_) (fun c9 => ?_)
  · have h := (if_pos c9).symm.trans h
    refine ev_iconst (a := 0) (b := 17) 1 rfl (by decide) ?_
    obtain ⟨g10, e11, h⟩ := ic_b1E h
    refine ev_ivV (a := 0) (b := 18) [ic_I 1, ic_I 1] rfl okX2_alterCart rfl lmX0_60 rfl (rc1 (by decide)) (Nat.le_of_ble_eq_true rfl) (eX2_alterCart e11) (Nat.le_of_ble_eq_true rfl) rfl ?_
    refine ev_aload_n (a := 0) (b := 19) rfl rfl ?_
    refine ev_bipush (a := 0) (b := 20) 13 rfl (by decide) ?_
    obtain ⟨v14, g12, e13, h⟩ := ic_b2E h
    refine ev_ivI (a := 0) (b := 21) [ic_I 13] rfl okX0_passWord rfl lmX0_50 rfl (rc11) (Nat.le_of_ble_eq_true rfl) (eX0_passWord e13) (Nat.le_of_ble_eq_true rfl) rfl ?_
    refine ev_ifeq (a := 0) (b := 22) 60 rfl rfl (fun c15 => ?_) (fun c15 => ?_)
    · have h := (if_pos c15).symm.trans h
      obtain rfl := ic_s1 h
      exact ev_return (a := 0) (b := 31) rfl rfl
    · have h := (if_neg c15).symm.trans h
      refine ev_aload_n (a := 0) (b := 23) rfl rfl ?_
      refine ev_get (a := 0) (b := 24) 0 1 rfl rfl (Nat.le_of_ble_eq_true rfl) lfX0_15 (gX0_street) ?_
      refine ev_iconst (a := 0) (b := 25) 2 rfl (by decide) ?_
      refine ev_aload_n (a := 0) (b := 26) rfl rfl ?_
      refine ev_iconst (a := 0) (b := 27) 0 rfl (by decide) ?_
      refine ev_iconst (a := 0) (b := 28) 3 rfl (by decide) ?_
      obtain ⟨v18, g16, e17, h⟩ := ic_b2E h
      refine ev_ivI (a := 0) (b := 29) [ic_I 0, ic_I 3] rfl okX0_passNumber rfl lmX0_56 rfl (rc11) (Nat.le_of_ble_eq_true rfl) (eX0_passNumber e17) (Nat.le_of_ble_eq_true rfl) rfl ?_
      obtain ⟨g19, e20, h⟩ := ic_b1E h
      refine ev_ivV (a := 0) (b := 30) [ic_I 2, ic_I v18] rfl okX2_alterCart rfl lmX0_60 rfl (rc1 (by decide)) (Nat.le_of_ble_eq_true rfl) (eX2_alterCart e20) (Nat.le_of_ble_eq_true rfl) rfl ?_
      obtain rfl := ic_s1 h
      exact ev_return (a := 0) (b := 31) rfl rfl
  · have h := (if_neg c9).symm.trans h
    refine ev_iconst (a := 0) (b := 15) 0 rfl (by decide) ?_
    refine ev_goto (a := 0) (b := 16) 34 rfl rfl ?_
    obtain ⟨g21, e22, h⟩ := ic_b1E h
    refine ev_ivV (a := 0) (b := 18) [ic_I 1, ic_I 0] rfl okX2_alterCart rfl lmX0_60 rfl (rc1 (by decide)) (Nat.le_of_ble_eq_true rfl) (eX2_alterCart e22) (Nat.le_of_ble_eq_true rfl) rfl ?_
    refine ev_aload_n (a := 0) (b := 19) rfl rfl ?_
    refine ev_bipush (a := 0) (b := 20) 13 rfl (by decide) ?_
    obtain ⟨v25, g23, e24, h⟩ := ic_b2E h
    refine ev_ivI (a := 0) (b := 21) [ic_I 13] rfl okX0_passWord rfl lmX0_50 rfl (rc11) (Nat.le_of_ble_eq_true rfl) (eX0_passWord e24) (Nat.le_of_ble_eq_true rfl) rfl ?_
    refine ev_ifeq (a := 0) (b := 22) 60 rfl rfl (fun c26 => ?_) (fun c26 => ?_)
    · have h := (if_pos c26).symm.trans h
      obtain rfl := ic_s1 h
      exact ev_return (a := 0) (b := 31) rfl rfl
    · have h := (if_neg c26).symm.trans h
      refine ev_aload_n (a := 0) (b := 23) rfl rfl ?_
      refine ev_get (a := 0) (b := 24) 0 1 rfl rfl (Nat.le_of_ble_eq_true rfl) lfX0_15 (gX0_street) ?_
      refine ev_iconst (a := 0) (b := 25) 2 rfl (by decide) ?_
      refine ev_aload_n (a := 0) (b := 26) rfl rfl ?_
      refine ev_iconst (a := 0) (b := 27) 0 rfl (by decide) ?_
      refine ev_iconst (a := 0) (b := 28) 3 rfl (by decide) ?_
      obtain ⟨v29, g27, e28, h⟩ := ic_b2E h
      refine ev_ivI (a := 0) (b := 29) [ic_I 0, ic_I 3] rfl okX0_passNumber rfl lmX0_56 rfl (rc11) (Nat.le_of_ble_eq_true rfl) (eX0_passNumber e28) (Nat.le_of_ble_eq_true rfl) rfl ?_
      obtain ⟨g30, e31, h⟩ := ic_b1E h
      refine ev_ivV (a := 0) (b := 30) [ic_I 2, ic_I v29] rfl okX2_alterCart rfl lmX0_60 rfl (rc1 (by decide)) (Nat.le_of_ble_eq_true rfl) (eX2_alterCart e31) (Nat.le_of_ble_eq_true rfl) rfl ?_
      obtain rfl := ic_s1 h
      exact ev_return (a := 0) (b := 31) rfl rfl
set_option maxRecDepth 20000 in
theorem eX0_readItem {g g' : ic_S} (h : fX0_readItem  g = some g') : ic_Ev mX0_readItem 0 (ic_ag 0 [ic_R 11 0 0]) [] g (none) g' := by
  unfold fX0_readItem at h
  change ic_Ev mX0_readItem 0 [(0, ic_R 11 0 0)] [] g _ _
  refine ev_aload_n (a := 0) (b := 0) rfl rfl ?_
  refine ev_get (a := 0) (b := 1) 0 0 rfl rfl (Nat.le_of_ble_eq_true rfl) lfX0_9 (gX0_tokens) ?_
  refine ev_aload_n (a := 0) (b := 2) rfl rfl ?_
  refine ev_get (a := 0) (b := 3) 0 2 rfl rfl (Nat.le_of_ble_eq_true rfl) lfX0_19 (gX0_next) ?_
  obtain ⟨v3, g1, e2, h⟩ := ic_b2E h
  refine ev_ivI (a := 0) (b := 4) [ic_I (g.1 14 0)] rfl okX5_valueAt rfl lmX0_39 rfl (rc7) (Nat.le_of_ble_eq_true rfl) (eX5_valueAt e2) (Nat.le_of_ble_eq_true rfl) rfl ?_
  refine ev_istore_n (a := 0) (b := 5) [(0, ic_R 11 0 0), (1, ic_I v3)] rfl (by decide) (And.intro (Or.inr (And.intro rfl rfl)) (And.intro (Or.inl rfl) trivial)) ?_
  refine ev_aload_n (a := 0) (b := 6) rfl rfl ?_
  refine ev_get (a := 0) (b := 7) 0 0 rfl rfl (Nat.le_of_ble_eq_true rfl) lfX0_9 (gX0_tokens) ?_
  refine ev_aload_n (a := 0) (b := 8) rfl rfl ?_
  refine ev_get (a := 0) (b := 9) 0 2 rfl rfl (Nat.le_of_ble_eq_true rfl) lfX0_19 (gX0_next) ?_
  obtain ⟨v6, g4, e5, h⟩ := ic_b2E h
  refine ev_ivI (a := 0) (b := 10) [ic_I (g1.1 14 0)] rfl okX5_sortAt rfl lmX0_30 rfl (rc7) (Nat.le_of_ble_eq_true rfl) (eX5_sortAt e5) (Nat.le_of_ble_eq_true rfl) rfl ?_
  refine ev_iconst (a := 0) (b := 11) 1 rfl (by decide) ?_
  refine ev_icne (a := 0) (b := 12) 42 rfl rfl (fun c7 => ?_) (fun c7 => ?_)
  · have h := (if_neg c7).symm.trans h
    refine ev_aload_n (a := 0) (b := 20) rfl rfl ?_
    refine ev_bipush (a := 0) (b := 21) 11 rfl (by decide) ?_
    obtain ⟨v10, g8, e9, h⟩ := ic_b2E h
    refine ev_ivI (a := 0) (b := 22) [ic_I 11] rfl okX0_passWord rfl lmX0_50 rfl (rc11) (Nat.le_of_ble_eq_true rfl) (eX0_passWord e9) (Nat.le_of_ble_eq_true rfl) rfl ?_
    refine ev_ifeq (a := 0) (b := 23) 58 rfl rfl (fun c11 => ?_) (fun c11 => ?_)
    · have h := (if_pos c11).symm.trans h
      refine ev_aload_n (a := 0) (b := 27) rfl rfl ?_
      refine ev_bipush (a := 0) (b := 28) 14 rfl (by decide) ?_
      obtain ⟨v14, g12, e13, h⟩ := ic_b2E h
      refine ev_ivI (a := 0) (b := 29) [ic_I 14] rfl okX0_passWord rfl lmX0_50 rfl (rc11) (Nat.le_of_ble_eq_true rfl) (eX0_passWord e13) (Nat.le_of_ble_eq_true rfl) rfl ?_
      refine ev_ifeq (a := 0) (b := 30) 85 rfl rfl (fun c15 => ?_) (fun c15 => ?_)
      · have h := (if_pos c15).symm.trans h
        refine ev_aload_n (a := 1) (b := 8) rfl rfl ?_
        refine ev_iconst (a := 1) (b := 9) 1 rfl (by decide) ?_
        obtain ⟨g16, eg16, h⟩ := ic_letE h
        refine ev_put (a := 1) (b := 10) 0 3 rfl rfl (Nat.le_of_ble_eq_true rfl) lfX0_23 rfl (pX0_isFaulty rfl eg16) ?_
        obtain rfl := ic_s1 h
        exact ev_return (a := 1) (b := 11) rfl rfl
      · have h := (if_neg c15).symm.trans h
        refine ev_aload_n (a := 0) (b := 31) rfl rfl ?_
        refine ev_get (a := 1) (b := 0) 0 1 rfl rfl (Nat.le_of_ble_eq_true rfl) lfX0_15 (gX0_street) ?_
        refine ev_iconst (a := 1) (b := 1) 3 rfl (by decide) ?_
        refine ev_aload_n (a := 1) (b := 2) rfl rfl ?_
        refine ev_iconst (a := 1) (b := 3) 0 rfl (by decide) ?_
        refine ev_bipush (a := 1) (b := 4) 20 rfl (by decide) ?_
        obtain ⟨v19, g17, e18, h⟩ := ic_b2E h
        refine ev_ivI (a := 1) (b := 5) [ic_I 0, ic_I 20] rfl okX0_passNumber rfl lmX0_56 rfl (rc11) (Nat.le_of_ble_eq_true rfl) (eX0_passNumber e18) (Nat.le_of_ble_eq_true rfl) rfl ?_
        obtain ⟨g20, e21, h⟩ := ic_b1E h
        refine ev_ivV (a := 1) (b := 6) [ic_I 3, ic_I v19] rfl okX2_alterCart rfl lmX0_60 rfl (rc1 (by decide)) (Nat.le_of_ble_eq_true rfl) (eX2_alterCart e21) (Nat.le_of_ble_eq_true rfl) rfl ?_
        refine ev_goto (a := 1) (b := 7) 90 rfl rfl ?_
        obtain rfl := ic_s1 h
        exact ev_return (a := 1) (b := 11) rfl rfl
    · have h := (if_neg c11).symm.trans h
      refine ev_aload_n (a := 0) (b := 24) rfl rfl ?_
      obtain ⟨g22, e23, h⟩ := ic_b1E h
      refine ev_ivV (a := 0) (b := 25) [] rfl okX0_readCart rfl lmX0_53 rfl (rc11) (Nat.le_of_ble_eq_true rfl) (eX0_readCart e23) (Nat.le_of_ble_eq_true rfl) rfl ?_
      refine ev_goto (a := 0) (b := 26) 90 rfl rfl ?_
      obtain rfl := ic_s1 h
      exact ev_return (a := 1) (b := 11) rfl rfl
  · have h := (if_pos c7).symm.trans h
    refine ev_iload_n (a := 0) (b := 13) rfl rfl ?_
    obtain ⟨v26, g24, e25, h⟩ := ic_b2E h
    refine ev_isnI (a := 0) (b := 14) [ic_I v3] rfl okX6_isKind rfl lmX0_42 rfl (Nat.le_of_ble_eq_true rfl) (eX6_isKind e25) (Nat.le_of_ble_eq_true rfl) rfl ?_
    refine ev_ifeq (a := 0) (b := 15) 42 rfl rfl (fun c27 => ?_) (fun c27 => ?_)
    · have h := (if_pos c27).symm.trans h
      refine ev_aload_n (a := 0) (b := 20) rfl rfl ?_
      refine ev_bipush (a := 0) (b := 21) 11 rfl (by decide) ?_
      obtain ⟨v30, g28, e29, h⟩ := ic_b2E h
      refine ev_ivI (a := 0) (b := 22) [ic_I 11] rfl okX0_passWord rfl lmX0_50 rfl (rc11) (Nat.le_of_ble_eq_true rfl) (eX0_passWord e29) (Nat.le_of_ble_eq_true rfl) rfl ?_
      refine ev_ifeq (a := 0) (b := 23) 58 rfl rfl (fun c31 => ?_) (fun c31 => ?_)
      · have h := (if_pos c31).symm.trans h
        refine ev_aload_n (a := 0) (b := 27) rfl rfl ?_
        refine ev_bipush (a := 0) (b := 28) 14 rfl (by decide) ?_
        obtain ⟨v34, g32, e33, h⟩ := ic_b2E h
        refine ev_ivI (a := 0) (b := 29) [ic_I 14] rfl okX0_passWord rfl lmX0_50 rfl (rc11) (Nat.le_of_ble_eq_true rfl) (eX0_passWord e33) (Nat.le_of_ble_eq_true rfl) rfl ?_
        refine ev_ifeq (a := 0) (b := 30) 85 rfl rfl (fun c35 => ?_) (fun c35 => ?_)
        · have h := (if_pos c35).symm.trans h
          refine ev_aload_n (a := 1) (b := 8) rfl rfl ?_
          refine ev_iconst (a := 1) (b := 9) 1 rfl (by decide) ?_
          obtain ⟨g36, eg36, h⟩ := ic_letE h
          refine ev_put (a := 1) (b := 10) 0 3 rfl rfl (Nat.le_of_ble_eq_true rfl) lfX0_23 rfl (pX0_isFaulty rfl eg36) ?_
          obtain rfl := ic_s1 h
          exact ev_return (a := 1) (b := 11) rfl rfl
        · have h := (if_neg c35).symm.trans h
          refine ev_aload_n (a := 0) (b := 31) rfl rfl ?_
          refine ev_get (a := 1) (b := 0) 0 1 rfl rfl (Nat.le_of_ble_eq_true rfl) lfX0_15 (gX0_street) ?_
          refine ev_iconst (a := 1) (b := 1) 3 rfl (by decide) ?_
          refine ev_aload_n (a := 1) (b := 2) rfl rfl ?_
          refine ev_iconst (a := 1) (b := 3) 0 rfl (by decide) ?_
          refine ev_bipush (a := 1) (b := 4) 20 rfl (by decide) ?_
          obtain ⟨v39, g37, e38, h⟩ := ic_b2E h
          refine ev_ivI (a := 1) (b := 5) [ic_I 0, ic_I 20] rfl okX0_passNumber rfl lmX0_56 rfl (rc11) (Nat.le_of_ble_eq_true rfl) (eX0_passNumber e38) (Nat.le_of_ble_eq_true rfl) rfl ?_
          obtain ⟨g40, e41, h⟩ := ic_b1E h
          refine ev_ivV (a := 1) (b := 6) [ic_I 3, ic_I v39] rfl okX2_alterCart rfl lmX0_60 rfl (rc1 (by decide)) (Nat.le_of_ble_eq_true rfl) (eX2_alterCart e41) (Nat.le_of_ble_eq_true rfl) rfl ?_
          refine ev_goto (a := 1) (b := 7) 90 rfl rfl ?_
          obtain rfl := ic_s1 h
          exact ev_return (a := 1) (b := 11) rfl rfl
      · have h := (if_neg c31).symm.trans h
        refine ev_aload_n (a := 0) (b := 24) rfl rfl ?_
        obtain ⟨g42, e43, h⟩ := ic_b1E h
        refine ev_ivV (a := 0) (b := 25) [] rfl okX0_readCart rfl lmX0_53 rfl (rc11) (Nat.le_of_ble_eq_true rfl) (eX0_readCart e43) (Nat.le_of_ble_eq_true rfl) rfl ?_
        refine ev_goto (a := 0) (b := 26) 90 rfl rfl ?_
        obtain rfl := ic_s1 h
        exact ev_return (a := 1) (b := 11) rfl rfl
    · have h := (if_neg c27).symm.trans h
      refine ev_aload_n (a := 0) (b := 16) rfl rfl ?_
      refine ev_iload_n (a := 0) (b := 17) rfl rfl ?_
      obtain ⟨g44, e45, h⟩ := ic_b1E h
      refine ev_ivV (a := 0) (b := 18) [ic_I v3] rfl okX0_readThing rfl lmX0_46 rfl (rc11) (Nat.le_of_ble_eq_true rfl) (eX0_readThing e45) (Nat.le_of_ble_eq_true rfl) rfl ?_
      refine ev_goto (a := 0) (b := 19) 90 rfl rfl ?_
      obtain rfl := ic_s1 h
      exact ev_return (a := 1) (b := 11) rfl rfl
set_option maxRecDepth 20000 in
theorem eX5_placeAt {x1 : Int32} {g g' : ic_S} {v : Int32} (h : fX5_placeAt x1 g = some (v, g')) : ic_Ev mX5_placeAt 0 (ic_ag 0 [ic_R 7 0 0, ic_I x1]) [] g (some (ic_I v)) g' := by
  unfold fX5_placeAt at h
  change ic_Ev mX5_placeAt 0 [(0, ic_R 7 0 0), (1, ic_I x1)] [] g _ _
  refine ev_iload_n (a := 0) (b := 0) rfl rfl ?_
  refine ev_iflt (a := 0) (b := 1) 30 rfl rfl (fun c1 => ?_) (fun c1 => ?_)
  · have h := (if_pos c1).symm.trans h
    refine ev_aload_n (a := 0) (b := 16) rfl rfl ?_
    refine ev_get (a := 0) (b := 17) 5 0 rfl rfl (Nat.le_of_ble_eq_true rfl) lfX5_9 (gX5_tape) ?_
    refine ev_get (a := 0) (b := 18) 3 0 rfl rfl (Nat.le_of_ble_eq_true rfl) lfX5_29 (gX3_size) ?_
    obtain ⟨rfl, rfl⟩ := ic_s2 h
    exact ev_ireturn (a := 0) (b := 19) rfl rfl rfl
  · have h := (if_neg c1).symm.trans h
    refine ev_iload_n (a := 0) (b := 2) rfl rfl ?_
    refine ev_aload_n (a := 0) (b := 3) rfl rfl ?_
    refine ev_get (a := 0) (b := 4) 5 1 rfl rfl (Nat.le_of_ble_eq_true rfl) lfX5_15 (gX5_size) ?_
    refine ev_icge (a := 0) (b := 5) 30 rfl rfl (fun c2 => ?_) (fun c2 => ?_)
    · have h := (if_pos c2).symm.trans h
      refine ev_aload_n (a := 0) (b := 16) rfl rfl ?_
      refine ev_get (a := 0) (b := 17) 5 0 rfl rfl (Nat.le_of_ble_eq_true rfl) lfX5_9 (gX5_tape) ?_
      refine ev_get (a := 0) (b := 18) 3 0 rfl rfl (Nat.le_of_ble_eq_true rfl) lfX5_29 (gX3_size) ?_
      obtain ⟨rfl, rfl⟩ := ic_s2 h
      exact ev_ireturn (a := 0) (b := 19) rfl rfl rfl
    · have h := (if_neg c2).symm.trans h
      refine ev_iload_n (a := 0) (b := 6) rfl rfl ?_
      refine ev_aload_n (a := 0) (b := 7) rfl rfl ?_
      refine ev_get (a := 0) (b := 8) 5 3 rfl rfl (Nat.le_of_ble_eq_true rfl) lfX5_23 (gX5_places) ?_
      refine ev_alen (a := 0) (b := 9) 121 rfl (a9) (by decide) ?_
      refine ev_icge (a := 0) (b := 10) 30 rfl rfl (fun c3 => ?_) (fun c3 => ?_)
      · have h := (if_pos c3).symm.trans h
        refine ev_aload_n (a := 0) (b := 16) rfl rfl ?_
        refine ev_get (a := 0) (b := 17) 5 0 rfl rfl (Nat.le_of_ble_eq_true rfl) lfX5_9 (gX5_tape) ?_
        refine ev_get (a := 0) (b := 18) 3 0 rfl rfl (Nat.le_of_ble_eq_true rfl) lfX5_29 (gX3_size) ?_
        obtain ⟨rfl, rfl⟩ := ic_s2 h
        exact ev_ireturn (a := 0) (b := 19) rfl rfl rfl
      · have h := (if_neg c3).symm.trans h
        refine ev_aload_n (a := 0) (b := 11) rfl rfl ?_
        refine ev_get (a := 0) (b := 12) 5 3 rfl rfl (Nat.le_of_ble_eq_true rfl) lfX5_23 (gX5_places) ?_
        refine ev_iload_n (a := 0) (b := 13) rfl rfl ?_
        obtain ⟨h4, h⟩ := ic_gdE h
        refine ev_iald (a := 0) (b := 14) rfl (a9) h4 ?_
        refine ev_goto (a := 0) (b := 15) 37 rfl rfl ?_
        obtain ⟨rfl, rfl⟩ := ic_s2 h
        exact ev_ireturn (a := 0) (b := 19) rfl rfl rfl
set_option maxRecDepth 20000 in
theorem tX0_readItems_12 : ∀ (n : Nat) (x1 : Int32) (g : ic_S) (q : (Int32 × ic_S) ⊕ (Unit × ic_S)), lX0_readItems_12 n x1 g = some q → ∀ (r : Option ic_V) (g' : ic_S), ic_lq q r g' (fun y z => ic_Ev mX0_readItems 86 [(0, ic_R 11 0 0)] [] z r g') → ic_Ev mX0_readItems 12 [(0, ic_R 11 0 0), (1, ic_I x1)] [] g r g' := by
  intro n
  induction n with
  | zero => intro x1 g q h; cases h
  | succ n ih =>
    intro x1 g q h r g' hq
    rw [lX0_readItems_12] at h
    refine ev_iload_n (a := 0) (b := 8) rfl rfl ?_
    refine ev_bipush (a := 0) (b := 9) 120 rfl (by decide) ?_
    refine ev_icgt (a := 0) (b := 10) 86 rfl rfl (fun c1001 => ?_) (fun c1001 => ?_)
    · have h := (if_pos c1001).symm.trans h
      obtain rfl := ic_s1 h
      exact ev_fw (lv' := [(0, ic_R 11 0 0)]) hq (And.intro rfl trivial)
    · have h := (if_neg c1001).symm.trans h
      refine ev_aload_n (a := 0) (b := 11) rfl rfl ?_
      obtain ⟨g1002, e1003, h⟩ := ic_b1E h
      refine ev_ivV (a := 0) (b := 12) [] rfl okX0_readItem rfl lmX0_27 rfl (rc11) (Nat.le_of_ble_eq_true rfl) (eX0_readItem e1003) (Nat.le_of_ble_eq_true rfl) rfl ?_
      refine ev_aload_n (a := 0) (b := 13) rfl rfl ?_
      refine ev_get (a := 0) (b := 14) 0 3 rfl rfl (Nat.le_of_ble_eq_true rfl) lfX0_23 (gX0_isFaulty) ?_
      refine ev_ifne (a := 0) (b := 15) 45 rfl rfl (fun c1004 => ?_) (fun c1004 => ?_)
      · have h := (if_neg c1004).symm.trans h
        refine ev_aload_n (a := 0) (b := 24) rfl rfl ?_
        refine ev_get (a := 0) (b := 25) 0 3 rfl rfl (Nat.le_of_ble_eq_true rfl) lfX0_23 (gX0_isFaulty) ?_
        refine ev_ifne (a := 0) (b := 26) 86 rfl rfl (fun c1005 => ?_) (fun c1005 => ?_)
        · have h := (if_neg c1005).symm.trans h
          obtain rfl := ic_s1 h
          exact ev_fw (lv' := [(0, ic_R 11 0 0)]) hq (And.intro rfl trivial)
        · have h := (if_pos c1005).symm.trans h
          refine ev_aload_n (a := 0) (b := 27) rfl rfl ?_
          refine ev_get (a := 0) (b := 28) 0 0 rfl rfl (Nat.le_of_ble_eq_true rfl) lfX0_9 (gX0_tokens) ?_
          refine ev_aload_n (a := 0) (b := 29) rfl rfl ?_
          refine ev_get (a := 0) (b := 30) 0 2 rfl rfl (Nat.le_of_ble_eq_true rfl) lfX0_19 (gX0_next) ?_
          obtain ⟨v1008, g1006, e1007, h⟩ := ic_b2E h
          refine ev_ivI (a := 0) (b := 31) [ic_I (g1002.1 14 0)] rfl okX5_sortAt rfl lmX0_30 rfl (rc7) (Nat.le_of_ble_eq_true rfl) (eX5_sortAt e1007) (Nat.le_of_ble_eq_true rfl) rfl ?_
          refine ev_iconst (a := 1) (b := 0) 3 rfl (by decide) ?_
          refine ev_iceq (a := 1) (b := 1) 70 rfl rfl (fun c1009 => ?_) (fun c1009 => ?_)
          · have h := (if_pos c1009).symm.trans h
            refine ev_aload_n (a := 1) (b := 3) rfl rfl ?_
            refine ev_dup (a := 1) (b := 4) rfl rfl ?_
            refine ev_get (a := 1) (b := 5) 0 2 rfl rfl (Nat.le_of_ble_eq_true rfl) lfX0_19 (gX0_next) ?_
            refine ev_iconst (a := 1) (b := 6) 1 rfl (by decide) ?_
            refine ev_iadd (a := 1) (b := 7) rfl ?_
            obtain ⟨g1010, eg1010, h⟩ := ic_letE h
            refine ev_put (a := 1) (b := 8) 0 2 rfl rfl (Nat.le_of_ble_eq_true rfl) lfX0_19 rfl (pX0_next eg1010) ?_
            refine ev_iinc (a := 1) (b := 9) (x1 + 1) [(0, ic_R 11 0 0), (1, ic_I (x1 + 1))] rfl rfl (by first | rfl | decide) (by decide) (And.intro (Or.inr (And.intro rfl rfl)) (And.intro (Or.inl rfl) trivial)) ?_
            refine ev_goto (a := 1) (b := 10) 12 rfl rfl ?_
            refine ev_fw (lv' := [(0, ic_R 11 0 0), (1, ic_I (x1 + 1))]) ?_ (And.intro rfl (And.intro rfl trivial))
            exact ih (x1 + 1) g1010 _ h _ _ hq
          · have h := (if_neg c1009).symm.trans h
            refine ev_goto (a := 1) (b := 2) 86 rfl rfl ?_
            obtain rfl := ic_s1 h
            exact ev_fw (lv' := [(0, ic_R 11 0 0)]) hq (And.intro rfl trivial)
      · have h := (if_pos c1004).symm.trans h
        refine ev_aload_n (a := 0) (b := 16) rfl rfl ?_
        refine ev_get (a := 0) (b := 17) 0 0 rfl rfl (Nat.le_of_ble_eq_true rfl) lfX0_9 (gX0_tokens) ?_
        refine ev_aload_n (a := 0) (b := 18) rfl rfl ?_
        refine ev_get (a := 0) (b := 19) 0 2 rfl rfl (Nat.le_of_ble_eq_true rfl) lfX0_19 (gX0_next) ?_
        obtain ⟨v1013, g1011, e1012, h⟩ := ic_b2E h
        refine ev_ivI (a := 0) (b := 20) [ic_I (g1002.1 14 0)] rfl okX5_sortAt rfl lmX0_30 rfl (rc7) (Nat.le_of_ble_eq_true rfl) (eX5_sortAt e1012) (Nat.le_of_ble_eq_true rfl) rfl ?_
        refine ev_ifne (a := 0) (b := 21) 45 rfl rfl (fun c1014 => ?_) (fun c1014 => ?_)
        · have h := (if_neg c1014).symm.trans h
          refine ev_aload_n (a := 0) (b := 24) rfl rfl ?_
          refine ev_get (a := 0) (b := 25) 0 3 rfl rfl (Nat.le_of_ble_eq_true rfl) lfX0_23 (gX0_isFaulty) ?_
          refine ev_ifne (a := 0) (b := 26) 86 rfl rfl (fun c1015 => ?_) (fun c1015 => ?_)
          · have h := (if_neg c1015).symm.trans h
            obtain rfl := ic_s1 h
            exact ev_fw (lv' := [(0, ic_R 11 0 0)]) hq (And.intro rfl trivial)
          · have h := (if_pos c1015).symm.trans h
            refine ev_aload_n (a := 0) (b := 27) rfl rfl ?_
            refine ev_get (a := 0) (b := 28) 0 0 rfl rfl (Nat.le_of_ble_eq_true rfl) lfX0_9 (gX0_tokens) ?_
            refine ev_aload_n (a := 0) (b := 29) rfl rfl ?_
            refine ev_get (a := 0) (b := 30) 0 2 rfl rfl (Nat.le_of_ble_eq_true rfl) lfX0_19 (gX0_next) ?_
            obtain ⟨v1018, g1016, e1017, h⟩ := ic_b2E h
            refine ev_ivI (a := 0) (b := 31) [ic_I (g1011.1 14 0)] rfl okX5_sortAt rfl lmX0_30 rfl (rc7) (Nat.le_of_ble_eq_true rfl) (eX5_sortAt e1017) (Nat.le_of_ble_eq_true rfl) rfl ?_
            refine ev_iconst (a := 1) (b := 0) 3 rfl (by decide) ?_
            refine ev_iceq (a := 1) (b := 1) 70 rfl rfl (fun c1019 => ?_) (fun c1019 => ?_)
            · have h := (if_pos c1019).symm.trans h
              refine ev_aload_n (a := 1) (b := 3) rfl rfl ?_
              refine ev_dup (a := 1) (b := 4) rfl rfl ?_
              refine ev_get (a := 1) (b := 5) 0 2 rfl rfl (Nat.le_of_ble_eq_true rfl) lfX0_19 (gX0_next) ?_
              refine ev_iconst (a := 1) (b := 6) 1 rfl (by decide) ?_
              refine ev_iadd (a := 1) (b := 7) rfl ?_
              obtain ⟨g1020, eg1020, h⟩ := ic_letE h
              refine ev_put (a := 1) (b := 8) 0 2 rfl rfl (Nat.le_of_ble_eq_true rfl) lfX0_19 rfl (pX0_next eg1020) ?_
              refine ev_iinc (a := 1) (b := 9) (x1 + 1) [(0, ic_R 11 0 0), (1, ic_I (x1 + 1))] rfl rfl (by first | rfl | decide) (by decide) (And.intro (Or.inr (And.intro rfl rfl)) (And.intro (Or.inl rfl) trivial)) ?_
              refine ev_goto (a := 1) (b := 10) 12 rfl rfl ?_
              refine ev_fw (lv' := [(0, ic_R 11 0 0), (1, ic_I (x1 + 1))]) ?_ (And.intro rfl (And.intro rfl trivial))
              exact ih (x1 + 1) g1020 _ h _ _ hq
            · have h := (if_neg c1019).symm.trans h
              refine ev_goto (a := 1) (b := 2) 86 rfl rfl ?_
              obtain rfl := ic_s1 h
              exact ev_fw (lv' := [(0, ic_R 11 0 0)]) hq (And.intro rfl trivial)
        · have h := (if_pos c1014).symm.trans h
          refine ev_iload_n (a := 0) (b := 22) rfl rfl ?_
          obtain rfl := ic_s1 h
          obtain ⟨rfl, rfl⟩ := hq
          exact ev_ireturn (a := 0) (b := 23) rfl rfl rfl
set_option maxRecDepth 20000 in
theorem eX0_readItems {g g' : ic_S} {v : Int32} (h : fX0_readItems  g = some (v, g')) : ic_Ev mX0_readItems 0 (ic_ag 0 [ic_R 11 0 0]) [] g (some (ic_I v)) g' := by
  unfold fX0_readItems at h
  change ic_Ev mX0_readItems 0 [(0, ic_R 11 0 0)] [] g _ _
  refine ev_aload_n (a := 0) (b := 0) rfl rfl ?_
  refine ev_iconst (a := 0) (b := 1) 0 rfl (by decide) ?_
  obtain ⟨g1, eg1, h⟩ := ic_letE h
  refine ev_put (a := 0) (b := 2) 0 2 rfl rfl (Nat.le_of_ble_eq_true rfl) lfX0_19 rfl (pX0_next eg1) ?_
  refine ev_aload_n (a := 0) (b := 3) rfl rfl ?_
  refine ev_iconst (a := 0) (b := 4) 0 rfl (by decide) ?_
  obtain ⟨g2, eg2, h⟩ := ic_letE h
  refine ev_put (a := 0) (b := 5) 0 3 rfl rfl (Nat.le_of_ble_eq_true rfl) lfX0_23 rfl (pX0_isFaulty rfl eg2) ?_
  refine ev_iconst (a := 0) (b := 6) 1 rfl (by decide) ?_
  refine ev_istore_n (a := 0) (b := 7) [(0, ic_R 11 0 0), (1, ic_I 1)] rfl (by decide) (And.intro (Or.inr (And.intro rfl rfl)) (And.intro (Or.inl rfl) trivial)) ?_
  refine ev_fw (lv' := [(0, ic_R 11 0 0), (1, ic_I 1)]) ?_ (And.intro rfl (And.intro rfl trivial))
  rcases ic_bsE h with e5 | ⟨y3, g4, e5, h⟩
  · exact tX0_readItems_12  1000 1 g2 _ e5 _ _ ⟨rfl, rfl⟩
  · refine tX0_readItems_12  1000 1 g2 _ e5 _ _ ?_
    change ic_Ev mX0_readItems 86 [(0, ic_R 11 0 0)] [] g4 _ _
    refine ev_iconst (a := 1) (b := 11) (-1) rfl (by decide) ?_
    refine ev_aload_n (a := 1) (b := 12) rfl rfl ?_
    refine ev_get (a := 1) (b := 13) 0 0 rfl rfl (Nat.le_of_ble_eq_true rfl) lfX0_9 (gX0_tokens) ?_
    refine ev_aload_n (a := 1) (b := 14) rfl rfl ?_
    refine ev_get (a := 1) (b := 15) 0 2 rfl rfl (Nat.le_of_ble_eq_true rfl) lfX0_19 (gX0_next) ?_
    obtain ⟨v8, g6, e7, h⟩ := ic_b2E h
    refine ev_ivI (a := 1) (b := 16) [ic_I (g4.1 14 0)] rfl okX5_placeAt rfl lmX0_36 rfl (rc7) (Nat.le_of_ble_eq_true rfl) (eX5_placeAt e7) (Nat.le_of_ble_eq_true rfl) rfl ?_
    refine ev_isub (a := 1) (b := 17) rfl ?_
    obtain ⟨rfl, rfl⟩ := ic_s2 h
    exact ev_ireturn (a := 1) (b := 18) rfl rfl rfl
set_option maxRecDepth 20000 in
theorem eX1_isMissing {s : Nat} {g g' : ic_S} {v : Int32} (h : fX1_isMissing s g = some (v, g')) : ic_Ev mX1_isMissing 0 (ic_ag 0 [ic_R 13 s 0]) [] g (some (ic_I v)) g' := by
  unfold fX1_isMissing at h
  obtain ⟨hs, h⟩ := ic_gdE h
  have hs : s < 4 := Nat.le_of_ble_eq_true hs
  change ic_Ev mX1_isMissing 0 [(0, ic_R 13 s 0)] [] g _ _
  refine ev_aload_n (a := 0) (b := 0) rfl rfl ?_
  refine ev_get (a := 0) (b := 1) 1 0 rfl rfl (Nat.le_of_ble_eq_true rfl) lfX1_9 (gX1_bits hs) ?_
  refine ev_ifne (a := 0) (b := 2) 11 rfl rfl (fun c1 => ?_) (fun c1 => ?_)
  · have h := (if_neg c1).symm.trans h
    refine ev_iconst (a := 0) (b := 5) 0 rfl (by decide) ?_
    obtain ⟨rfl, rfl⟩ := ic_s2 h
    exact ev_ireturn (a := 0) (b := 6) rfl rfl rfl
  · have h := (if_pos c1).symm.trans h
    refine ev_iconst (a := 0) (b := 3) 1 rfl (by decide) ?_
    refine ev_goto (a := 0) (b := 4) 12 rfl rfl ?_
    obtain ⟨rfl, rfl⟩ := ic_s2 h
    exact ev_ireturn (a := 0) (b := 6) rfl rfl rfl
set_option maxRecDepth 20000 in
theorem tX1_renew_20 {s : Nat} (hs : s < 4) : ∀ (n : Nat) (x3 : Int32) (g : ic_S) (q : Unit × ic_S), lX1_renew_20 s n x3 g = some q → ∀ (r : Option ic_V) (g' : ic_S), ic_Ev mX1_renew 42 [] [] q.2 r g' → ic_Ev mX1_renew 20 [(0, ic_R 13 s 0), (3, ic_I x3)] [] g r g' := by
  intro n
  induction n with
  | zero => intro x3 g q h; cases h
  | succ n ih =>
    intro x3 g q h r g' hq
    rw [lX1_renew_20] at h
    refine ev_iload_n (a := 0) (b := 12) rfl rfl ?_
    refine ev_aload_n (a := 0) (b := 13) rfl rfl ?_
    refine ev_get (a := 0) (b := 14) 1 2 rfl rfl (Nat.le_of_ble_eq_true rfl) lfX1_18 (gX1_numbers hs) ?_
    refine ev_alen (a := 0) (b := 15) 40 rfl (a14 hs) (by decide) ?_
    refine ev_icge (a := 0) (b := 16) 42 rfl rfl (fun c1001 => ?_) (fun c1001 => ?_)
    · have h := (if_pos c1001).symm.trans h
      obtain rfl := ic_s1 h
      exact ev_fw (lv' := []) hq trivial
    · have h := (if_neg c1001).symm.trans h
      refine ev_aload_n (a := 0) (b := 17) rfl rfl ?_
      refine ev_get (a := 0) (b := 18) 1 2 rfl rfl (Nat.le_of_ble_eq_true rfl) lfX1_18 (gX1_numbers hs) ?_
      refine ev_iload_n (a := 0) (b := 19) rfl rfl ?_
      refine ev_iconst (a := 0) (b := 20) 0 rfl (by decide) ?_
      obtain ⟨h1002, h⟩ := ic_gdE h
      obtain ⟨g1003, eg1003, h⟩ := ic_letE h
      refine ev_iast (a := 0) (b := 21) rfl h1002 (w14 hs eg1003) ?_
      refine ev_iinc (a := 0) (b := 22) (x3 + 1) [(0, ic_R 13 s 0), (3, ic_I (x3 + 1))] rfl rfl (by first | rfl | decide) (by decide) (And.intro (Or.inr (And.intro rfl rfl)) (And.intro (Or.inl rfl) trivial)) ?_
      refine ev_goto (a := 0) (b := 23) 20 rfl rfl ?_
      refine ev_fw (lv' := [(0, ic_R 13 s 0), (3, ic_I (x3 + 1))]) ?_ (And.intro rfl (And.intro rfl trivial))
      exact ih (x3 + 1) g1003 _ h _ _ hq
set_option maxRecDepth 20000 in
theorem eX1_renew {s : Nat} {x1 : Int32} {x2 : Int32} {g g' : ic_S} (h : fX1_renew s x1 x2 g = some g') : ic_Ev mX1_renew 0 (ic_ag 0 [ic_R 13 s 0, ic_I x1, ic_I x2]) [] g (none) g' := by
  unfold fX1_renew at h
  obtain ⟨hs, h⟩ := ic_gdE h
  have hs : s < 4 := Nat.le_of_ble_eq_true hs
  change ic_Ev mX1_renew 0 [(0, ic_R 13 s 0), (1, ic_I x1), (2, ic_I x2)] [] g _ _
  refine ev_aload_n (a := 0) (b := 0) rfl rfl ?_
  refine ev_iload_n (a := 0) (b := 1) rfl rfl ?_
  obtain ⟨g1, eg1, h⟩ := ic_letE h
  refine ev_put (a := 0) (b := 2) 1 0 rfl rfl (Nat.le_of_ble_eq_true rfl) lfX1_9 rfl (pX1_bits hs eg1) ?_
  refine ev_aload_n (a := 0) (b := 3) rfl rfl ?_
  refine ev_iload_n (a := 0) (b := 4) rfl rfl ?_
  refine ev_ifne (a := 0) (b := 5) 14 rfl rfl (fun c2 => ?_) (fun c2 => ?_)
  · have h := (if_neg c2).symm.trans h
    refine ev_iload_n (a := 0) (b := 8) rfl rfl ?_
    obtain ⟨g3, eg3, h⟩ := ic_letE h
    refine ev_put (a := 0) (b := 9) 1 1 rfl rfl (Nat.le_of_ble_eq_true rfl) lfX1_15 rfl (pX1_size hs eg3) ?_
    refine ev_iconst (a := 0) (b := 10) 0 rfl (by decide) ?_
    refine ev_istore_n (a := 0) (b := 11) [(0, ic_R 13 s 0), (3, ic_I 0)] rfl (by decide) (And.intro (Or.inr (And.intro rfl rfl)) (And.intro (Or.inl rfl) trivial)) ?_
    refine ev_fw (lv' := [(0, ic_R 13 s 0), (3, ic_I 0)]) ?_ (And.intro rfl (And.intro rfl trivial))
    obtain ⟨y4, g5, e6, h⟩ := ic_b2E h
    refine tX1_renew_20 hs 1000 0 g3 _ e6 _ _ ?_
    change ic_Ev mX1_renew 42 [] [] g5 _ _
    obtain rfl := ic_s1 h
    exact ev_return (a := 0) (b := 24) rfl rfl
  · have h := (if_pos c2).symm.trans h
    refine ev_iconst (a := 0) (b := 6) 0 rfl (by decide) ?_
    refine ev_goto (a := 0) (b := 7) 15 rfl rfl ?_
    obtain ⟨g7, eg7, h⟩ := ic_letE h
    refine ev_put (a := 0) (b := 9) 1 1 rfl rfl (Nat.le_of_ble_eq_true rfl) lfX1_15 rfl (pX1_size hs eg7) ?_
    refine ev_iconst (a := 0) (b := 10) 0 rfl (by decide) ?_
    refine ev_istore_n (a := 0) (b := 11) [(0, ic_R 13 s 0), (3, ic_I 0)] rfl (by decide) (And.intro (Or.inr (And.intro rfl rfl)) (And.intro (Or.inl rfl) trivial)) ?_
    refine ev_fw (lv' := [(0, ic_R 13 s 0), (3, ic_I 0)]) ?_ (And.intro rfl (And.intro rfl trivial))
    obtain ⟨y8, g9, e10, h⟩ := ic_b2E h
    refine tX1_renew_20 hs 1000 0 g7 _ e10 _ _ ?_
    change ic_Ev mX1_renew 42 [] [] g9 _ _
    obtain rfl := ic_s1 h
    exact ev_return (a := 0) (b := 24) rfl rfl
set_option maxRecDepth 20000 in
theorem eX1_told {s : Nat} {x1 : Int32} {g g' : ic_S} {v : Int32} (h : fX1_told s x1 g = some (v, g')) : ic_Ev mX1_told 0 (ic_ag 0 [ic_R 13 s 0, ic_I x1]) [] g (some (ic_I v)) g' := by
  unfold fX1_told at h
  obtain ⟨hs, h⟩ := ic_gdE h
  have hs : s < 4 := Nat.le_of_ble_eq_true hs
  change ic_Ev mX1_told 0 [(0, ic_R 13 s 0), (1, ic_I x1)] [] g _ _
  refine ev_iload_n (a := 0) (b := 0) rfl rfl ?_
  refine ev_iflt (a := 0) (b := 1) 22 rfl rfl (fun c1 => ?_) (fun c1 => ?_)
  · have h := (if_pos c1).symm.trans h
    refine ev_iconst (a := 0) (b := 12) 0 rfl (by decide) ?_
    obtain ⟨rfl, rfl⟩ := ic_s2 h
    exact ev_ireturn (a := 0) (b := 13) rfl rfl rfl
  · have h := (if_neg c1).symm.trans h
    refine ev_iload_n (a := 0) (b := 2) rfl rfl ?_
    refine ev_aload_n (a := 0) (b := 3) rfl rfl ?_
    refine ev_get (a := 0) (b := 4) 1 2 rfl rfl (Nat.le_of_ble_eq_true rfl) lfX1_18 (gX1_numbers hs) ?_
    refine ev_alen (a := 0) (b := 5) 40 rfl (a14 hs) (by decide) ?_
    refine ev_icge (a := 0) (b := 6) 22 rfl rfl (fun c2 => ?_) (fun c2 => ?_)
    · have h := (if_pos c2).symm.trans h
      refine ev_iconst (a := 0) (b := 12) 0 rfl (by decide) ?_
      obtain ⟨rfl, rfl⟩ := ic_s2 h
      exact ev_ireturn (a := 0) (b := 13) rfl rfl rfl
    · have h := (if_neg c2).symm.trans h
      refine ev_aload_n (a := 0) (b := 7) rfl rfl ?_
      refine ev_get (a := 0) (b := 8) 1 2 rfl rfl (Nat.le_of_ble_eq_true rfl) lfX1_18 (gX1_numbers hs) ?_
      refine ev_iload_n (a := 0) (b := 9) rfl rfl ?_
      obtain ⟨h3, h⟩ := ic_gdE h
      refine ev_iald (a := 0) (b := 10) rfl (a14 hs) h3 ?_
      refine ev_goto (a := 0) (b := 11) 23 rfl rfl ?_
      obtain ⟨rfl, rfl⟩ := ic_s2 h
      exact ev_ireturn (a := 0) (b := 13) rfl rfl rfl
set_option maxRecDepth 20000 in
theorem eX1_put {s : Nat} {x1 : Int32} {x2 : Int32} {g g' : ic_S} (h : fX1_put s x1 x2 g = some g') : ic_Ev mX1_put 0 (ic_ag 0 [ic_R 13 s 0, ic_I x1, ic_I x2]) [] g (none) g' := by
  unfold fX1_put at h
  obtain ⟨hs, h⟩ := ic_gdE h
  have hs : s < 4 := Nat.le_of_ble_eq_true hs
  change ic_Ev mX1_put 0 [(0, ic_R 13 s 0), (1, ic_I x1), (2, ic_I x2)] [] g _ _
  refine ev_iload_n (a := 0) (b := 0) rfl rfl ?_
  refine ev_iflt (a := 0) (b := 1) 48 rfl rfl (fun c1 => ?_) (fun c1 => ?_)
  · have h := (if_pos c1).symm.trans h
    obtain rfl := ic_s1 h
    exact ev_return (a := 0) (b := 26) rfl rfl
  · have h := (if_neg c1).symm.trans h
    refine ev_iload_n (a := 0) (b := 2) rfl rfl ?_
    refine ev_aload_n (a := 0) (b := 3) rfl rfl ?_
    refine ev_get (a := 0) (b := 4) 1 2 rfl rfl (Nat.le_of_ble_eq_true rfl) lfX1_18 (gX1_numbers hs) ?_
    refine ev_alen (a := 0) (b := 5) 40 rfl (a14 hs) (by decide) ?_
    refine ev_icge (a := 0) (b := 6) 48 rfl rfl (fun c2 => ?_) (fun c2 => ?_)
    · have h := (if_pos c2).symm.trans h
      obtain rfl := ic_s1 h
      exact ev_return (a := 0) (b := 26) rfl rfl
    · have h := (if_neg c2).symm.trans h
      refine ev_aload_n (a := 0) (b := 7) rfl rfl ?_
      refine ev_get (a := 0) (b := 8) 1 2 rfl rfl (Nat.le_of_ble_eq_true rfl) lfX1_18 (gX1_numbers hs) ?_
      refine ev_iload_n (a := 0) (b := 9) rfl rfl ?_
      refine ev_aload_n (a := 0) (b := 10) rfl rfl ?_
      refine ev_get (a := 0) (b := 11) 1 0 rfl rfl (Nat.le_of_ble_eq_true rfl) lfX1_9 (gX1_bits hs) ?_
      refine ev_bipush (a := 0) (b := 12) 8 rfl (by decide) ?_
      refine ev_icne (a := 0) (b := 13) 32 rfl rfl (fun c3 => ?_) (fun c3 => ?_)
      · have h := (if_neg c3).symm.trans h
        refine ev_aload_n (a := 0) (b := 17) rfl rfl ?_
        refine ev_get (a := 0) (b := 18) 1 0 rfl rfl (Nat.le_of_ble_eq_true rfl) lfX1_9 (gX1_bits hs) ?_
        refine ev_bipush (a := 0) (b := 19) 16 rfl (by decide) ?_
        refine ev_icne (a := 0) (b := 20) 46 rfl rfl (fun c4 => ?_) (fun c4 => ?_)
        · have h := (if_neg c4).symm.trans h
          refine ev_iload_n (a := 0) (b := 24) rfl rfl ?_
          obtain ⟨h5, h⟩ := ic_gdE h
          obtain ⟨g6, eg6, h⟩ := ic_letE h
          refine ev_iast (a := 0) (b := 25) rfl h5 (w14 hs eg6) ?_
          obtain rfl := ic_s1 h
          exact ev_return (a := 0) (b := 26) rfl rfl
        · have h := (if_pos c4).symm.trans h
          refine ev_iload_n (a := 0) (b := 21) rfl rfl ?_
          refine ev_i2s (a := 0) (b := 22) rfl ?_
          refine ev_goto (a := 0) (b := 23) 47 rfl rfl ?_
          obtain ⟨h7, h⟩ := ic_gdE h
          obtain ⟨g8, eg8, h⟩ := ic_letE h
          refine ev_iast (a := 0) (b := 25) rfl h7 (w14 hs eg8) ?_
          obtain rfl := ic_s1 h
          exact ev_return (a := 0) (b := 26) rfl rfl
      · have h := (if_pos c3).symm.trans h
        refine ev_iload_n (a := 0) (b := 14) rfl rfl ?_
        refine ev_i2b (a := 0) (b := 15) rfl ?_
        refine ev_goto (a := 0) (b := 16) 47 rfl rfl ?_
        obtain ⟨h9, h⟩ := ic_gdE h
        obtain ⟨g10, eg10, h⟩ := ic_letE h
        refine ev_iast (a := 0) (b := 25) rfl h9 (w14 hs eg10) ?_
        obtain rfl := ic_s1 h
        exact ev_return (a := 0) (b := 26) rfl rfl
set_option maxRecDepth 20000 in
theorem eX1_hasRun {s : Nat} {x1 : Int32} {x2 : Int32} {g g' : ic_S} {v : Int32} (h : fX1_hasRun s x1 x2 g = some (v, g')) : ic_Ev mX1_hasRun 0 (ic_ag 0 [ic_R 13 s 0, ic_I x1, ic_I x2]) [] g (some (ic_I v)) g' := by
  unfold fX1_hasRun at h
  obtain ⟨hs, h⟩ := ic_gdE h
  have hs : s < 4 := Nat.le_of_ble_eq_true hs
  change ic_Ev mX1_hasRun 0 [(0, ic_R 13 s 0), (1, ic_I x1), (2, ic_I x2)] [] g _ _
  refine ev_iload_n (a := 0) (b := 0) rfl rfl ?_
  refine ev_iflt (a := 0) (b := 1) 30 rfl rfl (fun c1 => ?_) (fun c1 => ?_)
  · have h := (if_pos c1).symm.trans h
    refine ev_iconst (a := 0) (b := 16) 0 rfl (by decide) ?_
    obtain ⟨rfl, rfl⟩ := ic_s2 h
    exact ev_ireturn (a := 0) (b := 17) rfl rfl rfl
  · have h := (if_neg c1).symm.trans h
    refine ev_iload_n (a := 0) (b := 2) rfl rfl ?_
    refine ev_iflt (a := 0) (b := 3) 30 rfl rfl (fun c2 => ?_) (fun c2 => ?_)
    · have h := (if_pos c2).symm.trans h
      refine ev_iconst (a := 0) (b := 16) 0 rfl (by decide) ?_
      obtain ⟨rfl, rfl⟩ := ic_s2 h
      exact ev_ireturn (a := 0) (b := 17) rfl rfl rfl
    · have h := (if_neg c2).symm.trans h
      refine ev_iload_n (a := 0) (b := 4) rfl rfl ?_
      refine ev_aload_n (a := 0) (b := 5) rfl rfl ?_
      refine ev_get (a := 0) (b := 6) 1 1 rfl rfl (Nat.le_of_ble_eq_true rfl) lfX1_15 (gX1_size hs) ?_
      refine ev_icgt (a := 0) (b := 7) 30 rfl rfl (fun c3 => ?_) (fun c3 => ?_)
      · have h := (if_pos c3).symm.trans h
        refine ev_iconst (a := 0) (b := 16) 0 rfl (by decide) ?_
        obtain ⟨rfl, rfl⟩ := ic_s2 h
        exact ev_ireturn (a := 0) (b := 17) rfl rfl rfl
      · have h := (if_neg c3).symm.trans h
        refine ev_iload_n (a := 0) (b := 8) rfl rfl ?_
        refine ev_aload_n (a := 0) (b := 9) rfl rfl ?_
        refine ev_get (a := 0) (b := 10) 1 1 rfl rfl (Nat.le_of_ble_eq_true rfl) lfX1_15 (gX1_size hs) ?_
        refine ev_iload_n (a := 0) (b := 11) rfl rfl ?_
        refine ev_isub (a := 0) (b := 12) rfl ?_
        refine ev_icgt (a := 0) (b := 13) 30 rfl rfl (fun c4 => ?_) (fun c4 => ?_)
        · have h := (if_pos c4).symm.trans h
          refine ev_iconst (a := 0) (b := 16) 0 rfl (by decide) ?_
          obtain ⟨rfl, rfl⟩ := ic_s2 h
          exact ev_ireturn (a := 0) (b := 17) rfl rfl rfl
        · have h := (if_neg c4).symm.trans h
          refine ev_iconst (a := 0) (b := 14) 1 rfl (by decide) ?_
          refine ev_goto (a := 0) (b := 15) 31 rfl rfl ?_
          obtain ⟨rfl, rfl⟩ := ic_s2 h
          exact ev_ireturn (a := 0) (b := 17) rfl rfl rfl
set_option maxRecDepth 20000 in
theorem eX4_match {s : Nat} {t : Nat} {o1 : Option (Nat × Nat)} {g g' : ic_S} (h : fX4_match s t o1 g = some g') : ic_Ev mX4_match 0 (ic_ag 0 [ic_R 3 s t, ic_O 3 o1]) [] g (none) g' := by
  unfold fX4_match at h
  obtain ⟨hs, h⟩ := ic_gdE h
  have hs : s < 3 := Nat.le_of_ble_eq_true hs
  obtain ⟨ht, h⟩ := ic_gdE h
  have ht : t < 8 := Nat.le_of_ble_eq_true ht
  change ic_Ev mX4_match 0 [(0, ic_R 3 s t), (1, ic_O 3 o1)] [] g _ _
  refine ev_aload_n (a := 0) (b := 0) rfl rfl ?_
  rcases o1 with _ | ⟨s1, t2⟩
  · replace h := ic_moN h
    refine ev_ifnonnull1 (a := 0) (b := 1) rfl ?_
    obtain rfl := ic_s1 h
    exact ev_return (a := 0) (b := 2) rfl rfl
  · replace h := ic_moS h
    have k3 := (ic_gdE h).1
    replace h := (ic_gdE h).2
    refine ev_ifnonnull0 (a := 0) (b := 1) 5 (show (3 : Nat) ≠ 26 by decide) rfl rfl ?_
    refine ev_aload_n (a := 0) (b := 3) rfl rfl ?_
    refine ev_aload_n (a := 0) (b := 4) rfl rfl ?_
    refine ev_get (a := 0) (b := 5) 4 1 rfl rfl (Nat.le_of_ble_eq_true rfl) lfX4_15 (gX4_kind (ic_vks (C := 3) k3) (ic_vkt (C := 3) k3)) ?_
    obtain ⟨g4, eg4, h⟩ := ic_letE h
    refine ev_put (a := 0) (b := 6) 4 1 rfl rfl (Nat.le_of_ble_eq_true rfl) lfX4_15 rfl (pX4_kind hs ht eg4) ?_
    refine ev_aload_n (a := 0) (b := 7) rfl rfl ?_
    refine ev_aload_n (a := 0) (b := 8) rfl rfl ?_
    refine ev_get (a := 0) (b := 9) 4 2 rfl rfl (Nat.le_of_ble_eq_true rfl) lfX4_18 (gX4_cell (ic_vks (C := 3) k3) (ic_vkt (C := 3) k3)) ?_
    obtain ⟨g5, eg5, h⟩ := ic_letE h
    refine ev_put (a := 0) (b := 10) 4 2 rfl rfl (Nat.le_of_ble_eq_true rfl) lfX4_18 rfl (pX4_cell hs ht eg5) ?_
    refine ev_aload_n (a := 0) (b := 11) rfl rfl ?_
    refine ev_aload_n (a := 0) (b := 12) rfl rfl ?_
    refine ev_get (a := 0) (b := 13) 4 3 rfl rfl (Nat.le_of_ble_eq_true rfl) lfX4_21 (gX4_heavy (ic_vks (C := 3) k3) (ic_vkt (C := 3) k3)) ?_
    obtain ⟨g6, eg6, h⟩ := ic_letE h
    refine ev_put (a := 0) (b := 14) 4 3 rfl rfl (Nat.le_of_ble_eq_true rfl) lfX4_21 rfl (pX4_heavy hs ht eg6) ?_
    refine ev_aload_n (a := 0) (b := 15) rfl rfl ?_
    refine ev_aload_n (a := 0) (b := 16) rfl rfl ?_
    refine ev_get (a := 0) (b := 17) 4 4 rfl rfl (Nat.le_of_ble_eq_true rfl) lfX4_24 (gX4_pulled (ic_vks (C := 3) k3) (ic_vkt (C := 3) k3)) ?_
    obtain ⟨g7, eg7, h⟩ := ic_letE h
    refine ev_put (a := 0) (b := 18) 4 4 rfl rfl (Nat.le_of_ble_eq_true rfl) lfX4_24 rfl (pX4_pulled hs ht eg7) ?_
    refine ev_aload_n (a := 0) (b := 19) rfl rfl ?_
    refine ev_aload_n (a := 0) (b := 20) rfl rfl ?_
    refine ev_get (a := 0) (b := 21) 4 5 rfl rfl (Nat.le_of_ble_eq_true rfl) lfX4_27 (gX4_moved (ic_vks (C := 3) k3) (ic_vkt (C := 3) k3)) ?_
    obtain ⟨g8, eg8, h⟩ := ic_letE h
    refine ev_put (a := 0) (b := 22) 4 5 rfl rfl (Nat.le_of_ble_eq_true rfl) lfX4_27 rfl (pX4_moved hs ht eg8) ?_
    refine ev_aload_n (a := 0) (b := 23) rfl rfl ?_
    refine ev_aload_n (a := 0) (b := 24) rfl rfl ?_
    refine ev_get (a := 0) (b := 25) 4 6 rfl rfl (Nat.le_of_ble_eq_true rfl) lfX4_30 (gX4_isHeld (ic_vks (C := 3) k3) (ic_vkt (C := 3) k3)) ?_
    obtain ⟨h9, h⟩ := ic_gdE h
    obtain ⟨g10, eg10, h⟩ := ic_letE h
    refine ev_put (a := 0) (b := 26) 4 6 rfl rfl (Nat.le_of_ble_eq_true rfl) lfX4_30 rfl (pX4_isHeld hs ht h9 eg10) ?_
    refine ev_aload_n (a := 0) (b := 27) rfl rfl ?_
    refine ev_aload_n (a := 0) (b := 28) rfl rfl ?_
    refine ev_get (a := 0) (b := 29) 4 7 rfl rfl (Nat.le_of_ble_eq_true rfl) lfX4_34 (gX4_isTaken (ic_vks (C := 3) k3) (ic_vkt (C := 3) k3)) ?_
    obtain ⟨h11, h⟩ := ic_gdE h
    obtain ⟨g12, eg12, h⟩ := ic_letE h
    refine ev_put (a := 0) (b := 30) 4 7 rfl rfl (Nat.le_of_ble_eq_true rfl) lfX4_34 rfl (pX4_isTaken hs ht h11 eg12) ?_
    obtain rfl := ic_s1 h
    exact ev_return (a := 0) (b := 31) rfl rfl
set_option maxRecDepth 20000 in
theorem eX2_spotTold {s : Nat} {x1 : Int32} {g g' : ic_S} {v : Int32} (h : fX2_spotTold s x1 g = some (v, g')) : ic_Ev mX2_spotTold 0 (ic_ag 0 [ic_R 1 s 0, ic_I x1]) [] g (some (ic_I v)) g' := by
  unfold fX2_spotTold at h
  obtain ⟨hs, h⟩ := ic_gdE h
  have hs : s < 3 := Nat.le_of_ble_eq_true hs
  change ic_Ev mX2_spotTold 0 [(0, ic_R 1 s 0), (1, ic_I x1)] [] g _ _
  refine ev_iload_n (a := 0) (b := 0) rfl rfl ?_
  refine ev_iflt (a := 0) (b := 1) 22 rfl rfl (fun c1 => ?_) (fun c1 => ?_)
  · have h := (if_pos c1).symm.trans h
    refine ev_iconst (a := 0) (b := 12) (-1) rfl (by decide) ?_
    obtain ⟨rfl, rfl⟩ := ic_s2 h
    exact ev_ireturn (a := 0) (b := 13) rfl rfl rfl
  · have h := (if_neg c1).symm.trans h
    refine ev_iload_n (a := 0) (b := 2) rfl rfl ?_
    refine ev_aload_n (a := 0) (b := 3) rfl rfl ?_
    refine ev_get (a := 0) (b := 4) 2 8 rfl rfl (Nat.le_of_ble_eq_true rfl) lfX2_42 (gX2_spots hs) ?_
    refine ev_alen (a := 0) (b := 5) 10 rfl (a4 hs) (by decide) ?_
    refine ev_icge (a := 0) (b := 6) 22 rfl rfl (fun c2 => ?_) (fun c2 => ?_)
    · have h := (if_pos c2).symm.trans h
      refine ev_iconst (a := 0) (b := 12) (-1) rfl (by decide) ?_
      obtain ⟨rfl, rfl⟩ := ic_s2 h
      exact ev_ireturn (a := 0) (b := 13) rfl rfl rfl
    · have h := (if_neg c2).symm.trans h
      refine ev_aload_n (a := 0) (b := 7) rfl rfl ?_
      refine ev_get (a := 0) (b := 8) 2 8 rfl rfl (Nat.le_of_ble_eq_true rfl) lfX2_42 (gX2_spots hs) ?_
      refine ev_iload_n (a := 0) (b := 9) rfl rfl ?_
      obtain ⟨h3, h⟩ := ic_gdE h
      refine ev_iald (a := 0) (b := 10) rfl (a4 hs) h3 ?_
      refine ev_goto (a := 0) (b := 11) 23 rfl rfl ?_
      obtain ⟨rfl, rfl⟩ := ic_s2 h
      exact ev_ireturn (a := 0) (b := 13) rfl rfl rfl
set_option maxRecDepth 20000 in
theorem eX2_putSpot {s : Nat} {x1 : Int32} {x2 : Int32} {g g' : ic_S} (h : fX2_putSpot s x1 x2 g = some g') : ic_Ev mX2_putSpot 0 (ic_ag 0 [ic_R 1 s 0, ic_I x1, ic_I x2]) [] g (none) g' := by
  unfold fX2_putSpot at h
  obtain ⟨hs, h⟩ := ic_gdE h
  have hs : s < 3 := Nat.le_of_ble_eq_true hs
  change ic_Ev mX2_putSpot 0 [(0, ic_R 1 s 0), (1, ic_I x1), (2, ic_I x2)] [] g _ _
  refine ev_iload_n (a := 0) (b := 0) rfl rfl ?_
  refine ev_iflt (a := 0) (b := 1) 20 rfl rfl (fun c1 => ?_) (fun c1 => ?_)
  · have h := (if_pos c1).symm.trans h
    obtain rfl := ic_s1 h
    exact ev_return (a := 0) (b := 12) rfl rfl
  · have h := (if_neg c1).symm.trans h
    refine ev_iload_n (a := 0) (b := 2) rfl rfl ?_
    refine ev_aload_n (a := 0) (b := 3) rfl rfl ?_
    refine ev_get (a := 0) (b := 4) 2 8 rfl rfl (Nat.le_of_ble_eq_true rfl) lfX2_42 (gX2_spots hs) ?_
    refine ev_alen (a := 0) (b := 5) 10 rfl (a4 hs) (by decide) ?_
    refine ev_icge (a := 0) (b := 6) 20 rfl rfl (fun c2 => ?_) (fun c2 => ?_)
    · have h := (if_pos c2).symm.trans h
      obtain rfl := ic_s1 h
      exact ev_return (a := 0) (b := 12) rfl rfl
    · have h := (if_neg c2).symm.trans h
      refine ev_aload_n (a := 0) (b := 7) rfl rfl ?_
      refine ev_get (a := 0) (b := 8) 2 8 rfl rfl (Nat.le_of_ble_eq_true rfl) lfX2_42 (gX2_spots hs) ?_
      refine ev_iload_n (a := 0) (b := 9) rfl rfl ?_
      refine ev_iload_n (a := 0) (b := 10) rfl rfl ?_
      obtain ⟨h3, h⟩ := ic_gdE h
      obtain ⟨g4, eg4, h⟩ := ic_letE h
      refine ev_iast (a := 0) (b := 11) rfl h3 (w4 hs eg4) ?_
      obtain rfl := ic_s1 h
      exact ev_return (a := 0) (b := 12) rfl rfl
