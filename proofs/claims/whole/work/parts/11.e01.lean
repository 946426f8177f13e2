set_option maxRecDepth 20000 in
theorem tX2_match_63 {s : Nat} (hs : s < 3) {s1 : Nat} (hs1 : s1 < 3) : ∀ (n : Nat) (x2 : Int32) (g : ic_S) (q : Unit × ic_S), lX2_match_63 s s1 n x2 g = some q → ∀ (r : Option ic_V) (g' : ic_S), ic_Ev mX2_match 96 [(0, ic_R 1 s 0), (1, ic_R 1 s1 0)] [] q.2 r g' → ic_Ev mX2_match 63 [(0, ic_R 1 s 0), (1, ic_R 1 s1 0), (2, ic_I x2)] [] g r g' := by
  intro n
  induction n with
  | zero => intro x2 g q h; cases h
  | succ n ih =>
    intro x2 g q h r g' hq
    rw [lX2_match_63] at h
    refine ev_iload_n (a := 1) (b := 1) rfl rfl ?_
    refine ev_aload_n (a := 1) (b := 2) rfl rfl ?_
    refine ev_get (a := 1) (b := 3) 2 6 rfl rfl (Nat.le_of_ble_eq_true rfl) lfX2_30 (gX2_made hs) ?_
    refine ev_icge (a := 1) (b := 4) 96 rfl rfl (fun c1001 => ?_) (fun c1001 => ?_)
    · have h := (if_pos c1001).symm.trans h
      obtain rfl := ic_s1 h
      exact ev_fw (lv' := [(0, ic_R 1 s 0), (1, ic_R 1 s1 0)]) hq (And.intro rfl (And.intro rfl trivial))
    · have h := (if_neg c1001).symm.trans h
      refine ev_aload_n (a := 1) (b := 5) rfl rfl ?_
      refine ev_iload_n (a := 1) (b := 6) rfl rfl ?_
      obtain ⟨v1004, g1002, e1003, h⟩ := ic_b2E h
      refine ev_ivO (a := 1) (b := 7) [ic_I x2] rfl okX2_thingAt rfl lmX2_46 rfl (rc1 hs) (Nat.le_of_ble_eq_true rfl) (eX2_thingAt e1003) (Nat.le_of_ble_eq_true rfl) rfl ?_
      refine ev_astore_n (a := 1) (b := 8) [(0, ic_R 1 s 0), (1, ic_R 1 s1 0), (2, ic_I x2), (3, ic_O 3 v1004)] rfl (by decide) (And.intro (Or.inr (And.intro rfl rfl)) (And.intro (Or.inr (And.intro rfl rfl)) (And.intro (Or.inr (And.intro rfl rfl)) (And.intro (Or.inl rfl) trivial)))) ?_
      refine ev_aload_n (a := 1) (b := 9) rfl rfl ?_
      rcases v1004 with _ | ⟨s1005, t1006⟩
      · replace h := ic_moN h
        refine ev_ifnull1 (a := 1) (b := 10) 90 rfl rfl ?_
        refine ev_iinc (a := 1) (b := 16) (x2 + 1) [(0, ic_R 1 s 0), (1, ic_R 1 s1 0), (2, ic_I (x2 + 1))] rfl rfl (by first | rfl | decide) (by decide) (And.intro (Or.inr (And.intro rfl rfl)) (And.intro (Or.inr (And.intro rfl rfl)) (And.intro (Or.inl rfl) trivial))) ?_
        refine ev_goto (a := 1) (b := 17) 63 rfl rfl ?_
        refine ev_fw (lv' := [(0, ic_R 1 s 0), (1, ic_R 1 s1 0), (2, ic_I (x2 + 1))]) ?_ (And.intro rfl (And.intro rfl (And.intro rfl trivial)))
        exact ih (x2 + 1) g1002 _ h _ _ hq
      · replace h := ic_moS h
        have k1007 := (ic_gdE h).1
        replace h := (ic_gdE h).2
        refine ev_ifnull0 (a := 1) (b := 10) (show (3 : Nat) ≠ 26 by decide) rfl ?_
        refine ev_aload_n (a := 1) (b := 11) rfl rfl ?_
        refine ev_aload_n (a := 1) (b := 12) rfl rfl ?_
        refine ev_iload_n (a := 1) (b := 13) rfl rfl ?_
        obtain ⟨v1010, g1008, e1009, h⟩ := ic_b2E h
        refine ev_ivO (a := 1) (b := 14) [ic_I x2] rfl okX2_thingAt rfl lmX2_46 rfl (rc1 hs1) (Nat.le_of_ble_eq_true rfl) (eX2_thingAt e1009) (Nat.le_of_ble_eq_true rfl) rfl ?_
        obtain ⟨g1011, e1012, h⟩ := ic_b1E h
        refine ev_ivV (a := 1) (b := 15) [ic_O 3 v1010] rfl okX4_match rfl lmX2_50 rfl (rc3 (ic_vks (C := 3) k1007) (ic_vkt (C := 3) k1007)) (Nat.le_of_ble_eq_true rfl) (eX4_match e1012) (Nat.le_of_ble_eq_true rfl) rfl ?_
        refine ev_iinc (a := 1) (b := 16) (x2 + 1) [(0, ic_R 1 s 0), (1, ic_R 1 s1 0), (2, ic_I (x2 + 1))] rfl rfl (by first | rfl | decide) (by decide) (And.intro (Or.inr (And.intro rfl rfl)) (And.intro (Or.inr (And.intro rfl rfl)) (And.intro (Or.inl rfl) trivial))) ?_
        refine ev_goto (a := 1) (b := 17) 63 rfl rfl ?_
        refine ev_fw (lv' := [(0, ic_R 1 s 0), (1, ic_R 1 s1 0), (2, ic_I (x2 + 1))]) ?_ (And.intro rfl (And.intro rfl (And.intro rfl trivial)))
        exact ih (x2 + 1) g1011 _ h _ _ hq
set_option maxRecDepth 20000 in
theorem tX2_match_98 {s : Nat} (hs : s < 3) {s1 : Nat} (hs1 : s1 < 3) : ∀ (n : Nat) (x2 : Int32) (g : ic_S) (q : Unit × ic_S), lX2_match_98 s s1 n x2 g = some q → ∀ (r : Option ic_V) (g' : ic_S), ic_Ev mX2_match 120 [] [] q.2 r g' → ic_Ev mX2_match 98 [(0, ic_R 1 s 0), (1, ic_R 1 s1 0), (2, ic_I x2)] [] g r g' := by
  intro n
  induction n with
  | zero => intro x2 g q h; cases h
  | succ n ih =>
    intro x2 g q h r g' hq
    rw [lX2_match_98] at h
    refine ev_iload_n (a := 1) (b := 20) rfl rfl ?_
    refine ev_bipush (a := 1) (b := 21) 10 rfl (by decide) ?_
    refine ev_icge (a := 1) (b := 22) 120 rfl rfl (fun c1001 => ?_) (fun c1001 => ?_)
    · have h := (if_pos c1001).symm.trans h
      obtain rfl := ic_s1 h
      exact ev_fw (lv' := []) hq trivial
    · have h := (if_neg c1001).symm.trans h
      refine ev_aload_n (a := 1) (b := 23) rfl rfl ?_
      refine ev_iload_n (a := 1) (b := 24) rfl rfl ?_
      refine ev_aload_n (a := 1) (b := 25) rfl rfl ?_
      refine ev_iload_n (a := 1) (b := 26) rfl rfl ?_
      obtain ⟨v1004, g1002, e1003, h⟩ := ic_b2E h
      refine ev_ivI (a := 1) (b := 27) [ic_I x2] rfl okX2_spotTold rfl lmX2_54 rfl (rc1 hs1) (Nat.le_of_ble_eq_true rfl) (eX2_spotTold e1003) (Nat.le_of_ble_eq_true rfl) rfl ?_
      obtain ⟨g1005, e1006, h⟩ := ic_b1E h
      refine ev_ivV (a := 1) (b := 28) [ic_I x2, ic_I v1004] rfl okX2_putSpot rfl lmX2_58 rfl (rc1 hs) (Nat.le_of_ble_eq_true rfl) (eX2_putSpot e1006) (Nat.le_of_ble_eq_true rfl) rfl ?_
      refine ev_iinc (a := 1) (b := 29) (x2 + 1) [(0, ic_R 1 s 0), (1, ic_R 1 s1 0), (2, ic_I (x2 + 1))] rfl rfl (by first | rfl | decide) (by decide) (And.intro (Or.inr (And.intro rfl rfl)) (And.intro (Or.inr (And.intro rfl rfl)) (And.intro (Or.inl rfl) trivial))) ?_
      refine ev_goto (a := 1) (b := 30) 98 rfl rfl ?_
      refine ev_fw (lv' := [(0, ic_R 1 s 0), (1, ic_R 1 s1 0), (2, ic_I (x2 + 1))]) ?_ (And.intro rfl (And.intro rfl (And.intro rfl trivial)))
      exact ih (x2 + 1) g1005 _ h _ _ hq
set_option maxRecDepth 20000 in
theorem eX2_match {s : Nat} {o1 : Option (Nat × Nat)} {g g' : ic_S} (h : fX2_match s o1 g = some g') : ic_Ev mX2_match 0 (ic_ag 0 [ic_R 1 s 0, ic_O 1 o1]) [] g (none) g' := by
  unfold fX2_match at h
  obtain ⟨hs, h⟩ := ic_gdE h
  have hs : s < 3 := Nat.le_of_ble_eq_true hs
  change ic_Ev mX2_match 0 [(0, ic_R 1 s 0), (1, ic_O 1 o1)] [] g _ _
  refine ev_aload_n (a := 0) (b := 0) rfl rfl ?_
  rcases o1 with _ | ⟨s1, t2⟩
  · replace h := ic_moN h
    refine ev_ifnonnull1 (a := 0) (b := 1) rfl ?_
    obtain rfl := ic_s1 h
    exact ev_return (a := 0) (b := 2) rfl rfl
  · replace h := ic_moS h
    have k3 := (ic_gdE h).1
    replace h := (ic_gdE h).2
    have ht0 : t2 < 1 := ic_vkt (C := 1) k3
    have hzk3 := h
    obtain rfl : t2 = 0 := by omega
    have h := hzk3
    refine ev_ifnonnull0 (a := 0) (b := 1) 5 (show (1 : Nat) ≠ 26 by decide) rfl rfl ?_
    refine ev_aload_n (a := 0) (b := 3) rfl rfl ?_
    refine ev_aload_n (a := 0) (b := 4) rfl rfl ?_
    refine ev_get (a := 0) (b := 5) 2 0 rfl rfl (Nat.le_of_ble_eq_true rfl) lfX2_9 (gX2_cell (ic_vks (C := 1) k3)) ?_
    obtain ⟨g4, eg4, h⟩ := ic_letE h
    refine ev_put (a := 0) (b := 6) 2 0 rfl rfl (Nat.le_of_ble_eq_true rfl) lfX2_9 rfl (pX2_cell hs eg4) ?_
    refine ev_aload_n (a := 0) (b := 7) rfl rfl ?_
    refine ev_aload_n (a := 0) (b := 8) rfl rfl ?_
    refine ev_get (a := 0) (b := 9) 2 1 rfl rfl (Nat.le_of_ble_eq_true rfl) lfX2_15 (gX2_way (ic_vks (C := 1) k3)) ?_
    obtain ⟨g5, eg5, h⟩ := ic_letE h
    refine ev_put (a := 0) (b := 10) 2 1 rfl rfl (Nat.le_of_ble_eq_true rfl) lfX2_15 rfl (pX2_way hs eg5) ?_
    refine ev_aload_n (a := 0) (b := 11) rfl rfl ?_
    refine ev_aload_n (a := 0) (b := 12) rfl rfl ?_
    refine ev_get (a := 0) (b := 13) 2 2 rfl rfl (Nat.le_of_ble_eq_true rfl) lfX2_18 (gX2_pace (ic_vks (C := 1) k3)) ?_
    obtain ⟨g6, eg6, h⟩ := ic_letE h
    refine ev_put (a := 0) (b := 14) 2 2 rfl rfl (Nat.le_of_ble_eq_true rfl) lfX2_18 rfl (pX2_pace hs eg6) ?_
    refine ev_aload_n (a := 0) (b := 15) rfl rfl ?_
    refine ev_aload_n (a := 0) (b := 16) rfl rfl ?_
    refine ev_get (a := 0) (b := 17) 2 3 rfl rfl (Nat.le_of_ble_eq_true rfl) lfX2_21 (gX2_loud (ic_vks (C := 1) k3)) ?_
    obtain ⟨g7, eg7, h⟩ := ic_letE h
    refine ev_put (a := 0) (b := 18) 2 3 rfl rfl (Nat.le_of_ble_eq_true rfl) lfX2_21 rfl (pX2_loud hs eg7) ?_
    refine ev_aload_n (a := 0) (b := 19) rfl rfl ?_
    refine ev_aload_n (a := 0) (b := 20) rfl rfl ?_
    refine ev_get (a := 0) (b := 21) 2 4 rfl rfl (Nat.le_of_ble_eq_true rfl) lfX2_24 (gX2_callNumber (ic_vks (C := 1) k3)) ?_
    obtain ⟨g8, eg8, h⟩ := ic_letE h
    refine ev_put (a := 0) (b := 22) 2 4 rfl rfl (Nat.le_of_ble_eq_true rfl) lfX2_24 rfl (pX2_callNumber hs eg8) ?_
    refine ev_aload_n (a := 0) (b := 23) rfl rfl ?_
    refine ev_aload_n (a := 0) (b := 24) rfl rfl ?_
    refine ev_get (a := 0) (b := 25) 2 5 rfl rfl (Nat.le_of_ble_eq_true rfl) lfX2_27 (gX2_z (ic_vks (C := 1) k3)) ?_
    obtain ⟨g9, eg9, h⟩ := ic_letE h
    refine ev_put (a := 0) (b := 26) 2 5 rfl rfl (Nat.le_of_ble_eq_true rfl) lfX2_27 rfl (pX2_z hs eg9) ?_
    refine ev_aload_n (a := 0) (b := 27) rfl rfl ?_
    refine ev_aload_n (a := 0) (b := 28) rfl rfl ?_
    refine ev_get (a := 0) (b := 29) 2 6 rfl rfl (Nat.le_of_ble_eq_true rfl) lfX2_30 (gX2_made (ic_vks (C := 1) k3)) ?_
    obtain ⟨g10, eg10, h⟩ := ic_letE h
    refine ev_put (a := 0) (b := 30) 2 6 rfl rfl (Nat.le_of_ble_eq_true rfl) lfX2_30 rfl (pX2_made hs eg10) ?_
    refine ev_iconst (a := 0) (b := 31) 0 rfl (by decide) ?_
    refine ev_istore_n (a := 1) (b := 0) [(0, ic_R 1 s 0), (1, ic_R 1 s1 0), (2, ic_I 0)] rfl (by decide) (And.intro (Or.inr (And.intro rfl rfl)) (And.intro (Or.inr (And.intro rfl rfl)) (And.intro (Or.inl rfl) trivial))) ?_
    refine ev_fw (lv' := [(0, ic_R 1 s 0), (1, ic_R 1 s1 0), (2, ic_I 0)]) ?_ (And.intro rfl (And.intro rfl (And.intro rfl trivial)))
    obtain ⟨y11, g12, e13, h⟩ := ic_b2E h
    refine tX2_match_63 hs (ic_vks (C := 1) k3) 1000 0 g10 _ e13 _ _ ?_
    change ic_Ev mX2_match 96 [(0, ic_R 1 s 0), (1, ic_R 1 s1 0)] [] g12 _ _
    refine ev_iconst (a := 1) (b := 18) 0 rfl (by decide) ?_
    refine ev_istore_n (a := 1) (b := 19) [(0, ic_R 1 s 0), (1, ic_R 1 s1 0), (2, ic_I 0)] rfl (by decide) (And.intro (Or.inr (And.intro rfl rfl)) (And.intro (Or.inr (And.intro rfl rfl)) (And.intro (Or.inl rfl) trivial))) ?_
    refine ev_fw (lv' := [(0, ic_R 1 s 0), (1, ic_R 1 s1 0), (2, ic_I 0)]) ?_ (And.intro rfl (And.intro rfl (And.intro rfl trivial)))
    obtain ⟨y14, g15, e16, h⟩ := ic_b2E h
    refine tX2_match_98 hs (ic_vks (C := 1) k3) 1000 0 g12 _ e16 _ _ ?_
    change ic_Ev mX2_match 120 [] [] g15 _ _
    obtain rfl := ic_s1 h
    exact ev_return (a := 1) (b := 31) rfl rfl
set_option maxRecDepth 20000 in
theorem eX2_cartTold {s : Nat} {x1 : Int32} {g g' : ic_S} {v : Int32} (h : fX2_cartTold s x1 g = some (v, g')) : ic_Ev mX2_cartTold 0 (ic_ag 0 [ic_R 1 s 0, ic_I x1]) [] g (some (ic_I v)) g' := by
  unfold fX2_cartTold at h
  obtain ⟨hs, h⟩ := ic_gdE h
  have hs : s < 3 := Nat.le_of_ble_eq_true hs
  change ic_Ev mX2_cartTold 0 [(0, ic_R 1 s 0), (1, ic_I x1)] [] g _ _
  refine ev_iload_n (a := 0) (b := 0) rfl rfl ?_
  rcases Decidable.em (x1 = 0) with c1 | c1
  · have h := (if_pos c1).symm.trans h
    refine ev_tsw1 (a := 0) (b := 1) 0 (31) 32 rfl c1 (by decide) (by decide) rfl rfl ?_
    refine ev_aload_n (a := 0) (b := 2) rfl rfl ?_
    refine ev_get (a := 0) (b := 3) 2 0 rfl rfl (Nat.le_of_ble_eq_true rfl) lfX2_9 (gX2_cell hs) ?_
    obtain ⟨rfl, rfl⟩ := ic_s2 h
    exact ev_ireturn (a := 0) (b := 4) rfl rfl rfl
  · have h := (if_neg c1).symm.trans h
    rcases Decidable.em (x1 = 1) with c2 | c2
    · have h := (if_pos c2).symm.trans h
      refine ev_tsw1 (a := 0) (b := 1) 1 (36) 37 rfl c2 (by decide) (by decide) rfl rfl ?_
      refine ev_aload_n (a := 0) (b := 5) rfl rfl ?_
      refine ev_get (a := 0) (b := 6) 2 1 rfl rfl (Nat.le_of_ble_eq_true rfl) lfX2_15 (gX2_way hs) ?_
      obtain ⟨rfl, rfl⟩ := ic_s2 h
      exact ev_ireturn (a := 0) (b := 7) rfl rfl rfl
    · have h := (if_neg c2).symm.trans h
      rcases Decidable.em (x1 = 2) with c3 | c3
      · have h := (if_pos c3).symm.trans h
        refine ev_tsw1 (a := 0) (b := 1) 2 (41) 42 rfl c3 (by decide) (by decide) rfl rfl ?_
        refine ev_aload_n (a := 0) (b := 8) rfl rfl ?_
        refine ev_get (a := 0) (b := 9) 2 2 rfl rfl (Nat.le_of_ble_eq_true rfl) lfX2_18 (gX2_pace hs) ?_
        obtain ⟨rfl, rfl⟩ := ic_s2 h
        exact ev_ireturn (a := 0) (b := 10) rfl rfl rfl
      · have h := (if_neg c3).symm.trans h
        rcases Decidable.em (x1 = 3) with c4 | c4
        · have h := (if_pos c4).symm.trans h
          refine ev_tsw1 (a := 0) (b := 1) 3 (46) 47 rfl c4 (by decide) (by decide) rfl rfl ?_
          refine ev_aload_n (a := 0) (b := 11) rfl rfl ?_
          refine ev_get (a := 0) (b := 12) 2 3 rfl rfl (Nat.le_of_ble_eq_true rfl) lfX2_21 (gX2_loud hs) ?_
          obtain ⟨rfl, rfl⟩ := ic_s2 h
          exact ev_ireturn (a := 0) (b := 13) rfl rfl rfl
        · have h := (if_neg c4).symm.trans h
          refine ev_tsw0 (a := 0) (b := 1) [0, 1, 2, 3] 52 rfl (List.forall_mem_cons.mpr ⟨c1, List.forall_mem_cons.mpr ⟨c2, List.forall_mem_cons.mpr ⟨c3, List.forall_mem_cons.mpr ⟨c4, fun _ hh => absurd hh List.not_mem_nil⟩⟩⟩⟩) (by decide) (by decide) rfl ?_
          refine ev_iconst (a := 0) (b := 14) (-1) rfl (by decide) ?_
          obtain ⟨rfl, rfl⟩ := ic_s2 h
          exact ev_ireturn (a := 0) (b := 15) rfl rfl rfl
set_option maxRecDepth 20000 in
theorem eX2_hasThing {s : Nat} {x1 : Int32} {g g' : ic_S} {v : Int32} (h : fX2_hasThing s x1 g = some (v, g')) : ic_Ev mX2_hasThing 0 (ic_ag 0 [ic_R 1 s 0, ic_I x1]) [] g (some (ic_I v)) g' := by
  unfold fX2_hasThing at h
  obtain ⟨hs, h⟩ := ic_gdE h
  have hs : s < 3 := Nat.le_of_ble_eq_true hs
  change ic_Ev mX2_hasThing 0 [(0, ic_R 1 s 0), (1, ic_I x1)] [] g _ _
  refine ev_iload_n (a := 0) (b := 0) rfl rfl ?_
  refine ev_iflt (a := 0) (b := 1) 16 rfl rfl (fun c1 => ?_) (fun c1 => ?_)
  · have h := (if_pos c1).symm.trans h
    refine ev_iconst (a := 0) (b := 8) 0 rfl (by decide) ?_
    obtain ⟨rfl, rfl⟩ := ic_s2 h
    exact ev_ireturn (a := 0) (b := 9) rfl rfl rfl
  · have h := (if_neg c1).symm.trans h
    refine ev_iload_n (a := 0) (b := 2) rfl rfl ?_
    refine ev_aload_n (a := 0) (b := 3) rfl rfl ?_
    refine ev_get (a := 0) (b := 4) 2 6 rfl rfl (Nat.le_of_ble_eq_true rfl) lfX2_30 (gX2_made hs) ?_
    refine ev_icge (a := 0) (b := 5) 16 rfl rfl (fun c2 => ?_) (fun c2 => ?_)
    · have h := (if_pos c2).symm.trans h
      refine ev_iconst (a := 0) (b := 8) 0 rfl (by decide) ?_
      obtain ⟨rfl, rfl⟩ := ic_s2 h
      exact ev_ireturn (a := 0) (b := 9) rfl rfl rfl
    · have h := (if_neg c2).symm.trans h
      refine ev_iconst (a := 0) (b := 6) 1 rfl (by decide) ?_
      refine ev_goto (a := 0) (b := 7) 17 rfl rfl ?_
      obtain ⟨rfl, rfl⟩ := ic_s2 h
      exact ev_ireturn (a := 0) (b := 9) rfl rfl rfl
set_option maxRecDepth 20000 in
theorem eX4_feels {s : Nat} {t : Nat} {x1 : Int32} {x2 : Int32} {x3 : Int32} {g g' : ic_S} {v : Int32} (h : fX4_feels s t x1 x2 x3 g = some (v, g')) : ic_Ev mX4_feels 0 (ic_ag 0 [ic_R 3 s t, ic_I x1, ic_I x2, ic_I x3]) [] g (some (ic_I v)) g' := by
  unfold fX4_feels at h
  obtain ⟨hs, h⟩ := ic_gdE h
  have hs : s < 3 := Nat.le_of_ble_eq_true hs
  obtain ⟨ht, h⟩ := ic_gdE h
  have ht : t < 8 := Nat.le_of_ble_eq_true ht
  change ic_Ev mX4_feels 0 [(0, ic_R 3 s t), (1, ic_I x1), (2, ic_I x2), (3, ic_I x3)] [] g _ _
  refine ev_iload_n (a := 0) (b := 0) rfl rfl ?_
  refine ev_iload_n (a := 0) (b := 1) rfl rfl ?_
  refine ev_isub (a := 0) (b := 2) rfl ?_
  refine ev_iconst (a := 0) (b := 3) 0 rfl (by decide) ?_
  refine ev_mmax (a := 0) (b := 4) rfl lmX4_48 ok_mmax rfl (Nat.le_of_ble_eq_true rfl) ?_
  obtain ⟨y1, ey1, h⟩ := ic_letE h
  refine ev_topI ey1 ?_
  refine ev_istore (a := 0) (b := 5) [(0, ic_R 3 s t), (1, ic_I x1), (2, ic_I x2), (3, ic_I x3), (4, ic_I y1)] rfl (by decide) (And.intro (Or.inr (And.intro rfl rfl)) (And.intro (Or.inr (And.intro rfl rfl)) (And.intro (Or.inr (And.intro rfl rfl)) (And.intro (Or.inr (And.intro rfl rfl)) (And.intro (Or.inl rfl) trivial))))) ?_
  refine ev_iconst (a := 0) (b := 6) 2 rfl (by decide) ?_
  refine ev_iload (a := 0) (b := 7) rfl rfl ?_
  refine ev_imul (a := 0) (b := 8) rfl ?_
  refine ev_iload_n (a := 0) (b := 9) rfl rfl ?_
  refine ev_iconst (a := 0) (b := 10) 3 rfl (by decide) ?_
  refine ev_icgt (a := 0) (b := 11) 22 rfl rfl (fun c2 => ?_) (fun c2 => ?_)
  · have h := (if_pos c2).symm.trans h
    refine ev_iconst (a := 0) (b := 14) 0 rfl (by decide) ?_
    refine ev_iadd (a := 0) (b := 15) rfl ?_
    refine ev_istore (a := 0) (b := 16) [(0, ic_R 3 s t), (1, ic_I x1), (2, ic_I x2), (3, ic_I x3), (4, ic_I y1), (5, ic_I ((2 * y1) + 0))] rfl (by decide) (And.intro (Or.inr (And.intro rfl rfl)) (And.intro (Or.inr (And.intro rfl rfl)) (And.intro (Or.inr (And.intro rfl rfl)) (And.intro (Or.inr (And.intro rfl rfl)) (And.intro (Or.inr (And.intro rfl rfl)) (And.intro (Or.inl rfl) trivial)))))) ?_
    refine ev_iload (a := 0) (b := 17) rfl rfl ?_
    refine ev_iconst (a := 0) (b := 18) 3 rfl (by decide) ?_
    refine ev_idiv (a := 0) (b := 19) rfl (by decide) ?_
    refine ev_istore (a := 0) (b := 20) [(0, ic_R 3 s t), (1, ic_I x1), (2, ic_I x2), (3, ic_I x3), (4, ic_I y1), (5, ic_I ((2 * y1) + 0)), (6, ic_I (y1 / 3))] rfl (by decide) (And.intro (Or.inr (And.intro rfl rfl)) (And.intro (Or.inr (And.intro rfl rfl)) (And.intro (Or.inr (And.intro rfl rfl)) (And.intro (Or.inr (And.intro rfl rfl)) (And.intro (Or.inr (And.intro rfl rfl)) (And.intro (Or.inr (And.intro rfl rfl)) (And.intro (Or.inl rfl) trivial))))))) ?_
    refine ev_aload_n (a := 0) (b := 21) rfl rfl ?_
    refine ev_get (a := 0) (b := 22) 4 1 rfl rfl (Nat.le_of_ble_eq_true rfl) lfX4_15 (gX4_kind hs ht) ?_
    rcases Decidable.em ((g.1 s (7 + t)) = 1) with c3 | c3
    · have h := (if_pos c3).symm.trans h
      refine ev_tsw1 (a := 0) (b := 23) 1 (40) 76 rfl c3 (by decide) (by decide) rfl rfl ?_
      refine ev_iconst (a := 0) (b := 24) 2 rfl (by decide) ?_
      refine ev_iload (a := 0) (b := 25) rfl rfl ?_
      refine ev_imul (a := 0) (b := 26) rfl ?_
      obtain ⟨rfl, rfl⟩ := ic_s2 h
      exact ev_ireturn (a := 0) (b := 27) rfl rfl rfl
    · have h := (if_neg c3).symm.trans h
      rcases Decidable.em ((g.1 s (7 + t)) = 2) with c4 | c4
      · have h := (if_pos c4).symm.trans h
        refine ev_tsw1 (a := 0) (b := 23) 2 (45) 81 rfl c4 (by decide) (by decide) rfl rfl ?_
        refine ev_iload (a := 0) (b := 28) rfl rfl ?_
        obtain ⟨rfl, rfl⟩ := ic_s2 h
        exact ev_ireturn (a := 0) (b := 29) rfl rfl rfl
      · have h := (if_neg c4).symm.trans h
        rcases Decidable.em ((g.1 s (7 + t)) = 3) with c5 | c5
        · have h := (if_pos c5).symm.trans h
          refine ev_tsw1 (a := 0) (b := 23) 3 (48) 84 rfl c5 (by decide) (by decide) rfl rfl ?_
          refine ev_iload (a := 0) (b := 30) rfl rfl ?_
          obtain ⟨rfl, rfl⟩ := ic_s2 h
          exact ev_ireturn (a := 0) (b := 31) rfl rfl rfl
        · have h := (if_neg c5).symm.trans h
          rcases Decidable.em ((g.1 s (7 + t)) = 4) with c6 | c6
          · have h := (if_pos c6).symm.trans h
            refine ev_tsw1 (a := 0) (b := 23) 4 (51) 87 rfl c6 (by decide) (by decide) rfl rfl ?_
            refine ev_iload (a := 1) (b := 0) rfl rfl ?_
            refine ev_iconst (a := 1) (b := 1) 4 rfl (by decide) ?_
            refine ev_isub (a := 1) (b := 2) rfl ?_
            refine ev_iconst (a := 1) (b := 3) 0 rfl (by decide) ?_
            refine ev_mmax (a := 1) (b := 4) rfl lmX4_48 ok_mmax rfl (Nat.le_of_ble_eq_true rfl) ?_
            obtain ⟨rfl, rfl⟩ := ic_s2 h
            exact ev_ireturn (a := 1) (b := 5) rfl rfl rfl
          · have h := (if_neg c6).symm.trans h
            rcases Decidable.em ((g.1 s (7 + t)) = 5) with c7 | c7
            · have h := (if_pos c7).symm.trans h
              refine ev_tsw1 (a := 0) (b := 23) 5 (60) 96 rfl c7 (by decide) (by decide) rfl rfl ?_
              refine ev_iload_n (a := 1) (b := 6) rfl rfl ?_
              refine ev_iconst (a := 1) (b := 7) 2 rfl (by decide) ?_
              refine ev_irem (a := 1) (b := 8) rfl (by decide) ?_
              refine ev_ifne (a := 1) (b := 9) 106 rfl rfl (fun c9 => ?_) (fun c9 => ?_)
              · have h := (if_neg c9).symm.trans h
                refine ev_iload (a := 1) (b := 12) rfl rfl ?_
                obtain ⟨rfl, rfl⟩ := ic_s2 h
                exact ev_ireturn (a := 1) (b := 13) rfl rfl rfl
              · have h := (if_pos c9).symm.trans h
                refine ev_iload_n (a := 1) (b := 10) rfl rfl ?_
                refine ev_goto (a := 1) (b := 11) 108 rfl rfl ?_
                obtain ⟨rfl, rfl⟩ := ic_s2 h
                exact ev_ireturn (a := 1) (b := 13) rfl rfl rfl
            · have h := (if_neg c7).symm.trans h
              rcases Decidable.em ((g.1 s (7 + t)) = 6) with c8 | c8
              · have h := (if_pos c8).symm.trans h
                refine ev_tsw1 (a := 0) (b := 23) 6 (73) 109 rfl c8 (by decide) (by decide) rfl rfl ?_
                refine ev_iload (a := 1) (b := 14) rfl rfl ?_
                refine ev_iload_n (a := 1) (b := 15) rfl rfl ?_
                refine ev_iadd (a := 1) (b := 16) rfl ?_
                obtain ⟨rfl, rfl⟩ := ic_s2 h
                exact ev_ireturn (a := 1) (b := 17) rfl rfl rfl
              · have h := (if_neg c8).symm.trans h
                refine ev_tsw0 (a := 0) (b := 23) [1, 2, 3, 4, 5, 6] 114 rfl (List.forall_mem_cons.mpr ⟨c3, List.forall_mem_cons.mpr ⟨c4, List.forall_mem_cons.mpr ⟨c5, List.forall_mem_cons.mpr ⟨c6, List.forall_mem_cons.mpr ⟨c7, List.forall_mem_cons.mpr ⟨c8, fun _ hh => absurd hh List.not_mem_nil⟩⟩⟩⟩⟩⟩) (by decide) (by decide) rfl ?_
                refine ev_iload (a := 1) (b := 18) rfl rfl ?_
                obtain ⟨rfl, rfl⟩ := ic_s2 h
                exact ev_ireturn (a := 1) (b := 19) rfl rfl rfl
  · have h := (if_neg c2).symm.trans h
    refine ev_iconst (a := 0) (b := 12) 3 rfl (by decide) ?_
    refine ev_goto (a := 0) (b := 13) 23 rfl rfl ?_
    refine ev_iadd (a := 0) (b := 15) rfl ?_
    refine ev_istore (a := 0) (b := 16) [(0, ic_R 3 s t), (1, ic_I x1), (2, ic_I x2), (3, ic_I x3), (4, ic_I y1), (5, ic_I ((2 * y1) + 3))] rfl (by decide) (And.intro (Or.inr (And.intro rfl rfl)) (And.intro (Or.inr (And.intro rfl rfl)) (And.intro (Or.inr (And.intro rfl rfl)) (And.intro (Or.inr (And.intro rfl rfl)) (And.intro (Or.inr (And.intro rfl rfl)) (And.intro (Or.inl rfl) trivial)))))) ?_
    refine ev_iload (a := 0) (b := 17) rfl rfl ?_
    refine ev_iconst (a := 0) (b := 18) 3 rfl (by decide) ?_
    refine ev_idiv (a := 0) (b := 19) rfl (by decide) ?_
    refine ev_istore (a := 0) (b := 20) [(0, ic_R 3 s t), (1, ic_I x1), (2, ic_I x2), (3, ic_I x3), (4, ic_I y1), (5, ic_I ((2 * y1) + 3)), (6, ic_I (y1 / 3))] rfl (by decide) (And.intro (Or.inr (And.intro rfl rfl)) (And.intro (Or.inr (And.intro rfl rfl)) (And.intro (Or.inr (And.intro rfl rfl)) (And.intro (Or.inr (And.intro rfl rfl)) (And.intro (Or.inr (And.intro rfl rfl)) (And.intro (Or.inr (And.intro rfl rfl)) (And.intro (Or.inl rfl) trivial))))))) ?_
    refine ev_aload_n (a := 0) (b := 21) rfl rfl ?_
    refine ev_get (a := 0) (b := 22) 4 1 rfl rfl (Nat.le_of_ble_eq_true rfl) lfX4_15 (gX4_kind hs ht) ?_
    rcases Decidable.em ((g.1 s (7 + t)) = 1) with c10 | c10
    · have h := (if_pos c10).symm.trans h
      refine ev_tsw1 (a := 0) (b := 23) 1 (40) 76 rfl c10 (by decide) (by decide) rfl rfl ?_
      refine ev_iconst (a := 0) (b := 24) 2 rfl (by decide) ?_
      refine ev_iload (a := 0) (b := 25) rfl rfl ?_
      refine ev_imul (a := 0) (b := 26) rfl ?_
      obtain ⟨rfl, rfl⟩ := ic_s2 h
      exact ev_ireturn (a := 0) (b := 27) rfl rfl rfl
    · have h := (if_neg c10).symm.trans h
      rcases Decidable.em ((g.1 s (7 + t)) = 2) with c11 | c11
      · have h := (if_pos c11).symm.trans h
        refine ev_tsw1 (a := 0) (b := 23) 2 (45) 81 rfl c11 (by decide) (by decide) rfl rfl ?_
        refine ev_iload (a := 0) (b := 28) rfl rfl ?_
        obtain ⟨rfl, rfl⟩ := ic_s2 h
        exact ev_ireturn (a := 0) (b := 29) rfl rfl rfl
      · have h := (if_neg c11).symm.trans h
        rcases Decidable.em ((g.1 s (7 + t)) = 3) with c12 | c12
        · have h := (if_pos c12).symm.trans h
          refine ev_tsw1 (a := 0) (b := 23) 3 (48) 84 rfl c12 (by decide) (by decide) rfl rfl ?_
          refine ev_iload (a := 0) (b := 30) rfl rfl ?_
          obtain ⟨rfl, rfl⟩ := ic_s2 h
          exact ev_ireturn (a := 0) (b := 31) rfl rfl rfl
        · have h := (if_neg c12).symm.trans h
          rcases Decidable.em ((g.1 s (7 + t)) = 4) with c13 | c13
          · have h := (if_pos c13).symm.trans h
            refine ev_tsw1 (a := 0) (b := 23) 4 (51) 87 rfl c13 (by decide) (by decide) rfl rfl ?_
            refine ev_iload (a := 1) (b := 0) rfl rfl ?_
            refine ev_iconst (a := 1) (b := 1) 4 rfl (by decide) ?_
            refine ev_isub (a := 1) (b := 2) rfl ?_
            refine ev_iconst (a := 1) (b := 3) 0 rfl (by decide) ?_
            refine ev_mmax (a := 1) (b := 4) rfl lmX4_48 ok_mmax rfl (Nat.le_of_ble_eq_true rfl) ?_
            obtain ⟨rfl, rfl⟩ := ic_s2 h
            exact ev_ireturn (a := 1) (b := 5) rfl rfl rfl
          · have h := (if_neg c13).symm.trans h
            rcases Decidable.em ((g.1 s (7 + t)) = 5) with c14 | c14
            · have h := (if_pos c14).symm.trans h
              refine ev_tsw1 (a := 0) (b := 23) 5 (60) 96 rfl c14 (by decide) (by decide) rfl rfl ?_
              refine ev_iload_n (a := 1) (b := 6) rfl rfl ?_
              refine ev_iconst (a := 1) (b := 7) 2 rfl (by decide) ?_
              refine ev_irem (a := 1) (b := 8) rfl (by decide) ?_
              refine ev_ifne (a := 1) (b := 9) 106 rfl rfl (fun c16 => ?_) (fun c16 => ?_)
              · have h := (if_neg c16).symm.trans h
                refine ev_iload (a := 1) (b := 12) rfl rfl ?_
                obtain ⟨rfl, rfl⟩ := ic_s2 h
                exact ev_ireturn (a := 1) (b := 13) rfl rfl rfl
              · have h := (if_pos c16).symm.trans h
                refine ev_iload_n (a := 1) (b := 10) rfl rfl ?_
                refine ev_goto (a := 1) (b := 11) 108 rfl rfl ?_
                obtain ⟨rfl, rfl⟩ := ic_s2 h
                exact ev_ireturn (a := 1) (b := 13) rfl rfl rfl
            · have h := (if_neg c14).symm.trans h
              rcases Decidable.em ((g.1 s (7 + t)) = 6) with c15 | c15
              · have h := (if_pos c15).symm.trans h
                refine ev_tsw1 (a := 0) (b := 23) 6 (73) 109 rfl c15 (by decide) (by decide) rfl rfl ?_
                refine ev_iload (a := 1) (b := 14) rfl rfl ?_
                refine ev_iload_n (a := 1) (b := 15) rfl rfl ?_
                refine ev_iadd (a := 1) (b := 16) rfl ?_
                obtain ⟨rfl, rfl⟩ := ic_s2 h
                exact ev_ireturn (a := 1) (b := 17) rfl rfl rfl
              · have h := (if_neg c15).symm.trans h
                refine ev_tsw0 (a := 0) (b := 23) [1, 2, 3, 4, 5, 6] 114 rfl (List.forall_mem_cons.mpr ⟨c10, List.forall_mem_cons.mpr ⟨c11, List.forall_mem_cons.mpr ⟨c12, List.forall_mem_cons.mpr ⟨c13, List.forall_mem_cons.mpr ⟨c14, List.forall_mem_cons.mpr ⟨c15, fun _ hh => absurd hh List.not_mem_nil⟩⟩⟩⟩⟩⟩) (by decide) (by decide) rfl ?_
                refine ev_iload (a := 1) (b := 18) rfl rfl ?_
                obtain ⟨rfl, rfl⟩ := ic_s2 h
                exact ev_ireturn (a := 1) (b := 19) rfl rfl rfl
set_option maxRecDepth 20000 in
theorem tX2_thingsAt_14 {s : Nat} (hs : s < 3) {x1 : Int32} : ∀ (n : Nat) (x2 : Int32) (x5 : Int32) (g : ic_S) (q : (Int32) × ic_S), lX2_thingsAt_14 s x1 n x2 x5 g = some q → ∀ (r : Option ic_V) (g' : ic_S), ic_Ev mX2_thingsAt 77 [(2, ic_I q.1)] [] q.2 r g' → ic_Ev mX2_thingsAt 14 [(0, ic_R 1 s 0), (1, ic_I x1), (2, ic_I x2), (3, ic_R 2 s 0), (4, ic_I 8), (5, ic_I x5)] [] g r g' := by
  intro n
  induction n with
  | zero => intro x2 x5 g q h; cases h
  | succ n ih =>
    intro x2 x5 g q h r g' hq
    rw [lX2_thingsAt_14] at h
    refine ev_iload (a := 0) (b := 10) rfl rfl ?_
    refine ev_iload (a := 0) (b := 11) rfl rfl ?_
    refine ev_icge (a := 0) (b := 12) 77 rfl rfl (fun c1001 => ?_) (fun c1001 => ?_)
    · have h := (if_pos c1001).symm.trans h
      obtain rfl := ic_s1 h
      exact ev_fw (lv' := [(2, ic_I x2)]) hq (And.intro rfl trivial)
    · have h := (if_neg c1001).symm.trans h
      refine ev_aload_n (a := 0) (b := 13) rfl rfl ?_
      refine ev_iload (a := 0) (b := 14) rfl rfl ?_
      obtain ⟨h1002, h⟩ := ic_gdE h
      refine ev_aald (a := 0) (b := 15) rfl (a2 hs) h1002 (show (3 : Nat) ≠ 26 by decide) ?_
      refine ev_astore (a := 0) (b := 16) [(0, ic_R 1 s 0), (1, ic_I x1), (2, ic_I x2), (3, ic_R 2 s 0), (4, ic_I 8), (5, ic_I x5), (6, ic_R 3 s (Int32.toNatClampNeg x5))] rfl (by decide) (And.intro (Or.inr (And.intro rfl rfl)) (And.intro (Or.inr (And.intro rfl rfl)) (And.intro (Or.inr (And.intro rfl rfl)) (And.intro (Or.inr (And.intro rfl rfl)) (And.intro (Or.inr (And.intro rfl rfl)) (And.intro (Or.inr (And.intro rfl rfl)) (And.intro (Or.inl rfl) trivial))))))) ?_
      refine ev_aload (a := 0) (b := 17) rfl rfl ?_
      refine ev_ifnull0 (a := 0) (b := 18) (show (3 : Nat) ≠ 26 by decide) rfl ?_
      refine ev_aload (a := 0) (b := 19) rfl rfl ?_
      refine ev_get (a := 0) (b := 20) 4 0 rfl rfl (Nat.le_of_ble_eq_true rfl) lfX2_95 (gX4_number hs (ic_inl h1002)) ?_
      refine ev_aload_n (a := 0) (b := 21) rfl rfl ?_
      refine ev_get (a := 0) (b := 22) 2 6 rfl rfl (Nat.le_of_ble_eq_true rfl) lfX2_30 (gX2_made hs) ?_
      refine ev_icge (a := 0) (b := 23) 71 rfl rfl (fun c1003 => ?_) (fun c1003 => ?_)
      · have h := (if_pos c1003).symm.trans h
        refine ev_iinc (a := 1) (b := 6) (x5 + 1) [(0, ic_R 1 s 0), (1, ic_I x1), (2, ic_I x2), (3, ic_R 2 s 0), (4, ic_I 8), (5, ic_I (x5 + 1))] rfl rfl (by first | rfl | decide) (by decide) (And.intro (Or.inr (And.intro rfl rfl)) (And.intro (Or.inr (And.intro rfl rfl)) (And.intro (Or.inr (And.intro rfl rfl)) (And.intro (Or.inr (And.intro rfl rfl)) (And.intro (Or.inr (And.intro rfl rfl)) (And.intro (Or.inl rfl) trivial)))))) ?_
        refine ev_goto (a := 1) (b := 7) 14 rfl rfl ?_
        refine ev_fw (lv' := [(0, ic_R 1 s 0), (1, ic_I x1), (2, ic_I x2), (3, ic_R 2 s 0), (4, ic_I 8), (5, ic_I (x5 + 1))]) ?_ (And.intro rfl (And.intro rfl (And.intro rfl (And.intro rfl (And.intro rfl (And.intro rfl trivial))))))
        exact ih x2 (x5 + 1) g _ h _ _ hq
      · have h := (if_neg c1003).symm.trans h
        refine ev_aload (a := 0) (b := 24) rfl rfl ?_
        refine ev_get (a := 0) (b := 25) 4 7 rfl rfl (Nat.le_of_ble_eq_true rfl) lfX2_106 (gX4_isTaken hs (ic_inl h1002)) ?_
        refine ev_ifne (a := 0) (b := 26) 71 rfl rfl (fun c1004 => ?_) (fun c1004 => ?_)
        · have h := (if_neg c1004).symm.trans h
          refine ev_iinc (a := 1) (b := 6) (x5 + 1) [(0, ic_R 1 s 0), (1, ic_I x1), (2, ic_I x2), (3, ic_R 2 s 0), (4, ic_I 8), (5, ic_I (x5 + 1))] rfl rfl (by first | rfl | decide) (by decide) (And.intro (Or.inr (And.intro rfl rfl)) (And.intro (Or.inr (And.intro rfl rfl)) (And.intro (Or.inr (And.intro rfl rfl)) (And.intro (Or.inr (And.intro rfl rfl)) (And.intro (Or.inr (And.intro rfl rfl)) (And.intro (Or.inl rfl) trivial)))))) ?_
          refine ev_goto (a := 1) (b := 7) 14 rfl rfl ?_
          refine ev_fw (lv' := [(0, ic_R 1 s 0), (1, ic_I x1), (2, ic_I x2), (3, ic_R 2 s 0), (4, ic_I 8), (5, ic_I (x5 + 1))]) ?_ (And.intro rfl (And.intro rfl (And.intro rfl (And.intro rfl (And.intro rfl (And.intro rfl trivial))))))
          exact ih x2 (x5 + 1) g _ h _ _ hq
        · have h := (if_pos c1004).symm.trans h
          refine ev_aload (a := 0) (b := 27) rfl rfl ?_
          refine ev_get (a := 0) (b := 28) 4 2 rfl rfl (Nat.le_of_ble_eq_true rfl) lfX2_69 (gX4_cell hs (ic_inl h1002)) ?_
          refine ev_iload_n (a := 0) (b := 29) rfl rfl ?_
          refine ev_icne (a := 0) (b := 30) 71 rfl rfl (fun c1005 => ?_) (fun c1005 => ?_)
          · have h := (if_neg c1005).symm.trans h
            refine ev_iinc (a := 1) (b := 6) (x5 + 1) [(0, ic_R 1 s 0), (1, ic_I x1), (2, ic_I x2), (3, ic_R 2 s 0), (4, ic_I 8), (5, ic_I (x5 + 1))] rfl rfl (by first | rfl | decide) (by decide) (And.intro (Or.inr (And.intro rfl rfl)) (And.intro (Or.inr (And.intro rfl rfl)) (And.intro (Or.inr (And.intro rfl rfl)) (And.intro (Or.inr (And.intro rfl rfl)) (And.intro (Or.inr (And.intro rfl rfl)) (And.intro (Or.inl rfl) trivial)))))) ?_
            refine ev_goto (a := 1) (b := 7) 14 rfl rfl ?_
            refine ev_fw (lv' := [(0, ic_R 1 s 0), (1, ic_I x1), (2, ic_I x2), (3, ic_R 2 s 0), (4, ic_I 8), (5, ic_I (x5 + 1))]) ?_ (And.intro rfl (And.intro rfl (And.intro rfl (And.intro rfl (And.intro rfl (And.intro rfl trivial))))))
            exact ih x2 (x5 + 1) g _ h _ _ hq
          · have h := (if_pos c1005).symm.trans h
            refine ev_iload_n (a := 0) (b := 31) rfl rfl ?_
            refine ev_iconst (a := 1) (b := 0) 1 rfl (by decide) ?_
            refine ev_aload (a := 1) (b := 1) rfl rfl ?_
            refine ev_get (a := 1) (b := 2) 4 0 rfl rfl (Nat.le_of_ble_eq_true rfl) lfX2_95 (gX4_number hs (ic_inl h1002)) ?_
            refine ev_ishl (a := 1) (b := 3) rfl ?_
            refine ev_ior (a := 1) (b := 4) rfl ?_
            obtain ⟨y1006, ey1006, h⟩ := ic_letE h
            refine ev_topI ey1006 ?_
            refine ev_istore_n (a := 1) (b := 5) [(0, ic_R 1 s 0), (1, ic_I x1), (2, ic_I y1006), (3, ic_R 2 s 0), (4, ic_I 8), (5, ic_I x5)] rfl (by decide) (And.intro (Or.inr (And.intro rfl rfl)) (And.intro (Or.inr (And.intro rfl rfl)) (And.intro (Or.inl rfl) (And.intro (Or.inr (And.intro rfl rfl)) (And.intro (Or.inr (And.intro rfl rfl)) (And.intro (Or.inr (And.intro rfl rfl)) trivial)))))) ?_
            refine ev_iinc (a := 1) (b := 6) (x5 + 1) [(0, ic_R 1 s 0), (1, ic_I x1), (2, ic_I y1006), (3, ic_R 2 s 0), (4, ic_I 8), (5, ic_I (x5 + 1))] rfl rfl (by first | rfl | decide) (by decide) (And.intro (Or.inr (And.intro rfl rfl)) (And.intro (Or.inr (And.intro rfl rfl)) (And.intro (Or.inr (And.intro rfl rfl)) (And.intro (Or.inr (And.intro rfl rfl)) (And.intro (Or.inr (And.intro rfl rfl)) (And.intro (Or.inl rfl) trivial)))))) ?_
            refine ev_goto (a := 1) (b := 7) 14 rfl rfl ?_
            refine ev_fw (lv' := [(0, ic_R 1 s 0), (1, ic_I x1), (2, ic_I y1006), (3, ic_R 2 s 0), (4, ic_I 8), (5, ic_I (x5 + 1))]) ?_ (And.intro rfl (And.intro rfl (And.intro rfl (And.intro rfl (And.intro rfl (And.intro rfl trivial))))))
            exact ih y1006 (x5 + 1) g _ h _ _ hq
set_option maxRecDepth 20000 in
theorem eX2_thingsAt {s : Nat} {x1 : Int32} {g g' : ic_S} {v : Int32} (h : fX2_thingsAt s x1 g = some (v, g')) : ic_Ev mX2_thingsAt 0 (ic_ag 0 [ic_R 1 s 0, ic_I x1]) [] g (some (ic_I v)) g' := by
  unfold fX2_thingsAt at h
  obtain ⟨hs, h⟩ := ic_gdE h
  have hs : s < 3 := Nat.le_of_ble_eq_true hs
  change ic_Ev mX2_thingsAt 0 [(0, ic_R 1 s 0), (1, ic_I x1)] [] g _ _
  refine ev_iconst (a := 0) (b := 0) 0 rfl (by decide) ?_
  refine ev_istore_n (a := 0) (b := 1) [(0, ic_R 1 s 0), (1, ic_I x1), (2, ic_I 0)] rfl (by decide) (And.intro (Or.inr (And.intro rfl rfl)) (And.intro (Or.inr (And.intro rfl rfl)) (And.intro (Or.inl rfl) trivial))) ?_
  refine ev_aload_n (a := 0) (b := 2) rfl rfl ?_
  refine ev_get (a := 0) (b := 3) 2 7 rfl rfl (Nat.le_of_ble_eq_true rfl) lfX2_35 (gX2_things hs) ?_
  refine ev_astore_n (a := 0) (b := 4) [(0, ic_R 1 s 0), (1, ic_I x1), (2, ic_I 0), (3, ic_R 2 s 0)] rfl (by decide) (And.intro (Or.inr (And.intro rfl rfl)) (And.intro (Or.inr (And.intro rfl rfl)) (And.intro (Or.inr (And.intro rfl rfl)) (And.intro (Or.inl rfl) trivial)))) ?_
  refine ev_aload_n (a := 0) (b := 5) rfl rfl ?_
  refine ev_alenr (a := 0) (b := 6) 8 rfl (a2 hs) (by decide) ?_
  refine ev_istore (a := 0) (b := 7) [(0, ic_R 1 s 0), (1, ic_I x1), (2, ic_I 0), (3, ic_R 2 s 0), (4, ic_I 8)] rfl (by decide) (And.intro (Or.inr (And.intro rfl rfl)) (And.intro (Or.inr (And.intro rfl rfl)) (And.intro (Or.inr (And.intro rfl rfl)) (And.intro (Or.inr (And.intro rfl rfl)) (And.intro (Or.inl rfl) trivial))))) ?_
  refine ev_iconst (a := 0) (b := 8) 0 rfl (by decide) ?_
  refine ev_istore (a := 0) (b := 9) [(0, ic_R 1 s 0), (1, ic_I x1), (2, ic_I 0), (3, ic_R 2 s 0), (4, ic_I 8), (5, ic_I 0)] rfl (by decide) (And.intro (Or.inr (And.intro rfl rfl)) (And.intro (Or.inr (And.intro rfl rfl)) (And.intro (Or.inr (And.intro rfl rfl)) (And.intro (Or.inr (And.intro rfl rfl)) (And.intro (Or.inr (And.intro rfl rfl)) (And.intro (Or.inl rfl) trivial)))))) ?_
  refine ev_fw (lv' := [(0, ic_R 1 s 0), (1, ic_I x1), (2, ic_I 0), (3, ic_R 2 s 0), (4, ic_I 8), (5, ic_I 0)]) ?_ (And.intro rfl (And.intro rfl (And.intro rfl (And.intro rfl (And.intro rfl (And.intro rfl trivial))))))
  obtain ⟨y1, g2, e3, h⟩ := ic_b2E h
  refine tX2_thingsAt_14 (x1 := x1) hs 1000 0 0 g _ e3 _ _ ?_
  change ic_Ev mX2_thingsAt 77 [(2, ic_I y1)] [] g2 _ _
  refine ev_iload_n (a := 1) (b := 8) rfl rfl ?_
  obtain ⟨rfl, rfl⟩ := ic_s2 h
  exact ev_ireturn (a := 1) (b := 9) rfl rfl rfl
set_option maxRecDepth 20000 in
theorem eJ6_bitCount_0f7a4 {x0 : Int32} {g g' : ic_S} {v : Int32} (h : fJ6_bitCount_0f7a4 x0 g = some (v, g')) : ic_Ev mJ6_bitCount_0f7a4 0 (ic_ag 0 [ic_I x0]) [] g (some (ic_I v)) g' := by
  unfold fJ6_bitCount_0f7a4 at h
  change ic_Ev mJ6_bitCount_0f7a4 0 [(0, ic_I x0)] [] g _ _
  refine ev_iload_n (a := 0) (b := 0) rfl rfl ?_
  refine ev_iload_n (a := 0) (b := 1) rfl rfl ?_
  refine ev_iconst (a := 0) (b := 2) 1 rfl (by decide) ?_
  refine ev_iushr (a := 0) (b := 3) rfl ?_
  refine ev_ldc_w (a := 0) (b := 4) 1431655765 rfl lcJ6_265 ?_
  refine ev_iand (a := 0) (b := 5) rfl ?_
  refine ev_isub (a := 0) (b := 6) rfl ?_
  obtain ⟨y1, ey1, h⟩ := ic_letE h
  refine ev_topI ey1 ?_
  refine ev_istore_n (a := 0) (b := 7) [(0, ic_I y1)] rfl (by decide) (And.intro (Or.inl rfl) trivial) ?_
  refine ev_iload_n (a := 0) (b := 8) rfl rfl ?_
  refine ev_ldc_w (a := 0) (b := 9) 858993459 rfl lcJ6_266 ?_
  refine ev_iand (a := 0) (b := 10) rfl ?_
  refine ev_iload_n (a := 0) (b := 11) rfl rfl ?_
  refine ev_iconst (a := 0) (b := 12) 2 rfl (by decide) ?_
  refine ev_iushr (a := 0) (b := 13) rfl ?_
  refine ev_ldc_w (a := 0) (b := 14) 858993459 rfl lcJ6_266 ?_
  refine ev_iand (a := 0) (b := 15) rfl ?_
  refine ev_iadd (a := 0) (b := 16) rfl ?_
  obtain ⟨y2, ey2, h⟩ := ic_letE h
  refine ev_topI ey2 ?_
  refine ev_istore_n (a := 0) (b := 17) [(0, ic_I y2)] rfl (by decide) (And.intro (Or.inl rfl) trivial) ?_
  refine ev_iload_n (a := 0) (b := 18) rfl rfl ?_
  refine ev_iload_n (a := 0) (b := 19) rfl rfl ?_
  refine ev_iconst (a := 0) (b := 20) 4 rfl (by decide) ?_
  refine ev_iushr (a := 0) (b := 21) rfl ?_
  refine ev_iadd (a := 0) (b := 22) rfl ?_
  refine ev_ldc_w (a := 0) (b := 23) 252645135 rfl lcJ6_267 ?_
  refine ev_iand (a := 0) (b := 24) rfl ?_
  obtain ⟨y3, ey3, h⟩ := ic_letE h
  refine ev_topI ey3 ?_
  refine ev_istore_n (a := 0) (b := 25) [(0, ic_I y3)] rfl (by decide) (And.intro (Or.inl rfl) trivial) ?_
  refine ev_iload_n (a := 0) (b := 26) rfl rfl ?_
  refine ev_iload_n (a := 0) (b := 27) rfl rfl ?_
  refine ev_bipush (a := 0) (b := 28) 8 rfl (by decide) ?_
  refine ev_iushr (a := 0) (b := 29) rfl ?_
  refine ev_iadd (a := 0) (b := 30) rfl ?_
  obtain ⟨y4, ey4, h⟩ := ic_letE h
  refine ev_topI ey4 ?_
  refine ev_istore_n (a := 0) (b := 31) [(0, ic_I y4)] rfl (by decide) (And.intro (Or.inl rfl) trivial) ?_
  refine ev_iload_n (a := 1) (b := 0) rfl rfl ?_
  refine ev_iload_n (a := 1) (b := 1) rfl rfl ?_
  refine ev_bipush (a := 1) (b := 2) 16 rfl (by decide) ?_
  refine ev_iushr (a := 1) (b := 3) rfl ?_
  refine ev_iadd (a := 1) (b := 4) rfl ?_
  obtain ⟨y5, ey5, h⟩ := ic_letE h
  refine ev_topI ey5 ?_
  refine ev_istore_n (a := 1) (b := 5) [(0, ic_I y5)] rfl (by decide) (And.intro (Or.inl rfl) trivial) ?_
  refine ev_iload_n (a := 1) (b := 6) rfl rfl ?_
  refine ev_bipush (a := 1) (b := 7) 63 rfl (by decide) ?_
  refine ev_iand (a := 1) (b := 8) rfl ?_
  obtain ⟨rfl, rfl⟩ := ic_s2 h
  exact ev_ireturn (a := 1) (b := 9) rfl rfl rfl
set_option maxRecDepth 20000 in
theorem eX2_feltBy {s : Nat} {o1 : Option (Nat × Nat)} {x2 : Int32} {g g' : ic_S} {v : Int32} (h : fX2_feltBy s o1 x2 g = some (v, g')) : ic_Ev mX2_feltBy 0 (ic_ag 0 [ic_R 1 s 0, ic_O 3 o1, ic_I x2]) [] g (some (ic_I v)) g' := by
  unfold fX2_feltBy at h
  obtain ⟨hs, h⟩ := ic_gdE h
  have hs : s < 3 := Nat.le_of_ble_eq_true hs
  change ic_Ev mX2_feltBy 0 [(0, ic_R 1 s 0), (1, ic_O 3 o1), (2, ic_I x2)] [] g _ _
  refine ev_aload_n (a := 0) (b := 0) rfl rfl ?_
  rcases o1 with _ | ⟨s1, t2⟩
  · replace h := ic_moN h
    refine ev_ifnonnull1 (a := 0) (b := 1) rfl ?_
    refine ev_iconst (a := 0) (b := 2) 0 rfl (by decide) ?_
    obtain ⟨rfl, rfl⟩ := ic_s2 h
    exact ev_ireturn (a := 0) (b := 3) rfl rfl rfl
  · replace h := ic_moS h
    have k3 := (ic_gdE h).1
    replace h := (ic_gdE h).2
    refine ev_ifnonnull0 (a := 0) (b := 1) 6 (show (3 : Nat) ≠ 26 by decide) rfl rfl ?_
    refine ev_aload_n (a := 0) (b := 4) rfl rfl ?_
    refine ev_get (a := 0) (b := 5) 4 2 rfl rfl (Nat.le_of_ble_eq_true rfl) lfX2_69 (gX4_cell (ic_vks (C := 3) k3) (ic_vkt (C := 3) k3)) ?_
    refine ev_iload_n (a := 0) (b := 6) rfl rfl ?_
    refine ev_isub (a := 0) (b := 7) rfl ?_
    refine ev_mabs (a := 0) (b := 8) rfl lmX2_70 ok_mabs rfl (Nat.le_of_ble_eq_true rfl) ?_
    obtain ⟨y4, ey4, h⟩ := ic_letE h
    refine ev_topI ey4 ?_
    refine ev_istore_n (a := 0) (b := 9) [(0, ic_R 1 s 0), (1, ic_R 3 s1 t2), (3, ic_I y4)] rfl (by decide) (And.intro (Or.inr (And.intro rfl rfl)) (And.intro (Or.inr (And.intro rfl rfl)) (And.intro (Or.inl rfl) trivial))) ?_
    refine ev_aload_n (a := 0) (b := 10) rfl rfl ?_
    refine ev_get (a := 0) (b := 11) 4 1 rfl rfl (Nat.le_of_ble_eq_true rfl) lfX2_85 (gX4_kind (ic_vks (C := 3) k3) (ic_vkt (C := 3) k3)) ?_
    refine ev_bipush (a := 0) (b := 12) 6 rfl (by decide) ?_
    refine ev_iceq (a := 0) (b := 13) 36 rfl rfl (fun c5 => ?_) (fun c5 => ?_)
    · have h := (if_pos c5).symm.trans h
      refine ev_aload_n (a := 0) (b := 21) rfl rfl ?_
      refine ev_aload_n (a := 0) (b := 22) rfl rfl ?_
      refine ev_get (a := 0) (b := 23) 4 2 rfl rfl (Nat.le_of_ble_eq_true rfl) lfX2_69 (gX4_cell (ic_vks (C := 3) k3) (ic_vkt (C := 3) k3)) ?_
      obtain ⟨v8, g6, e7, h⟩ := ic_b2E h
      refine ev_ivI (a := 0) (b := 24) [ic_I (g.1 s1 (15 + t2))] rfl okX2_thingsAt rfl lmX2_92 rfl (rc1 hs) (Nat.le_of_ble_eq_true rfl) (eX2_thingsAt e7) (Nat.le_of_ble_eq_true rfl) rfl ?_
      refine ev_iconst (a := 0) (b := 25) 1 rfl (by decide) ?_
      refine ev_aload_n (a := 0) (b := 26) rfl rfl ?_
      refine ev_get (a := 0) (b := 27) 4 0 rfl rfl (Nat.le_of_ble_eq_true rfl) lfX2_95 (gX4_number (ic_vks (C := 3) k3) (ic_vkt (C := 3) k3)) ?_
      refine ev_ishl (a := 0) (b := 28) rfl ?_
      refine ev_iconst (a := 0) (b := 29) (-1) rfl (by decide) ?_
      refine ev_ixor (a := 0) (b := 30) rfl ?_
      refine ev_iand (a := 0) (b := 31) rfl ?_
      obtain ⟨y9, ey9, h⟩ := ic_letE h
      refine ev_topI ey9 ?_
      refine ev_istore (a := 1) (b := 0) [(0, ic_R 1 s 0), (1, ic_R 3 s1 t2), (3, ic_I y4), (4, ic_I y9)] rfl (by decide) (And.intro (Or.inr (And.intro rfl rfl)) (And.intro (Or.inr (And.intro rfl rfl)) (And.intro (Or.inr (And.intro rfl rfl)) (And.intro (Or.inl rfl) trivial)))) ?_
      refine ev_aload_n (a := 1) (b := 1) rfl rfl ?_
      refine ev_aload_n (a := 1) (b := 2) rfl rfl ?_
      refine ev_get (a := 1) (b := 3) 2 3 rfl rfl (Nat.le_of_ble_eq_true rfl) lfX2_21 (gX2_loud hs) ?_
      refine ev_iload_n (a := 1) (b := 4) rfl rfl ?_
      refine ev_iload (a := 1) (b := 5) rfl rfl ?_
      obtain ⟨v12, g10, e11, h⟩ := ic_b2E h
      refine ev_isI (a := 1) (b := 6) [ic_I y9] rfl okJ6_bitCount_0f7a4 rfl lmX2_98 rfl (Nat.le_of_ble_eq_true rfl) (eJ6_bitCount_0f7a4 e11) (Nat.le_of_ble_eq_true rfl) rfl ?_
      obtain ⟨v15, g13, e14, h⟩ := ic_b2E h
      refine ev_ivI (a := 1) (b := 7) [ic_I (g6.1 s 6), ic_I y4, ic_I v12] rfl okX4_feels rfl lmX2_88 rfl (rc3 (ic_vks (C := 3) k3) (ic_vkt (C := 3) k3)) (Nat.le_of_ble_eq_true rfl) (eX4_feels e14) (Nat.le_of_ble_eq_true rfl) rfl ?_
      obtain ⟨rfl, rfl⟩ := ic_s2 h
      exact ev_ireturn (a := 1) (b := 8) rfl rfl rfl
    · have h := (if_neg c5).symm.trans h
      refine ev_aload_n (a := 0) (b := 14) rfl rfl ?_
      refine ev_aload_n (a := 0) (b := 15) rfl rfl ?_
      refine ev_get (a := 0) (b := 16) 2 3 rfl rfl (Nat.le_of_ble_eq_true rfl) lfX2_21 (gX2_loud hs) ?_
      refine ev_iload_n (a := 0) (b := 17) rfl rfl ?_
      refine ev_iconst (a := 0) (b := 18) 0 rfl (by decide) ?_
      obtain ⟨v18, g16, e17, h⟩ := ic_b2E h
      refine ev_ivI (a := 0) (b := 19) [ic_I (g.1 s 6), ic_I y4, ic_I 0] rfl okX4_feels rfl lmX2_88 rfl (rc3 (ic_vks (C := 3) k3) (ic_vkt (C := 3) k3)) (Nat.le_of_ble_eq_true rfl) (eX4_feels e17) (Nat.le_of_ble_eq_true rfl) rfl ?_
      obtain ⟨rfl, rfl⟩ := ic_s2 h
      exact ev_ireturn (a := 0) (b := 20) rfl rfl rfl
set_option maxRecDepth 20000 in
theorem eX4_steps {s : Nat} {t : Nat} {g g' : ic_S} {v : Int32} (h : fX4_steps s t g = some (v, g')) : ic_Ev mX4_steps 0 (ic_ag 0 [ic_R 3 s t]) [] g (some (ic_I v)) g' := by
  unfold fX4_steps at h
  obtain ⟨hs, h⟩ := ic_gdE h
  have hs : s < 3 := Nat.le_of_ble_eq_true hs
  obtain ⟨ht, h⟩ := ic_gdE h
  have ht : t < 8 := Nat.le_of_ble_eq_true ht
  change ic_Ev mX4_steps 0 [(0, ic_R 3 s t)] [] g _ _
  refine ev_aload_n (a := 0) (b := 0) rfl rfl ?_
  refine ev_get (a := 0) (b := 1) 4 1 rfl rfl (Nat.le_of_ble_eq_true rfl) lfX4_15 (gX4_kind hs ht) ?_
  rcases Decidable.em ((g.1 s (7 + t)) = 3) with c1 | c1
  · have h := (if_pos c1).symm.trans h
    refine ev_lsw (a := 0) (b := 2) (28) 32 rfl (by decide) (by rw [c1]; decide) rfl ?_
    refine ev_iconst (a := 0) (b := 3) 2 rfl (by decide) ?_
    obtain ⟨rfl, rfl⟩ := ic_s2 h
    exact ev_ireturn (a := 0) (b := 4) rfl rfl rfl
  · have h := (if_neg c1).symm.trans h
    rcases Decidable.em ((g.1 s (7 + t)) = 5) with c2 | c2
    · have h := (if_pos c2).symm.trans h
      refine ev_lsw (a := 0) (b := 2) (30) 34 rfl (by decide) (by rw [c2]; decide) rfl ?_
      refine ev_aload_n (a := 0) (b := 5) rfl rfl ?_
      refine ev_get (a := 0) (b := 6) 4 3 rfl rfl (Nat.le_of_ble_eq_true rfl) lfX4_21 (gX4_heavy hs ht) ?_
      refine ev_iconst (a := 0) (b := 7) 5 rfl (by decide) ?_
      refine ev_icgt (a := 0) (b := 8) 46 rfl rfl (fun c3 => ?_) (fun c3 => ?_)
      · have h := (if_pos c3).symm.trans h
        refine ev_iconst (a := 0) (b := 11) 1 rfl (by decide) ?_
        obtain ⟨rfl, rfl⟩ := ic_s2 h
        exact ev_ireturn (a := 0) (b := 12) rfl rfl rfl
      · have h := (if_neg c3).symm.trans h
        refine ev_iconst (a := 0) (b := 9) 3 rfl (by decide) ?_
        refine ev_goto (a := 0) (b := 10) 47 rfl rfl ?_
        obtain ⟨rfl, rfl⟩ := ic_s2 h
        exact ev_ireturn (a := 0) (b := 12) rfl rfl rfl
    · have h := (if_neg c2).symm.trans h
      refine ev_lsw (a := 0) (b := 2) (44) 48 rfl (by decide) (ic_lsw0 [3, 5] (List.forall_mem_cons.mpr ⟨c1, List.forall_mem_cons.mpr ⟨c2, fun _ hh => absurd hh List.not_mem_nil⟩⟩) (by decide)) rfl ?_
      refine ev_iconst (a := 0) (b := 13) 1 rfl (by decide) ?_
      obtain ⟨rfl, rfl⟩ := ic_s2 h
      exact ev_ireturn (a := 0) (b := 14) rfl rfl rfl
set_option maxRecDepth 20000 in
theorem eX4_isLiked {s : Nat} {t : Nat} {g g' : ic_S} {v : Int32} (h : fX4_isLiked s t g = some (v, g')) : ic_Ev mX4_isLiked 0 (ic_ag 0 [ic_R 3 s t]) [] g (some (ic_I v)) g' := by
  unfold fX4_isLiked at h
  obtain ⟨hs, h⟩ := ic_gdE h
  have hs : s < 3 := Nat.le_of_ble_eq_true hs
  obtain ⟨ht, h⟩ := ic_gdE h
  have ht : t < 8 := Nat.le_of_ble_eq_true ht
  change ic_Ev mX4_isLiked 0 [(0, ic_R 3 s t)] [] g _ _
  refine ev_aload_n (a := 0) (b := 0) rfl rfl ?_
  refine ev_get (a := 0) (b := 1) 4 1 rfl rfl (Nat.le_of_ble_eq_true rfl) lfX4_15 (gX4_kind hs ht) ?_
  rcases Decidable.em ((g.1 s (7 + t)) = 1) with c1 | c1
  · have h := (if_pos c1).symm.trans h
    refine ev_tsw1 (a := 0) (b := 2) 1 (40) 44 rfl c1 (by decide) (by decide) rfl rfl ?_
    refine ev_aload_n (a := 0) (b := 3) rfl rfl ?_
    refine ev_get (a := 0) (b := 4) 4 3 rfl rfl (Nat.le_of_ble_eq_true rfl) lfX4_21 (gX4_heavy hs ht) ?_
    refine ev_bipush (a := 0) (b := 5) 20 rfl (by decide) ?_
    refine ev_icgt (a := 0) (b := 6) 57 rfl rfl (fun c6 => ?_) (fun c6 => ?_)
    · have h := (if_pos c6).symm.trans h
      refine ev_iconst (a := 0) (b := 9) 0 rfl (by decide) ?_
      obtain ⟨rfl, rfl⟩ := ic_s2 h
      exact ev_ireturn (a := 0) (b := 10) rfl rfl rfl
    · have h := (if_neg c6).symm.trans h
      refine ev_iconst (a := 0) (b := 7) 1 rfl (by decide) ?_
      refine ev_goto (a := 0) (b := 8) 58 rfl rfl ?_
      obtain ⟨rfl, rfl⟩ := ic_s2 h
      exact ev_ireturn (a := 0) (b := 10) rfl rfl rfl
  · have h := (if_neg c1).symm.trans h
    rcases Decidable.em ((g.1 s (7 + t)) = 3) with c2 | c2
    · have h := (if_pos c2).symm.trans h
      refine ev_tsw1 (a := 0) (b := 2) 3 (55) 59 rfl c2 (by decide) (by decide) rfl rfl ?_
      refine ev_aload_n (a := 0) (b := 11) rfl rfl ?_
      refine ev_get (a := 0) (b := 12) 4 3 rfl rfl (Nat.le_of_ble_eq_true rfl) lfX4_21 (gX4_heavy hs ht) ?_
      refine ev_bipush (a := 0) (b := 13) 20 rfl (by decide) ?_
      refine ev_icle (a := 0) (b := 14) 76 rfl rfl (fun c7 => ?_) (fun c7 => ?_)
      · have h := (if_pos c7).symm.trans h
        refine ev_iconst (a := 0) (b := 19) 1 rfl (by decide) ?_
        refine ev_goto (a := 0) (b := 20) 81 rfl rfl ?_
        obtain ⟨rfl, rfl⟩ := ic_s2 h
        exact ev_ireturn (a := 0) (b := 22) rfl rfl rfl
      · have h := (if_neg c7).symm.trans h
        refine ev_aload_n (a := 0) (b := 15) rfl rfl ?_
        refine ev_get (a := 0) (b := 16) 4 5 rfl rfl (Nat.le_of_ble_eq_true rfl) lfX4_27 (gX4_moved hs ht) ?_
        refine ev_iconst (a := 0) (b := 17) 5 rfl (by decide) ?_
        refine ev_iclt (a := 0) (b := 18) 80 rfl rfl (fun c8 => ?_) (fun c8 => ?_)
        · have h := (if_pos c8).symm.trans h
          refine ev_iconst (a := 0) (b := 21) 0 rfl (by decide) ?_
          obtain ⟨rfl, rfl⟩ := ic_s2 h
          exact ev_ireturn (a := 0) (b := 22) rfl rfl rfl
        · have h := (if_neg c8).symm.trans h
          refine ev_iconst (a := 0) (b := 19) 1 rfl (by decide) ?_
          refine ev_goto (a := 0) (b := 20) 81 rfl rfl ?_
          obtain ⟨rfl, rfl⟩ := ic_s2 h
          exact ev_ireturn (a := 0) (b := 22) rfl rfl rfl
    · have h := (if_neg c2).symm.trans h
      rcases Decidable.em ((g.1 s (7 + t)) = 4) with c3 | c3
      · have h := (if_pos c3).symm.trans h
        refine ev_tsw1 (a := 0) (b := 2) 4 (78) 82 rfl c3 (by decide) (by decide) rfl rfl ?_
        refine ev_iconst (a := 0) (b := 23) 0 rfl (by decide) ?_
        obtain ⟨rfl, rfl⟩ := ic_s2 h
        exact ev_ireturn (a := 0) (b := 24) rfl rfl rfl
      · have h := (if_neg c3).symm.trans h
        rcases Decidable.em ((g.1 s (7 + t)) = 5) with c4 | c4
        · have h := (if_pos c4).symm.trans h
          refine ev_tsw1 (a := 0) (b := 2) 5 (80) 84 rfl c4 (by decide) (by decide) rfl rfl ?_
          refine ev_iconst (a := 0) (b := 25) 0 rfl (by decide) ?_
          obtain ⟨rfl, rfl⟩ := ic_s2 h
          exact ev_ireturn (a := 0) (b := 26) rfl rfl rfl
        · have h := (if_neg c4).symm.trans h
          rcases Decidable.em ((g.1 s (7 + t)) = 6) with c5 | c5
          · have h := (if_pos c5).symm.trans h
            refine ev_tsw1 (a := 0) (b := 2) 6 (82) 86 rfl c5 (by decide) (by decide) rfl rfl ?_
            refine ev_aload_n (a := 0) (b := 27) rfl rfl ?_
            refine ev_get (a := 0) (b := 28) 4 4 rfl rfl (Nat.le_of_ble_eq_true rfl) lfX4_24 (gX4_pulled hs ht) ?_
            refine ev_iconst (a := 0) (b := 29) 5 rfl (by decide) ?_
            refine ev_iclt (a := 0) (b := 30) 98 rfl rfl (fun c9 => ?_) (fun c9 => ?_)
            · have h := (if_pos c9).symm.trans h
              refine ev_iconst (a := 1) (b := 1) 0 rfl (by decide) ?_
              obtain ⟨rfl, rfl⟩ := ic_s2 h
              exact ev_ireturn (a := 1) (b := 2) rfl rfl rfl
            · have h := (if_neg c9).symm.trans h
              refine ev_iconst (a := 0) (b := 31) 1 rfl (by decide) ?_
              refine ev_goto (a := 1) (b := 0) 99 rfl rfl ?_
              obtain ⟨rfl, rfl⟩ := ic_s2 h
              exact ev_ireturn (a := 1) (b := 2) rfl rfl rfl
          · have h := (if_neg c5).symm.trans h
            refine ev_tsw0 (a := 0) (b := 2) [1, 3, 4, 5, 6] 100 rfl (List.forall_mem_cons.mpr ⟨c1, List.forall_mem_cons.mpr ⟨c2, List.forall_mem_cons.mpr ⟨c3, List.forall_mem_cons.mpr ⟨c4, List.forall_mem_cons.mpr ⟨c5, fun _ hh => absurd hh List.not_mem_nil⟩⟩⟩⟩⟩) (by decide) (by decide) rfl ?_
            refine ev_iconst (a := 1) (b := 3) 1 rfl (by decide) ?_
            obtain ⟨rfl, rfl⟩ := ic_s2 h
            exact ev_ireturn (a := 1) (b := 4) rfl rfl rfl
set_option maxRecDepth 20000 in
theorem eX4_rests {s : Nat} {t : Nat} {g g' : ic_S} {v : Int32} (h : fX4_rests s t g = some (v, g')) : ic_Ev mX4_rests 0 (ic_ag 0 [ic_R 3 s t]) [] g (some (ic_I v)) g' := by
  unfold fX4_rests at h
  obtain ⟨hs, h⟩ := ic_gdE h
  have hs : s < 3 := Nat.le_of_ble_eq_true hs
  obtain ⟨ht, h⟩ := ic_gdE h
  have ht : t < 8 := Nat.le_of_ble_eq_true ht
  change ic_Ev mX4_rests 0 [(0, ic_R 3 s t)] [] g _ _
  refine ev_aload_n (a := 0) (b := 0) rfl rfl ?_
  refine ev_get (a := 0) (b := 1) 4 1 rfl rfl (Nat.le_of_ble_eq_true rfl) lfX4_15 (gX4_kind hs ht) ?_
  rcases Decidable.em ((g.1 s (7 + t)) = 0) with c1 | c1
  · have h := (if_pos c1).symm.trans h
    refine ev_tsw1 (a := 0) (b := 2) 0 (44) 48 rfl c1 (by decide) (by decide) rfl rfl ?_
    refine ev_iconst (a := 0) (b := 3) 1 rfl (by decide) ?_
    obtain ⟨rfl, rfl⟩ := ic_s2 h
    exact ev_ireturn (a := 0) (b := 4) rfl rfl rfl
  · have h := (if_neg c1).symm.trans h
    rcases Decidable.em ((g.1 s (7 + t)) = 2) with c2 | c2
    · have h := (if_pos c2).symm.trans h
      refine ev_tsw1 (a := 0) (b := 2) 2 (46) 50 rfl c2 (by decide) (by decide) rfl rfl ?_
      refine ev_iconst (a := 0) (b := 5) 2 rfl (by decide) ?_
      obtain ⟨rfl, rfl⟩ := ic_s2 h
      exact ev_ireturn (a := 0) (b := 6) rfl rfl rfl
    · have h := (if_neg c2).symm.trans h
      rcases Decidable.em ((g.1 s (7 + t)) = 4) with c3 | c3
      · have h := (if_pos c3).symm.trans h
        refine ev_tsw1 (a := 0) (b := 2) 4 (48) 52 rfl c3 (by decide) (by decide) rfl rfl ?_
        refine ev_iconst (a := 0) (b := 7) 2 rfl (by decide) ?_
        obtain ⟨rfl, rfl⟩ := ic_s2 h
        exact ev_ireturn (a := 0) (b := 8) rfl rfl rfl
      · have h := (if_neg c3).symm.trans h
        rcases Decidable.em ((g.1 s (7 + t)) = 6) with c4 | c4
        · have h := (if_pos c4).symm.trans h
          refine ev_tsw1 (a := 0) (b := 2) 6 (50) 54 rfl c4 (by decide) (by decide) rfl rfl ?_
          refine ev_iconst (a := 0) (b := 9) 4 rfl (by decide) ?_
          obtain ⟨rfl, rfl⟩ := ic_s2 h
          exact ev_ireturn (a := 0) (b := 10) rfl rfl rfl
        · have h := (if_neg c4).symm.trans h
          refine ev_tsw0 (a := 0) (b := 2) [0, 2, 4, 6] 56 rfl (List.forall_mem_cons.mpr ⟨c1, List.forall_mem_cons.mpr ⟨c2, List.forall_mem_cons.mpr ⟨c3, List.forall_mem_cons.mpr ⟨c4, fun _ hh => absurd hh List.not_mem_nil⟩⟩⟩⟩) (by decide) (by decide) rfl ?_
          refine ev_iconst (a := 0) (b := 11) 0 rfl (by decide) ?_
          obtain ⟨rfl, rfl⟩ := ic_s2 h
          exact ev_ireturn (a := 0) (b := 12) rfl rfl rfl
set_option maxRecDepth 20000 in
theorem eX4_told {s : Nat} {t : Nat} {x1 : Int32} {g g' : ic_S} {v : Int32} (h : fX4_told s t x1 g = some (v, g')) : ic_Ev mX4_told 0 (ic_ag 0 [ic_R 3 s t, ic_I x1]) [] g (some (ic_I v)) g' := by
  unfold fX4_told at h
  obtain ⟨hs, h⟩ := ic_gdE h
  have hs : s < 3 := Nat.le_of_ble_eq_true hs
  obtain ⟨ht, h⟩ := ic_gdE h
  have ht : t < 8 := Nat.le_of_ble_eq_true ht
  change ic_Ev mX4_told 0 [(0, ic_R 3 s t), (1, ic_I x1)] [] g _ _
  refine ev_iload_n (a := 0) (b := 0) rfl rfl ?_
  rcases Decidable.em (x1 = 0) with c1 | c1
  · have h := (if_pos c1).symm.trans h
    refine ev_tsw1 (a := 0) (b := 1) 0 (59) 60 rfl c1 (by decide) (by decide) rfl rfl ?_
    refine ev_aload_n (a := 0) (b := 2) rfl rfl ?_
    refine ev_get (a := 0) (b := 3) 4 1 rfl rfl (Nat.le_of_ble_eq_true rfl) lfX4_15 (gX4_kind hs ht) ?_
    obtain ⟨rfl, rfl⟩ := ic_s2 h
    exact ev_ireturn (a := 0) (b := 4) rfl rfl rfl
  · have h := (if_neg c1).symm.trans h
    rcases Decidable.em (x1 = 1) with c2 | c2
    · have h := (if_pos c2).symm.trans h
      refine ev_tsw1 (a := 0) (b := 1) 1 (64) 65 rfl c2 (by decide) (by decide) rfl rfl ?_
      refine ev_aload_n (a := 0) (b := 5) rfl rfl ?_
      refine ev_get (a := 0) (b := 6) 4 2 rfl rfl (Nat.le_of_ble_eq_true rfl) lfX4_18 (gX4_cell hs ht) ?_
      obtain ⟨rfl, rfl⟩ := ic_s2 h
      exact ev_ireturn (a := 0) (b := 7) rfl rfl rfl
    · have h := (if_neg c2).symm.trans h
      rcases Decidable.em (x1 = 2) with c3 | c3
      · have h := (if_pos c3).symm.trans h
        refine ev_tsw1 (a := 0) (b := 1) 2 (69) 70 rfl c3 (by decide) (by decide) rfl rfl ?_
        refine ev_aload_n (a := 0) (b := 8) rfl rfl ?_
        refine ev_get (a := 0) (b := 9) 4 3 rfl rfl (Nat.le_of_ble_eq_true rfl) lfX4_21 (gX4_heavy hs ht) ?_
        obtain ⟨rfl, rfl⟩ := ic_s2 h
        exact ev_ireturn (a := 0) (b := 10) rfl rfl rfl
      · have h := (if_neg c3).symm.trans h
        rcases Decidable.em (x1 = 3) with c4 | c4
        · have h := (if_pos c4).symm.trans h
          refine ev_tsw1 (a := 0) (b := 1) 3 (74) 75 rfl c4 (by decide) (by decide) rfl rfl ?_
          refine ev_aload_n (a := 0) (b := 11) rfl rfl ?_
          refine ev_get (a := 0) (b := 12) 4 4 rfl rfl (Nat.le_of_ble_eq_true rfl) lfX4_24 (gX4_pulled hs ht) ?_
          obtain ⟨rfl, rfl⟩ := ic_s2 h
          exact ev_ireturn (a := 0) (b := 13) rfl rfl rfl
        · have h := (if_neg c4).symm.trans h
          rcases Decidable.em (x1 = 4) with c5 | c5
          · have h := (if_pos c5).symm.trans h
            refine ev_tsw1 (a := 0) (b := 1) 4 (79) 80 rfl c5 (by decide) (by decide) rfl rfl ?_
            refine ev_aload_n (a := 0) (b := 14) rfl rfl ?_
            refine ev_get (a := 0) (b := 15) 4 6 rfl rfl (Nat.le_of_ble_eq_true rfl) lfX4_30 (gX4_isHeld hs ht) ?_
            refine ev_ifeq (a := 0) (b := 16) 91 rfl rfl (fun c11 => ?_) (fun c11 => ?_)
            · have h := (if_pos c11).symm.trans h
              refine ev_iconst (a := 0) (b := 19) 0 rfl (by decide) ?_
              obtain ⟨rfl, rfl⟩ := ic_s2 h
              exact ev_ireturn (a := 0) (b := 20) rfl rfl rfl
            · have h := (if_neg c11).symm.trans h
              refine ev_iconst (a := 0) (b := 17) 1 rfl (by decide) ?_
              refine ev_goto (a := 0) (b := 18) 92 rfl rfl ?_
              obtain ⟨rfl, rfl⟩ := ic_s2 h
              exact ev_ireturn (a := 0) (b := 20) rfl rfl rfl
          · have h := (if_neg c5).symm.trans h
            rcases Decidable.em (x1 = 5) with c6 | c6
            · have h := (if_pos c6).symm.trans h
              refine ev_tsw1 (a := 0) (b := 1) 5 (92) 93 rfl c6 (by decide) (by decide) rfl rfl ?_
              refine ev_aload_n (a := 0) (b := 21) rfl rfl ?_
              refine ev_get (a := 0) (b := 22) 4 7 rfl rfl (Nat.le_of_ble_eq_true rfl) lfX4_34 (gX4_isTaken hs ht) ?_
              refine ev_ifeq (a := 0) (b := 23) 104 rfl rfl (fun c12 => ?_) (fun c12 => ?_)
              · have h := (if_pos c12).symm.trans h
                refine ev_iconst (a := 0) (b := 26) 0 rfl (by decide) ?_
                obtain ⟨rfl, rfl⟩ := ic_s2 h
                exact ev_ireturn (a := 0) (b := 27) rfl rfl rfl
              · have h := (if_neg c12).symm.trans h
                refine ev_iconst (a := 0) (b := 24) 1 rfl (by decide) ?_
                refine ev_goto (a := 0) (b := 25) 105 rfl rfl ?_
                obtain ⟨rfl, rfl⟩ := ic_s2 h
                exact ev_ireturn (a := 0) (b := 27) rfl rfl rfl
            · have h := (if_neg c6).symm.trans h
              rcases Decidable.em (x1 = 6) with c7 | c7
              · have h := (if_pos c7).symm.trans h
                refine ev_tsw1 (a := 0) (b := 1) 6 (105) 106 rfl c7 (by decide) (by decide) rfl rfl ?_
                refine ev_aload_n (a := 0) (b := 28) rfl rfl ?_
                refine ev_get (a := 0) (b := 29) 4 5 rfl rfl (Nat.le_of_ble_eq_true rfl) lfX4_27 (gX4_moved hs ht) ?_
                obtain ⟨rfl, rfl⟩ := ic_s2 h
                exact ev_ireturn (a := 0) (b := 30) rfl rfl rfl
              · have h := (if_neg c7).symm.trans h
                rcases Decidable.em (x1 = 8) with c8 | c8
                · have h := (if_pos c8).symm.trans h
                  refine ev_tsw1 (a := 0) (b := 1) 8 (110) 111 rfl c8 (by decide) (by decide) rfl rfl ?_
                  refine ev_aload_n (a := 0) (b := 31) rfl rfl ?_
                  obtain ⟨v15, g13, e14, h⟩ := ic_b2E h
                  refine ev_ivI (a := 1) (b := 0) [] rfl okX4_steps rfl lmX4_37 rfl (rc3 hs ht) (Nat.le_of_ble_eq_true rfl) (eX4_steps e14) (Nat.le_of_ble_eq_true rfl) rfl ?_
                  obtain ⟨rfl, rfl⟩ := ic_s2 h
                  exact ev_ireturn (a := 1) (b := 1) rfl rfl rfl
                · have h := (if_neg c8).symm.trans h
                  rcases Decidable.em (x1 = 9) with c9 | c9
                  · have h := (if_pos c9).symm.trans h
                    refine ev_tsw1 (a := 0) (b := 1) 9 (115) 116 rfl c9 (by decide) (by decide) rfl rfl ?_
                    refine ev_aload_n (a := 1) (b := 2) rfl rfl ?_
                    obtain ⟨v18, g16, e17, h⟩ := ic_b2E h
                    refine ev_ivI (a := 1) (b := 3) [] rfl okX4_isLiked rfl lmX4_41 rfl (rc3 hs ht) (Nat.le_of_ble_eq_true rfl) (eX4_isLiked e17) (Nat.le_of_ble_eq_true rfl) rfl ?_
                    refine ev_ifeq (a := 1) (b := 4) 127 rfl rfl (fun c19 => ?_) (fun c19 => ?_)
                    · have h := (if_pos c19).symm.trans h
                      refine ev_iconst (a := 1) (b := 7) 0 rfl (by decide) ?_
                      obtain ⟨rfl, rfl⟩ := ic_s2 h
                      exact ev_ireturn (a := 1) (b := 8) rfl rfl rfl
                    · have h := (if_neg c19).symm.trans h
                      refine ev_iconst (a := 1) (b := 5) 1 rfl (by decide) ?_
                      refine ev_goto (a := 1) (b := 6) 128 rfl rfl ?_
                      obtain ⟨rfl, rfl⟩ := ic_s2 h
                      exact ev_ireturn (a := 1) (b := 8) rfl rfl rfl
                  · have h := (if_neg c9).symm.trans h
                    rcases Decidable.em (x1 = 10) with c10 | c10
                    · have h := (if_pos c10).symm.trans h
                      refine ev_tsw1 (a := 0) (b := 1) 10 (128) 129 rfl c10 (by decide) (by decide) rfl rfl ?_
                      refine ev_aload_n (a := 1) (b := 9) rfl rfl ?_
                      obtain ⟨v22, g20, e21, h⟩ := ic_b2E h
                      refine ev_ivI (a := 1) (b := 10) [] rfl okX4_rests rfl lmX4_45 rfl (rc3 hs ht) (Nat.le_of_ble_eq_true rfl) (eX4_rests e21) (Nat.le_of_ble_eq_true rfl) rfl ?_
                      obtain ⟨rfl, rfl⟩ := ic_s2 h
                      exact ev_ireturn (a := 1) (b := 11) rfl rfl rfl
                    · have h := (if_neg c10).symm.trans h
                      refine ev_tsw0 (a := 0) (b := 1) [0, 1, 2, 3, 4, 5, 6, 8, 9, 10] 134 rfl (List.forall_mem_cons.mpr ⟨c1, List.forall_mem_cons.mpr ⟨c2, List.forall_mem_cons.mpr ⟨c3, List.forall_mem_cons.mpr ⟨c4, List.forall_mem_cons.mpr ⟨c5, List.forall_mem_cons.mpr ⟨c6, List.forall_mem_cons.mpr ⟨c7, List.forall_mem_cons.mpr ⟨c8, List.forall_mem_cons.mpr ⟨c9, List.forall_mem_cons.mpr ⟨c10, fun _ hh => absurd hh List.not_mem_nil⟩⟩⟩⟩⟩⟩⟩⟩⟩⟩) (by decide) (by decide) rfl ?_
                      refine ev_iconst (a := 1) (b := 12) (-1) rfl (by decide) ?_
                      obtain ⟨rfl, rfl⟩ := ic_s2 h
                      exact ev_ireturn (a := 1) (b := 13) rfl rfl rfl
set_option maxRecDepth 20000 in
theorem eX2_told {s : Nat} {x1 : Int32} {x2 : Int32} {g g' : ic_S} {v : Int32} (h : fX2_told s x1 x2 g = some (v, g')) : ic_Ev mX2_told 0 (ic_ag 0 [ic_R 1 s 0, ic_I x1, ic_I x2]) [] g (some (ic_I v)) g' := by
  unfold fX2_told at h
  obtain ⟨hs, h⟩ := ic_gdE h
  have hs : s < 3 := Nat.le_of_ble_eq_true hs
  change ic_Ev mX2_told 0 [(0, ic_R 1 s 0), (1, ic_I x1), (2, ic_I x2)] [] g _ _
  refine ev_aload_n (a := 0) (b := 0) rfl rfl ?_
  refine ev_iload_n (a := 0) (b := 1) rfl rfl ?_
  obtain ⟨v3, g1, e2, h⟩ := ic_b2E h
  refine ev_ivO (a := 0) (b := 2) [ic_I x1] rfl okX2_thingAt rfl lmX2_46 rfl (rc1 hs) (Nat.le_of_ble_eq_true rfl) (eX2_thingAt e2) (Nat.le_of_ble_eq_true rfl) rfl ?_
  refine ev_astore_n (a := 0) (b := 3) [(0, ic_R 1 s 0), (2, ic_I x2), (3, ic_O 3 v3)] rfl (by decide) (And.intro (Or.inr (And.intro rfl rfl)) (And.intro (Or.inr (And.intro rfl rfl)) (And.intro (Or.inl rfl) trivial))) ?_
  refine ev_aload_n (a := 0) (b := 4) rfl rfl ?_
  rcases v3 with _ | ⟨s4, t5⟩
  · replace h := ic_moN h
    refine ev_ifnonnull1 (a := 0) (b := 5) rfl ?_
    refine ev_iconst (a := 0) (b := 6) (-1) rfl (by decide) ?_
    obtain ⟨rfl, rfl⟩ := ic_s2 h
    exact ev_ireturn (a := 0) (b := 7) rfl rfl rfl
  · replace h := ic_moS h
    have k6 := (ic_gdE h).1
    replace h := (ic_gdE h).2
    refine ev_ifnonnull0 (a := 0) (b := 5) 12 (show (3 : Nat) ≠ 26 by decide) rfl rfl ?_
    refine ev_iload_n (a := 0) (b := 8) rfl rfl ?_
    rcases Decidable.em (x2 = 7) with c7 | c7
    · have h := (if_pos c7).symm.trans h
      refine ev_lsw (a := 0) (b := 9) (27) 40 rfl (by decide) (by rw [c7]; decide) rfl ?_
      refine ev_aload_n (a := 0) (b := 10) rfl rfl ?_
      refine ev_aload_n (a := 0) (b := 11) rfl rfl ?_
      refine ev_aload_n (a := 0) (b := 12) rfl rfl ?_
      refine ev_get (a := 0) (b := 13) 2 0 rfl rfl (Nat.le_of_ble_eq_true rfl) lfX2_9 (gX2_cell hs) ?_
      obtain ⟨v11, g9, e10, h⟩ := ic_b2E h
      refine ev_ivI (a := 0) (b := 14) [ic_O 3 (some (s4, t5)), ic_I (g1.1 s 3)] rfl okX2_feltBy rfl lmX2_65 rfl (rc1 hs) (Nat.le_of_ble_eq_true rfl) (eX2_feltBy e10) (Nat.le_of_ble_eq_true rfl) rfl ?_
      obtain ⟨rfl, rfl⟩ := ic_s2 h
      exact ev_ireturn (a := 0) (b := 15) rfl rfl rfl
    · have h := (if_neg c7).symm.trans h
      rcases Decidable.em (x2 = 11) with c8 | c8
      · have h := (if_pos c8).symm.trans h
        refine ev_lsw (a := 0) (b := 9) (37) 50 rfl (by decide) (by rw [c8]; decide) rfl ?_
        refine ev_aload_n (a := 0) (b := 16) rfl rfl ?_
        refine ev_get (a := 0) (b := 17) 4 2 rfl rfl (Nat.le_of_ble_eq_true rfl) lfX2_69 (gX4_cell (ic_vks (C := 3) k6) (ic_vkt (C := 3) k6)) ?_
        refine ev_aload_n (a := 0) (b := 18) rfl rfl ?_
        refine ev_get (a := 0) (b := 19) 2 0 rfl rfl (Nat.le_of_ble_eq_true rfl) lfX2_9 (gX2_cell hs) ?_
        refine ev_isub (a := 0) (b := 20) rfl ?_
        refine ev_mabs (a := 0) (b := 21) rfl lmX2_70 ok_mabs rfl (Nat.le_of_ble_eq_true rfl) ?_
        obtain ⟨rfl, rfl⟩ := ic_s2 h
        exact ev_ireturn (a := 0) (b := 22) rfl rfl rfl
      · have h := (if_neg c8).symm.trans h
        refine ev_lsw (a := 0) (b := 9) (50) 63 rfl (by decide) (ic_lsw0 [7, 11] (List.forall_mem_cons.mpr ⟨c7, List.forall_mem_cons.mpr ⟨c8, fun _ hh => absurd hh List.not_mem_nil⟩⟩) (by decide)) rfl ?_
        refine ev_aload_n (a := 0) (b := 23) rfl rfl ?_
        refine ev_iload_n (a := 0) (b := 24) rfl rfl ?_
        obtain ⟨v14, g12, e13, h⟩ := ic_b2E h
        refine ev_ivI (a := 0) (b := 25) [ic_I x2] rfl okX4_told rfl lmX2_75 rfl (rc3 (ic_vks (C := 3) k6) (ic_vkt (C := 3) k6)) (Nat.le_of_ble_eq_true rfl) (eX4_told e13) (Nat.le_of_ble_eq_true rfl) rfl ?_
        obtain ⟨rfl, rfl⟩ := ic_s2 h
        exact ev_ireturn (a := 0) (b := 26) rfl rfl rfl
set_option maxRecDepth 20000 in
theorem eX4_kindAbove {x0 : Int32} {g g' : ic_S} {v : Int32} (h : fX4_kindAbove x0 g = some (v, g')) : ic_Ev mX4_kindAbove 0 (ic_ag 0 [ic_I x0]) [] g (some (ic_I v)) g' := by
  unfold fX4_kindAbove at h
  change ic_Ev mX4_kindAbove 0 [(0, ic_I x0)] [] g _ _
  refine ev_iload_n (a := 0) (b := 0) rfl rfl ?_
  rcases Decidable.em (x0 = 3) with c1 | c1
  · have h := (if_pos c1).symm.trans h
    refine ev_tsw1 (a := 0) (b := 1) 3 (31) 32 rfl c1 (by decide) (by decide) rfl rfl ?_
    refine ev_iconst (a := 0) (b := 2) 1 rfl (by decide) ?_
    obtain ⟨rfl, rfl⟩ := ic_s2 h
    exact ev_ireturn (a := 0) (b := 3) rfl rfl rfl
  · have h := (if_neg c1).symm.trans h
    rcases Decidable.em (x0 = 4) with c2 | c2
    · have h := (if_pos c2).symm.trans h
      refine ev_tsw1 (a := 0) (b := 1) 4 (33) 34 rfl c2 (by decide) (by decide) rfl rfl ?_
      refine ev_iconst (a := 0) (b := 4) 3 rfl (by decide) ?_
      obtain ⟨rfl, rfl⟩ := ic_s2 h
      exact ev_ireturn (a := 0) (b := 5) rfl rfl rfl
    · have h := (if_neg c2).symm.trans h
      rcases Decidable.em (x0 = 6) with c3 | c3
      · have h := (if_pos c3).symm.trans h
        refine ev_tsw1 (a := 0) (b := 1) 6 (35) 36 rfl c3 (by decide) (by decide) rfl rfl ?_
        refine ev_iconst (a := 0) (b := 6) 2 rfl (by decide) ?_
        obtain ⟨rfl, rfl⟩ := ic_s2 h
        exact ev_ireturn (a := 0) (b := 7) rfl rfl rfl
      · have h := (if_neg c3).symm.trans h
        refine ev_tsw0 (a := 0) (b := 1) [3, 4, 6] 38 rfl (List.forall_mem_cons.mpr ⟨c1, List.forall_mem_cons.mpr ⟨c2, List.forall_mem_cons.mpr ⟨c3, fun _ hh => absurd hh List.not_mem_nil⟩⟩⟩) (by decide) (by decide) rfl ?_
        refine ev_iconst (a := 0) (b := 8) 0 rfl (by decide) ?_
        obtain ⟨rfl, rfl⟩ := ic_s2 h
        exact ev_ireturn (a := 0) (b := 9) rfl rfl rfl
set_option maxRecDepth 20000 in
theorem tX4_isOfKind_7 {x1 : Int32} : ∀ (n : Nat) (x2 : Int32) (x3 : Int32) (g : ic_S) (q : (Int32 × ic_S) ⊕ (Unit × ic_S)), lX4_isOfKind_7 x1 n x2 x3 g = some q → ∀ (r : Option ic_V) (g' : ic_S), ic_lq q r g' (fun y z => ic_Ev mX4_isOfKind 31 [] [] z r g') → ic_Ev mX4_isOfKind 7 [(1, ic_I x1), (2, ic_I x2), (3, ic_I x3)] [] g r g' := by
  intro n
  induction n with
  | zero => intro x2 x3 g q h; cases h
  | succ n ih =>
    intro x2 x3 g q h r g' hq
    rw [lX4_isOfKind_7] at h
    refine ev_iload_n (a := 0) (b := 5) rfl rfl ?_
    refine ev_bipush (a := 0) (b := 6) 7 rfl (by decide) ?_
    refine ev_icge (a := 0) (b := 7) 31 rfl rfl (fun c1001 => ?_) (fun c1001 => ?_)
    · have h := (if_pos c1001).symm.trans h
      obtain rfl := ic_s1 h
      exact ev_fw (lv' := []) hq trivial
    · have h := (if_neg c1001).symm.trans h
      refine ev_iload_n (a := 0) (b := 8) rfl rfl ?_
      refine ev_iload_n (a := 0) (b := 9) rfl rfl ?_
      refine ev_icne (a := 0) (b := 10) 20 rfl rfl (fun c1002 => ?_) (fun c1002 => ?_)
      · have h := (if_neg c1002).symm.trans h
        refine ev_iload_n (a := 0) (b := 13) rfl rfl ?_
        obtain ⟨v1005, g1003, e1004, h⟩ := ic_b2E h
        refine ev_isI (a := 0) (b := 14) [ic_I x2] rfl okX4_kindAbove rfl lmX4_54 rfl (Nat.le_of_ble_eq_true rfl) (eX4_kindAbove e1004) (Nat.le_of_ble_eq_true rfl) rfl ?_
        refine ev_istore_n (a := 0) (b := 15) [(1, ic_I x1), (2, ic_I v1005), (3, ic_I x3)] rfl (by decide) (And.intro (Or.inr (And.intro rfl rfl)) (And.intro (Or.inl rfl) (And.intro (Or.inr (And.intro rfl rfl)) trivial))) ?_
        refine ev_iinc (a := 0) (b := 16) (x3 + 1) [(1, ic_I x1), (2, ic_I v1005), (3, ic_I (x3 + 1))] rfl rfl (by first | rfl | decide) (by decide) (And.intro (Or.inr (And.intro rfl rfl)) (And.intro (Or.inr (And.intro rfl rfl)) (And.intro (Or.inl rfl) trivial))) ?_
        refine ev_goto (a := 0) (b := 17) 7 rfl rfl ?_
        refine ev_fw (lv' := [(1, ic_I x1), (2, ic_I v1005), (3, ic_I (x3 + 1))]) ?_ (And.intro rfl (And.intro rfl (And.intro rfl trivial)))
        exact ih v1005 (x3 + 1) g1003 _ h _ _ hq
      · have h := (if_pos c1002).symm.trans h
        refine ev_iconst (a := 0) (b := 11) 1 rfl (by decide) ?_
        obtain rfl := ic_s1 h
        obtain ⟨rfl, rfl⟩ := hq
        exact ev_ireturn (a := 0) (b := 12) rfl rfl rfl
set_option maxRecDepth 20000 in
theorem eX4_isOfKind {s : Nat} {t : Nat} {x1 : Int32} {g g' : ic_S} {v : Int32} (h : fX4_isOfKind s t x1 g = some (v, g')) : ic_Ev mX4_isOfKind 0 (ic_ag 0 [ic_R 3 s t, ic_I x1]) [] g (some (ic_I v)) g' := by
  unfold fX4_isOfKind at h
  obtain ⟨hs, h⟩ := ic_gdE h
  have hs : s < 3 := Nat.le_of_ble_eq_true hs
  obtain ⟨ht, h⟩ := ic_gdE h
  have ht : t < 8 := Nat.le_of_ble_eq_true ht
  change ic_Ev mX4_isOfKind 0 [(0, ic_R 3 s t), (1, ic_I x1)] [] g _ _
  refine ev_aload_n (a := 0) (b := 0) rfl rfl ?_
  refine ev_get (a := 0) (b := 1) 4 1 rfl rfl (Nat.le_of_ble_eq_true rfl) lfX4_15 (gX4_kind hs ht) ?_
  refine ev_istore_n (a := 0) (b := 2) [(1, ic_I x1), (2, ic_I (g.1 s (7 + t)))] rfl (by decide) (And.intro (Or.inr (And.intro rfl rfl)) (And.intro (Or.inl rfl) trivial)) ?_
  refine ev_iconst (a := 0) (b := 3) 0 rfl (by decide) ?_
  refine ev_istore_n (a := 0) (b := 4) [(1, ic_I x1), (2, ic_I (g.1 s (7 + t))), (3, ic_I 0)] rfl (by decide) (And.intro (Or.inr (And.intro rfl rfl)) (And.intro (Or.inr (And.intro rfl rfl)) (And.intro (Or.inl rfl) trivial))) ?_
  refine ev_fw (lv' := [(1, ic_I x1), (2, ic_I (g.1 s (7 + t))), (3, ic_I 0)]) ?_ (And.intro rfl (And.intro rfl (And.intro rfl trivial)))
  rcases ic_bsE h with e3 | ⟨y1, g2, e3, h⟩
  · exact tX4_isOfKind_7 (x1 := x1)  1000 (g.1 s (7 + t)) 0 g _ e3 _ _ ⟨rfl, rfl⟩
  · refine tX4_isOfKind_7 (x1 := x1)  1000 (g.1 s (7 + t)) 0 g _ e3 _ _ ?_
    change ic_Ev mX4_isOfKind 31 [] [] g2 _ _
    refine ev_iconst (a := 0) (b := 18) 0 rfl (by decide) ?_
    obtain ⟨rfl, rfl⟩ := ic_s2 h
    exact ev_ireturn (a := 0) (b := 19) rfl rfl rfl
set_option maxRecDepth 20000 in
theorem eX2_isOfKind {s : Nat} {x1 : Int32} {x2 : Int32} {g g' : ic_S} {v : Int32} (h : fX2_isOfKind s x1 x2 g = some (v, g')) : ic_Ev mX2_isOfKind 0 (ic_ag 0 [ic_R 1 s 0, ic_I x1, ic_I x2]) [] g (some (ic_I v)) g' := by
  unfold fX2_isOfKind at h
  obtain ⟨hs, h⟩ := ic_gdE h
  have hs : s < 3 := Nat.le_of_ble_eq_true hs
  change ic_Ev mX2_isOfKind 0 [(0, ic_R 1 s 0), (1, ic_I x1), (2, ic_I x2)] [] g _ _
  refine ev_aload_n (a := 0) (b := 0) rfl rfl ?_
  refine ev_iload_n (a := 0) (b := 1) rfl rfl ?_
  obtain ⟨v3, g1, e2, h⟩ := ic_b2E h
  refine ev_ivO (a := 0) (b := 2) [ic_I x1] rfl okX2_thingAt rfl lmX2_46 rfl (rc1 hs) (Nat.le_of_ble_eq_true rfl) (eX2_thingAt e2) (Nat.le_of_ble_eq_true rfl) rfl ?_
  refine ev_astore_n (a := 0) (b := 3) [(2, ic_I x2), (3, ic_O 3 v3)] rfl (by decide) (And.intro (Or.inr (And.intro rfl rfl)) (And.intro (Or.inl rfl) trivial)) ?_
  refine ev_aload_n (a := 0) (b := 4) rfl rfl ?_
  rcases v3 with _ | ⟨s4, t5⟩
  · replace h := ic_moN h
    refine ev_ifnull1 (a := 0) (b := 5) 22 rfl rfl ?_
    refine ev_iconst (a := 0) (b := 12) 0 rfl (by decide) ?_
    obtain ⟨rfl, rfl⟩ := ic_s2 h
    exact ev_ireturn (a := 0) (b := 13) rfl rfl rfl
  · replace h := ic_moS h
    have k6 := (ic_gdE h).1
    replace h := (ic_gdE h).2
    refine ev_ifnull0 (a := 0) (b := 5) (show (3 : Nat) ≠ 26 by decide) rfl ?_
    refine ev_aload_n (a := 0) (b := 6) rfl rfl ?_
    refine ev_iload_n (a := 0) (b := 7) rfl rfl ?_
    obtain ⟨v9, g7, e8, h⟩ := ic_b2E h
    refine ev_ivI (a := 0) (b := 8) [ic_I x2] rfl okX4_isOfKind rfl lmX2_81 rfl (rc3 (ic_vks (C := 3) k6) (ic_vkt (C := 3) k6)) (Nat.le_of_ble_eq_true rfl) (eX4_isOfKind e8) (Nat.le_of_ble_eq_true rfl) rfl ?_
    refine ev_ifeq (a := 0) (b := 9) 22 rfl rfl (fun c10 => ?_) (fun c10 => ?_)
    · have h := (if_pos c10).symm.trans h
      refine ev_iconst (a := 0) (b := 12) 0 rfl (by decide) ?_
      obtain ⟨rfl, rfl⟩ := ic_s2 h
      exact ev_ireturn (a := 0) (b := 13) rfl rfl rfl
    · have h := (if_neg c10).symm.trans h
      refine ev_iconst (a := 0) (b := 10) 1 rfl (by decide) ?_
      refine ev_goto (a := 0) (b := 11) 23 rfl rfl ?_
      obtain ⟨rfl, rfl⟩ := ic_s2 h
      exact ev_ireturn (a := 0) (b := 13) rfl rfl rfl
set_option maxRecDepth 20000 in
theorem tX2_cellsToFeel_5 {s : Nat} (hs : s < 3) {x1 : Int32} {x2 : Int32} : ∀ (n : Nat) (x3 : Int32) (x4 : Int32) (g : ic_S) (q : (Int32) × ic_S), lX2_cellsToFeel_5 s x1 x2 n x3 x4 g = some q → ∀ (r : Option ic_V) (g' : ic_S), ic_Ev mX2_cellsToFeel 36 [(3, ic_I q.1)] [] q.2 r g' → ic_Ev mX2_cellsToFeel 5 [(0, ic_R 1 s 0), (1, ic_I x1), (2, ic_I x2), (3, ic_I x3), (4, ic_I x4)] [] g r g' := by
  intro n
  induction n with
  | zero => intro x3 x4 g q h; cases h
  | succ n ih =>
    intro x3 x4 g q h r g' hq
    rw [lX2_cellsToFeel_5] at h
    refine ev_iload (a := 0) (b := 4) rfl rfl ?_
    refine ev_bipush (a := 0) (b := 5) 16 rfl (by decide) ?_
    refine ev_icge (a := 0) (b := 6) 36 rfl rfl (fun c1001 => ?_) (fun c1001 => ?_)
    · have h := (if_pos c1001).symm.trans h
      obtain rfl := ic_s1 h
      exact ev_fw (lv' := [(3, ic_I x3)]) hq (And.intro rfl trivial)
    · have h := (if_neg c1001).symm.trans h
      refine ev_aload_n (a := 0) (b := 7) rfl rfl ?_
      refine ev_aload_n (a := 0) (b := 8) rfl rfl ?_
      refine ev_iload_n (a := 0) (b := 9) rfl rfl ?_
      obtain ⟨v1004, g1002, e1003, h⟩ := ic_b2E h
      refine ev_ivO (a := 0) (b := 10) [ic_I x1] rfl okX2_thingAt rfl lmX2_46 rfl (rc1 hs) (Nat.le_of_ble_eq_true rfl) (eX2_thingAt e1003) (Nat.le_of_ble_eq_true rfl) rfl ?_
      refine ev_iload (a := 0) (b := 11) rfl rfl ?_
      obtain ⟨v1007, g1005, e1006, h⟩ := ic_b2E h
      refine ev_ivI (a := 0) (b := 12) [ic_O 3 v1004, ic_I x4] rfl okX2_feltBy rfl lmX2_65 rfl (rc1 hs) (Nat.le_of_ble_eq_true rfl) (eX2_feltBy e1006) (Nat.le_of_ble_eq_true rfl) rfl ?_
      refine ev_iload_n (a := 0) (b := 13) rfl rfl ?_
      refine ev_iclt (a := 0) (b := 14) 30 rfl rfl (fun c1008 => ?_) (fun c1008 => ?_)
      · have h := (if_pos c1008).symm.trans h
        refine ev_iinc (a := 0) (b := 16) (x4 + 1) [(0, ic_R 1 s 0), (1, ic_I x1), (2, ic_I x2), (3, ic_I x3), (4, ic_I (x4 + 1))] rfl rfl (by first | rfl | decide) (by decide) (And.intro (Or.inr (And.intro rfl rfl)) (And.intro (Or.inr (And.intro rfl rfl)) (And.intro (Or.inr (And.intro rfl rfl)) (And.intro (Or.inr (And.intro rfl rfl)) (And.intro (Or.inl rfl) trivial))))) ?_
        refine ev_goto (a := 0) (b := 17) 5 rfl rfl ?_
        refine ev_fw (lv' := [(0, ic_R 1 s 0), (1, ic_I x1), (2, ic_I x2), (3, ic_I x3), (4, ic_I (x4 + 1))]) ?_ (And.intro rfl (And.intro rfl (And.intro rfl (And.intro rfl (And.intro rfl trivial)))))
        exact ih x3 (x4 + 1) g1005 _ h _ _ hq
      · have h := (if_neg c1008).symm.trans h
        refine ev_iinc (a := 0) (b := 15) (x3 + 1) [(0, ic_R 1 s 0), (1, ic_I x1), (2, ic_I x2), (3, ic_I (x3 + 1)), (4, ic_I x4)] rfl rfl (by first | rfl | decide) (by decide) (And.intro (Or.inr (And.intro rfl rfl)) (And.intro (Or.inr (And.intro rfl rfl)) (And.intro (Or.inr (And.intro rfl rfl)) (And.intro (Or.inl rfl) (And.intro (Or.inr (And.intro rfl rfl)) trivial))))) ?_
        refine ev_iinc (a := 0) (b := 16) (x4 + 1) [(0, ic_R 1 s 0), (1, ic_I x1), (2, ic_I x2), (3, ic_I (x3 + 1)), (4, ic_I (x4 + 1))] rfl rfl (by first | rfl | decide) (by decide) (And.intro (Or.inr (And.intro rfl rfl)) (And.intro (Or.inr (And.intro rfl rfl)) (And.intro (Or.inr (And.intro rfl rfl)) (And.intro (Or.inr (And.intro rfl rfl)) (And.intro (Or.inl rfl) trivial))))) ?_
        refine ev_goto (a := 0) (b := 17) 5 rfl rfl ?_
        refine ev_fw (lv' := [(0, ic_R 1 s 0), (1, ic_I x1), (2, ic_I x2), (3, ic_I (x3 + 1)), (4, ic_I (x4 + 1))]) ?_ (And.intro rfl (And.intro rfl (And.intro rfl (And.intro rfl (And.intro rfl trivial)))))
        exact ih (x3 + 1) (x4 + 1) g1005 _ h _ _ hq
set_option maxRecDepth 20000 in
theorem eX2_cellsToFeel {s : Nat} {x1 : Int32} {x2 : Int32} {g g' : ic_S} {v : Int32} (h : fX2_cellsToFeel s x1 x2 g = some (v, g')) : ic_Ev mX2_cellsToFeel 0 (ic_ag 0 [ic_R 1 s 0, ic_I x1, ic_I x2]) [] g (some (ic_I v)) g' := by
  unfold fX2_cellsToFeel at h
  obtain ⟨hs, h⟩ := ic_gdE h
  have hs : s < 3 := Nat.le_of_ble_eq_true hs
  change ic_Ev mX2_cellsToFeel 0 [(0, ic_R 1 s 0), (1, ic_I x1), (2, ic_I x2)] [] g _ _
  refine ev_iconst (a := 0) (b := 0) 0 rfl (by decide) ?_
  refine ev_istore_n (a := 0) (b := 1) [(0, ic_R 1 s 0), (1, ic_I x1), (2, ic_I x2), (3, ic_I 0)] rfl (by decide) (And.intro (Or.inr (And.intro rfl rfl)) (And.intro (Or.inr (And.intro rfl rfl)) (And.intro (Or.inr (And.intro rfl rfl)) (And.intro (Or.inl rfl) trivial)))) ?_
  refine ev_iconst (a := 0) (b := 2) 0 rfl (by decide) ?_
  refine ev_istore (a := 0) (b := 3) [(0, ic_R 1 s 0), (1, ic_I x1), (2, ic_I x2), (3, ic_I 0), (4, ic_I 0)] rfl (by decide) (And.intro (Or.inr (And.intro rfl rfl)) (And.intro (Or.inr (And.intro rfl rfl)) (And.intro (Or.inr (And.intro rfl rfl)) (And.intro (Or.inr (And.intro rfl rfl)) (And.intro (Or.inl rfl) trivial))))) ?_
  refine ev_fw (lv' := [(0, ic_R 1 s 0), (1, ic_I x1), (2, ic_I x2), (3, ic_I 0), (4, ic_I 0)]) ?_ (And.intro rfl (And.intro rfl (And.intro rfl (And.intro rfl (And.intro rfl trivial)))))
  obtain ⟨y1, g2, e3, h⟩ := ic_b2E h
  refine tX2_cellsToFeel_5 (x1 := x1) (x2 := x2) hs 1000 0 0 g _ e3 _ _ ?_
  change ic_Ev mX2_cellsToFeel 36 [(3, ic_I y1)] [] g2 _ _
  refine ev_iload_n (a := 0) (b := 18) rfl rfl ?_
  obtain ⟨rfl, rfl⟩ := ic_s2 h
  exact ev_ireturn (a := 0) (b := 19) rfl rfl rfl
set_option maxRecDepth 20000 in
theorem tX2_holdThings_2 {s : Nat} (hs : s < 3) {x1 : Int32} : ∀ (n : Nat) (x2 : Int32) (g : ic_S) (q : Unit × ic_S), lX2_holdThings_2 s x1 n x2 g = some q → ∀ (r : Option ic_V) (g' : ic_S), ic_Ev mX2_holdThings 32 [] [] q.2 r g' → ic_Ev mX2_holdThings 2 [(0, ic_R 1 s 0), (1, ic_I x1), (2, ic_I x2)] [] g r g' := by
  intro n
  induction n with
  | zero => intro x2 g q h; cases h
  | succ n ih =>
    intro x2 g q h r g' hq
    rw [lX2_holdThings_2] at h
    refine ev_iload_n (a := 0) (b := 2) rfl rfl ?_
    refine ev_aload_n (a := 0) (b := 3) rfl rfl ?_
    refine ev_get (a := 0) (b := 4) 2 6 rfl rfl (Nat.le_of_ble_eq_true rfl) lfX2_30 (gX2_made hs) ?_
    refine ev_icge (a := 0) (b := 5) 32 rfl rfl (fun c1001 => ?_) (fun c1001 => ?_)
    · have h := (if_pos c1001).symm.trans h
      obtain rfl := ic_s1 h
      exact ev_fw (lv' := []) hq trivial
    · have h := (if_neg c1001).symm.trans h
      refine ev_iload_n (a := 0) (b := 6) rfl rfl ?_
      refine ev_iload_n (a := 0) (b := 7) rfl rfl ?_
      refine ev_ishr (a := 0) (b := 8) rfl ?_
      refine ev_iconst (a := 0) (b := 9) 1 rfl (by decide) ?_
      refine ev_iand (a := 0) (b := 10) rfl ?_
      refine ev_iconst (a := 0) (b := 11) 1 rfl (by decide) ?_
      refine ev_icne (a := 0) (b := 12) 26 rfl rfl (fun c1002 => ?_) (fun c1002 => ?_)
      · have h := (if_neg c1002).symm.trans h
        refine ev_iinc (a := 0) (b := 18) (x2 + 1) [(0, ic_R 1 s 0), (1, ic_I x1), (2, ic_I (x2 + 1))] rfl rfl (by first | rfl | decide) (by decide) (And.intro (Or.inr (And.intro rfl rfl)) (And.intro (Or.inr (And.intro rfl rfl)) (And.intro (Or.inl rfl) trivial))) ?_
        refine ev_goto (a := 0) (b := 19) 2 rfl rfl ?_
        refine ev_fw (lv' := [(0, ic_R 1 s 0), (1, ic_I x1), (2, ic_I (x2 + 1))]) ?_ (And.intro rfl (And.intro rfl (And.intro rfl trivial)))
        exact ih (x2 + 1) g _ h _ _ hq
      · have h := (if_pos c1002).symm.trans h
        refine ev_aload_n (a := 0) (b := 13) rfl rfl ?_
        refine ev_iload_n (a := 0) (b := 14) rfl rfl ?_
        refine ev_iconst (a := 0) (b := 15) 4 rfl (by decide) ?_
        refine ev_iconst (a := 0) (b := 16) 1 rfl (by decide) ?_
        obtain ⟨g1003, e1004, h⟩ := ic_b1E h
        refine ev_ivV (a := 0) (b := 17) [ic_I x2, ic_I 4, ic_I 1] rfl okX2_alter rfl lmX2_103 rfl (rc1 hs) (Nat.le_of_ble_eq_true rfl) (eX2_alter e1004) (Nat.le_of_ble_eq_true rfl) rfl ?_
        refine ev_iinc (a := 0) (b := 18) (x2 + 1) [(0, ic_R 1 s 0), (1, ic_I x1), (2, ic_I (x2 + 1))] rfl rfl (by first | rfl | decide) (by decide) (And.intro (Or.inr (And.intro rfl rfl)) (And.intro (Or.inr (And.intro rfl rfl)) (And.intro (Or.inl rfl) trivial))) ?_
        refine ev_goto (a := 0) (b := 19) 2 rfl rfl ?_
        refine ev_fw (lv' := [(0, ic_R 1 s 0), (1, ic_I x1), (2, ic_I (x2 + 1))]) ?_ (And.intro rfl (And.intro rfl (And.intro rfl trivial)))
        exact ih (x2 + 1) g1003 _ h _ _ hq
set_option maxRecDepth 20000 in
theorem eX2_holdThings {s : Nat} {x1 : Int32} {g g' : ic_S} (h : fX2_holdThings s x1 g = some g') : ic_Ev mX2_holdThings 0 (ic_ag 0 [ic_R 1 s 0, ic_I x1]) [] g (none) g' := by
  unfold fX2_holdThings at h
  obtain ⟨hs, h⟩ := ic_gdE h
  have hs : s < 3 := Nat.le_of_ble_eq_true hs
  change ic_Ev mX2_holdThings 0 [(0, ic_R 1 s 0), (1, ic_I x1)] [] g _ _
  refine ev_iconst (a := 0) (b := 0) 0 rfl (by decide) ?_
  refine ev_istore_n (a := 0) (b := 1) [(0, ic_R 1 s 0), (1, ic_I x1), (2, ic_I 0)] rfl (by decide) (And.intro (Or.inr (And.intro rfl rfl)) (And.intro (Or.inr (And.intro rfl rfl)) (And.intro (Or.inl rfl) trivial))) ?_
  refine ev_fw (lv' := [(0, ic_R 1 s 0), (1, ic_I x1), (2, ic_I 0)]) ?_ (And.intro rfl (And.intro rfl (And.intro rfl trivial)))
  obtain ⟨y1, g2, e3, h⟩ := ic_b2E h
  refine tX2_holdThings_2 (x1 := x1) hs 1000 0 g _ e3 _ _ ?_
  change ic_Ev mX2_holdThings 32 [] [] g2 _ _
  obtain rfl := ic_s1 h
  exact ev_return (a := 0) (b := 20) rfl rfl
set_option maxRecDepth 20000 in
theorem tX2_thingsWith_16 {s : Nat} (hs : s < 3) {x1 : Int32} {x2 : Int32} : ∀ (n : Nat) (x3 : Int32) (x6 : Int32) (g : ic_S) (q : (Int32) × ic_S), lX2_thingsWith_16 s x1 x2 n x3 x6 g = some q → ∀ (r : Option ic_V) (g' : ic_S), ic_Ev mX2_thingsWith 73 [(3, ic_I q.1)] [] q.2 r g' → ic_Ev mX2_thingsWith 16 [(0, ic_R 1 s 0), (1, ic_I x1), (2, ic_I x2), (3, ic_I x3), (4, ic_R 2 s 0), (5, ic_I 8), (6, ic_I x6)] [] g r g' := by
  intro n
  induction n with
  | zero => intro x3 x6 g q h; cases h
  | succ n ih =>
    intro x3 x6 g q h r g' hq
    rw [lX2_thingsWith_16] at h
    refine ev_iload (a := 0) (b := 10) rfl rfl ?_
    refine ev_iload (a := 0) (b := 11) rfl rfl ?_
    refine ev_icge (a := 0) (b := 12) 73 rfl rfl (fun c1001 => ?_) (fun c1001 => ?_)
    · have h := (if_pos c1001).symm.trans h
      obtain rfl := ic_s1 h
      exact ev_fw (lv' := [(3, ic_I x3)]) hq (And.intro rfl trivial)
    · have h := (if_neg c1001).symm.trans h
      refine ev_aload (a := 0) (b := 13) rfl rfl ?_
      refine ev_iload (a := 0) (b := 14) rfl rfl ?_
      obtain ⟨h1002, h⟩ := ic_gdE h
      refine ev_aald (a := 0) (b := 15) rfl (a2 hs) h1002 (show (3 : Nat) ≠ 26 by decide) ?_
      refine ev_astore (a := 0) (b := 16) [(0, ic_R 1 s 0), (1, ic_I x1), (2, ic_I x2), (3, ic_I x3), (4, ic_R 2 s 0), (5, ic_I 8), (6, ic_I x6), (7, ic_R 3 s (Int32.toNatClampNeg x6))] rfl (by decide) (And.intro (Or.inr (And.intro rfl rfl)) (And.intro (Or.inr (And.intro rfl rfl)) (And.intro (Or.inr (And.intro rfl rfl)) (And.intro (Or.inr (And.intro rfl rfl)) (And.intro (Or.inr (And.intro rfl rfl)) (And.intro (Or.inr (And.intro rfl rfl)) (And.intro (Or.inr (And.intro rfl rfl)) (And.intro (Or.inl rfl) trivial)))))))) ?_
      refine ev_aload (a := 0) (b := 17) rfl rfl ?_
      refine ev_ifnull0 (a := 0) (b := 18) (show (3 : Nat) ≠ 26 by decide) rfl ?_
      refine ev_aload (a := 0) (b := 19) rfl rfl ?_
      refine ev_get (a := 0) (b := 20) 4 0 rfl rfl (Nat.le_of_ble_eq_true rfl) lfX2_95 (gX4_number hs (ic_inl h1002)) ?_
      refine ev_aload_n (a := 0) (b := 21) rfl rfl ?_
      refine ev_get (a := 0) (b := 22) 2 6 rfl rfl (Nat.le_of_ble_eq_true rfl) lfX2_30 (gX2_made hs) ?_
      refine ev_icge (a := 0) (b := 23) 67 rfl rfl (fun c1003 => ?_) (fun c1003 => ?_)
      · have h := (if_pos c1003).symm.trans h
        refine ev_iinc (a := 1) (b := 4) (x6 + 1) [(0, ic_R 1 s 0), (1, ic_I x1), (2, ic_I x2), (3, ic_I x3), (4, ic_R 2 s 0), (5, ic_I 8), (6, ic_I (x6 + 1))] rfl rfl (by first | rfl | decide) (by decide) (And.intro (Or.inr (And.intro rfl rfl)) (And.intro (Or.inr (And.intro rfl rfl)) (And.intro (Or.inr (And.intro rfl rfl)) (And.intro (Or.inr (And.intro rfl rfl)) (And.intro (Or.inr (And.intro rfl rfl)) (And.intro (Or.inr (And.intro rfl rfl)) (And.intro (Or.inl rfl) trivial))))))) ?_
        refine ev_goto (a := 1) (b := 5) 16 rfl rfl ?_
        refine ev_fw (lv' := [(0, ic_R 1 s 0), (1, ic_I x1), (2, ic_I x2), (3, ic_I x3), (4, ic_R 2 s 0), (5, ic_I 8), (6, ic_I (x6 + 1))]) ?_ (And.intro rfl (And.intro rfl (And.intro rfl (And.intro rfl (And.intro rfl (And.intro rfl (And.intro rfl trivial)))))))
        exact ih x3 (x6 + 1) g _ h _ _ hq
      · have h := (if_neg c1003).symm.trans h
        refine ev_aload (a := 0) (b := 24) rfl rfl ?_
        refine ev_iload_n (a := 0) (b := 25) rfl rfl ?_
        obtain ⟨v1006, g1004, e1005, h⟩ := ic_b2E h
        refine ev_ivI (a := 0) (b := 26) [ic_I x1] rfl okX4_told rfl lmX2_75 rfl (rc3 hs (ic_inl h1002)) (Nat.le_of_ble_eq_true rfl) (eX4_told e1005) (Nat.le_of_ble_eq_true rfl) rfl ?_
        refine ev_iload_n (a := 0) (b := 27) rfl rfl ?_
        refine ev_icne (a := 0) (b := 28) 67 rfl rfl (fun c1007 => ?_) (fun c1007 => ?_)
        · have h := (if_neg c1007).symm.trans h
          refine ev_iinc (a := 1) (b := 4) (x6 + 1) [(0, ic_R 1 s 0), (1, ic_I x1), (2, ic_I x2), (3, ic_I x3), (4, ic_R 2 s 0), (5, ic_I 8), (6, ic_I (x6 + 1))] rfl rfl (by first | rfl | decide) (by decide) (And.intro (Or.inr (And.intro rfl rfl)) (And.intro (Or.inr (And.intro rfl rfl)) (And.intro (Or.inr (And.intro rfl rfl)) (And.intro (Or.inr (And.intro rfl rfl)) (And.intro (Or.inr (And.intro rfl rfl)) (And.intro (Or.inr (And.intro rfl rfl)) (And.intro (Or.inl rfl) trivial))))))) ?_
          refine ev_goto (a := 1) (b := 5) 16 rfl rfl ?_
          refine ev_fw (lv' := [(0, ic_R 1 s 0), (1, ic_I x1), (2, ic_I x2), (3, ic_I x3), (4, ic_R 2 s 0), (5, ic_I 8), (6, ic_I (x6 + 1))]) ?_ (And.intro rfl (And.intro rfl (And.intro rfl (And.intro rfl (And.intro rfl (And.intro rfl (And.intro rfl trivial)))))))
          exact ih x3 (x6 + 1) g1004 _ h _ _ hq
        · have h := (if_pos c1007).symm.trans h
          refine ev_iload_n (a := 0) (b := 29) rfl rfl ?_
          refine ev_iconst (a := 0) (b := 30) 1 rfl (by decide) ?_
          refine ev_aload (a := 0) (b := 31) rfl rfl ?_
          refine ev_get (a := 1) (b := 0) 4 0 rfl rfl (Nat.le_of_ble_eq_true rfl) lfX2_95 (gX4_number hs (ic_inl h1002)) ?_
          refine ev_ishl (a := 1) (b := 1) rfl ?_
          refine ev_ior (a := 1) (b := 2) rfl ?_
          obtain ⟨y1008, ey1008, h⟩ := ic_letE h
          refine ev_topI ey1008 ?_
          refine ev_istore_n (a := 1) (b := 3) [(0, ic_R 1 s 0), (1, ic_I x1), (2, ic_I x2), (3, ic_I y1008), (4, ic_R 2 s 0), (5, ic_I 8), (6, ic_I x6)] rfl (by decide) (And.intro (Or.inr (And.intro rfl rfl)) (And.intro (Or.inr (And.intro rfl rfl)) (And.intro (Or.inr (And.intro rfl rfl)) (And.intro (Or.inl rfl) (And.intro (Or.inr (And.intro rfl rfl)) (And.intro (Or.inr (And.intro rfl rfl)) (And.intro (Or.inr (And.intro rfl rfl)) trivial))))))) ?_
          refine ev_iinc (a := 1) (b := 4) (x6 + 1) [(0, ic_R 1 s 0), (1, ic_I x1), (2, ic_I x2), (3, ic_I y1008), (4, ic_R 2 s 0), (5, ic_I 8), (6, ic_I (x6 + 1))] rfl rfl (by first | rfl | decide) (by decide) (And.intro (Or.inr (And.intro rfl rfl)) (And.intro (Or.inr (And.intro rfl rfl)) (And.intro (Or.inr (And.intro rfl rfl)) (And.intro (Or.inr (And.intro rfl rfl)) (And.intro (Or.inr (And.intro rfl rfl)) (And.intro (Or.inr (And.intro rfl rfl)) (And.intro (Or.inl rfl) trivial))))))) ?_
          refine ev_goto (a := 1) (b := 5) 16 rfl rfl ?_
          refine ev_fw (lv' := [(0, ic_R 1 s 0), (1, ic_I x1), (2, ic_I x2), (3, ic_I y1008), (4, ic_R 2 s 0), (5, ic_I 8), (6, ic_I (x6 + 1))]) ?_ (And.intro rfl (And.intro rfl (And.intro rfl (And.intro rfl (And.intro rfl (And.intro rfl (And.intro rfl trivial)))))))
          exact ih y1008 (x6 + 1) g1004 _ h _ _ hq
set_option maxRecDepth 20000 in
theorem eX2_thingsWith {s : Nat} {x1 : Int32} {x2 : Int32} {g g' : ic_S} {v : Int32} (h : fX2_thingsWith s x1 x2 g = some (v, g')) : ic_Ev mX2_thingsWith 0 (ic_ag 0 [ic_R 1 s 0, ic_I x1, ic_I x2]) [] g (some (ic_I v)) g' := by
  unfold fX2_thingsWith at h
  obtain ⟨hs, h⟩ := ic_gdE h
  have hs : s < 3 := Nat.le_of_ble_eq_true hs
  change ic_Ev mX2_thingsWith 0 [(0, ic_R 1 s 0), (1, ic_I x1), (2, ic_I x2)] [] g _ _
  refine ev_iconst (a := 0) (b := 0) 0 rfl (by decide) ?_
  refine ev_istore_n (a := 0) (b := 1) [(0, ic_R 1 s 0), (1, ic_I x1), (2, ic_I x2), (3, ic_I 0)] rfl (by decide) (And.intro (Or.inr (And.intro rfl rfl)) (And.intro (Or.inr (And.intro rfl rfl)) (And.intro (Or.inr (And.intro rfl rfl)) (And.intro (Or.inl rfl) trivial)))) ?_
  refine ev_aload_n (a := 0) (b := 2) rfl rfl ?_
  refine ev_get (a := 0) (b := 3) 2 7 rfl rfl (Nat.le_of_ble_eq_true rfl) lfX2_35 (gX2_things hs) ?_
  refine ev_astore (a := 0) (b := 4) [(0, ic_R 1 s 0), (1, ic_I x1), (2, ic_I x2), (3, ic_I 0), (4, ic_R 2 s 0)] rfl (by decide) (And.intro (Or.inr (And.intro rfl rfl)) (And.intro (Or.inr (And.intro rfl rfl)) (And.intro (Or.inr (And.intro rfl rfl)) (And.intro (Or.inr (And.intro rfl rfl)) (And.intro (Or.inl rfl) trivial))))) ?_
  refine ev_aload (a := 0) (b := 5) rfl rfl ?_
  refine ev_alenr (a := 0) (b := 6) 8 rfl (a2 hs) (by decide) ?_
  refine ev_istore (a := 0) (b := 7) [(0, ic_R 1 s 0), (1, ic_I x1), (2, ic_I x2), (3, ic_I 0), (4, ic_R 2 s 0), (5, ic_I 8)] rfl (by decide) (And.intro (Or.inr (And.intro rfl rfl)) (And.intro (Or.inr (And.intro rfl rfl)) (And.intro (Or.inr (And.intro rfl rfl)) (And.intro (Or.inr (And.intro rfl rfl)) (And.intro (Or.inr (And.intro rfl rfl)) (And.intro (Or.inl rfl) trivial)))))) ?_
  refine ev_iconst (a := 0) (b := 8) 0 rfl (by decide) ?_
  refine ev_istore (a := 0) (b := 9) [(0, ic_R 1 s 0), (1, ic_I x1), (2, ic_I x2), (3, ic_I 0), (4, ic_R 2 s 0), (5, ic_I 8), (6, ic_I 0)] rfl (by decide) (And.intro (Or.inr (And.intro rfl rfl)) (And.intro (Or.inr (And.intro rfl rfl)) (And.intro (Or.inr (And.intro rfl rfl)) (And.intro (Or.inr (And.intro rfl rfl)) (And.intro (Or.inr (And.intro rfl rfl)) (And.intro (Or.inr (And.intro rfl rfl)) (And.intro (Or.inl rfl) trivial))))))) ?_
  refine ev_fw (lv' := [(0, ic_R 1 s 0), (1, ic_I x1), (2, ic_I x2), (3, ic_I 0), (4, ic_R 2 s 0), (5, ic_I 8), (6, ic_I 0)]) ?_ (And.intro rfl (And.intro rfl (And.intro rfl (And.intro rfl (And.intro rfl (And.intro rfl (And.intro rfl trivial)))))))
  obtain ⟨y1, g2, e3, h⟩ := ic_b2E h
  refine tX2_thingsWith_16 (x1 := x1) (x2 := x2) hs 1000 0 0 g _ e3 _ _ ?_
  change ic_Ev mX2_thingsWith 73 [(3, ic_I y1)] [] g2 _ _
  refine ev_iload_n (a := 1) (b := 6) rfl rfl ?_
  obtain ⟨rfl, rfl⟩ := ic_s2 h
  exact ev_ireturn (a := 1) (b := 7) rfl rfl rfl
set_option maxRecDepth 20000 in
theorem tX2_cellsInUse_4 {s : Nat} (hs : s < 3) : ∀ (n : Nat) (x1 : Int32) (x2 : Int32) (g : ic_S) (q : (Int32) × ic_S), lX2_cellsInUse_4 s n x1 x2 g = some q → ∀ (r : Option ic_V) (g' : ic_S), ic_Ev mX2_cellsInUse 30 [(1, ic_I q.1)] [] q.2 r g' → ic_Ev mX2_cellsInUse 4 [(0, ic_R 1 s 0), (1, ic_I x1), (2, ic_I x2)] [] g r g' := by
  intro n
  induction n with
  | zero => intro x1 x2 g q h; cases h
  | succ n ih =>
    intro x1 x2 g q h r g' hq
    rw [lX2_cellsInUse_4] at h
    refine ev_iload_n (a := 0) (b := 4) rfl rfl ?_
    refine ev_bipush (a := 0) (b := 5) 16 rfl (by decide) ?_
    refine ev_icge (a := 0) (b := 6) 30 rfl rfl (fun c1001 => ?_) (fun c1001 => ?_)
    · have h := (if_pos c1001).symm.trans h
      obtain rfl := ic_s1 h
      exact ev_fw (lv' := [(1, ic_I x1)]) hq (And.intro rfl trivial)
    · have h := (if_neg c1001).symm.trans h
      refine ev_aload_n (a := 0) (b := 7) rfl rfl ?_
      refine ev_iload_n (a := 0) (b := 8) rfl rfl ?_
      obtain ⟨v1004, g1002, e1003, h⟩ := ic_b2E h
      refine ev_ivI (a := 0) (b := 9) [ic_I x2] rfl okX2_thingsAt rfl lmX2_92 rfl (rc1 hs) (Nat.le_of_ble_eq_true rfl) (eX2_thingsAt e1003) (Nat.le_of_ble_eq_true rfl) rfl ?_
      refine ev_ifeq (a := 0) (b := 10) 24 rfl rfl (fun c1005 => ?_) (fun c1005 => ?_)
      · have h := (if_pos c1005).symm.trans h
        refine ev_iinc (a := 0) (b := 17) (x2 + 1) [(0, ic_R 1 s 0), (1, ic_I x1), (2, ic_I (x2 + 1))] rfl rfl (by first | rfl | decide) (by decide) (And.intro (Or.inr (And.intro rfl rfl)) (And.intro (Or.inr (And.intro rfl rfl)) (And.intro (Or.inl rfl) trivial))) ?_
        refine ev_goto (a := 0) (b := 18) 4 rfl rfl ?_
        refine ev_fw (lv' := [(0, ic_R 1 s 0), (1, ic_I x1), (2, ic_I (x2 + 1))]) ?_ (And.intro rfl (And.intro rfl (And.intro rfl trivial)))
        exact ih x1 (x2 + 1) g1002 _ h _ _ hq
      · have h := (if_neg c1005).symm.trans h
        refine ev_iload_n (a := 0) (b := 11) rfl rfl ?_
        refine ev_iconst (a := 0) (b := 12) 1 rfl (by decide) ?_
        refine ev_iload_n (a := 0) (b := 13) rfl rfl ?_
        refine ev_ishl (a := 0) (b := 14) rfl ?_
        refine ev_ior (a := 0) (b := 15) rfl ?_
        obtain ⟨y1006, ey1006, h⟩ := ic_letE h
        refine ev_topI ey1006 ?_
        refine ev_istore_n (a := 0) (b := 16) [(0, ic_R 1 s 0), (1, ic_I y1006), (2, ic_I x2)] rfl (by decide) (And.intro (Or.inr (And.intro rfl rfl)) (And.intro (Or.inl rfl) (And.intro (Or.inr (And.intro rfl rfl)) trivial))) ?_
        refine ev_iinc (a := 0) (b := 17) (x2 + 1) [(0, ic_R 1 s 0), (1, ic_I y1006), (2, ic_I (x2 + 1))] rfl rfl (by first | rfl | decide) (by decide) (And.intro (Or.inr (And.intro rfl rfl)) (And.intro (Or.inr (And.intro rfl rfl)) (And.intro (Or.inl rfl) trivial))) ?_
        refine ev_goto (a := 0) (b := 18) 4 rfl rfl ?_
        refine ev_fw (lv' := [(0, ic_R 1 s 0), (1, ic_I y1006), (2, ic_I (x2 + 1))]) ?_ (And.intro rfl (And.intro rfl (And.intro rfl trivial)))
        exact ih y1006 (x2 + 1) g1002 _ h _ _ hq
set_option maxRecDepth 20000 in
theorem eX2_cellsInUse {s : Nat} {g g' : ic_S} {v : Int32} (h : fX2_cellsInUse s g = some (v, g')) : ic_Ev mX2_cellsInUse 0 (ic_ag 0 [ic_R 1 s 0]) [] g (some (ic_I v)) g' := by
  unfold fX2_cellsInUse at h
  obtain ⟨hs, h⟩ := ic_gdE h
  have hs : s < 3 := Nat.le_of_ble_eq_true hs
  change ic_Ev mX2_cellsInUse 0 [(0, ic_R 1 s 0)] [] g _ _
  refine ev_iconst (a := 0) (b := 0) 0 rfl (by decide) ?_
  refine ev_istore_n (a := 0) (b := 1) [(0, ic_R 1 s 0), (1, ic_I 0)] rfl (by decide) (And.intro (Or.inr (And.intro rfl rfl)) (And.intro (Or.inl rfl) trivial)) ?_
  refine ev_iconst (a := 0) (b := 2) 0 rfl (by decide) ?_
  refine ev_istore_n (a := 0) (b := 3) [(0, ic_R 1 s 0), (1, ic_I 0), (2, ic_I 0)] rfl (by decide) (And.intro (Or.inr (And.intro rfl rfl)) (And.intro (Or.inr (And.intro rfl rfl)) (And.intro (Or.inl rfl) trivial))) ?_
  refine ev_fw (lv' := [(0, ic_R 1 s 0), (1, ic_I 0), (2, ic_I 0)]) ?_ (And.intro rfl (And.intro rfl (And.intro rfl trivial)))
  obtain ⟨y1, g2, e3, h⟩ := ic_b2E h
  refine tX2_cellsInUse_4 hs 1000 0 0 g _ e3 _ _ ?_
  change ic_Ev mX2_cellsInUse 30 [(1, ic_I y1)] [] g2 _ _
  refine ev_iload_n (a := 0) (b := 19) rfl rfl ?_
  obtain ⟨rfl, rfl⟩ := ic_s2 h
  exact ev_ireturn (a := 0) (b := 20) rfl rfl rfl
set_option maxRecDepth 20000 in
theorem tX2_sumOf_14 {s : Nat} (hs : s < 3) {x1 : Int32} : ∀ (n : Nat) (x2 : Int32) (x5 : Int32) (g : ic_S) (q : (Int32) × ic_S), lX2_sumOf_14 s x1 n x2 x5 g = some q → ∀ (r : Option ic_V) (g' : ic_S), ic_Ev mX2_sumOf 59 [(2, ic_I q.1)] [] q.2 r g' → ic_Ev mX2_sumOf 14 [(0, ic_R 1 s 0), (1, ic_I x1), (2, ic_I x2), (3, ic_R 2 s 0), (4, ic_I 8), (5, ic_I x5)] [] g r g' := by
  intro n
  induction n with
  | zero => intro x2 x5 g q h; cases h
  | succ n ih =>
    intro x2 x5 g q h r g' hq
    rw [lX2_sumOf_14] at h
    refine ev_iload (a := 0) (b := 10) rfl rfl ?_
    refine ev_iload (a := 0) (b := 11) rfl rfl ?_
    refine ev_icge (a := 0) (b := 12) 59 rfl rfl (fun c1001 => ?_) (fun c1001 => ?_)
    · have h := (if_pos c1001).symm.trans h
      obtain rfl := ic_s1 h
      exact ev_fw (lv' := [(2, ic_I x2)]) hq (And.intro rfl trivial)
    · have h := (if_neg c1001).symm.trans h
      refine ev_aload_n (a := 0) (b := 13) rfl rfl ?_
      refine ev_iload (a := 0) (b := 14) rfl rfl ?_
      obtain ⟨h1002, h⟩ := ic_gdE h
      refine ev_aald (a := 0) (b := 15) rfl (a2 hs) h1002 (show (3 : Nat) ≠ 26 by decide) ?_
      refine ev_astore (a := 0) (b := 16) [(0, ic_R 1 s 0), (1, ic_I x1), (2, ic_I x2), (3, ic_R 2 s 0), (4, ic_I 8), (5, ic_I x5), (6, ic_R 3 s (Int32.toNatClampNeg x5))] rfl (by decide) (And.intro (Or.inr (And.intro rfl rfl)) (And.intro (Or.inr (And.intro rfl rfl)) (And.intro (Or.inr (And.intro rfl rfl)) (And.intro (Or.inr (And.intro rfl rfl)) (And.intro (Or.inr (And.intro rfl rfl)) (And.intro (Or.inr (And.intro rfl rfl)) (And.intro (Or.inl rfl) trivial))))))) ?_
      refine ev_aload (a := 0) (b := 17) rfl rfl ?_
      refine ev_ifnull0 (a := 0) (b := 18) (show (3 : Nat) ≠ 26 by decide) rfl ?_
      refine ev_aload (a := 0) (b := 19) rfl rfl ?_
      refine ev_get (a := 0) (b := 20) 4 0 rfl rfl (Nat.le_of_ble_eq_true rfl) lfX2_95 (gX4_number hs (ic_inl h1002)) ?_
      refine ev_aload_n (a := 0) (b := 21) rfl rfl ?_
      refine ev_get (a := 0) (b := 22) 2 6 rfl rfl (Nat.le_of_ble_eq_true rfl) lfX2_30 (gX2_made hs) ?_
      refine ev_icge (a := 0) (b := 23) 53 rfl rfl (fun c1003 => ?_) (fun c1003 => ?_)
      · have h := (if_pos c1003).symm.trans h
        refine ev_iinc (a := 0) (b := 30) (x5 + 1) [(0, ic_R 1 s 0), (1, ic_I x1), (2, ic_I x2), (3, ic_R 2 s 0), (4, ic_I 8), (5, ic_I (x5 + 1))] rfl rfl (by first | rfl | decide) (by decide) (And.intro (Or.inr (And.intro rfl rfl)) (And.intro (Or.inr (And.intro rfl rfl)) (And.intro (Or.inr (And.intro rfl rfl)) (And.intro (Or.inr (And.intro rfl rfl)) (And.intro (Or.inr (And.intro rfl rfl)) (And.intro (Or.inl rfl) trivial)))))) ?_
        refine ev_goto (a := 0) (b := 31) 14 rfl rfl ?_
        refine ev_fw (lv' := [(0, ic_R 1 s 0), (1, ic_I x1), (2, ic_I x2), (3, ic_R 2 s 0), (4, ic_I 8), (5, ic_I (x5 + 1))]) ?_ (And.intro rfl (And.intro rfl (And.intro rfl (And.intro rfl (And.intro rfl (And.intro rfl trivial))))))
        exact ih x2 (x5 + 1) g _ h _ _ hq
      · have h := (if_neg c1003).symm.trans h
        refine ev_iload_n (a := 0) (b := 24) rfl rfl ?_
        refine ev_aload (a := 0) (b := 25) rfl rfl ?_
        refine ev_iload_n (a := 0) (b := 26) rfl rfl ?_
        obtain ⟨v1006, g1004, e1005, h⟩ := ic_b2E h
        refine ev_ivI (a := 0) (b := 27) [ic_I x1] rfl okX4_told rfl lmX2_75 rfl (rc3 hs (ic_inl h1002)) (Nat.le_of_ble_eq_true rfl) (eX4_told e1005) (Nat.le_of_ble_eq_true rfl) rfl ?_
        refine ev_iadd (a := 0) (b := 28) rfl ?_
        refine ev_istore_n (a := 0) (b := 29) [(0, ic_R 1 s 0), (1, ic_I x1), (2, ic_I (x2 + v1006)), (3, ic_R 2 s 0), (4, ic_I 8), (5, ic_I x5)] rfl (by decide) (And.intro (Or.inr (And.intro rfl rfl)) (And.intro (Or.inr (And.intro rfl rfl)) (And.intro (Or.inl rfl) (And.intro (Or.inr (And.intro rfl rfl)) (And.intro (Or.inr (And.intro rfl rfl)) (And.intro (Or.inr (And.intro rfl rfl)) trivial)))))) ?_
        refine ev_iinc (a := 0) (b := 30) (x5 + 1) [(0, ic_R 1 s 0), (1, ic_I x1), (2, ic_I (x2 + v1006)), (3, ic_R 2 s 0), (4, ic_I 8), (5, ic_I (x5 + 1))] rfl rfl (by first | rfl | decide) (by decide) (And.intro (Or.inr (And.intro rfl rfl)) (And.intro (Or.inr (And.intro rfl rfl)) (And.intro (Or.inr (And.intro rfl rfl)) (And.intro (Or.inr (And.intro rfl rfl)) (And.intro (Or.inr (And.intro rfl rfl)) (And.intro (Or.inl rfl) trivial)))))) ?_
        refine ev_goto (a := 0) (b := 31) 14 rfl rfl ?_
        refine ev_fw (lv' := [(0, ic_R 1 s 0), (1, ic_I x1), (2, ic_I (x2 + v1006)), (3, ic_R 2 s 0), (4, ic_I 8), (5, ic_I (x5 + 1))]) ?_ (And.intro rfl (And.intro rfl (And.intro rfl (And.intro rfl (And.intro rfl (And.intro rfl trivial))))))
        exact ih (x2 + v1006) (x5 + 1) g1004 _ h _ _ hq
set_option maxRecDepth 20000 in
theorem eX2_sumOf {s : Nat} {x1 : Int32} {g g' : ic_S} {v : Int32} (h : fX2_sumOf s x1 g = some (v, g')) : ic_Ev mX2_sumOf 0 (ic_ag 0 [ic_R 1 s 0, ic_I x1]) [] g (some (ic_I v)) g' := by
  unfold fX2_sumOf at h
  obtain ⟨hs, h⟩ := ic_gdE h
  have hs : s < 3 := Nat.le_of_ble_eq_true hs
  change ic_Ev mX2_sumOf 0 [(0, ic_R 1 s 0), (1, ic_I x1)] [] g _ _
  refine ev_iconst (a := 0) (b := 0) 0 rfl (by decide) ?_
  refine ev_istore_n (a := 0) (b := 1) [(0, ic_R 1 s 0), (1, ic_I x1), (2, ic_I 0)] rfl (by decide) (And.intro (Or.inr (And.intro rfl rfl)) (And.intro (Or.inr (And.intro rfl rfl)) (And.intro (Or.inl rfl) trivial))) ?_
  refine ev_aload_n (a := 0) (b := 2) rfl rfl ?_
  refine ev_get (a := 0) (b := 3) 2 7 rfl rfl (Nat.le_of_ble_eq_true rfl) lfX2_35 (gX2_things hs) ?_
  refine ev_astore_n (a := 0) (b := 4) [(0, ic_R 1 s 0), (1, ic_I x1), (2, ic_I 0), (3, ic_R 2 s 0)] rfl (by decide) (And.intro (Or.inr (And.intro rfl rfl)) (And.intro (Or.inr (And.intro rfl rfl)) (And.intro (Or.inr (And.intro rfl rfl)) (And.intro (Or.inl rfl) trivial)))) ?_
  refine ev_aload_n (a := 0) (b := 5) rfl rfl ?_
  refine ev_alenr (a := 0) (b := 6) 8 rfl (a2 hs) (by decide) ?_
  refine ev_istore (a := 0) (b := 7) [(0, ic_R 1 s 0), (1, ic_I x1), (2, ic_I 0), (3, ic_R 2 s 0), (4, ic_I 8)] rfl (by decide) (And.intro (Or.inr (And.intro rfl rfl)) (And.intro (Or.inr (And.intro rfl rfl)) (And.intro (Or.inr (And.intro rfl rfl)) (And.intro (Or.inr (And.intro rfl rfl)) (And.intro (Or.inl rfl) trivial))))) ?_
  refine ev_iconst (a := 0) (b := 8) 0 rfl (by decide) ?_
  refine ev_istore (a := 0) (b := 9) [(0, ic_R 1 s 0), (1, ic_I x1), (2, ic_I 0), (3, ic_R 2 s 0), (4, ic_I 8), (5, ic_I 0)] rfl (by decide) (And.intro (Or.inr (And.intro rfl rfl)) (And.intro (Or.inr (And.intro rfl rfl)) (And.intro (Or.inr (And.intro rfl rfl)) (And.intro (Or.inr (And.intro rfl rfl)) (And.intro (Or.inr (And.intro rfl rfl)) (And.intro (Or.inl rfl) trivial)))))) ?_
  refine ev_fw (lv' := [(0, ic_R 1 s 0), (1, ic_I x1), (2, ic_I 0), (3, ic_R 2 s 0), (4, ic_I 8), (5, ic_I 0)]) ?_ (And.intro rfl (And.intro rfl (And.intro rfl (And.intro rfl (And.intro rfl (And.intro rfl trivial))))))
  obtain ⟨y1, g2, e3, h⟩ := ic_b2E h
  refine tX2_sumOf_14 (x1 := x1) hs 1000 0 0 g _ e3 _ _ ?_
  change ic_Ev mX2_sumOf 59 [(2, ic_I y1)] [] g2 _ _
  refine ev_iload_n (a := 1) (b := 0) rfl rfl ?_
  obtain ⟨rfl, rfl⟩ := ic_s2 h
  exact ev_ireturn (a := 1) (b := 1) rfl rfl rfl
set_option maxRecDepth 20000 in
theorem tX2_takenHeavy_13 {s : Nat} (hs : s < 3) : ∀ (n : Nat) (x1 : Int32) (x4 : Int32) (g : ic_S) (q : (Int32) × ic_S), lX2_takenHeavy_13 s n x1 x4 g = some q → ∀ (r : Option ic_V) (g' : ic_S), ic_Ev mX2_takenHeavy 64 [(1, ic_I q.1)] [] q.2 r g' → ic_Ev mX2_takenHeavy 13 [(0, ic_R 1 s 0), (1, ic_I x1), (2, ic_R 2 s 0), (3, ic_I 8), (4, ic_I x4)] [] g r g' := by
  intro n
  induction n with
  | zero => intro x1 x4 g q h; cases h
  | succ n ih =>
    intro x1 x4 g q h r g' hq
    rw [lX2_takenHeavy_13] at h
    refine ev_iload (a := 0) (b := 10) rfl rfl ?_
    refine ev_iload_n (a := 0) (b := 11) rfl rfl ?_
    refine ev_icge (a := 0) (b := 12) 64 rfl rfl (fun c1001 => ?_) (fun c1001 => ?_)
    · have h := (if_pos c1001).symm.trans h
      obtain rfl := ic_s1 h
      exact ev_fw (lv' := [(1, ic_I x1)]) hq (And.intro rfl trivial)
    · have h := (if_neg c1001).symm.trans h
      refine ev_aload_n (a := 0) (b := 13) rfl rfl ?_
      refine ev_iload (a := 0) (b := 14) rfl rfl ?_
      obtain ⟨h1002, h⟩ := ic_gdE h
      refine ev_aald (a := 0) (b := 15) rfl (a2 hs) h1002 (show (3 : Nat) ≠ 26 by decide) ?_
      refine ev_astore (a := 0) (b := 16) [(0, ic_R 1 s 0), (1, ic_I x1), (2, ic_R 2 s 0), (3, ic_I 8), (4, ic_I x4), (5, ic_R 3 s (Int32.toNatClampNeg x4))] rfl (by decide) (And.intro (Or.inr (And.intro rfl rfl)) (And.intro (Or.inr (And.intro rfl rfl)) (And.intro (Or.inr (And.intro rfl rfl)) (And.intro (Or.inr (And.intro rfl rfl)) (And.intro (Or.inr (And.intro rfl rfl)) (And.intro (Or.inl rfl) trivial)))))) ?_
      refine ev_aload (a := 0) (b := 17) rfl rfl ?_
      refine ev_ifnull0 (a := 0) (b := 18) (show (3 : Nat) ≠ 26 by decide) rfl ?_
      refine ev_aload (a := 0) (b := 19) rfl rfl ?_
      refine ev_get (a := 0) (b := 20) 4 0 rfl rfl (Nat.le_of_ble_eq_true rfl) lfX2_95 (gX4_number hs (ic_inl h1002)) ?_
      refine ev_aload_n (a := 0) (b := 21) rfl rfl ?_
      refine ev_get (a := 0) (b := 22) 2 6 rfl rfl (Nat.le_of_ble_eq_true rfl) lfX2_30 (gX2_made hs) ?_
      refine ev_icge (a := 0) (b := 23) 58 rfl rfl (fun c1003 => ?_) (fun c1003 => ?_)
      · have h := (if_pos c1003).symm.trans h
        refine ev_iinc (a := 1) (b := 0) (x4 + 1) [(0, ic_R 1 s 0), (1, ic_I x1), (2, ic_R 2 s 0), (3, ic_I 8), (4, ic_I (x4 + 1))] rfl rfl (by first | rfl | decide) (by decide) (And.intro (Or.inr (And.intro rfl rfl)) (And.intro (Or.inr (And.intro rfl rfl)) (And.intro (Or.inr (And.intro rfl rfl)) (And.intro (Or.inr (And.intro rfl rfl)) (And.intro (Or.inl rfl) trivial))))) ?_
        refine ev_goto (a := 1) (b := 1) 13 rfl rfl ?_
        refine ev_fw (lv' := [(0, ic_R 1 s 0), (1, ic_I x1), (2, ic_R 2 s 0), (3, ic_I 8), (4, ic_I (x4 + 1))]) ?_ (And.intro rfl (And.intro rfl (And.intro rfl (And.intro rfl (And.intro rfl trivial)))))
        exact ih x1 (x4 + 1) g _ h _ _ hq
      · have h := (if_neg c1003).symm.trans h
        refine ev_aload (a := 0) (b := 24) rfl rfl ?_
        refine ev_get (a := 0) (b := 25) 4 7 rfl rfl (Nat.le_of_ble_eq_true rfl) lfX2_106 (gX4_isTaken hs (ic_inl h1002)) ?_
        refine ev_ifeq (a := 0) (b := 26) 58 rfl rfl (fun c1004 => ?_) (fun c1004 => ?_)
        · have h := (if_pos c1004).symm.trans h
          refine ev_iinc (a := 1) (b := 0) (x4 + 1) [(0, ic_R 1 s 0), (1, ic_I x1), (2, ic_R 2 s 0), (3, ic_I 8), (4, ic_I (x4 + 1))] rfl rfl (by first | rfl | decide) (by decide) (And.intro (Or.inr (And.intro rfl rfl)) (And.intro (Or.inr (And.intro rfl rfl)) (And.intro (Or.inr (And.intro rfl rfl)) (And.intro (Or.inr (And.intro rfl rfl)) (And.intro (Or.inl rfl) trivial))))) ?_
          refine ev_goto (a := 1) (b := 1) 13 rfl rfl ?_
          refine ev_fw (lv' := [(0, ic_R 1 s 0), (1, ic_I x1), (2, ic_R 2 s 0), (3, ic_I 8), (4, ic_I (x4 + 1))]) ?_ (And.intro rfl (And.intro rfl (And.intro rfl (And.intro rfl (And.intro rfl trivial)))))
          exact ih x1 (x4 + 1) g _ h _ _ hq
        · have h := (if_neg c1004).symm.trans h
          refine ev_iload_n (a := 0) (b := 27) rfl rfl ?_
          refine ev_aload (a := 0) (b := 28) rfl rfl ?_
          refine ev_get (a := 0) (b := 29) 4 3 rfl rfl (Nat.le_of_ble_eq_true rfl) lfX2_110 (gX4_heavy hs (ic_inl h1002)) ?_
          refine ev_iadd (a := 0) (b := 30) rfl ?_
          obtain ⟨y1005, ey1005, h⟩ := ic_letE h
          refine ev_topI ey1005 ?_
          refine ev_istore_n (a := 0) (b := 31) [(0, ic_R 1 s 0), (1, ic_I y1005), (2, ic_R 2 s 0), (3, ic_I 8), (4, ic_I x4)] rfl (by decide) (And.intro (Or.inr (And.intro rfl rfl)) (And.intro (Or.inl rfl) (And.intro (Or.inr (And.intro rfl rfl)) (And.intro (Or.inr (And.intro rfl rfl)) (And.intro (Or.inr (And.intro rfl rfl)) trivial))))) ?_
          refine ev_iinc (a := 1) (b := 0) (x4 + 1) [(0, ic_R 1 s 0), (1, ic_I y1005), (2, ic_R 2 s 0), (3, ic_I 8), (4, ic_I (x4 + 1))] rfl rfl (by first | rfl | decide) (by decide) (And.intro (Or.inr (And.intro rfl rfl)) (And.intro (Or.inr (And.intro rfl rfl)) (And.intro (Or.inr (And.intro rfl rfl)) (And.intro (Or.inr (And.intro rfl rfl)) (And.intro (Or.inl rfl) trivial))))) ?_
          refine ev_goto (a := 1) (b := 1) 13 rfl rfl ?_
          refine ev_fw (lv' := [(0, ic_R 1 s 0), (1, ic_I y1005), (2, ic_R 2 s 0), (3, ic_I 8), (4, ic_I (x4 + 1))]) ?_ (And.intro rfl (And.intro rfl (And.intro rfl (And.intro rfl (And.intro rfl trivial)))))
          exact ih y1005 (x4 + 1) g _ h _ _ hq
set_option maxRecDepth 20000 in
theorem eX2_takenHeavy {s : Nat} {g g' : ic_S} {v : Int32} (h : fX2_takenHeavy s g = some (v, g')) : ic_Ev mX2_takenHeavy 0 (ic_ag 0 [ic_R 1 s 0]) [] g (some (ic_I v)) g' := by
  unfold fX2_takenHeavy at h
  obtain ⟨hs, h⟩ := ic_gdE h
  have hs : s < 3 := Nat.le_of_ble_eq_true hs
  change ic_Ev mX2_takenHeavy 0 [(0, ic_R 1 s 0)] [] g _ _
  refine ev_iconst (a := 0) (b := 0) 0 rfl (by decide) ?_
  refine ev_istore_n (a := 0) (b := 1) [(0, ic_R 1 s 0), (1, ic_I 0)] rfl (by decide) (And.intro (Or.inr (And.intro rfl rfl)) (And.intro (Or.inl rfl) trivial)) ?_
  refine ev_aload_n (a := 0) (b := 2) rfl rfl ?_
  refine ev_get (a := 0) (b := 3) 2 7 rfl rfl (Nat.le_of_ble_eq_true rfl) lfX2_35 (gX2_things hs) ?_
  refine ev_astore_n (a := 0) (b := 4) [(0, ic_R 1 s 0), (1, ic_I 0), (2, ic_R 2 s 0)] rfl (by decide) (And.intro (Or.inr (And.intro rfl rfl)) (And.intro (Or.inr (And.intro rfl rfl)) (And.intro (Or.inl rfl) trivial))) ?_
  refine ev_aload_n (a := 0) (b := 5) rfl rfl ?_
  refine ev_alenr (a := 0) (b := 6) 8 rfl (a2 hs) (by decide) ?_
  refine ev_istore_n (a := 0) (b := 7) [(0, ic_R 1 s 0), (1, ic_I 0), (2, ic_R 2 s 0), (3, ic_I 8)] rfl (by decide) (And.intro (Or.inr (And.intro rfl rfl)) (And.intro (Or.inr (And.intro rfl rfl)) (And.intro (Or.inr (And.intro rfl rfl)) (And.intro (Or.inl rfl) trivial)))) ?_
  refine ev_iconst (a := 0) (b := 8) 0 rfl (by decide) ?_
  refine ev_istore (a := 0) (b := 9) [(0, ic_R 1 s 0), (1, ic_I 0), (2, ic_R 2 s 0), (3, ic_I 8), (4, ic_I 0)] rfl (by decide) (And.intro (Or.inr (And.intro rfl rfl)) (And.intro (Or.inr (And.intro rfl rfl)) (And.intro (Or.inr (And.intro rfl rfl)) (And.intro (Or.inr (And.intro rfl rfl)) (And.intro (Or.inl rfl) trivial))))) ?_
  refine ev_fw (lv' := [(0, ic_R 1 s 0), (1, ic_I 0), (2, ic_R 2 s 0), (3, ic_I 8), (4, ic_I 0)]) ?_ (And.intro rfl (And.intro rfl (And.intro rfl (And.intro rfl (And.intro rfl trivial)))))
  obtain ⟨y1, g2, e3, h⟩ := ic_b2E h
  refine tX2_takenHeavy_13 hs 1000 0 0 g _ e3 _ _ ?_
  change ic_Ev mX2_takenHeavy 64 [(1, ic_I y1)] [] g2 _ _
  refine ev_iload_n (a := 1) (b := 2) rfl rfl ?_
  obtain ⟨rfl, rfl⟩ := ic_s2 h
  exact ev_ireturn (a := 1) (b := 3) rfl rfl rfl
