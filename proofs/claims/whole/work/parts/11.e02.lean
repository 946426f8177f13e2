set_option maxRecDepth 20000 in
theorem tX2_mostFeeling_16 {s : Nat} (hs : s < 3) : ∀ (n : Nat) (x1 : Int32) (x2 : Int32) (x5 : Int32) (g : ic_S) (q : (Int32) × ic_S), lX2_mostFeeling_16 s n x1 x2 x5 g = some q → ∀ (r : Option ic_V) (g' : ic_S), ic_Ev mX2_mostFeeling 91 [(1, ic_I q.1)] [] q.2 r g' → ic_Ev mX2_mostFeeling 16 [(0, ic_R 1 s 0), (1, ic_I x1), (2, ic_I x2), (3, ic_R 2 s 0), (4, ic_I 8), (5, ic_I x5)] [] g r g' := by
  intro n
  induction n with
  | zero => intro x1 x2 x5 g q h; cases h
  | succ n ih =>
    intro x1 x2 x5 g q h r g' hq
    rw [lX2_mostFeeling_16] at h
    refine ev_iload (a := 0) (b := 12) rfl rfl ?_
    refine ev_iload (a := 0) (b := 13) rfl rfl ?_
    refine ev_icge (a := 0) (b := 14) 91 rfl rfl (fun c1001 => ?_) (fun c1001 => ?_)
    · have h := (if_pos c1001).symm.trans h
      obtain rfl := ic_s1 h
      exact ev_fw (lv' := [(1, ic_I x1)]) hq (And.intro rfl trivial)
    · have h := (if_neg c1001).symm.trans h
      refine ev_aload_n (a := 0) (b := 15) rfl rfl ?_
      refine ev_iload (a := 0) (b := 16) rfl rfl ?_
      obtain ⟨h1002, h⟩ := ic_gdE h
      refine ev_aald (a := 0) (b := 17) rfl (a2 hs) h1002 (show (3 : Nat) ≠ 26 by decide) ?_
      refine ev_astore (a := 0) (b := 18) [(0, ic_R 1 s 0), (1, ic_I x1), (2, ic_I x2), (3, ic_R 2 s 0), (4, ic_I 8), (5, ic_I x5), (6, ic_R 3 s (Int32.toNatClampNeg x5))] rfl (by decide) (And.intro (Or.inr (And.intro rfl rfl)) (And.intro (Or.inr (And.intro rfl rfl)) (And.intro (Or.inr (And.intro rfl rfl)) (And.intro (Or.inr (And.intro rfl rfl)) (And.intro (Or.inr (And.intro rfl rfl)) (And.intro (Or.inr (And.intro rfl rfl)) (And.intro (Or.inl rfl) trivial))))))) ?_
      refine ev_aload (a := 0) (b := 19) rfl rfl ?_
      refine ev_ifnull0 (a := 0) (b := 20) (show (3 : Nat) ≠ 26 by decide) rfl ?_
      refine ev_aload (a := 0) (b := 21) rfl rfl ?_
      refine ev_get (a := 0) (b := 22) 4 0 rfl rfl (Nat.le_of_ble_eq_true rfl) lfX2_95 (gX4_number hs (ic_inl h1002)) ?_
      refine ev_aload_n (a := 0) (b := 23) rfl rfl ?_
      refine ev_get (a := 0) (b := 24) 2 6 rfl rfl (Nat.le_of_ble_eq_true rfl) lfX2_30 (gX2_made hs) ?_
      refine ev_icge (a := 0) (b := 25) 85 rfl rfl (fun c1003 => ?_) (fun c1003 => ?_)
      · have h := (if_pos c1003).symm.trans h
        refine ev_iinc (a := 1) (b := 13) (x5 + 1) [(0, ic_R 1 s 0), (1, ic_I x1), (2, ic_I x2), (3, ic_R 2 s 0), (4, ic_I 8), (5, ic_I (x5 + 1))] rfl rfl (by first | rfl | decide) (by decide) (And.intro (Or.inr (And.intro rfl rfl)) (And.intro (Or.inr (And.intro rfl rfl)) (And.intro (Or.inr (And.intro rfl rfl)) (And.intro (Or.inr (And.intro rfl rfl)) (And.intro (Or.inr (And.intro rfl rfl)) (And.intro (Or.inl rfl) trivial)))))) ?_
        refine ev_goto (a := 1) (b := 14) 16 rfl rfl ?_
        refine ev_fw (lv' := [(0, ic_R 1 s 0), (1, ic_I x1), (2, ic_I x2), (3, ic_R 2 s 0), (4, ic_I 8), (5, ic_I (x5 + 1))]) ?_ (And.intro rfl (And.intro rfl (And.intro rfl (And.intro rfl (And.intro rfl (And.intro rfl trivial))))))
        exact ih x1 x2 (x5 + 1) g _ h _ _ hq
      · have h := (if_neg c1003).symm.trans h
        refine ev_aload (a := 0) (b := 26) rfl rfl ?_
        refine ev_get (a := 0) (b := 27) 4 7 rfl rfl (Nat.le_of_ble_eq_true rfl) lfX2_106 (gX4_isTaken hs (ic_inl h1002)) ?_
        refine ev_ifne (a := 0) (b := 28) 85 rfl rfl (fun c1004 => ?_) (fun c1004 => ?_)
        · have h := (if_neg c1004).symm.trans h
          refine ev_iinc (a := 1) (b := 13) (x5 + 1) [(0, ic_R 1 s 0), (1, ic_I x1), (2, ic_I x2), (3, ic_R 2 s 0), (4, ic_I 8), (5, ic_I (x5 + 1))] rfl rfl (by first | rfl | decide) (by decide) (And.intro (Or.inr (And.intro rfl rfl)) (And.intro (Or.inr (And.intro rfl rfl)) (And.intro (Or.inr (And.intro rfl rfl)) (And.intro (Or.inr (And.intro rfl rfl)) (And.intro (Or.inr (And.intro rfl rfl)) (And.intro (Or.inl rfl) trivial)))))) ?_
          refine ev_goto (a := 1) (b := 14) 16 rfl rfl ?_
          refine ev_fw (lv' := [(0, ic_R 1 s 0), (1, ic_I x1), (2, ic_I x2), (3, ic_R 2 s 0), (4, ic_I 8), (5, ic_I (x5 + 1))]) ?_ (And.intro rfl (And.intro rfl (And.intro rfl (And.intro rfl (And.intro rfl (And.intro rfl trivial))))))
          exact ih x1 x2 (x5 + 1) g _ h _ _ hq
        · have h := (if_pos c1004).symm.trans h
          refine ev_aload_n (a := 0) (b := 29) rfl rfl ?_
          refine ev_aload (a := 0) (b := 30) rfl rfl ?_
          refine ev_aload_n (a := 0) (b := 31) rfl rfl ?_
          refine ev_get (a := 1) (b := 0) 2 0 rfl rfl (Nat.le_of_ble_eq_true rfl) lfX2_9 (gX2_cell hs) ?_
          obtain ⟨v1007, g1005, e1006, h⟩ := ic_b2E h
          refine ev_ivI (a := 1) (b := 1) [ic_O 3 (some (s, (Int32.toNatClampNeg x5))), ic_I (g.1 s 3)] rfl okX2_feltBy rfl lmX2_65 rfl (rc1 hs) (Nat.le_of_ble_eq_true rfl) (eX2_feltBy e1006) (Nat.le_of_ble_eq_true rfl) rfl ?_
          refine ev_iload_n (a := 1) (b := 2) rfl rfl ?_
          refine ev_icle (a := 1) (b := 3) 85 rfl rfl (fun c1008 => ?_) (fun c1008 => ?_)
          · have h := (if_pos c1008).symm.trans h
            refine ev_iinc (a := 1) (b := 13) (x5 + 1) [(0, ic_R 1 s 0), (1, ic_I x1), (2, ic_I x2), (3, ic_R 2 s 0), (4, ic_I 8), (5, ic_I (x5 + 1))] rfl rfl (by first | rfl | decide) (by decide) (And.intro (Or.inr (And.intro rfl rfl)) (And.intro (Or.inr (And.intro rfl rfl)) (And.intro (Or.inr (And.intro rfl rfl)) (And.intro (Or.inr (And.intro rfl rfl)) (And.intro (Or.inr (And.intro rfl rfl)) (And.intro (Or.inl rfl) trivial)))))) ?_
            refine ev_goto (a := 1) (b := 14) 16 rfl rfl ?_
            refine ev_fw (lv' := [(0, ic_R 1 s 0), (1, ic_I x1), (2, ic_I x2), (3, ic_R 2 s 0), (4, ic_I 8), (5, ic_I (x5 + 1))]) ?_ (And.intro rfl (And.intro rfl (And.intro rfl (And.intro rfl (And.intro rfl (And.intro rfl trivial))))))
            exact ih x1 x2 (x5 + 1) g1005 _ h _ _ hq
          · have h := (if_neg c1008).symm.trans h
            refine ev_aload (a := 1) (b := 4) rfl rfl ?_
            refine ev_get (a := 1) (b := 5) 4 0 rfl rfl (Nat.le_of_ble_eq_true rfl) lfX2_95 (gX4_number hs (ic_inl h1002)) ?_
            obtain ⟨y1009, ey1009, h⟩ := ic_letE h
            refine ev_topI ey1009 ?_
            refine ev_istore_n (a := 1) (b := 6) [(0, ic_R 1 s 0), (1, ic_I y1009), (3, ic_R 2 s 0), (4, ic_I 8), (5, ic_I x5), (6, ic_R 3 s (Int32.toNatClampNeg x5))] rfl (by decide) (And.intro (Or.inr (And.intro rfl rfl)) (And.intro (Or.inl rfl) (And.intro (Or.inr (And.intro rfl rfl)) (And.intro (Or.inr (And.intro rfl rfl)) (And.intro (Or.inr (And.intro rfl rfl)) (And.intro (Or.inr (And.intro rfl rfl)) trivial)))))) ?_
            refine ev_aload_n (a := 1) (b := 7) rfl rfl ?_
            refine ev_aload (a := 1) (b := 8) rfl rfl ?_
            refine ev_aload_n (a := 1) (b := 9) rfl rfl ?_
            refine ev_get (a := 1) (b := 10) 2 0 rfl rfl (Nat.le_of_ble_eq_true rfl) lfX2_9 (gX2_cell hs) ?_
            obtain ⟨v1012, g1010, e1011, h⟩ := ic_b2E h
            refine ev_ivI (a := 1) (b := 11) [ic_O 3 (some (s, (Int32.toNatClampNeg x5))), ic_I (g1005.1 s 3)] rfl okX2_feltBy rfl lmX2_65 rfl (rc1 hs) (Nat.le_of_ble_eq_true rfl) (eX2_feltBy e1011) (Nat.le_of_ble_eq_true rfl) rfl ?_
            refine ev_istore_n (a := 1) (b := 12) [(0, ic_R 1 s 0), (1, ic_I y1009), (2, ic_I v1012), (3, ic_R 2 s 0), (4, ic_I 8), (5, ic_I x5)] rfl (by decide) (And.intro (Or.inr (And.intro rfl rfl)) (And.intro (Or.inr (And.intro rfl rfl)) (And.intro (Or.inl rfl) (And.intro (Or.inr (And.intro rfl rfl)) (And.intro (Or.inr (And.intro rfl rfl)) (And.intro (Or.inr (And.intro rfl rfl)) trivial)))))) ?_
            refine ev_iinc (a := 1) (b := 13) (x5 + 1) [(0, ic_R 1 s 0), (1, ic_I y1009), (2, ic_I v1012), (3, ic_R 2 s 0), (4, ic_I 8), (5, ic_I (x5 + 1))] rfl rfl (by first | rfl | decide) (by decide) (And.intro (Or.inr (And.intro rfl rfl)) (And.intro (Or.inr (And.intro rfl rfl)) (And.intro (Or.inr (And.intro rfl rfl)) (And.intro (Or.inr (And.intro rfl rfl)) (And.intro (Or.inr (And.intro rfl rfl)) (And.intro (Or.inl rfl) trivial)))))) ?_
            refine ev_goto (a := 1) (b := 14) 16 rfl rfl ?_
            refine ev_fw (lv' := [(0, ic_R 1 s 0), (1, ic_I y1009), (2, ic_I v1012), (3, ic_R 2 s 0), (4, ic_I 8), (5, ic_I (x5 + 1))]) ?_ (And.intro rfl (And.intro rfl (And.intro rfl (And.intro rfl (And.intro rfl (And.intro rfl trivial))))))
            exact ih y1009 v1012 (x5 + 1) g1010 _ h _ _ hq
set_option maxRecDepth 20000 in
theorem eX2_mostFeeling {s : Nat} {g g' : ic_S} {v : Int32} (h : fX2_mostFeeling s g = some (v, g')) : ic_Ev mX2_mostFeeling 0 (ic_ag 0 [ic_R 1 s 0]) [] g (some (ic_I v)) g' := by
  unfold fX2_mostFeeling at h
  obtain ⟨hs, h⟩ := ic_gdE h
  have hs : s < 3 := Nat.le_of_ble_eq_true hs
  change ic_Ev mX2_mostFeeling 0 [(0, ic_R 1 s 0)] [] g _ _
  refine ev_iconst (a := 0) (b := 0) (-1) rfl (by decide) ?_
  refine ev_istore_n (a := 0) (b := 1) [(0, ic_R 1 s 0), (1, ic_I (-1))] rfl (by decide) (And.intro (Or.inr (And.intro rfl rfl)) (And.intro (Or.inl rfl) trivial)) ?_
  refine ev_iconst (a := 0) (b := 2) (-1) rfl (by decide) ?_
  refine ev_istore_n (a := 0) (b := 3) [(0, ic_R 1 s 0), (1, ic_I (-1)), (2, ic_I (-1))] rfl (by decide) (And.intro (Or.inr (And.intro rfl rfl)) (And.intro (Or.inr (And.intro rfl rfl)) (And.intro (Or.inl rfl) trivial))) ?_
  refine ev_aload_n (a := 0) (b := 4) rfl rfl ?_
  refine ev_get (a := 0) (b := 5) 2 7 rfl rfl (Nat.le_of_ble_eq_true rfl) lfX2_35 (gX2_things hs) ?_
  refine ev_astore_n (a := 0) (b := 6) [(0, ic_R 1 s 0), (1, ic_I (-1)), (2, ic_I (-1)), (3, ic_R 2 s 0)] rfl (by decide) (And.intro (Or.inr (And.intro rfl rfl)) (And.intro (Or.inr (And.intro rfl rfl)) (And.intro (Or.inr (And.intro rfl rfl)) (And.intro (Or.inl rfl) trivial)))) ?_
  refine ev_aload_n (a := 0) (b := 7) rfl rfl ?_
  refine ev_alenr (a := 0) (b := 8) 8 rfl (a2 hs) (by decide) ?_
  refine ev_istore (a := 0) (b := 9) [(0, ic_R 1 s 0), (1, ic_I (-1)), (2, ic_I (-1)), (3, ic_R 2 s 0), (4, ic_I 8)] rfl (by decide) (And.intro (Or.inr (And.intro rfl rfl)) (And.intro (Or.inr (And.intro rfl rfl)) (And.intro (Or.inr (And.intro rfl rfl)) (And.intro (Or.inr (And.intro rfl rfl)) (And.intro (Or.inl rfl) trivial))))) ?_
  refine ev_iconst (a := 0) (b := 10) 0 rfl (by decide) ?_
  refine ev_istore (a := 0) (b := 11) [(0, ic_R 1 s 0), (1, ic_I (-1)), (2, ic_I (-1)), (3, ic_R 2 s 0), (4, ic_I 8), (5, ic_I 0)] rfl (by decide) (And.intro (Or.inr (And.intro rfl rfl)) (And.intro (Or.inr (And.intro rfl rfl)) (And.intro (Or.inr (And.intro rfl rfl)) (And.intro (Or.inr (And.intro rfl rfl)) (And.intro (Or.inr (And.intro rfl rfl)) (And.intro (Or.inl rfl) trivial)))))) ?_
  refine ev_fw (lv' := [(0, ic_R 1 s 0), (1, ic_I (-1)), (2, ic_I (-1)), (3, ic_R 2 s 0), (4, ic_I 8), (5, ic_I 0)]) ?_ (And.intro rfl (And.intro rfl (And.intro rfl (And.intro rfl (And.intro rfl (And.intro rfl trivial))))))
  obtain ⟨y1, g2, e3, h⟩ := ic_b2E h
  refine tX2_mostFeeling_16 hs 1000 (-1) (-1) 0 g _ e3 _ _ ?_
  change ic_Ev mX2_mostFeeling 91 [(1, ic_I y1)] [] g2 _ _
  refine ev_iload_n (a := 1) (b := 15) rfl rfl ?_
  obtain ⟨rfl, rfl⟩ := ic_s2 h
  exact ev_ireturn (a := 1) (b := 16) rfl rfl rfl
set_option maxRecDepth 20000 in
theorem eX2_turnAtEnds {s : Nat} {g g' : ic_S} (h : fX2_turnAtEnds s g = some g') : ic_Ev mX2_turnAtEnds 0 (ic_ag 0 [ic_R 1 s 0]) [] g (none) g' := by
  unfold fX2_turnAtEnds at h
  obtain ⟨hs, h⟩ := ic_gdE h
  have hs : s < 3 := Nat.le_of_ble_eq_true hs
  change ic_Ev mX2_turnAtEnds 0 [(0, ic_R 1 s 0)] [] g _ _
  refine ev_aload_n (a := 0) (b := 0) rfl rfl ?_
  refine ev_get (a := 0) (b := 1) 2 0 rfl rfl (Nat.le_of_ble_eq_true rfl) lfX2_9 (gX2_cell hs) ?_
  refine ev_ifne (a := 0) (b := 2) 15 rfl rfl (fun c1 => ?_) (fun c1 => ?_)
  · have h := (if_neg c1).symm.trans h
    refine ev_aload_n (a := 0) (b := 7) rfl rfl ?_
    refine ev_get (a := 0) (b := 8) 2 0 rfl rfl (Nat.le_of_ble_eq_true rfl) lfX2_9 (gX2_cell hs) ?_
    refine ev_bipush (a := 0) (b := 9) 15 rfl (by decide) ?_
    refine ev_icne (a := 0) (b := 10) 29 rfl rfl (fun c2 => ?_) (fun c2 => ?_)
    · have h := (if_neg c2).symm.trans h
      obtain rfl := ic_s1 h
      exact ev_return (a := 0) (b := 14) rfl rfl
    · have h := (if_pos c2).symm.trans h
      refine ev_aload_n (a := 0) (b := 11) rfl rfl ?_
      refine ev_iconst (a := 0) (b := 12) 0 rfl (by decide) ?_
      obtain ⟨g3, eg3, h⟩ := ic_letE h
      refine ev_put (a := 0) (b := 13) 2 1 rfl rfl (Nat.le_of_ble_eq_true rfl) lfX2_15 rfl (pX2_way hs eg3) ?_
      obtain rfl := ic_s1 h
      exact ev_return (a := 0) (b := 14) rfl rfl
  · have h := (if_pos c1).symm.trans h
    refine ev_aload_n (a := 0) (b := 3) rfl rfl ?_
    refine ev_iconst (a := 0) (b := 4) 1 rfl (by decide) ?_
    obtain ⟨g4, eg4, h⟩ := ic_letE h
    refine ev_put (a := 0) (b := 5) 2 1 rfl rfl (Nat.le_of_ble_eq_true rfl) lfX2_15 rfl (pX2_way hs eg4) ?_
    refine ev_goto (a := 0) (b := 6) 29 rfl rfl ?_
    obtain rfl := ic_s1 h
    exact ev_return (a := 0) (b := 14) rfl rfl
set_option maxRecDepth 20000 in
theorem tX2_rollCart_6 {s : Nat} (hs : s < 3) : ∀ (n : Nat) (x1 : Int32) (g : ic_S) (q : Unit × ic_S), lX2_rollCart_6 s n x1 g = some q → ∀ (r : Option ic_V) (g' : ic_S), ic_Ev mX2_rollCart 46 [] [] q.2 r g' → ic_Ev mX2_rollCart 6 [(0, ic_R 1 s 0), (1, ic_I x1)] [] g r g' := by
  intro n
  induction n with
  | zero => intro x1 g q h; cases h
  | succ n ih =>
    intro x1 g q h r g' hq
    rw [lX2_rollCart_6] at h
    refine ev_iload_n (a := 0) (b := 4) rfl rfl ?_
    refine ev_aload_n (a := 0) (b := 5) rfl rfl ?_
    refine ev_get (a := 0) (b := 6) 2 2 rfl rfl (Nat.le_of_ble_eq_true rfl) lfX2_18 (gX2_pace hs) ?_
    refine ev_icge (a := 0) (b := 7) 46 rfl rfl (fun c1001 => ?_) (fun c1001 => ?_)
    · have h := (if_pos c1001).symm.trans h
      obtain rfl := ic_s1 h
      exact ev_fw (lv' := []) hq trivial
    · have h := (if_neg c1001).symm.trans h
      refine ev_aload_n (a := 0) (b := 8) rfl rfl ?_
      refine ev_dup (a := 0) (b := 9) rfl rfl ?_
      refine ev_get (a := 0) (b := 10) 2 0 rfl rfl (Nat.le_of_ble_eq_true rfl) lfX2_9 (gX2_cell hs) ?_
      refine ev_aload_n (a := 0) (b := 11) rfl rfl ?_
      refine ev_get (a := 0) (b := 12) 2 1 rfl rfl (Nat.le_of_ble_eq_true rfl) lfX2_15 (gX2_way hs) ?_
      refine ev_iconst (a := 0) (b := 13) 1 rfl (by decide) ?_
      refine ev_icne (a := 0) (b := 14) 31 rfl rfl (fun c1002 => ?_) (fun c1002 => ?_)
      · have h := (if_neg c1002).symm.trans h
        refine ev_iconst (a := 0) (b := 17) (-1) rfl (by decide) ?_
        refine ev_iadd (a := 0) (b := 18) rfl ?_
        obtain ⟨g1003, eg1003, h⟩ := ic_letE h
        refine ev_put (a := 0) (b := 19) 2 0 rfl rfl (Nat.le_of_ble_eq_true rfl) lfX2_9 rfl (pX2_cell hs eg1003) ?_
        refine ev_aload_n (a := 0) (b := 20) rfl rfl ?_
        obtain ⟨g1004, e1005, h⟩ := ic_b1E h
        refine ev_ivV (a := 0) (b := 21) [] rfl okX2_turnAtEnds rfl lmX2_130 rfl (rc1 hs) (Nat.le_of_ble_eq_true rfl) (eX2_turnAtEnds e1005) (Nat.le_of_ble_eq_true rfl) rfl ?_
        refine ev_iinc (a := 0) (b := 22) (x1 + 1) [(0, ic_R 1 s 0), (1, ic_I (x1 + 1))] rfl rfl (by first | rfl | decide) (by decide) (And.intro (Or.inr (And.intro rfl rfl)) (And.intro (Or.inl rfl) trivial)) ?_
        refine ev_goto (a := 0) (b := 23) 6 rfl rfl ?_
        refine ev_fw (lv' := [(0, ic_R 1 s 0), (1, ic_I (x1 + 1))]) ?_ (And.intro rfl (And.intro rfl trivial))
        exact ih (x1 + 1) g1004 _ h _ _ hq
      · have h := (if_pos c1002).symm.trans h
        refine ev_iconst (a := 0) (b := 15) 1 rfl (by decide) ?_
        refine ev_goto (a := 0) (b := 16) 32 rfl rfl ?_
        refine ev_iadd (a := 0) (b := 18) rfl ?_
        obtain ⟨g1006, eg1006, h⟩ := ic_letE h
        refine ev_put (a := 0) (b := 19) 2 0 rfl rfl (Nat.le_of_ble_eq_true rfl) lfX2_9 rfl (pX2_cell hs eg1006) ?_
        refine ev_aload_n (a := 0) (b := 20) rfl rfl ?_
        obtain ⟨g1007, e1008, h⟩ := ic_b1E h
        refine ev_ivV (a := 0) (b := 21) [] rfl okX2_turnAtEnds rfl lmX2_130 rfl (rc1 hs) (Nat.le_of_ble_eq_true rfl) (eX2_turnAtEnds e1008) (Nat.le_of_ble_eq_true rfl) rfl ?_
        refine ev_iinc (a := 0) (b := 22) (x1 + 1) [(0, ic_R 1 s 0), (1, ic_I (x1 + 1))] rfl rfl (by first | rfl | decide) (by decide) (And.intro (Or.inr (And.intro rfl rfl)) (And.intro (Or.inl rfl) trivial)) ?_
        refine ev_goto (a := 0) (b := 23) 6 rfl rfl ?_
        refine ev_fw (lv' := [(0, ic_R 1 s 0), (1, ic_I (x1 + 1))]) ?_ (And.intro rfl (And.intro rfl trivial))
        exact ih (x1 + 1) g1007 _ h _ _ hq
set_option maxRecDepth 20000 in
theorem eX2_rollCart {s : Nat} {g g' : ic_S} (h : fX2_rollCart s g = some g') : ic_Ev mX2_rollCart 0 (ic_ag 0 [ic_R 1 s 0]) [] g (none) g' := by
  unfold fX2_rollCart at h
  obtain ⟨hs, h⟩ := ic_gdE h
  have hs : s < 3 := Nat.le_of_ble_eq_true hs
  change ic_Ev mX2_rollCart 0 [(0, ic_R 1 s 0)] [] g _ _
  refine ev_aload_n (a := 0) (b := 0) rfl rfl ?_
  obtain ⟨g1, e2, h⟩ := ic_b1E h
  refine ev_ivV (a := 0) (b := 1) [] rfl okX2_turnAtEnds rfl lmX2_130 rfl (rc1 hs) (Nat.le_of_ble_eq_true rfl) (eX2_turnAtEnds e2) (Nat.le_of_ble_eq_true rfl) rfl ?_
  refine ev_iconst (a := 0) (b := 2) 0 rfl (by decide) ?_
  refine ev_istore_n (a := 0) (b := 3) [(0, ic_R 1 s 0), (1, ic_I 0)] rfl (by decide) (And.intro (Or.inr (And.intro rfl rfl)) (And.intro (Or.inl rfl) trivial)) ?_
  refine ev_fw (lv' := [(0, ic_R 1 s 0), (1, ic_I 0)]) ?_ (And.intro rfl (And.intro rfl trivial))
  obtain ⟨y3, g4, e5, h⟩ := ic_b2E h
  refine tX2_rollCart_6 hs 1000 0 g1 _ e5 _ _ ?_
  change ic_Ev mX2_rollCart 46 [] [] g4 _ _
  obtain rfl := ic_s1 h
  exact ev_return (a := 0) (b := 24) rfl rfl
set_option maxRecDepth 20000 in
theorem eX4_strain {s : Nat} {t : Nat} {x1 : Int32} {x2 : Int32} {g g' : ic_S} (h : fX4_strain s t x1 x2 g = some g') : ic_Ev mX4_strain 0 (ic_ag 0 [ic_R 3 s t, ic_I x1, ic_I x2]) [] g (none) g' := by
  unfold fX4_strain at h
  obtain ⟨hs, h⟩ := ic_gdE h
  have hs : s < 3 := Nat.le_of_ble_eq_true hs
  obtain ⟨ht, h⟩ := ic_gdE h
  have ht : t < 8 := Nat.le_of_ble_eq_true ht
  change ic_Ev mX4_strain 0 [(0, ic_R 3 s t), (1, ic_I x1), (2, ic_I x2)] [] g _ _
  refine ev_aload_n (a := 0) (b := 0) rfl rfl ?_
  refine ev_aload_n (a := 0) (b := 1) rfl rfl ?_
  refine ev_get (a := 0) (b := 2) 4 4 rfl rfl (Nat.le_of_ble_eq_true rfl) lfX4_24 (gX4_pulled hs ht) ?_
  refine ev_iload_n (a := 0) (b := 3) rfl rfl ?_
  refine ev_iadd (a := 0) (b := 4) rfl ?_
  refine ev_sipush (a := 0) (b := 5) 999 rfl (by decide) ?_
  refine ev_mmin (a := 0) (b := 6) rfl lmX4_58 ok_mmin rfl (Nat.le_of_ble_eq_true rfl) ?_
  obtain ⟨g1, eg1, h⟩ := ic_letE h
  refine ev_put (a := 0) (b := 7) 4 4 rfl rfl (Nat.le_of_ble_eq_true rfl) lfX4_24 rfl (pX4_pulled hs ht eg1) ?_
  refine ev_aload_n (a := 0) (b := 8) rfl rfl ?_
  refine ev_get (a := 0) (b := 9) 4 6 rfl rfl (Nat.le_of_ble_eq_true rfl) lfX4_30 (gX4_isHeld hs ht) ?_
  refine ev_ifne (a := 0) (b := 10) 34 rfl rfl (fun c2 => ?_) (fun c2 => ?_)
  · have h := (if_neg c2).symm.trans h
    obtain rfl := ic_s1 h
    exact ev_return (a := 0) (b := 16) rfl rfl
  · have h := (if_pos c2).symm.trans h
    refine ev_aload_n (a := 0) (b := 11) rfl rfl ?_
    refine ev_get (a := 0) (b := 12) 4 4 rfl rfl (Nat.le_of_ble_eq_true rfl) lfX4_24 (gX4_pulled hs ht) ?_
    refine ev_aload_n (a := 0) (b := 13) rfl rfl ?_
    refine ev_get (a := 0) (b := 14) 4 3 rfl rfl (Nat.le_of_ble_eq_true rfl) lfX4_21 (gX4_heavy hs ht) ?_
    refine ev_icge (a := 0) (b := 15) 35 rfl rfl (fun c3 => ?_) (fun c3 => ?_)
    · have h := (if_pos c3).symm.trans h
      refine ev_aload_n (a := 0) (b := 17) rfl rfl ?_
      refine ev_dup (a := 0) (b := 18) rfl rfl ?_
      refine ev_get (a := 0) (b := 19) 4 4 rfl rfl (Nat.le_of_ble_eq_true rfl) lfX4_24 (gX4_pulled hs ht) ?_
      refine ev_aload_n (a := 0) (b := 20) rfl rfl ?_
      refine ev_get (a := 0) (b := 21) 4 3 rfl rfl (Nat.le_of_ble_eq_true rfl) lfX4_21 (gX4_heavy hs ht) ?_
      refine ev_isub (a := 0) (b := 22) rfl ?_
      obtain ⟨g4, eg4, h⟩ := ic_letE h
      refine ev_put (a := 0) (b := 23) 4 4 rfl rfl (Nat.le_of_ble_eq_true rfl) lfX4_24 rfl (pX4_pulled hs ht eg4) ?_
      refine ev_aload_n (a := 0) (b := 24) rfl rfl ?_
      obtain ⟨v7, g5, e6, h⟩ := ic_b2E h
      refine ev_ivI (a := 0) (b := 25) [] rfl okX4_steps rfl lmX4_37 rfl (rc3 hs ht) (Nat.le_of_ble_eq_true rfl) (eX4_steps e6) (Nat.le_of_ble_eq_true rfl) rfl ?_
      refine ev_iload_n (a := 0) (b := 26) rfl rfl ?_
      refine ev_aload_n (a := 0) (b := 27) rfl rfl ?_
      refine ev_get (a := 0) (b := 28) 4 2 rfl rfl (Nat.le_of_ble_eq_true rfl) lfX4_18 (gX4_cell hs ht) ?_
      refine ev_isub (a := 0) (b := 29) rfl ?_
      refine ev_mabs (a := 0) (b := 30) rfl lmX4_61 ok_mabs rfl (Nat.le_of_ble_eq_true rfl) ?_
      refine ev_mmin (a := 0) (b := 31) rfl lmX4_58 ok_mmin rfl (Nat.le_of_ble_eq_true rfl) ?_
      obtain ⟨y8, ey8, h⟩ := ic_letE h
      refine ev_topI ey8 ?_
      refine ev_istore_n (a := 1) (b := 0) [(0, ic_R 3 s t), (2, ic_I x2), (3, ic_I y8)] rfl (by decide) (And.intro (Or.inr (And.intro rfl rfl)) (And.intro (Or.inr (And.intro rfl rfl)) (And.intro (Or.inl rfl) trivial))) ?_
      refine ev_aload_n (a := 1) (b := 1) rfl rfl ?_
      refine ev_dup (a := 1) (b := 2) rfl rfl ?_
      refine ev_get (a := 1) (b := 3) 4 2 rfl rfl (Nat.le_of_ble_eq_true rfl) lfX4_18 (gX4_cell hs ht) ?_
      refine ev_iload_n (a := 1) (b := 4) rfl rfl ?_
      refine ev_aload_n (a := 1) (b := 5) rfl rfl ?_
      refine ev_get (a := 1) (b := 6) 4 2 rfl rfl (Nat.le_of_ble_eq_true rfl) lfX4_18 (gX4_cell hs ht) ?_
      refine ev_icle (a := 1) (b := 7) 82 rfl rfl (fun c9 => ?_) (fun c9 => ?_)
      · have h := (if_pos c9).symm.trans h
        refine ev_iload_n (a := 1) (b := 10) rfl rfl ?_
        refine ev_ineg (a := 1) (b := 11) rfl ?_
        refine ev_iadd (a := 1) (b := 12) rfl ?_
        obtain ⟨g10, eg10, h⟩ := ic_letE h
        refine ev_put (a := 1) (b := 13) 4 2 rfl rfl (Nat.le_of_ble_eq_true rfl) lfX4_18 rfl (pX4_cell hs ht eg10) ?_
        refine ev_aload_n (a := 1) (b := 14) rfl rfl ?_
        refine ev_aload_n (a := 1) (b := 15) rfl rfl ?_
        refine ev_get (a := 1) (b := 16) 4 5 rfl rfl (Nat.le_of_ble_eq_true rfl) lfX4_27 (gX4_moved hs ht) ?_
        refine ev_iload_n (a := 1) (b := 17) rfl rfl ?_
        refine ev_iadd (a := 1) (b := 18) rfl ?_
        refine ev_sipush (a := 1) (b := 19) 9999 rfl (by decide) ?_
        refine ev_mmin (a := 1) (b := 20) rfl lmX4_58 ok_mmin rfl (Nat.le_of_ble_eq_true rfl) ?_
        obtain ⟨g11, eg11, h⟩ := ic_letE h
        refine ev_put (a := 1) (b := 21) 4 5 rfl rfl (Nat.le_of_ble_eq_true rfl) lfX4_27 rfl (pX4_moved hs ht eg11) ?_
        obtain rfl := ic_s1 h
        exact ev_return (a := 1) (b := 22) rfl rfl
      · have h := (if_neg c9).symm.trans h
        refine ev_iload_n (a := 1) (b := 8) rfl rfl ?_
        refine ev_goto (a := 1) (b := 9) 84 rfl rfl ?_
        refine ev_iadd (a := 1) (b := 12) rfl ?_
        obtain ⟨g12, eg12, h⟩ := ic_letE h
        refine ev_put (a := 1) (b := 13) 4 2 rfl rfl (Nat.le_of_ble_eq_true rfl) lfX4_18 rfl (pX4_cell hs ht eg12) ?_
        refine ev_aload_n (a := 1) (b := 14) rfl rfl ?_
        refine ev_aload_n (a := 1) (b := 15) rfl rfl ?_
        refine ev_get (a := 1) (b := 16) 4 5 rfl rfl (Nat.le_of_ble_eq_true rfl) lfX4_27 (gX4_moved hs ht) ?_
        refine ev_iload_n (a := 1) (b := 17) rfl rfl ?_
        refine ev_iadd (a := 1) (b := 18) rfl ?_
        refine ev_sipush (a := 1) (b := 19) 9999 rfl (by decide) ?_
        refine ev_mmin (a := 1) (b := 20) rfl lmX4_58 ok_mmin rfl (Nat.le_of_ble_eq_true rfl) ?_
        obtain ⟨g13, eg13, h⟩ := ic_letE h
        refine ev_put (a := 1) (b := 21) 4 5 rfl rfl (Nat.le_of_ble_eq_true rfl) lfX4_27 rfl (pX4_moved hs ht eg13) ?_
        obtain rfl := ic_s1 h
        exact ev_return (a := 1) (b := 22) rfl rfl
    · have h := (if_neg c3).symm.trans h
      obtain rfl := ic_s1 h
      exact ev_return (a := 0) (b := 16) rfl rfl
set_option maxRecDepth 20000 in
theorem tX2_pullThings_10 {s : Nat} (hs : s < 3) : ∀ (n : Nat) (x3 : Int32) (g : ic_S) (q : Unit × ic_S), lX2_pullThings_10 s n x3 g = some q → ∀ (r : Option ic_V) (g' : ic_S), ic_Ev mX2_pullThings 70 [] [] q.2 r g' → ic_Ev mX2_pullThings 10 [(0, ic_R 1 s 0), (1, ic_R 2 s 0), (2, ic_I 8), (3, ic_I x3)] [] g r g' := by
  intro n
  induction n with
  | zero => intro x3 g q h; cases h
  | succ n ih =>
    intro x3 g q h r g' hq
    rw [lX2_pullThings_10] at h
    refine ev_iload_n (a := 0) (b := 8) rfl rfl ?_
    refine ev_iload_n (a := 0) (b := 9) rfl rfl ?_
    refine ev_icge (a := 0) (b := 10) 70 rfl rfl (fun c1001 => ?_) (fun c1001 => ?_)
    · have h := (if_pos c1001).symm.trans h
      obtain rfl := ic_s1 h
      exact ev_fw (lv' := []) hq trivial
    · have h := (if_neg c1001).symm.trans h
      refine ev_aload_n (a := 0) (b := 11) rfl rfl ?_
      refine ev_iload_n (a := 0) (b := 12) rfl rfl ?_
      obtain ⟨h1002, h⟩ := ic_gdE h
      refine ev_aald (a := 0) (b := 13) rfl (a2 hs) h1002 (show (3 : Nat) ≠ 26 by decide) ?_
      refine ev_astore (a := 0) (b := 14) [(0, ic_R 1 s 0), (1, ic_R 2 s 0), (2, ic_I 8), (3, ic_I x3), (4, ic_R 3 s (Int32.toNatClampNeg x3))] rfl (by decide) (And.intro (Or.inr (And.intro rfl rfl)) (And.intro (Or.inr (And.intro rfl rfl)) (And.intro (Or.inr (And.intro rfl rfl)) (And.intro (Or.inr (And.intro rfl rfl)) (And.intro (Or.inl rfl) trivial))))) ?_
      refine ev_aload (a := 0) (b := 15) rfl rfl ?_
      refine ev_ifnull0 (a := 0) (b := 16) (show (3 : Nat) ≠ 26 by decide) rfl ?_
      refine ev_aload (a := 0) (b := 17) rfl rfl ?_
      refine ev_get (a := 0) (b := 18) 4 0 rfl rfl (Nat.le_of_ble_eq_true rfl) lfX2_95 (gX4_number hs (ic_inl h1002)) ?_
      refine ev_aload_n (a := 0) (b := 19) rfl rfl ?_
      refine ev_get (a := 0) (b := 20) 2 6 rfl rfl (Nat.le_of_ble_eq_true rfl) lfX2_30 (gX2_made hs) ?_
      refine ev_icge (a := 0) (b := 21) 64 rfl rfl (fun c1003 => ?_) (fun c1003 => ?_)
      · have h := (if_pos c1003).symm.trans h
        refine ev_iinc (a := 1) (b := 2) (x3 + 1) [(0, ic_R 1 s 0), (1, ic_R 2 s 0), (2, ic_I 8), (3, ic_I (x3 + 1))] rfl rfl (by first | rfl | decide) (by decide) (And.intro (Or.inr (And.intro rfl rfl)) (And.intro (Or.inr (And.intro rfl rfl)) (And.intro (Or.inr (And.intro rfl rfl)) (And.intro (Or.inl rfl) trivial)))) ?_
        refine ev_goto (a := 1) (b := 3) 10 rfl rfl ?_
        refine ev_fw (lv' := [(0, ic_R 1 s 0), (1, ic_R 2 s 0), (2, ic_I 8), (3, ic_I (x3 + 1))]) ?_ (And.intro rfl (And.intro rfl (And.intro rfl (And.intro rfl trivial))))
        exact ih (x3 + 1) g _ h _ _ hq
      · have h := (if_neg c1003).symm.trans h
        refine ev_aload (a := 0) (b := 22) rfl rfl ?_
        refine ev_get (a := 0) (b := 23) 4 7 rfl rfl (Nat.le_of_ble_eq_true rfl) lfX2_106 (gX4_isTaken hs (ic_inl h1002)) ?_
        refine ev_ifne (a := 0) (b := 24) 64 rfl rfl (fun c1004 => ?_) (fun c1004 => ?_)
        · have h := (if_neg c1004).symm.trans h
          refine ev_iinc (a := 1) (b := 2) (x3 + 1) [(0, ic_R 1 s 0), (1, ic_R 2 s 0), (2, ic_I 8), (3, ic_I (x3 + 1))] rfl rfl (by first | rfl | decide) (by decide) (And.intro (Or.inr (And.intro rfl rfl)) (And.intro (Or.inr (And.intro rfl rfl)) (And.intro (Or.inr (And.intro rfl rfl)) (And.intro (Or.inl rfl) trivial)))) ?_
          refine ev_goto (a := 1) (b := 3) 10 rfl rfl ?_
          refine ev_fw (lv' := [(0, ic_R 1 s 0), (1, ic_R 2 s 0), (2, ic_I 8), (3, ic_I (x3 + 1))]) ?_ (And.intro rfl (And.intro rfl (And.intro rfl (And.intro rfl trivial))))
          exact ih (x3 + 1) g _ h _ _ hq
        · have h := (if_pos c1004).symm.trans h
          refine ev_aload (a := 0) (b := 25) rfl rfl ?_
          refine ev_aload_n (a := 0) (b := 26) rfl rfl ?_
          refine ev_aload (a := 0) (b := 27) rfl rfl ?_
          refine ev_aload_n (a := 0) (b := 28) rfl rfl ?_
          refine ev_get (a := 0) (b := 29) 2 0 rfl rfl (Nat.le_of_ble_eq_true rfl) lfX2_9 (gX2_cell hs) ?_
          obtain ⟨v1007, g1005, e1006, h⟩ := ic_b2E h
          refine ev_ivI (a := 0) (b := 30) [ic_O 3 (some (s, (Int32.toNatClampNeg x3))), ic_I (g.1 s 3)] rfl okX2_feltBy rfl lmX2_65 rfl (rc1 hs) (Nat.le_of_ble_eq_true rfl) (eX2_feltBy e1006) (Nat.le_of_ble_eq_true rfl) rfl ?_
          refine ev_aload_n (a := 0) (b := 31) rfl rfl ?_
          refine ev_get (a := 1) (b := 0) 2 0 rfl rfl (Nat.le_of_ble_eq_true rfl) lfX2_9 (gX2_cell hs) ?_
          obtain ⟨g1008, e1009, h⟩ := ic_b1E h
          refine ev_ivV (a := 1) (b := 1) [ic_I v1007, ic_I (g1005.1 s 3)] rfl okX4_strain rfl lmX2_133 rfl (rc3 hs (ic_inl h1002)) (Nat.le_of_ble_eq_true rfl) (eX4_strain e1009) (Nat.le_of_ble_eq_true rfl) rfl ?_
          refine ev_iinc (a := 1) (b := 2) (x3 + 1) [(0, ic_R 1 s 0), (1, ic_R 2 s 0), (2, ic_I 8), (3, ic_I (x3 + 1))] rfl rfl (by first | rfl | decide) (by decide) (And.intro (Or.inr (And.intro rfl rfl)) (And.intro (Or.inr (And.intro rfl rfl)) (And.intro (Or.inr (And.intro rfl rfl)) (And.intro (Or.inl rfl) trivial)))) ?_
          refine ev_goto (a := 1) (b := 3) 10 rfl rfl ?_
          refine ev_fw (lv' := [(0, ic_R 1 s 0), (1, ic_R 2 s 0), (2, ic_I 8), (3, ic_I (x3 + 1))]) ?_ (And.intro rfl (And.intro rfl (And.intro rfl (And.intro rfl trivial))))
          exact ih (x3 + 1) g1008 _ h _ _ hq
set_option maxRecDepth 20000 in
theorem eX2_pullThings {s : Nat} {g g' : ic_S} (h : fX2_pullThings s g = some g') : ic_Ev mX2_pullThings 0 (ic_ag 0 [ic_R 1 s 0]) [] g (none) g' := by
  unfold fX2_pullThings at h
  obtain ⟨hs, h⟩ := ic_gdE h
  have hs : s < 3 := Nat.le_of_ble_eq_true hs
  change ic_Ev mX2_pullThings 0 [(0, ic_R 1 s 0)] [] g _ _
  refine ev_aload_n (a := 0) (b := 0) rfl rfl ?_
  refine ev_get (a := 0) (b := 1) 2 7 rfl rfl (Nat.le_of_ble_eq_true rfl) lfX2_35 (gX2_things hs) ?_
  refine ev_astore_n (a := 0) (b := 2) [(0, ic_R 1 s 0), (1, ic_R 2 s 0)] rfl (by decide) (And.intro (Or.inr (And.intro rfl rfl)) (And.intro (Or.inl rfl) trivial)) ?_
  refine ev_aload_n (a := 0) (b := 3) rfl rfl ?_
  refine ev_alenr (a := 0) (b := 4) 8 rfl (a2 hs) (by decide) ?_
  refine ev_istore_n (a := 0) (b := 5) [(0, ic_R 1 s 0), (1, ic_R 2 s 0), (2, ic_I 8)] rfl (by decide) (And.intro (Or.inr (And.intro rfl rfl)) (And.intro (Or.inr (And.intro rfl rfl)) (And.intro (Or.inl rfl) trivial))) ?_
  refine ev_iconst (a := 0) (b := 6) 0 rfl (by decide) ?_
  refine ev_istore_n (a := 0) (b := 7) [(0, ic_R 1 s 0), (1, ic_R 2 s 0), (2, ic_I 8), (3, ic_I 0)] rfl (by decide) (And.intro (Or.inr (And.intro rfl rfl)) (And.intro (Or.inr (And.intro rfl rfl)) (And.intro (Or.inr (And.intro rfl rfl)) (And.intro (Or.inl rfl) trivial)))) ?_
  refine ev_fw (lv' := [(0, ic_R 1 s 0), (1, ic_R 2 s 0), (2, ic_I 8), (3, ic_I 0)]) ?_ (And.intro rfl (And.intro rfl (And.intro rfl (And.intro rfl trivial))))
  obtain ⟨y1, g2, e3, h⟩ := ic_b2E h
  refine tX2_pullThings_10 hs 1000 0 g _ e3 _ _ ?_
  change ic_Ev mX2_pullThings 70 [] [] g2 _ _
  obtain rfl := ic_s1 h
  exact ev_return (a := 1) (b := 4) rfl rfl
set_option maxRecDepth 20000 in
theorem tX2_takeThings_10 {s : Nat} (hs : s < 3) : ∀ (n : Nat) (x3 : Int32) (g : ic_S) (q : Unit × ic_S), lX2_takeThings_10 s n x3 g = some q → ∀ (r : Option ic_V) (g' : ic_S), ic_Ev mX2_takeThings 89 [] [] q.2 r g' → ic_Ev mX2_takeThings 10 [(0, ic_R 1 s 0), (1, ic_R 2 s 0), (2, ic_I 8), (3, ic_I x3)] [] g r g' := by
  intro n
  induction n with
  | zero => intro x3 g q h; cases h
  | succ n ih =>
    intro x3 g q h r g' hq
    rw [lX2_takeThings_10] at h
    refine ev_iload_n (a := 0) (b := 8) rfl rfl ?_
    refine ev_iload_n (a := 0) (b := 9) rfl rfl ?_
    refine ev_icge (a := 0) (b := 10) 89 rfl rfl (fun c1001 => ?_) (fun c1001 => ?_)
    · have h := (if_pos c1001).symm.trans h
      obtain rfl := ic_s1 h
      exact ev_fw (lv' := []) hq trivial
    · have h := (if_neg c1001).symm.trans h
      refine ev_aload_n (a := 0) (b := 11) rfl rfl ?_
      refine ev_iload_n (a := 0) (b := 12) rfl rfl ?_
      obtain ⟨h1002, h⟩ := ic_gdE h
      refine ev_aald (a := 0) (b := 13) rfl (a2 hs) h1002 (show (3 : Nat) ≠ 26 by decide) ?_
      refine ev_astore (a := 0) (b := 14) [(0, ic_R 1 s 0), (1, ic_R 2 s 0), (2, ic_I 8), (3, ic_I x3), (4, ic_R 3 s (Int32.toNatClampNeg x3))] rfl (by decide) (And.intro (Or.inr (And.intro rfl rfl)) (And.intro (Or.inr (And.intro rfl rfl)) (And.intro (Or.inr (And.intro rfl rfl)) (And.intro (Or.inr (And.intro rfl rfl)) (And.intro (Or.inl rfl) trivial))))) ?_
      refine ev_aload (a := 0) (b := 15) rfl rfl ?_
      refine ev_ifnull0 (a := 0) (b := 16) (show (3 : Nat) ≠ 26 by decide) rfl ?_
      refine ev_aload (a := 0) (b := 17) rfl rfl ?_
      refine ev_get (a := 0) (b := 18) 4 0 rfl rfl (Nat.le_of_ble_eq_true rfl) lfX2_95 (gX4_number hs (ic_inl h1002)) ?_
      refine ev_aload_n (a := 0) (b := 19) rfl rfl ?_
      refine ev_get (a := 0) (b := 20) 2 6 rfl rfl (Nat.le_of_ble_eq_true rfl) lfX2_30 (gX2_made hs) ?_
      refine ev_icge (a := 0) (b := 21) 83 rfl rfl (fun c1003 => ?_) (fun c1003 => ?_)
      · have h := (if_pos c1003).symm.trans h
        refine ev_iinc (a := 1) (b := 9) (x3 + 1) [(0, ic_R 1 s 0), (1, ic_R 2 s 0), (2, ic_I 8), (3, ic_I (x3 + 1))] rfl rfl (by first | rfl | decide) (by decide) (And.intro (Or.inr (And.intro rfl rfl)) (And.intro (Or.inr (And.intro rfl rfl)) (And.intro (Or.inr (And.intro rfl rfl)) (And.intro (Or.inl rfl) trivial)))) ?_
        refine ev_goto (a := 1) (b := 10) 10 rfl rfl ?_
        refine ev_fw (lv' := [(0, ic_R 1 s 0), (1, ic_R 2 s 0), (2, ic_I 8), (3, ic_I (x3 + 1))]) ?_ (And.intro rfl (And.intro rfl (And.intro rfl (And.intro rfl trivial))))
        exact ih (x3 + 1) g _ h _ _ hq
      · have h := (if_neg c1003).symm.trans h
        refine ev_aload (a := 0) (b := 22) rfl rfl ?_
        refine ev_get (a := 0) (b := 23) 4 7 rfl rfl (Nat.le_of_ble_eq_true rfl) lfX2_106 (gX4_isTaken hs (ic_inl h1002)) ?_
        refine ev_ifne (a := 0) (b := 24) 83 rfl rfl (fun c1004 => ?_) (fun c1004 => ?_)
        · have h := (if_neg c1004).symm.trans h
          refine ev_iinc (a := 1) (b := 9) (x3 + 1) [(0, ic_R 1 s 0), (1, ic_R 2 s 0), (2, ic_I 8), (3, ic_I (x3 + 1))] rfl rfl (by first | rfl | decide) (by decide) (And.intro (Or.inr (And.intro rfl rfl)) (And.intro (Or.inr (And.intro rfl rfl)) (And.intro (Or.inr (And.intro rfl rfl)) (And.intro (Or.inl rfl) trivial)))) ?_
          refine ev_goto (a := 1) (b := 10) 10 rfl rfl ?_
          refine ev_fw (lv' := [(0, ic_R 1 s 0), (1, ic_R 2 s 0), (2, ic_I 8), (3, ic_I (x3 + 1))]) ?_ (And.intro rfl (And.intro rfl (And.intro rfl (And.intro rfl trivial))))
          exact ih (x3 + 1) g _ h _ _ hq
        · have h := (if_pos c1004).symm.trans h
          refine ev_aload (a := 0) (b := 25) rfl rfl ?_
          refine ev_get (a := 0) (b := 26) 4 2 rfl rfl (Nat.le_of_ble_eq_true rfl) lfX2_69 (gX4_cell hs (ic_inl h1002)) ?_
          refine ev_aload_n (a := 0) (b := 27) rfl rfl ?_
          refine ev_get (a := 0) (b := 28) 2 0 rfl rfl (Nat.le_of_ble_eq_true rfl) lfX2_9 (gX2_cell hs) ?_
          refine ev_icne (a := 0) (b := 29) 83 rfl rfl (fun c1005 => ?_) (fun c1005 => ?_)
          · have h := (if_neg c1005).symm.trans h
            refine ev_iinc (a := 1) (b := 9) (x3 + 1) [(0, ic_R 1 s 0), (1, ic_R 2 s 0), (2, ic_I 8), (3, ic_I (x3 + 1))] rfl rfl (by first | rfl | decide) (by decide) (And.intro (Or.inr (And.intro rfl rfl)) (And.intro (Or.inr (And.intro rfl rfl)) (And.intro (Or.inr (And.intro rfl rfl)) (And.intro (Or.inl rfl) trivial)))) ?_
            refine ev_goto (a := 1) (b := 10) 10 rfl rfl ?_
            refine ev_fw (lv' := [(0, ic_R 1 s 0), (1, ic_R 2 s 0), (2, ic_I 8), (3, ic_I (x3 + 1))]) ?_ (And.intro rfl (And.intro rfl (And.intro rfl (And.intro rfl trivial))))
            exact ih (x3 + 1) g _ h _ _ hq
          · have h := (if_pos c1005).symm.trans h
            refine ev_aload (a := 0) (b := 30) rfl rfl ?_
            refine ev_aload (a := 0) (b := 31) rfl rfl ?_
            obtain ⟨v1008, g1006, e1007, h⟩ := ic_b2E h
            refine ev_ivI (a := 1) (b := 0) [] rfl okX4_isLiked rfl lmX2_136 rfl (rc3 hs (ic_inl h1002)) (Nat.le_of_ble_eq_true rfl) (eX4_isLiked e1007) (Nat.le_of_ble_eq_true rfl) rfl ?_
            refine ev_ifeq (a := 1) (b := 1) 79 rfl rfl (fun c1009 => ?_) (fun c1009 => ?_)
            · have h := (if_pos c1009).symm.trans h
              refine ev_iconst (a := 1) (b := 7) 0 rfl (by decide) ?_
              obtain ⟨g1010, eg1010, h⟩ := ic_letE h
              refine ev_put (a := 1) (b := 8) 4 7 rfl rfl (Nat.le_of_ble_eq_true rfl) lfX2_106 rfl (pX4_isTaken hs (ic_inl h1002) rfl eg1010) ?_
              refine ev_iinc (a := 1) (b := 9) (x3 + 1) [(0, ic_R 1 s 0), (1, ic_R 2 s 0), (2, ic_I 8), (3, ic_I (x3 + 1))] rfl rfl (by first | rfl | decide) (by decide) (And.intro (Or.inr (And.intro rfl rfl)) (And.intro (Or.inr (And.intro rfl rfl)) (And.intro (Or.inr (And.intro rfl rfl)) (And.intro (Or.inl rfl) trivial)))) ?_
              refine ev_goto (a := 1) (b := 10) 10 rfl rfl ?_
              refine ev_fw (lv' := [(0, ic_R 1 s 0), (1, ic_R 2 s 0), (2, ic_I 8), (3, ic_I (x3 + 1))]) ?_ (And.intro rfl (And.intro rfl (And.intro rfl (And.intro rfl trivial))))
              exact ih (x3 + 1) g1010 _ h _ _ hq
            · have h := (if_neg c1009).symm.trans h
              refine ev_aload (a := 1) (b := 2) rfl rfl ?_
              refine ev_get (a := 1) (b := 3) 4 6 rfl rfl (Nat.le_of_ble_eq_true rfl) lfX2_140 (gX4_isHeld hs (ic_inl h1002)) ?_
              refine ev_ifne (a := 1) (b := 4) 79 rfl rfl (fun c1011 => ?_) (fun c1011 => ?_)
              · have h := (if_neg c1011).symm.trans h
                refine ev_iconst (a := 1) (b := 7) 0 rfl (by decide) ?_
                obtain ⟨g1012, eg1012, h⟩ := ic_letE h
                refine ev_put (a := 1) (b := 8) 4 7 rfl rfl (Nat.le_of_ble_eq_true rfl) lfX2_106 rfl (pX4_isTaken hs (ic_inl h1002) rfl eg1012) ?_
                refine ev_iinc (a := 1) (b := 9) (x3 + 1) [(0, ic_R 1 s 0), (1, ic_R 2 s 0), (2, ic_I 8), (3, ic_I (x3 + 1))] rfl rfl (by first | rfl | decide) (by decide) (And.intro (Or.inr (And.intro rfl rfl)) (And.intro (Or.inr (And.intro rfl rfl)) (And.intro (Or.inr (And.intro rfl rfl)) (And.intro (Or.inl rfl) trivial)))) ?_
                refine ev_goto (a := 1) (b := 10) 10 rfl rfl ?_
                refine ev_fw (lv' := [(0, ic_R 1 s 0), (1, ic_R 2 s 0), (2, ic_I 8), (3, ic_I (x3 + 1))]) ?_ (And.intro rfl (And.intro rfl (And.intro rfl (And.intro rfl trivial))))
                exact ih (x3 + 1) g1012 _ h _ _ hq
              · have h := (if_pos c1011).symm.trans h
                refine ev_iconst (a := 1) (b := 5) 1 rfl (by decide) ?_
                refine ev_goto (a := 1) (b := 6) 80 rfl rfl ?_
                obtain ⟨g1013, eg1013, h⟩ := ic_letE h
                refine ev_put (a := 1) (b := 8) 4 7 rfl rfl (Nat.le_of_ble_eq_true rfl) lfX2_106 rfl (pX4_isTaken hs (ic_inl h1002) rfl eg1013) ?_
                refine ev_iinc (a := 1) (b := 9) (x3 + 1) [(0, ic_R 1 s 0), (1, ic_R 2 s 0), (2, ic_I 8), (3, ic_I (x3 + 1))] rfl rfl (by first | rfl | decide) (by decide) (And.intro (Or.inr (And.intro rfl rfl)) (And.intro (Or.inr (And.intro rfl rfl)) (And.intro (Or.inr (And.intro rfl rfl)) (And.intro (Or.inl rfl) trivial)))) ?_
                refine ev_goto (a := 1) (b := 10) 10 rfl rfl ?_
                refine ev_fw (lv' := [(0, ic_R 1 s 0), (1, ic_R 2 s 0), (2, ic_I 8), (3, ic_I (x3 + 1))]) ?_ (And.intro rfl (And.intro rfl (And.intro rfl (And.intro rfl trivial))))
                exact ih (x3 + 1) g1013 _ h _ _ hq
set_option maxRecDepth 20000 in
theorem eX2_takeThings {s : Nat} {g g' : ic_S} (h : fX2_takeThings s g = some g') : ic_Ev mX2_takeThings 0 (ic_ag 0 [ic_R 1 s 0]) [] g (none) g' := by
  unfold fX2_takeThings at h
  obtain ⟨hs, h⟩ := ic_gdE h
  have hs : s < 3 := Nat.le_of_ble_eq_true hs
  change ic_Ev mX2_takeThings 0 [(0, ic_R 1 s 0)] [] g _ _
  refine ev_aload_n (a := 0) (b := 0) rfl rfl ?_
  refine ev_get (a := 0) (b := 1) 2 7 rfl rfl (Nat.le_of_ble_eq_true rfl) lfX2_35 (gX2_things hs) ?_
  refine ev_astore_n (a := 0) (b := 2) [(0, ic_R 1 s 0), (1, ic_R 2 s 0)] rfl (by decide) (And.intro (Or.inr (And.intro rfl rfl)) (And.intro (Or.inl rfl) trivial)) ?_
  refine ev_aload_n (a := 0) (b := 3) rfl rfl ?_
  refine ev_alenr (a := 0) (b := 4) 8 rfl (a2 hs) (by decide) ?_
  refine ev_istore_n (a := 0) (b := 5) [(0, ic_R 1 s 0), (1, ic_R 2 s 0), (2, ic_I 8)] rfl (by decide) (And.intro (Or.inr (And.intro rfl rfl)) (And.intro (Or.inr (And.intro rfl rfl)) (And.intro (Or.inl rfl) trivial))) ?_
  refine ev_iconst (a := 0) (b := 6) 0 rfl (by decide) ?_
  refine ev_istore_n (a := 0) (b := 7) [(0, ic_R 1 s 0), (1, ic_R 2 s 0), (2, ic_I 8), (3, ic_I 0)] rfl (by decide) (And.intro (Or.inr (And.intro rfl rfl)) (And.intro (Or.inr (And.intro rfl rfl)) (And.intro (Or.inr (And.intro rfl rfl)) (And.intro (Or.inl rfl) trivial)))) ?_
  refine ev_fw (lv' := [(0, ic_R 1 s 0), (1, ic_R 2 s 0), (2, ic_I 8), (3, ic_I 0)]) ?_ (And.intro rfl (And.intro rfl (And.intro rfl (And.intro rfl trivial))))
  obtain ⟨y1, g2, e3, h⟩ := ic_b2E h
  refine tX2_takeThings_10 hs 1000 0 g _ e3 _ _ ?_
  change ic_Ev mX2_takeThings 89 [] [] g2 _ _
  obtain rfl := ic_s1 h
  exact ev_return (a := 1) (b := 11) rfl rfl
set_option maxRecDepth 20000 in
theorem eX4_rest {s : Nat} {t : Nat} {g g' : ic_S} (h : fX4_rest s t g = some g') : ic_Ev mX4_rest 0 (ic_ag 0 [ic_R 3 s t]) [] g (none) g' := by
  unfold fX4_rest at h
  obtain ⟨hs, h⟩ := ic_gdE h
  have hs : s < 3 := Nat.le_of_ble_eq_true hs
  obtain ⟨ht, h⟩ := ic_gdE h
  have ht : t < 8 := Nat.le_of_ble_eq_true ht
  change ic_Ev mX4_rest 0 [(0, ic_R 3 s t)] [] g _ _
  refine ev_aload_n (a := 0) (b := 0) rfl rfl ?_
  refine ev_aload_n (a := 0) (b := 1) rfl rfl ?_
  refine ev_get (a := 0) (b := 2) 4 4 rfl rfl (Nat.le_of_ble_eq_true rfl) lfX4_24 (gX4_pulled hs ht) ?_
  refine ev_aload_n (a := 0) (b := 3) rfl rfl ?_
  obtain ⟨v3, g1, e2, h⟩ := ic_b2E h
  refine ev_ivI (a := 0) (b := 4) [] rfl okX4_rests rfl lmX4_45 rfl (rc3 hs ht) (Nat.le_of_ble_eq_true rfl) (eX4_rests e2) (Nat.le_of_ble_eq_true rfl) rfl ?_
  refine ev_isub (a := 0) (b := 5) rfl ?_
  refine ev_iconst (a := 0) (b := 6) 0 rfl (by decide) ?_
  refine ev_mmax (a := 0) (b := 7) rfl lmX4_48 ok_mmax rfl (Nat.le_of_ble_eq_true rfl) ?_
  obtain ⟨g4, eg4, h⟩ := ic_letE h
  refine ev_put (a := 0) (b := 8) 4 4 rfl rfl (Nat.le_of_ble_eq_true rfl) lfX4_24 rfl (pX4_pulled hs ht eg4) ?_
  obtain rfl := ic_s1 h
  exact ev_return (a := 0) (b := 9) rfl rfl
set_option maxRecDepth 20000 in
theorem tX2_restThings_10 {s : Nat} (hs : s < 3) : ∀ (n : Nat) (x3 : Int32) (g : ic_S) (q : Unit × ic_S), lX2_restThings_10 s n x3 g = some q → ∀ (r : Option ic_V) (g' : ic_S), ic_Ev mX2_restThings 56 [] [] q.2 r g' → ic_Ev mX2_restThings 10 [(0, ic_R 1 s 0), (1, ic_R 2 s 0), (2, ic_I 8), (3, ic_I x3)] [] g r g' := by
  intro n
  induction n with
  | zero => intro x3 g q h; cases h
  | succ n ih =>
    intro x3 g q h r g' hq
    rw [lX2_restThings_10] at h
    refine ev_iload_n (a := 0) (b := 8) rfl rfl ?_
    refine ev_iload_n (a := 0) (b := 9) rfl rfl ?_
    refine ev_icge (a := 0) (b := 10) 56 rfl rfl (fun c1001 => ?_) (fun c1001 => ?_)
    · have h := (if_pos c1001).symm.trans h
      obtain rfl := ic_s1 h
      exact ev_fw (lv' := []) hq trivial
    · have h := (if_neg c1001).symm.trans h
      refine ev_aload_n (a := 0) (b := 11) rfl rfl ?_
      refine ev_iload_n (a := 0) (b := 12) rfl rfl ?_
      obtain ⟨h1002, h⟩ := ic_gdE h
      refine ev_aald (a := 0) (b := 13) rfl (a2 hs) h1002 (show (3 : Nat) ≠ 26 by decide) ?_
      refine ev_astore (a := 0) (b := 14) [(0, ic_R 1 s 0), (1, ic_R 2 s 0), (2, ic_I 8), (3, ic_I x3), (4, ic_R 3 s (Int32.toNatClampNeg x3))] rfl (by decide) (And.intro (Or.inr (And.intro rfl rfl)) (And.intro (Or.inr (And.intro rfl rfl)) (And.intro (Or.inr (And.intro rfl rfl)) (And.intro (Or.inr (And.intro rfl rfl)) (And.intro (Or.inl rfl) trivial))))) ?_
      refine ev_aload (a := 0) (b := 15) rfl rfl ?_
      refine ev_ifnull0 (a := 0) (b := 16) (show (3 : Nat) ≠ 26 by decide) rfl ?_
      refine ev_aload (a := 0) (b := 17) rfl rfl ?_
      refine ev_get (a := 0) (b := 18) 4 0 rfl rfl (Nat.le_of_ble_eq_true rfl) lfX2_95 (gX4_number hs (ic_inl h1002)) ?_
      refine ev_aload_n (a := 0) (b := 19) rfl rfl ?_
      refine ev_get (a := 0) (b := 20) 2 6 rfl rfl (Nat.le_of_ble_eq_true rfl) lfX2_30 (gX2_made hs) ?_
      refine ev_icge (a := 0) (b := 21) 50 rfl rfl (fun c1003 => ?_) (fun c1003 => ?_)
      · have h := (if_pos c1003).symm.trans h
        refine ev_iinc (a := 0) (b := 27) (x3 + 1) [(0, ic_R 1 s 0), (1, ic_R 2 s 0), (2, ic_I 8), (3, ic_I (x3 + 1))] rfl rfl (by first | rfl | decide) (by decide) (And.intro (Or.inr (And.intro rfl rfl)) (And.intro (Or.inr (And.intro rfl rfl)) (And.intro (Or.inr (And.intro rfl rfl)) (And.intro (Or.inl rfl) trivial)))) ?_
        refine ev_goto (a := 0) (b := 28) 10 rfl rfl ?_
        refine ev_fw (lv' := [(0, ic_R 1 s 0), (1, ic_R 2 s 0), (2, ic_I 8), (3, ic_I (x3 + 1))]) ?_ (And.intro rfl (And.intro rfl (And.intro rfl (And.intro rfl trivial))))
        exact ih (x3 + 1) g _ h _ _ hq
      · have h := (if_neg c1003).symm.trans h
        refine ev_aload (a := 0) (b := 22) rfl rfl ?_
        refine ev_get (a := 0) (b := 23) 4 7 rfl rfl (Nat.le_of_ble_eq_true rfl) lfX2_106 (gX4_isTaken hs (ic_inl h1002)) ?_
        refine ev_ifne (a := 0) (b := 24) 50 rfl rfl (fun c1004 => ?_) (fun c1004 => ?_)
        · have h := (if_neg c1004).symm.trans h
          refine ev_iinc (a := 0) (b := 27) (x3 + 1) [(0, ic_R 1 s 0), (1, ic_R 2 s 0), (2, ic_I 8), (3, ic_I (x3 + 1))] rfl rfl (by first | rfl | decide) (by decide) (And.intro (Or.inr (And.intro rfl rfl)) (And.intro (Or.inr (And.intro rfl rfl)) (And.intro (Or.inr (And.intro rfl rfl)) (And.intro (Or.inl rfl) trivial)))) ?_
          refine ev_goto (a := 0) (b := 28) 10 rfl rfl ?_
          refine ev_fw (lv' := [(0, ic_R 1 s 0), (1, ic_R 2 s 0), (2, ic_I 8), (3, ic_I (x3 + 1))]) ?_ (And.intro rfl (And.intro rfl (And.intro rfl (And.intro rfl trivial))))
          exact ih (x3 + 1) g _ h _ _ hq
        · have h := (if_pos c1004).symm.trans h
          refine ev_aload (a := 0) (b := 25) rfl rfl ?_
          obtain ⟨g1005, e1006, h⟩ := ic_b1E h
          refine ev_ivV (a := 0) (b := 26) [] rfl okX4_rest rfl lmX2_143 rfl (rc3 hs (ic_inl h1002)) (Nat.le_of_ble_eq_true rfl) (eX4_rest e1006) (Nat.le_of_ble_eq_true rfl) rfl ?_
          refine ev_iinc (a := 0) (b := 27) (x3 + 1) [(0, ic_R 1 s 0), (1, ic_R 2 s 0), (2, ic_I 8), (3, ic_I (x3 + 1))] rfl rfl (by first | rfl | decide) (by decide) (And.intro (Or.inr (And.intro rfl rfl)) (And.intro (Or.inr (And.intro rfl rfl)) (And.intro (Or.inr (And.intro rfl rfl)) (And.intro (Or.inl rfl) trivial)))) ?_
          refine ev_goto (a := 0) (b := 28) 10 rfl rfl ?_
          refine ev_fw (lv' := [(0, ic_R 1 s 0), (1, ic_R 2 s 0), (2, ic_I 8), (3, ic_I (x3 + 1))]) ?_ (And.intro rfl (And.intro rfl (And.intro rfl (And.intro rfl trivial))))
          exact ih (x3 + 1) g1005 _ h _ _ hq
set_option maxRecDepth 20000 in
theorem eX2_restThings {s : Nat} {g g' : ic_S} (h : fX2_restThings s g = some g') : ic_Ev mX2_restThings 0 (ic_ag 0 [ic_R 1 s 0]) [] g (none) g' := by
  unfold fX2_restThings at h
  obtain ⟨hs, h⟩ := ic_gdE h
  have hs : s < 3 := Nat.le_of_ble_eq_true hs
  change ic_Ev mX2_restThings 0 [(0, ic_R 1 s 0)] [] g _ _
  refine ev_aload_n (a := 0) (b := 0) rfl rfl ?_
  refine ev_get (a := 0) (b := 1) 2 7 rfl rfl (Nat.le_of_ble_eq_true rfl) lfX2_35 (gX2_things hs) ?_
  refine ev_astore_n (a := 0) (b := 2) [(0, ic_R 1 s 0), (1, ic_R 2 s 0)] rfl (by decide) (And.intro (Or.inr (And.intro rfl rfl)) (And.intro (Or.inl rfl) trivial)) ?_
  refine ev_aload_n (a := 0) (b := 3) rfl rfl ?_
  refine ev_alenr (a := 0) (b := 4) 8 rfl (a2 hs) (by decide) ?_
  refine ev_istore_n (a := 0) (b := 5) [(0, ic_R 1 s 0), (1, ic_R 2 s 0), (2, ic_I 8)] rfl (by decide) (And.intro (Or.inr (And.intro rfl rfl)) (And.intro (Or.inr (And.intro rfl rfl)) (And.intro (Or.inl rfl) trivial))) ?_
  refine ev_iconst (a := 0) (b := 6) 0 rfl (by decide) ?_
  refine ev_istore_n (a := 0) (b := 7) [(0, ic_R 1 s 0), (1, ic_R 2 s 0), (2, ic_I 8), (3, ic_I 0)] rfl (by decide) (And.intro (Or.inr (And.intro rfl rfl)) (And.intro (Or.inr (And.intro rfl rfl)) (And.intro (Or.inr (And.intro rfl rfl)) (And.intro (Or.inl rfl) trivial)))) ?_
  refine ev_fw (lv' := [(0, ic_R 1 s 0), (1, ic_R 2 s 0), (2, ic_I 8), (3, ic_I 0)]) ?_ (And.intro rfl (And.intro rfl (And.intro rfl (And.intro rfl trivial))))
  obtain ⟨y1, g2, e3, h⟩ := ic_b2E h
  refine tX2_restThings_10 hs 1000 0 g _ e3 _ _ ?_
  change ic_Ev mX2_restThings 56 [] [] g2 _ _
  obtain rfl := ic_s1 h
  exact ev_return (a := 0) (b := 29) rfl rfl
set_option maxRecDepth 20000 in
theorem tX2_callTimes_2 {s : Nat} (hs : s < 3) {x1 : Int32} : ∀ (n : Nat) (x2 : Int32) (g : ic_S) (q : Unit × ic_S), lX2_callTimes_2 s x1 n x2 g = some q → ∀ (r : Option ic_V) (g' : ic_S), ic_Ev mX2_callTimes 44 [] [] q.2 r g' → ic_Ev mX2_callTimes 2 [(0, ic_R 1 s 0), (1, ic_I x1), (2, ic_I x2)] [] g r g' := by
  intro n
  induction n with
  | zero => intro x2 g q h; cases h
  | succ n ih =>
    intro x2 g q h r g' hq
    rw [lX2_callTimes_2] at h
    refine ev_iload_n (a := 0) (b := 2) rfl rfl ?_
    refine ev_iload_n (a := 0) (b := 3) rfl rfl ?_
    refine ev_icge (a := 0) (b := 4) 44 rfl rfl (fun c1001 => ?_) (fun c1001 => ?_)
    · have h := (if_pos c1001).symm.trans h
      obtain rfl := ic_s1 h
      exact ev_fw (lv' := []) hq trivial
    · have h := (if_neg c1001).symm.trans h
      refine ev_aload_n (a := 0) (b := 5) rfl rfl ?_
      obtain ⟨g1002, e1003, h⟩ := ic_b1E h
      refine ev_ivV (a := 0) (b := 6) [] rfl okX2_rollCart rfl lmX2_113 rfl (rc1 hs) (Nat.le_of_ble_eq_true rfl) (eX2_rollCart e1003) (Nat.le_of_ble_eq_true rfl) rfl ?_
      refine ev_aload_n (a := 0) (b := 7) rfl rfl ?_
      obtain ⟨g1004, e1005, h⟩ := ic_b1E h
      refine ev_ivV (a := 0) (b := 8) [] rfl okX2_pullThings rfl lmX2_116 rfl (rc1 hs) (Nat.le_of_ble_eq_true rfl) (eX2_pullThings e1005) (Nat.le_of_ble_eq_true rfl) rfl ?_
      refine ev_aload_n (a := 0) (b := 9) rfl rfl ?_
      obtain ⟨g1006, e1007, h⟩ := ic_b1E h
      refine ev_ivV (a := 0) (b := 10) [] rfl okX2_takeThings rfl lmX2_119 rfl (rc1 hs) (Nat.le_of_ble_eq_true rfl) (eX2_takeThings e1007) (Nat.le_of_ble_eq_true rfl) rfl ?_
      refine ev_aload_n (a := 0) (b := 11) rfl rfl ?_
      obtain ⟨g1008, e1009, h⟩ := ic_b1E h
      refine ev_ivV (a := 0) (b := 12) [] rfl okX2_restThings rfl lmX2_122 rfl (rc1 hs) (Nat.le_of_ble_eq_true rfl) (eX2_restThings e1009) (Nat.le_of_ble_eq_true rfl) rfl ?_
      refine ev_aload_n (a := 0) (b := 13) rfl rfl ?_
      refine ev_aload_n (a := 0) (b := 14) rfl rfl ?_
      refine ev_get (a := 0) (b := 15) 2 4 rfl rfl (Nat.le_of_ble_eq_true rfl) lfX2_24 (gX2_callNumber hs) ?_
      refine ev_iconst (a := 0) (b := 16) 1 rfl (by decide) ?_
      refine ev_iadd (a := 0) (b := 17) rfl ?_
      refine ev_ldc (a := 0) (b := 18) 99999 rfl lcX2_125 ?_
      refine ev_mmin (a := 0) (b := 19) rfl lmX2_126 ok_mmin rfl (Nat.le_of_ble_eq_true rfl) ?_
      obtain ⟨g1010, eg1010, h⟩ := ic_letE h
      refine ev_put (a := 0) (b := 20) 2 4 rfl rfl (Nat.le_of_ble_eq_true rfl) lfX2_24 rfl (pX2_callNumber hs eg1010) ?_
      refine ev_iinc (a := 0) (b := 21) (x2 + 1) [(0, ic_R 1 s 0), (1, ic_I x1), (2, ic_I (x2 + 1))] rfl rfl (by first | rfl | decide) (by decide) (And.intro (Or.inr (And.intro rfl rfl)) (And.intro (Or.inr (And.intro rfl rfl)) (And.intro (Or.inl rfl) trivial))) ?_
      refine ev_goto (a := 0) (b := 22) 2 rfl rfl ?_
      refine ev_fw (lv' := [(0, ic_R 1 s 0), (1, ic_I x1), (2, ic_I (x2 + 1))]) ?_ (And.intro rfl (And.intro rfl (And.intro rfl trivial)))
      exact ih (x2 + 1) g1010 _ h _ _ hq
set_option maxRecDepth 20000 in
theorem eX2_callTimes {s : Nat} {x1 : Int32} {g g' : ic_S} (h : fX2_callTimes s x1 g = some g') : ic_Ev mX2_callTimes 0 (ic_ag 0 [ic_R 1 s 0, ic_I x1]) [] g (none) g' := by
  unfold fX2_callTimes at h
  obtain ⟨hs, h⟩ := ic_gdE h
  have hs : s < 3 := Nat.le_of_ble_eq_true hs
  change ic_Ev mX2_callTimes 0 [(0, ic_R 1 s 0), (1, ic_I x1)] [] g _ _
  refine ev_iconst (a := 0) (b := 0) 0 rfl (by decide) ?_
  refine ev_istore_n (a := 0) (b := 1) [(0, ic_R 1 s 0), (1, ic_I x1), (2, ic_I 0)] rfl (by decide) (And.intro (Or.inr (And.intro rfl rfl)) (And.intro (Or.inr (And.intro rfl rfl)) (And.intro (Or.inl rfl) trivial))) ?_
  refine ev_fw (lv' := [(0, ic_R 1 s 0), (1, ic_I x1), (2, ic_I 0)]) ?_ (And.intro rfl (And.intro rfl (And.intro rfl trivial)))
  obtain ⟨y1, g2, e3, h⟩ := ic_b2E h
  refine tX2_callTimes_2 (x1 := x1) hs 1000 0 g _ e3 _ _ ?_
  change ic_Ev mX2_callTimes 44 [] [] g2 _ _
  obtain rfl := ic_s1 h
  exact ev_return (a := 0) (b := 23) rfl rfl
set_option maxRecDepth 20000 in
theorem eX2_draw {s : Nat} {g g' : ic_S} {v : Int32} (h : fX2_draw s g = some (v, g')) : ic_Ev mX2_draw 0 (ic_ag 0 [ic_R 1 s 0]) [] g (some (ic_I v)) g' := by
  unfold fX2_draw at h
  obtain ⟨hs, h⟩ := ic_gdE h
  have hs : s < 3 := Nat.le_of_ble_eq_true hs
  change ic_Ev mX2_draw 0 [(0, ic_R 1 s 0)] [] g _ _
  refine ev_aload_n (a := 0) (b := 0) rfl rfl ?_
  refine ev_aload_n (a := 0) (b := 1) rfl rfl ?_
  refine ev_get (a := 0) (b := 2) 2 5 rfl rfl (Nat.le_of_ble_eq_true rfl) lfX2_27 (gX2_z hs) ?_
  refine ev_ldc (a := 0) (b := 3) 1103515245 rfl lcX2_146 ?_
  refine ev_imul (a := 0) (b := 4) rfl ?_
  refine ev_sipush (a := 0) (b := 5) 12345 rfl (by decide) ?_
  refine ev_iadd (a := 0) (b := 6) rfl ?_
  obtain ⟨g1, eg1, h⟩ := ic_letE h
  refine ev_put (a := 0) (b := 7) 2 5 rfl rfl (Nat.le_of_ble_eq_true rfl) lfX2_27 rfl (pX2_z hs eg1) ?_
  refine ev_aload_n (a := 0) (b := 8) rfl rfl ?_
  refine ev_get (a := 0) (b := 9) 2 5 rfl rfl (Nat.le_of_ble_eq_true rfl) lfX2_27 (gX2_z hs) ?_
  refine ev_bipush (a := 0) (b := 10) 8 rfl (by decide) ?_
  refine ev_iushr (a := 0) (b := 11) rfl ?_
  obtain ⟨rfl, rfl⟩ := ic_s2 h
  exact ev_ireturn (a := 0) (b := 12) rfl rfl rfl
set_option maxRecDepth 20000 in
theorem eX2_hasSpot {s : Nat} {x1 : Int32} {g g' : ic_S} {v : Int32} (h : fX2_hasSpot s x1 g = some (v, g')) : ic_Ev mX2_hasSpot 0 (ic_ag 0 [ic_R 1 s 0, ic_I x1]) [] g (some (ic_I v)) g' := by
  unfold fX2_hasSpot at h
  obtain ⟨hs, h⟩ := ic_gdE h
  have hs : s < 3 := Nat.le_of_ble_eq_true hs
  change ic_Ev mX2_hasSpot 0 [(0, ic_R 1 s 0), (1, ic_I x1)] [] g _ _
  refine ev_iload_n (a := 0) (b := 0) rfl rfl ?_
  refine ev_iflt (a := 0) (b := 1) 17 rfl rfl (fun c1 => ?_) (fun c1 => ?_)
  · have h := (if_pos c1).symm.trans h
    refine ev_iconst (a := 0) (b := 9) 0 rfl (by decide) ?_
    obtain ⟨rfl, rfl⟩ := ic_s2 h
    exact ev_ireturn (a := 0) (b := 10) rfl rfl rfl
  · have h := (if_neg c1).symm.trans h
    refine ev_iload_n (a := 0) (b := 2) rfl rfl ?_
    refine ev_aload_n (a := 0) (b := 3) rfl rfl ?_
    refine ev_get (a := 0) (b := 4) 2 8 rfl rfl (Nat.le_of_ble_eq_true rfl) lfX2_42 (gX2_spots hs) ?_
    refine ev_alen (a := 0) (b := 5) 10 rfl (a4 hs) (by decide) ?_
    refine ev_icge (a := 0) (b := 6) 17 rfl rfl (fun c2 => ?_) (fun c2 => ?_)
    · have h := (if_pos c2).symm.trans h
      refine ev_iconst (a := 0) (b := 9) 0 rfl (by decide) ?_
      obtain ⟨rfl, rfl⟩ := ic_s2 h
      exact ev_ireturn (a := 0) (b := 10) rfl rfl rfl
    · have h := (if_neg c2).symm.trans h
      refine ev_iconst (a := 0) (b := 7) 1 rfl (by decide) ?_
      refine ev_goto (a := 0) (b := 8) 18 rfl rfl ?_
      obtain ⟨rfl, rfl⟩ := ic_s2 h
      exact ev_ireturn (a := 0) (b := 10) rfl rfl rfl
set_option maxRecDepth 20000 in
theorem tX2_spotsInUse_13 {s : Nat} (hs : s < 3) : ∀ (n : Nat) (x1 : Int32) (x4 : Int32) (g : ic_S) (q : (Int32) × ic_S), lX2_spotsInUse_13 s n x1 x4 g = some q → ∀ (r : Option ic_V) (g' : ic_S), ic_Ev mX2_spotsInUse 40 [(1, ic_I q.1)] [] q.2 r g' → ic_Ev mX2_spotsInUse 13 [(1, ic_I x1), (2, ic_R 4 s 0), (3, ic_I 10), (4, ic_I x4)] [] g r g' := by
  intro n
  induction n with
  | zero => intro x1 x4 g q h; cases h
  | succ n ih =>
    intro x1 x4 g q h r g' hq
    rw [lX2_spotsInUse_13] at h
    refine ev_iload (a := 0) (b := 10) rfl rfl ?_
    refine ev_iload_n (a := 0) (b := 11) rfl rfl ?_
    refine ev_icge (a := 0) (b := 12) 40 rfl rfl (fun c1001 => ?_) (fun c1001 => ?_)
    · have h := (if_pos c1001).symm.trans h
      obtain rfl := ic_s1 h
      exact ev_fw (lv' := [(1, ic_I x1)]) hq (And.intro rfl trivial)
    · have h := (if_neg c1001).symm.trans h
      refine ev_aload_n (a := 0) (b := 13) rfl rfl ?_
      refine ev_iload (a := 0) (b := 14) rfl rfl ?_
      obtain ⟨h1002, h⟩ := ic_gdE h
      refine ev_iald (a := 0) (b := 15) rfl (a4 hs) h1002 ?_
      obtain ⟨y1003, ey1003, h⟩ := ic_letE h
      refine ev_topI ey1003 ?_
      refine ev_istore (a := 0) (b := 16) [(1, ic_I x1), (2, ic_R 4 s 0), (3, ic_I 10), (4, ic_I x4), (5, ic_I y1003)] rfl (by decide) (And.intro (Or.inr (And.intro rfl rfl)) (And.intro (Or.inr (And.intro rfl rfl)) (And.intro (Or.inr (And.intro rfl rfl)) (And.intro (Or.inr (And.intro rfl rfl)) (And.intro (Or.inl rfl) trivial))))) ?_
      refine ev_iload (a := 0) (b := 17) rfl rfl ?_
      refine ev_iconst (a := 0) (b := 18) (-1) rfl (by decide) ?_
      refine ev_iceq (a := 0) (b := 19) 34 rfl rfl (fun c1004 => ?_) (fun c1004 => ?_)
      · have h := (if_pos c1004).symm.trans h
        refine ev_iinc (a := 0) (b := 21) (x4 + 1) [(1, ic_I x1), (2, ic_R 4 s 0), (3, ic_I 10), (4, ic_I (x4 + 1))] rfl rfl (by first | rfl | decide) (by decide) (And.intro (Or.inr (And.intro rfl rfl)) (And.intro (Or.inr (And.intro rfl rfl)) (And.intro (Or.inr (And.intro rfl rfl)) (And.intro (Or.inl rfl) trivial)))) ?_
        refine ev_goto (a := 0) (b := 22) 13 rfl rfl ?_
        refine ev_fw (lv' := [(1, ic_I x1), (2, ic_R 4 s 0), (3, ic_I 10), (4, ic_I (x4 + 1))]) ?_ (And.intro rfl (And.intro rfl (And.intro rfl (And.intro rfl trivial))))
        exact ih x1 (x4 + 1) g _ h _ _ hq
      · have h := (if_neg c1004).symm.trans h
        refine ev_iinc (a := 0) (b := 20) (x1 + 1) [(1, ic_I (x1 + 1)), (2, ic_R 4 s 0), (3, ic_I 10), (4, ic_I x4)] rfl rfl (by first | rfl | decide) (by decide) (And.intro (Or.inl rfl) (And.intro (Or.inr (And.intro rfl rfl)) (And.intro (Or.inr (And.intro rfl rfl)) (And.intro (Or.inr (And.intro rfl rfl)) trivial)))) ?_
        refine ev_iinc (a := 0) (b := 21) (x4 + 1) [(1, ic_I (x1 + 1)), (2, ic_R 4 s 0), (3, ic_I 10), (4, ic_I (x4 + 1))] rfl rfl (by first | rfl | decide) (by decide) (And.intro (Or.inr (And.intro rfl rfl)) (And.intro (Or.inr (And.intro rfl rfl)) (And.intro (Or.inr (And.intro rfl rfl)) (And.intro (Or.inl rfl) trivial)))) ?_
        refine ev_goto (a := 0) (b := 22) 13 rfl rfl ?_
        refine ev_fw (lv' := [(1, ic_I (x1 + 1)), (2, ic_R 4 s 0), (3, ic_I 10), (4, ic_I (x4 + 1))]) ?_ (And.intro rfl (And.intro rfl (And.intro rfl (And.intro rfl trivial))))
        exact ih (x1 + 1) (x4 + 1) g _ h _ _ hq
set_option maxRecDepth 20000 in
theorem eX2_spotsInUse {s : Nat} {g g' : ic_S} {v : Int32} (h : fX2_spotsInUse s g = some (v, g')) : ic_Ev mX2_spotsInUse 0 (ic_ag 0 [ic_R 1 s 0]) [] g (some (ic_I v)) g' := by
  unfold fX2_spotsInUse at h
  obtain ⟨hs, h⟩ := ic_gdE h
  have hs : s < 3 := Nat.le_of_ble_eq_true hs
  change ic_Ev mX2_spotsInUse 0 [(0, ic_R 1 s 0)] [] g _ _
  refine ev_iconst (a := 0) (b := 0) 0 rfl (by decide) ?_
  refine ev_istore_n (a := 0) (b := 1) [(0, ic_R 1 s 0), (1, ic_I 0)] rfl (by decide) (And.intro (Or.inr (And.intro rfl rfl)) (And.intro (Or.inl rfl) trivial)) ?_
  refine ev_aload_n (a := 0) (b := 2) rfl rfl ?_
  refine ev_get (a := 0) (b := 3) 2 8 rfl rfl (Nat.le_of_ble_eq_true rfl) lfX2_42 (gX2_spots hs) ?_
  refine ev_astore_n (a := 0) (b := 4) [(1, ic_I 0), (2, ic_R 4 s 0)] rfl (by decide) (And.intro (Or.inr (And.intro rfl rfl)) (And.intro (Or.inl rfl) trivial)) ?_
  refine ev_aload_n (a := 0) (b := 5) rfl rfl ?_
  refine ev_alen (a := 0) (b := 6) 10 rfl (a4 hs) (by decide) ?_
  refine ev_istore_n (a := 0) (b := 7) [(1, ic_I 0), (2, ic_R 4 s 0), (3, ic_I 10)] rfl (by decide) (And.intro (Or.inr (And.intro rfl rfl)) (And.intro (Or.inr (And.intro rfl rfl)) (And.intro (Or.inl rfl) trivial))) ?_
  refine ev_iconst (a := 0) (b := 8) 0 rfl (by decide) ?_
  refine ev_istore (a := 0) (b := 9) [(1, ic_I 0), (2, ic_R 4 s 0), (3, ic_I 10), (4, ic_I 0)] rfl (by decide) (And.intro (Or.inr (And.intro rfl rfl)) (And.intro (Or.inr (And.intro rfl rfl)) (And.intro (Or.inr (And.intro rfl rfl)) (And.intro (Or.inl rfl) trivial)))) ?_
  refine ev_fw (lv' := [(1, ic_I 0), (2, ic_R 4 s 0), (3, ic_I 10), (4, ic_I 0)]) ?_ (And.intro rfl (And.intro rfl (And.intro rfl (And.intro rfl trivial))))
  obtain ⟨y1, g2, e3, h⟩ := ic_b2E h
  refine tX2_spotsInUse_13 hs 1000 0 0 g _ e3 _ _ ?_
  change ic_Ev mX2_spotsInUse 40 [(1, ic_I y1)] [] g2 _ _
  refine ev_iload_n (a := 0) (b := 23) rfl rfl ?_
  obtain ⟨rfl, rfl⟩ := ic_s2 h
  exact ev_ireturn (a := 0) (b := 24) rfl rfl rfl
set_option maxRecDepth 20000 in
theorem eX3_append {x1 : Int32} {g g' : ic_S} (h : fX3_append x1 g = some g') : ic_Ev mX3_append 0 (ic_ag 0 [ic_R 5 0 0, ic_I x1]) [] g (none) g' := by
  unfold fX3_append at h
  change ic_Ev mX3_append 0 [(0, ic_R 5 0 0), (1, ic_I x1)] [] g _ _
  refine ev_aload_n (a := 0) (b := 0) rfl rfl ?_
  refine ev_get (a := 0) (b := 1) 3 0 rfl rfl (Nat.le_of_ble_eq_true rfl) lfX3_9 (gX3_size) ?_
  refine ev_iflt (a := 0) (b := 2) 39 rfl rfl (fun c1 => ?_) (fun c1 => ?_)
  · have h := (if_pos c1).symm.trans h
    obtain rfl := ic_s1 h
    exact ev_return (a := 0) (b := 21) rfl rfl
  · have h := (if_neg c1).symm.trans h
    refine ev_aload_n (a := 0) (b := 3) rfl rfl ?_
    refine ev_get (a := 0) (b := 4) 3 0 rfl rfl (Nat.le_of_ble_eq_true rfl) lfX3_9 (gX3_size) ?_
    refine ev_aload_n (a := 0) (b := 5) rfl rfl ?_
    refine ev_get (a := 0) (b := 6) 3 1 rfl rfl (Nat.le_of_ble_eq_true rfl) lfX3_15 (gX3_bytes) ?_
    refine ev_alen (a := 0) (b := 7) 120 rfl (a6) (by decide) ?_
    refine ev_icge (a := 0) (b := 8) 39 rfl rfl (fun c2 => ?_) (fun c2 => ?_)
    · have h := (if_pos c2).symm.trans h
      obtain rfl := ic_s1 h
      exact ev_return (a := 0) (b := 21) rfl rfl
    · have h := (if_neg c2).symm.trans h
      refine ev_aload_n (a := 0) (b := 9) rfl rfl ?_
      refine ev_get (a := 0) (b := 10) 3 1 rfl rfl (Nat.le_of_ble_eq_true rfl) lfX3_15 (gX3_bytes) ?_
      refine ev_aload_n (a := 0) (b := 11) rfl rfl ?_
      refine ev_get (a := 0) (b := 12) 3 0 rfl rfl (Nat.le_of_ble_eq_true rfl) lfX3_9 (gX3_size) ?_
      refine ev_iload_n (a := 0) (b := 13) rfl rfl ?_
      obtain ⟨h3, h⟩ := ic_gdE h
      obtain ⟨g4, eg4, h⟩ := ic_letE h
      refine ev_iast (a := 0) (b := 14) rfl h3 (w6 eg4) ?_
      refine ev_aload_n (a := 0) (b := 15) rfl rfl ?_
      refine ev_dup (a := 0) (b := 16) rfl rfl ?_
      refine ev_get (a := 0) (b := 17) 3 0 rfl rfl (Nat.le_of_ble_eq_true rfl) lfX3_9 (gX3_size) ?_
      refine ev_iconst (a := 0) (b := 18) 1 rfl (by decide) ?_
      refine ev_iadd (a := 0) (b := 19) rfl ?_
      obtain ⟨g5, eg5, h⟩ := ic_letE h
      refine ev_put (a := 0) (b := 20) 3 0 rfl rfl (Nat.le_of_ble_eq_true rfl) lfX3_9 rfl (pX3_size eg5) ?_
      obtain rfl := ic_s1 h
      exact ev_return (a := 0) (b := 21) rfl rfl
set_option maxRecDepth 20000 in
theorem eX3_byteAt {x1 : Int32} {g g' : ic_S} {v : Int32} (h : fX3_byteAt x1 g = some (v, g')) : ic_Ev mX3_byteAt 0 (ic_ag 0 [ic_R 5 0 0, ic_I x1]) [] g (some (ic_I v)) g' := by
  unfold fX3_byteAt at h
  change ic_Ev mX3_byteAt 0 [(0, ic_R 5 0 0), (1, ic_I x1)] [] g _ _
  refine ev_iload_n (a := 0) (b := 0) rfl rfl ?_
  refine ev_iflt (a := 0) (b := 1) 30 rfl rfl (fun c1 => ?_) (fun c1 => ?_)
  · have h := (if_pos c1).symm.trans h
    refine ev_iconst (a := 0) (b := 16) (-1) rfl (by decide) ?_
    obtain ⟨rfl, rfl⟩ := ic_s2 h
    exact ev_ireturn (a := 0) (b := 17) rfl rfl rfl
  · have h := (if_neg c1).symm.trans h
    refine ev_iload_n (a := 0) (b := 2) rfl rfl ?_
    refine ev_aload_n (a := 0) (b := 3) rfl rfl ?_
    refine ev_get (a := 0) (b := 4) 3 0 rfl rfl (Nat.le_of_ble_eq_true rfl) lfX3_9 (gX3_size) ?_
    refine ev_icge (a := 0) (b := 5) 30 rfl rfl (fun c2 => ?_) (fun c2 => ?_)
    · have h := (if_pos c2).symm.trans h
      refine ev_iconst (a := 0) (b := 16) (-1) rfl (by decide) ?_
      obtain ⟨rfl, rfl⟩ := ic_s2 h
      exact ev_ireturn (a := 0) (b := 17) rfl rfl rfl
    · have h := (if_neg c2).symm.trans h
      refine ev_iload_n (a := 0) (b := 6) rfl rfl ?_
      refine ev_aload_n (a := 0) (b := 7) rfl rfl ?_
      refine ev_get (a := 0) (b := 8) 3 1 rfl rfl (Nat.le_of_ble_eq_true rfl) lfX3_15 (gX3_bytes) ?_
      refine ev_alen (a := 0) (b := 9) 120 rfl (a6) (by decide) ?_
      refine ev_icge (a := 0) (b := 10) 30 rfl rfl (fun c3 => ?_) (fun c3 => ?_)
      · have h := (if_pos c3).symm.trans h
        refine ev_iconst (a := 0) (b := 16) (-1) rfl (by decide) ?_
        obtain ⟨rfl, rfl⟩ := ic_s2 h
        exact ev_ireturn (a := 0) (b := 17) rfl rfl rfl
      · have h := (if_neg c3).symm.trans h
        refine ev_aload_n (a := 0) (b := 11) rfl rfl ?_
        refine ev_get (a := 0) (b := 12) 3 1 rfl rfl (Nat.le_of_ble_eq_true rfl) lfX3_15 (gX3_bytes) ?_
        refine ev_iload_n (a := 0) (b := 13) rfl rfl ?_
        obtain ⟨h4, h⟩ := ic_gdE h
        refine ev_iald (a := 0) (b := 14) rfl (a6) h4 ?_
        refine ev_goto (a := 0) (b := 15) 31 rfl rfl ?_
        obtain ⟨rfl, rfl⟩ := ic_s2 h
        exact ev_ireturn (a := 0) (b := 17) rfl rfl rfl
set_option maxRecDepth 20000 in
theorem eX3_hasLetter {x1 : Int32} {g g' : ic_S} {v : Int32} (h : fX3_hasLetter x1 g = some (v, g')) : ic_Ev mX3_hasLetter 0 (ic_ag 0 [ic_R 5 0 0, ic_I x1]) [] g (some (ic_I v)) g' := by
  unfold fX3_hasLetter at h
  change ic_Ev mX3_hasLetter 0 [(0, ic_R 5 0 0), (1, ic_I x1)] [] g _ _
  refine ev_aload_n (a := 0) (b := 0) rfl rfl ?_
  refine ev_iload_n (a := 0) (b := 1) rfl rfl ?_
  obtain ⟨v3, g1, e2, h⟩ := ic_b2E h
  refine ev_ivI (a := 0) (b := 2) [ic_I x1] rfl okX3_byteAt rfl lmX3_19 rfl (rc5) (Nat.le_of_ble_eq_true rfl) (eX3_byteAt e2) (Nat.le_of_ble_eq_true rfl) rfl ?_
  refine ev_istore_n (a := 0) (b := 3) [(2, ic_I v3)] rfl (by decide) (And.intro (Or.inl rfl) trivial) ?_
  refine ev_iload_n (a := 0) (b := 4) rfl rfl ?_
  refine ev_bipush (a := 0) (b := 5) 97 rfl (by decide) ?_
  refine ev_iclt (a := 0) (b := 6) 22 rfl rfl (fun c4 => ?_) (fun c4 => ?_)
  · have h := (if_pos c4).symm.trans h
    refine ev_iconst (a := 0) (b := 12) 0 rfl (by decide) ?_
    obtain ⟨rfl, rfl⟩ := ic_s2 h
    exact ev_ireturn (a := 0) (b := 13) rfl rfl rfl
  · have h := (if_neg c4).symm.trans h
    refine ev_iload_n (a := 0) (b := 7) rfl rfl ?_
    refine ev_bipush (a := 0) (b := 8) 122 rfl (by decide) ?_
    refine ev_icgt (a := 0) (b := 9) 22 rfl rfl (fun c5 => ?_) (fun c5 => ?_)
    · have h := (if_pos c5).symm.trans h
      refine ev_iconst (a := 0) (b := 12) 0 rfl (by decide) ?_
      obtain ⟨rfl, rfl⟩ := ic_s2 h
      exact ev_ireturn (a := 0) (b := 13) rfl rfl rfl
    · have h := (if_neg c5).symm.trans h
      refine ev_iconst (a := 0) (b := 10) 1 rfl (by decide) ?_
      refine ev_goto (a := 0) (b := 11) 23 rfl rfl ?_
      obtain ⟨rfl, rfl⟩ := ic_s2 h
      exact ev_ireturn (a := 0) (b := 13) rfl rfl rfl
set_option maxRecDepth 20000 in
theorem eX3_hasDigit {x1 : Int32} {g g' : ic_S} {v : Int32} (h : fX3_hasDigit x1 g = some (v, g')) : ic_Ev mX3_hasDigit 0 (ic_ag 0 [ic_R 5 0 0, ic_I x1]) [] g (some (ic_I v)) g' := by
  unfold fX3_hasDigit at h
  change ic_Ev mX3_hasDigit 0 [(0, ic_R 5 0 0), (1, ic_I x1)] [] g _ _
  refine ev_aload_n (a := 0) (b := 0) rfl rfl ?_
  refine ev_iload_n (a := 0) (b := 1) rfl rfl ?_
  obtain ⟨v3, g1, e2, h⟩ := ic_b2E h
  refine ev_ivI (a := 0) (b := 2) [ic_I x1] rfl okX3_byteAt rfl lmX3_19 rfl (rc5) (Nat.le_of_ble_eq_true rfl) (eX3_byteAt e2) (Nat.le_of_ble_eq_true rfl) rfl ?_
  refine ev_istore_n (a := 0) (b := 3) [(2, ic_I v3)] rfl (by decide) (And.intro (Or.inl rfl) trivial) ?_
  refine ev_iload_n (a := 0) (b := 4) rfl rfl ?_
  refine ev_bipush (a := 0) (b := 5) 48 rfl (by decide) ?_
  refine ev_iclt (a := 0) (b := 6) 22 rfl rfl (fun c4 => ?_) (fun c4 => ?_)
  · have h := (if_pos c4).symm.trans h
    refine ev_iconst (a := 0) (b := 12) 0 rfl (by decide) ?_
    obtain ⟨rfl, rfl⟩ := ic_s2 h
    exact ev_ireturn (a := 0) (b := 13) rfl rfl rfl
  · have h := (if_neg c4).symm.trans h
    refine ev_iload_n (a := 0) (b := 7) rfl rfl ?_
    refine ev_bipush (a := 0) (b := 8) 57 rfl (by decide) ?_
    refine ev_icgt (a := 0) (b := 9) 22 rfl rfl (fun c5 => ?_) (fun c5 => ?_)
    · have h := (if_pos c5).symm.trans h
      refine ev_iconst (a := 0) (b := 12) 0 rfl (by decide) ?_
      obtain ⟨rfl, rfl⟩ := ic_s2 h
      exact ev_ireturn (a := 0) (b := 13) rfl rfl rfl
    · have h := (if_neg c5).symm.trans h
      refine ev_iconst (a := 0) (b := 10) 1 rfl (by decide) ?_
      refine ev_goto (a := 0) (b := 11) 23 rfl rfl ?_
      obtain ⟨rfl, rfl⟩ := ic_s2 h
      exact ev_ireturn (a := 0) (b := 13) rfl rfl rfl
set_option maxRecDepth 20000 in
theorem eJ0_coder_7d493 {s : Nat} {g g' : ic_S} {v : Int32} (h : fJ0_coder_7d493 s g = some (v, g')) : ic_Ev mJ0_coder_7d493 0 (ic_ag 0 [ic_R 24 s 0]) [] g (some (ic_I v)) g' := by
  unfold fJ0_coder_7d493 at h
  obtain ⟨hs, h⟩ := ic_gdE h
  have hs : s < 16 := Nat.le_of_ble_eq_true hs
  change ic_Ev mJ0_coder_7d493 0 [(0, ic_R 24 s 0)] [] g _ _
  refine ev_compact (a := 0) (b := 0) rfl lfJ0_38 ?_
  refine ev_ifeq (a := 0) (b := 1) 13 rfl rfl (fun c => absurd c (by decide)) (fun _ => ?_)
  refine ev_aload_n (a := 0) (b := 2) rfl rfl ?_
  refine ev_scod (a := 0) (b := 3) hs rfl lfJ0_15 ?_
  refine ev_goto (a := 0) (b := 4) 14 rfl rfl ?_
  obtain ⟨rfl, rfl⟩ := ic_s2 h
  exact ev_ireturn (a := 0) (b := 6) rfl rfl rfl
set_option maxRecDepth 20000 in
theorem eJ0_length_8abf5 {s : Nat} {g g' : ic_S} {v : Int32} (h : fJ0_length_8abf5 s g = some (v, g')) : ic_Ev mJ0_length_8abf5 0 (ic_ag 0 [ic_R 24 s 0]) [] g (some (ic_I v)) g' := by
  unfold fJ0_length_8abf5 at h
  obtain ⟨hs, h⟩ := ic_gdE h
  have hs : s < 16 := Nat.le_of_ble_eq_true hs
  change ic_Ev mJ0_length_8abf5 0 [(0, ic_R 24 s 0)] [] g _ _
  refine ev_aload_n (a := 0) (b := 0) rfl rfl ?_
  refine ev_sval (a := 0) (b := 1) hs rfl lfJ0_9 ?_
  refine ev_slen (a := 0) (b := 2) _ hs rfl rfl ?_
  refine ev_aload_n (a := 0) (b := 3) rfl rfl ?_
  obtain ⟨v3, g1, e2, h⟩ := ic_b2E h
  refine ev_ivI (a := 0) (b := 4) [] rfl okJ0_coder_7d493 rfl lmJ0_335 rfl (rc24 hs) (Nat.le_of_ble_eq_true rfl) (eJ0_coder_7d493 e2) (Nat.le_of_ble_eq_true rfl) rfl ?_
  refine ev_ishr (a := 0) (b := 5) rfl ?_
  obtain ⟨rfl, rfl⟩ := ic_s2 h
  exact ev_ireturn (a := 0) (b := 6) rfl rfl rfl
set_option maxRecDepth 20000 in
theorem eJ0_isLatin1_aae02 {s : Nat} {g g' : ic_S} {v : Int32} (h : fJ0_isLatin1_aae02 s g = some (v, g')) : ic_Ev mJ0_isLatin1_aae02 0 (ic_ag 0 [ic_R 24 s 0]) [] g (some (ic_I v)) g' := by
  unfold fJ0_isLatin1_aae02 at h
  obtain ⟨hs, h⟩ := ic_gdE h
  have hs : s < 16 := Nat.le_of_ble_eq_true hs
  change ic_Ev mJ0_isLatin1_aae02 0 [(0, ic_R 24 s 0)] [] g _ _
  refine ev_compact (a := 0) (b := 0) rfl lfJ0_38 ?_
  refine ev_ifeq (a := 0) (b := 1) 17 rfl rfl (fun c => absurd c (by decide)) (fun _ => ?_)
  refine ev_aload_n (a := 0) (b := 2) rfl rfl ?_
  refine ev_scod (a := 0) (b := 3) hs rfl lfJ0_15 ?_
  refine ev_ifne (a := 0) (b := 4) 17 rfl rfl (fun c => absurd (by decide) c) (fun _ => ?_)
  refine ev_iconst (a := 0) (b := 5) 1 rfl (by decide) ?_
  refine ev_goto (a := 0) (b := 6) 18 rfl rfl ?_
  obtain ⟨rfl, rfl⟩ := ic_s2 h
  exact ev_ireturn (a := 0) (b := 8) rfl rfl rfl
set_option maxRecDepth 20000 in
theorem eJ3_checkIndex_8e157 {x0 : Int32} {x1 : Int32} {g g' : ic_S} {v : Int32} (h : fJ3_checkIndex_8e157 x0 x1 g = some (v, g')) : ic_Ev mJ3_checkIndex_8e157 0 (ic_ag 0 [ic_I x0, ic_I x1, ic_R 26 0 0]) [] g (some (ic_I v)) g' := by
  unfold fJ3_checkIndex_8e157 at h
  change ic_Ev mJ3_checkIndex_8e157 0 [(0, ic_I x0), (1, ic_I x1), (2, ic_R 26 0 0)] [] g _ _
  refine ev_iload_n (a := 0) (b := 0) rfl rfl ?_
  refine ev_iflt (a := 0) (b := 1) 9 rfl rfl (fun c1 => ?_) (fun c1 => ?_)
  · have h := (if_pos c1).symm.trans h
    refine ev_aload_n (a := 0) (b := 5) rfl rfl ?_
    refine ev_iload_n (a := 0) (b := 6) rfl rfl ?_
    refine ev_iload_n (a := 0) (b := 7) rfl rfl ?_
    cases h
  · have h := (if_neg c1).symm.trans h
    refine ev_iload_n (a := 0) (b := 2) rfl rfl ?_
    refine ev_iload_n (a := 0) (b := 3) rfl rfl ?_
    refine ev_iclt (a := 0) (b := 4) 16 rfl rfl (fun c2 => ?_) (fun c2 => ?_)
    · have h := (if_pos c2).symm.trans h
      refine ev_iload_n (a := 0) (b := 10) rfl rfl ?_
      obtain ⟨rfl, rfl⟩ := ic_s2 h
      exact ev_ireturn (a := 0) (b := 11) rfl rfl rfl
    · have h := (if_neg c2).symm.trans h
      refine ev_aload_n (a := 0) (b := 5) rfl rfl ?_
      refine ev_iload_n (a := 0) (b := 6) rfl rfl ?_
      refine ev_iload_n (a := 0) (b := 7) rfl rfl ?_
      cases h
set_option maxRecDepth 20000 in
theorem eJ0_checkIndex_df160 {x0 : Int32} {x1 : Int32} {g g' : ic_S} (h : fJ0_checkIndex_df160 x0 x1 g = some g') : ic_Ev mJ0_checkIndex_df160 0 (ic_ag 0 [ic_I x0, ic_I x1]) [] g (none) g' := by
  unfold fJ0_checkIndex_df160 at h
  change ic_Ev mJ0_checkIndex_df160 0 [(0, ic_I x0), (1, ic_I x1)] [] g _ _
  refine ev_iload_n (a := 0) (b := 0) rfl rfl ?_
  refine ev_iload_n (a := 0) (b := 1) rfl rfl ?_
  refine ev_fmt (a := 0) (b := 2) rfl lfJ0_1053 ?_
  obtain ⟨v3, g1, e2, h⟩ := ic_b2E h
  refine ev_isI (a := 0) (b := 3) [ic_I x0, ic_I x1, ic_R 26 0 0] rfl okJ3_checkIndex_8e157 rfl lmJ0_1059 rfl (Nat.le_of_ble_eq_true rfl) (eJ3_checkIndex_8e157 e2) (Nat.le_of_ble_eq_true rfl) rfl ?_
  refine ev_pop (a := 0) (b := 4) rfl rfl ?_
  obtain rfl := ic_s1 h
  exact ev_return (a := 0) (b := 5) rfl rfl
set_option maxRecDepth 20000 in
theorem eJ1_charAt_3b067 {a0 : Nat} {x1 : Int32} {g g' : ic_S} {v : Int32} (h : fJ1_charAt_3b067 a0 x1 g = some (v, g')) : ic_Ev mJ1_charAt_3b067 0 (ic_ag 0 [ic_R 25 a0 0, ic_I x1]) [] g (some (ic_I v)) g' := by
  unfold fJ1_charAt_3b067 at h
  obtain ⟨ha0, h⟩ := ic_gdE h
  have ha0 : a0 < 16 := Nat.le_of_ble_eq_true ha0
  change ic_Ev mJ1_charAt_3b067 0 [(0, ic_R 25 a0 0), (1, ic_I x1)] [] g _ _
  refine ev_iload_n (a := 0) (b := 0) rfl rfl ?_
  refine ev_aload_n (a := 0) (b := 1) rfl rfl ?_
  refine ev_slen (a := 0) (b := 2) _ ha0 rfl rfl ?_
  obtain ⟨g1, e2, h⟩ := ic_b1E h
  refine ev_isV (a := 0) (b := 3) [ic_I x1, ic_I (Int32.ofNat (ic_slen.getD a0 0))] rfl okJ0_checkIndex_df160 rfl lmJ1_9 rfl (Nat.le_of_ble_eq_true rfl) (eJ0_checkIndex_df160 e2) (Nat.le_of_ble_eq_true rfl) rfl ?_
  refine ev_aload_n (a := 0) (b := 4) rfl rfl ?_
  refine ev_iload_n (a := 0) (b := 5) rfl rfl ?_
  obtain ⟨h3, h⟩ := ic_gdE h
  refine ev_sbald (a := 0) (b := 6) ha0 h3 rfl ?_
  refine ev_sipush (a := 0) (b := 7) 255 rfl (by decide) ?_
  refine ev_iand (a := 0) (b := 8) rfl ?_
  refine ev_i2c (a := 0) (b := 9) rfl ?_
  obtain ⟨rfl, rfl⟩ := ic_s2 h
  exact ev_ireturn (a := 0) (b := 10) rfl rfl (pk_nc _)
set_option maxRecDepth 20000 in
theorem eJ0_charAt_5068e {s : Nat} {x1 : Int32} {g g' : ic_S} {v : Int32} (h : fJ0_charAt_5068e s x1 g = some (v, g')) : ic_Ev mJ0_charAt_5068e 0 (ic_ag 0 [ic_R 24 s 0, ic_I x1]) [] g (some (ic_I v)) g' := by
  unfold fJ0_charAt_5068e at h
  obtain ⟨hs, h⟩ := ic_gdE h
  have hs : s < 16 := Nat.le_of_ble_eq_true hs
  change ic_Ev mJ0_charAt_5068e 0 [(0, ic_R 24 s 0), (1, ic_I x1)] [] g _ _
  refine ev_aload_n (a := 0) (b := 0) rfl rfl ?_
  obtain ⟨v3, g1, e2, h⟩ := ic_b2E h
  refine ev_ivI (a := 0) (b := 1) [] rfl okJ0_isLatin1_aae02 rfl lmJ0_492 rfl (rc24 hs) (Nat.le_of_ble_eq_true rfl) (eJ0_isLatin1_aae02 e2) (Nat.le_of_ble_eq_true rfl) rfl ?_
  refine ev_ifeq (a := 0) (b := 2) 16 rfl rfl (fun c4 => ?_) (fun c4 => ?_)
  · have h := (if_pos c4).symm.trans h
    refine ev_aload_n (a := 0) (b := 8) rfl rfl ?_
    refine ev_sval (a := 0) (b := 9) hs rfl lfJ0_9 ?_
    refine ev_iload_n (a := 0) (b := 10) rfl rfl ?_
    cases h
  · have h := (if_neg c4).symm.trans h
    refine ev_aload_n (a := 0) (b := 3) rfl rfl ?_
    refine ev_sval (a := 0) (b := 4) hs rfl lfJ0_9 ?_
    refine ev_iload_n (a := 0) (b := 5) rfl rfl ?_
    obtain ⟨v7, g5, e6, h⟩ := ic_b2E h
    refine ev_isI (a := 0) (b := 6) [ic_R 25 s 0, ic_I x1] rfl okJ1_charAt_3b067 rfl lmJ0_495 rfl (Nat.le_of_ble_eq_true rfl) (eJ1_charAt_3b067 e6) (Nat.le_of_ble_eq_true rfl) rfl ?_
    obtain ⟨h8, h⟩ := ic_gdE h
    obtain ⟨rfl, rfl⟩ := ic_s2 h
    exact ev_ireturn (a := 0) (b := 7) rfl rfl (ic_ncn h8)
set_option maxRecDepth 20000 in
theorem tX3_spells_19 {s1 : Nat} (hs1 : s1 < 16) {x1 : Int32} : ∀ (n : Nat) (x4 : Int32) (g : ic_S) (q : (Int32 × ic_S) ⊕ (Unit × ic_S)), lX3_spells_19 s1 x1 n x4 g = some q → ∀ (r : Option ic_V) (g' : ic_S), ic_lq q r g' (fun y z => ic_Ev mX3_spells 53 [] [] z r g') → ic_Ev mX3_spells 19 [(0, ic_R 5 0 0), (1, ic_I x1), (3, ic_R 24 s1 0), (4, ic_I x4)] [] g r g' := by
  intro n
  induction n with
  | zero => intro x4 g q h; cases h
  | succ n ih =>
    intro x4 g q h r g' hq
    rw [lX3_spells_19] at h
    refine ev_iload (a := 0) (b := 12) rfl rfl ?_
    refine ev_aload_n (a := 0) (b := 13) rfl rfl ?_
    obtain ⟨v1003, g1001, e1002, h⟩ := ic_b2E h
    refine ev_ivI (a := 0) (b := 14) [] rfl okJ0_length_8abf5 rfl lmX3_23 rfl (rc24 hs1) (Nat.le_of_ble_eq_true rfl) (eJ0_length_8abf5 e1002) (Nat.le_of_ble_eq_true rfl) rfl ?_
    refine ev_icge (a := 0) (b := 15) 53 rfl rfl (fun c1004 => ?_) (fun c1004 => ?_)
    · have h := (if_pos c1004).symm.trans h
      obtain rfl := ic_s1 h
      exact ev_fw (lv' := []) hq trivial
    · have h := (if_neg c1004).symm.trans h
      refine ev_aload_n (a := 0) (b := 16) rfl rfl ?_
      refine ev_iload_n (a := 0) (b := 17) rfl rfl ?_
      refine ev_iload (a := 0) (b := 18) rfl rfl ?_
      refine ev_iadd (a := 0) (b := 19) rfl ?_
      obtain ⟨v1007, g1005, e1006, h⟩ := ic_b2E h
      refine ev_ivI (a := 0) (b := 20) [ic_I (x1 + x4)] rfl okX3_byteAt rfl lmX3_19 rfl (rc5) (Nat.le_of_ble_eq_true rfl) (eX3_byteAt e1006) (Nat.le_of_ble_eq_true rfl) rfl ?_
      refine ev_aload_n (a := 0) (b := 21) rfl rfl ?_
      refine ev_iload (a := 0) (b := 22) rfl rfl ?_
      obtain ⟨v1010, g1008, e1009, h⟩ := ic_b2E h
      refine ev_ivI (a := 0) (b := 23) [ic_I x4] rfl okJ0_charAt_5068e rfl lmX3_29 rfl (rc24 hs1) (Nat.le_of_ble_eq_true rfl) (eJ0_charAt_5068e e1009) (Nat.le_of_ble_eq_true rfl) rfl ?_
      refine ev_iceq (a := 0) (b := 24) 47 rfl rfl (fun c1011 => ?_) (fun c1011 => ?_)
      · have h := (if_pos c1011).symm.trans h
        refine ev_iinc (a := 0) (b := 27) (x4 + 1) [(0, ic_R 5 0 0), (1, ic_I x1), (3, ic_R 24 s1 0), (4, ic_I (x4 + 1))] rfl rfl (by first | rfl | decide) (by decide) (And.intro (Or.inr (And.intro rfl rfl)) (And.intro (Or.inr (And.intro rfl rfl)) (And.intro (Or.inr (And.intro rfl rfl)) (And.intro (Or.inl rfl) trivial)))) ?_
        refine ev_goto (a := 0) (b := 28) 19 rfl rfl ?_
        refine ev_fw (lv' := [(0, ic_R 5 0 0), (1, ic_I x1), (3, ic_R 24 s1 0), (4, ic_I (x4 + 1))]) ?_ (And.intro rfl (And.intro rfl (And.intro rfl (And.intro rfl trivial))))
        exact ih (x4 + 1) g1008 _ h _ _ hq
      · have h := (if_neg c1011).symm.trans h
        refine ev_iconst (a := 0) (b := 25) 0 rfl (by decide) ?_
        obtain rfl := ic_s1 h
        obtain ⟨rfl, rfl⟩ := hq
        exact ev_ireturn (a := 0) (b := 26) rfl rfl rfl
set_option maxRecDepth 20000 in
theorem eX3_spells {x1 : Int32} {x2 : Int32} {o3 : Option (Nat × Nat)} {g g' : ic_S} {v : Int32} (h : fX3_spells x1 x2 o3 g = some (v, g')) : ic_Ev mX3_spells 0 (ic_ag 0 [ic_R 5 0 0, ic_I x1, ic_I x2, ic_O 24 o3]) [] g (some (ic_I v)) g' := by
  unfold fX3_spells at h
  change ic_Ev mX3_spells 0 [(0, ic_R 5 0 0), (1, ic_I x1), (2, ic_I x2), (3, ic_O 24 o3)] [] g _ _
  refine ev_aload_n (a := 0) (b := 0) rfl rfl ?_
  rcases o3 with _ | ⟨s1, t2⟩
  · replace h := ic_moN h
    refine ev_ifnull1 (a := 0) (b := 1) 14 rfl rfl ?_
    refine ev_iconst (a := 0) (b := 8) 0 rfl (by decide) ?_
    obtain ⟨rfl, rfl⟩ := ic_s2 h
    exact ev_ireturn (a := 0) (b := 9) rfl rfl rfl
  · replace h := ic_moS h
    have k3 := (ic_gdE h).1
    replace h := (ic_gdE h).2
    rw [Bool.and_eq_true] at k3
    obtain ⟨k3, ht0⟩ := k3
    have ht0 := Nat.le_of_ble_eq_true ht0
    have hzk3 := h
    obtain rfl : t2 = 0 := by omega
    have h := hzk3
    refine ev_ifnull0 (a := 0) (b := 1) (show (24 : Nat) ≠ 26 by decide) rfl ?_
    refine ev_iload_n (a := 0) (b := 2) rfl rfl ?_
    refine ev_iload_n (a := 0) (b := 3) rfl rfl ?_
    refine ev_isub (a := 0) (b := 4) rfl ?_
    refine ev_aload_n (a := 0) (b := 5) rfl rfl ?_
    obtain ⟨v6, g4, e5, h⟩ := ic_b2E h
    refine ev_ivI (a := 0) (b := 6) [] rfl okJ0_length_8abf5 rfl lmX3_23 rfl (rc24 (Nat.le_of_ble_eq_true k3)) (Nat.le_of_ble_eq_true rfl) (eJ0_length_8abf5 e5) (Nat.le_of_ble_eq_true rfl) rfl ?_
    refine ev_iceq (a := 0) (b := 7) 16 rfl rfl (fun c7 => ?_) (fun c7 => ?_)
    · have h := (if_pos c7).symm.trans h
      refine ev_iconst (a := 0) (b := 10) 0 rfl (by decide) ?_
      refine ev_istore (a := 0) (b := 11) [(0, ic_R 5 0 0), (1, ic_I x1), (3, ic_R 24 s1 0), (4, ic_I 0)] rfl (by decide) (And.intro (Or.inr (And.intro rfl rfl)) (And.intro (Or.inr (And.intro rfl rfl)) (And.intro (Or.inr (And.intro rfl rfl)) (And.intro (Or.inl rfl) trivial)))) ?_
      refine ev_fw (lv' := [(0, ic_R 5 0 0), (1, ic_I x1), (3, ic_R 24 s1 0), (4, ic_I 0)]) ?_ (And.intro rfl (And.intro rfl (And.intro rfl (And.intro rfl trivial))))
      rcases ic_bsE h with e10 | ⟨y8, g9, e10, h⟩
      · exact tX3_spells_19 (x1 := x1) (Nat.le_of_ble_eq_true k3) 1000 0 g4 _ e10 _ _ ⟨rfl, rfl⟩
      · refine tX3_spells_19 (x1 := x1) (Nat.le_of_ble_eq_true k3) 1000 0 g4 _ e10 _ _ ?_
        change ic_Ev mX3_spells 53 [] [] g9 _ _
        refine ev_iconst (a := 0) (b := 29) 1 rfl (by decide) ?_
        obtain ⟨rfl, rfl⟩ := ic_s2 h
        exact ev_ireturn (a := 0) (b := 30) rfl rfl rfl
    · have h := (if_neg c7).symm.trans h
      refine ev_iconst (a := 0) (b := 8) 0 rfl (by decide) ?_
      obtain ⟨rfl, rfl⟩ := ic_s2 h
      exact ev_ireturn (a := 0) (b := 9) rfl rfl rfl
set_option maxRecDepth 20000 in
theorem eX5_nameOf {x0 : Int32} {g g' : ic_S} {v : Option (Nat × Nat)} (h : fX5_nameOf x0 g = some (v, g')) : ic_Ev mX5_nameOf 0 (ic_ag 0 [ic_I x0]) [] g (some (ic_O 24 v)) g' := by
  unfold fX5_nameOf at h
  change ic_Ev mX5_nameOf 0 [(0, ic_I x0)] [] g _ _
  refine ev_iload_n (a := 0) (b := 0) rfl rfl ?_
  rcases Decidable.em (x0 = 0) with c1 | c1
  · have h := (if_pos c1).symm.trans h
    refine ev_tsw1 (a := 0) (b := 1) 0 (75) 76 rfl c1 (by decide) (by decide) rfl rfl ?_
    refine ev_ldcs (a := 0) (b := 2) 0 rfl rfl rfl ?_
    obtain ⟨rfl, rfl⟩ := ic_s2 h
    exact ev_areturn (a := 0) (b := 3) rfl rfl
  · have h := (if_neg c1).symm.trans h
    rcases Decidable.em (x0 = 1) with c2 | c2
    · have h := (if_pos c2).symm.trans h
      refine ev_tsw1 (a := 0) (b := 1) 1 (78) 79 rfl c2 (by decide) (by decide) rfl rfl ?_
      refine ev_ldcs (a := 0) (b := 4) 1 rfl rfl rfl ?_
      obtain ⟨rfl, rfl⟩ := ic_s2 h
      exact ev_areturn (a := 0) (b := 5) rfl rfl
    · have h := (if_neg c2).symm.trans h
      rcases Decidable.em (x0 = 2) with c3 | c3
      · have h := (if_pos c3).symm.trans h
        refine ev_tsw1 (a := 0) (b := 1) 2 (81) 82 rfl c3 (by decide) (by decide) rfl rfl ?_
        refine ev_ldcs (a := 0) (b := 6) 2 rfl rfl rfl ?_
        obtain ⟨rfl, rfl⟩ := ic_s2 h
        exact ev_areturn (a := 0) (b := 7) rfl rfl
      · have h := (if_neg c3).symm.trans h
        rcases Decidable.em (x0 = 3) with c4 | c4
        · have h := (if_pos c4).symm.trans h
          refine ev_tsw1 (a := 0) (b := 1) 3 (84) 85 rfl c4 (by decide) (by decide) rfl rfl ?_
          refine ev_ldcs (a := 0) (b := 8) 3 rfl rfl rfl ?_
          obtain ⟨rfl, rfl⟩ := ic_s2 h
          exact ev_areturn (a := 0) (b := 9) rfl rfl
        · have h := (if_neg c4).symm.trans h
          rcases Decidable.em (x0 = 4) with c5 | c5
          · have h := (if_pos c5).symm.trans h
            refine ev_tsw1 (a := 0) (b := 1) 4 (87) 88 rfl c5 (by decide) (by decide) rfl rfl ?_
            refine ev_ldcs (a := 0) (b := 10) 4 rfl rfl rfl ?_
            obtain ⟨rfl, rfl⟩ := ic_s2 h
            exact ev_areturn (a := 0) (b := 11) rfl rfl
          · have h := (if_neg c5).symm.trans h
            rcases Decidable.em (x0 = 5) with c6 | c6
            · have h := (if_pos c6).symm.trans h
              refine ev_tsw1 (a := 0) (b := 1) 5 (90) 91 rfl c6 (by decide) (by decide) rfl rfl ?_
              refine ev_ldcs (a := 0) (b := 12) 5 rfl rfl rfl ?_
              obtain ⟨rfl, rfl⟩ := ic_s2 h
              exact ev_areturn (a := 0) (b := 13) rfl rfl
            · have h := (if_neg c6).symm.trans h
              rcases Decidable.em (x0 = 6) with c7 | c7
              · have h := (if_pos c7).symm.trans h
                refine ev_tsw1 (a := 0) (b := 1) 6 (93) 94 rfl c7 (by decide) (by decide) rfl rfl ?_
                refine ev_ldcs (a := 0) (b := 14) 6 rfl rfl rfl ?_
                obtain ⟨rfl, rfl⟩ := ic_s2 h
                exact ev_areturn (a := 0) (b := 15) rfl rfl
              · have h := (if_neg c7).symm.trans h
                rcases Decidable.em (x0 = 7) with c8 | c8
                · have h := (if_pos c8).symm.trans h
                  refine ev_tsw1 (a := 0) (b := 1) 7 (96) 97 rfl c8 (by decide) (by decide) rfl rfl ?_
                  refine ev_ldcs (a := 0) (b := 16) 7 rfl rfl rfl ?_
                  obtain ⟨rfl, rfl⟩ := ic_s2 h
                  exact ev_areturn (a := 0) (b := 17) rfl rfl
                · have h := (if_neg c8).symm.trans h
                  rcases Decidable.em (x0 = 8) with c9 | c9
                  · have h := (if_pos c9).symm.trans h
                    refine ev_tsw1 (a := 0) (b := 1) 8 (99) 100 rfl c9 (by decide) (by decide) rfl rfl ?_
                    refine ev_ldcs (a := 0) (b := 18) 8 rfl rfl rfl ?_
                    obtain ⟨rfl, rfl⟩ := ic_s2 h
                    exact ev_areturn (a := 0) (b := 19) rfl rfl
                  · have h := (if_neg c9).symm.trans h
                    rcases Decidable.em (x0 = 9) with c10 | c10
                    · have h := (if_pos c10).symm.trans h
                      refine ev_tsw1 (a := 0) (b := 1) 9 (102) 103 rfl c10 (by decide) (by decide) rfl rfl ?_
                      refine ev_ldcs (a := 0) (b := 20) 9 rfl rfl rfl ?_
                      obtain ⟨rfl, rfl⟩ := ic_s2 h
                      exact ev_areturn (a := 0) (b := 21) rfl rfl
                    · have h := (if_neg c10).symm.trans h
                      rcases Decidable.em (x0 = 10) with c11 | c11
                      · have h := (if_pos c11).symm.trans h
                        refine ev_tsw1 (a := 0) (b := 1) 10 (105) 106 rfl c11 (by decide) (by decide) rfl rfl ?_
                        refine ev_ldcs (a := 0) (b := 22) 10 rfl rfl rfl ?_
                        obtain ⟨rfl, rfl⟩ := ic_s2 h
                        exact ev_areturn (a := 0) (b := 23) rfl rfl
                      · have h := (if_neg c11).symm.trans h
                        rcases Decidable.em (x0 = 11) with c12 | c12
                        · have h := (if_pos c12).symm.trans h
                          refine ev_tsw1 (a := 0) (b := 1) 11 (108) 109 rfl c12 (by decide) (by decide) rfl rfl ?_
                          refine ev_ldcs (a := 0) (b := 24) 11 rfl rfl rfl ?_
                          obtain ⟨rfl, rfl⟩ := ic_s2 h
                          exact ev_areturn (a := 0) (b := 25) rfl rfl
                        · have h := (if_neg c12).symm.trans h
                          rcases Decidable.em (x0 = 12) with c13 | c13
                          · have h := (if_pos c13).symm.trans h
                            refine ev_tsw1 (a := 0) (b := 1) 12 (111) 112 rfl c13 (by decide) (by decide) rfl rfl ?_
                            refine ev_ldcs (a := 0) (b := 26) 12 rfl rfl rfl ?_
                            obtain ⟨rfl, rfl⟩ := ic_s2 h
                            exact ev_areturn (a := 0) (b := 27) rfl rfl
                          · have h := (if_neg c13).symm.trans h
                            rcases Decidable.em (x0 = 13) with c14 | c14
                            · have h := (if_pos c14).symm.trans h
                              refine ev_tsw1 (a := 0) (b := 1) 13 (114) 115 rfl c14 (by decide) (by decide) rfl rfl ?_
                              refine ev_ldcs (a := 0) (b := 28) 13 rfl rfl rfl ?_
                              obtain ⟨rfl, rfl⟩ := ic_s2 h
                              exact ev_areturn (a := 0) (b := 29) rfl rfl
                            · have h := (if_neg c14).symm.trans h
                              rcases Decidable.em (x0 = 14) with c15 | c15
                              · have h := (if_pos c15).symm.trans h
                                refine ev_tsw1 (a := 0) (b := 1) 14 (117) 118 rfl c15 (by decide) (by decide) rfl rfl ?_
                                refine ev_ldcs (a := 0) (b := 30) 14 rfl rfl rfl ?_
                                obtain ⟨rfl, rfl⟩ := ic_s2 h
                                exact ev_areturn (a := 0) (b := 31) rfl rfl
                              · have h := (if_neg c15).symm.trans h
                                refine ev_tsw0 (a := 0) (b := 1) [0, 1, 2, 3, 4, 5, 6, 7, 8, 9, 10, 11, 12, 13, 14] 121 rfl (List.forall_mem_cons.mpr ⟨c1, List.forall_mem_cons.mpr ⟨c2, List.forall_mem_cons.mpr ⟨c3, List.forall_mem_cons.mpr ⟨c4, List.forall_mem_cons.mpr ⟨c5, List.forall_mem_cons.mpr ⟨c6, List.forall_mem_cons.mpr ⟨c7, List.forall_mem_cons.mpr ⟨c8, List.forall_mem_cons.mpr ⟨c9, List.forall_mem_cons.mpr ⟨c10, List.forall_mem_cons.mpr ⟨c11, List.forall_mem_cons.mpr ⟨c12, List.forall_mem_cons.mpr ⟨c13, List.forall_mem_cons.mpr ⟨c14, List.forall_mem_cons.mpr ⟨c15, fun _ hh => absurd hh List.not_mem_nil⟩⟩⟩⟩⟩⟩⟩⟩⟩⟩⟩⟩⟩⟩⟩) (by decide) (by decide) rfl ?_
                                refine ev_ldcs (a := 1) (b := 0) 15 rfl rfl rfl ?_
                                obtain ⟨rfl, rfl⟩ := ic_s2 h
                                exact ev_areturn (a := 1) (b := 1) rfl rfl
set_option maxRecDepth 20000 in
theorem tX5_wordSpelt_2 {x1 : Int32} {x2 : Int32} : ∀ (n : Nat) (x3 : Int32) (g : ic_S) (q : (Int32 × ic_S) ⊕ (Unit × ic_S)), lX5_wordSpelt_2 x1 x2 n x3 g = some q → ∀ (r : Option ic_V) (g' : ic_S), ic_lq q r g' (fun y z => ic_Ev mX5_wordSpelt 32 [] [] z r g') → ic_Ev mX5_wordSpelt 2 [(0, ic_R 7 0 0), (1, ic_I x1), (2, ic_I x2), (3, ic_I x3)] [] g r g' := by
  intro n
  induction n with
  | zero => intro x3 g q h; cases h
  | succ n ih =>
    intro x3 g q h r g' hq
    rw [lX5_wordSpelt_2] at h
    refine ev_iload_n (a := 0) (b := 2) rfl rfl ?_
    refine ev_bipush (a := 0) (b := 3) 15 rfl (by decide) ?_
    refine ev_icge (a := 0) (b := 4) 32 rfl rfl (fun c1001 => ?_) (fun c1001 => ?_)
    · have h := (if_pos c1001).symm.trans h
      obtain rfl := ic_s1 h
      exact ev_fw (lv' := []) hq trivial
    · have h := (if_neg c1001).symm.trans h
      refine ev_aload_n (a := 0) (b := 5) rfl rfl ?_
      refine ev_get (a := 0) (b := 6) 5 0 rfl rfl (Nat.le_of_ble_eq_true rfl) lfX5_9 (gX5_tape) ?_
      refine ev_iload_n (a := 0) (b := 7) rfl rfl ?_
      refine ev_iload_n (a := 0) (b := 8) rfl rfl ?_
      refine ev_iload_n (a := 0) (b := 9) rfl rfl ?_
      obtain ⟨v1004, g1002, e1003, h⟩ := ic_b2E h
      refine ev_isO (a := 0) (b := 10) [ic_I x3] rfl okX5_nameOf rfl lmX5_60 rfl (Nat.le_of_ble_eq_true rfl) (eX5_nameOf e1003) (Nat.le_of_ble_eq_true rfl) rfl ?_
      obtain ⟨v1007, g1005, e1006, h⟩ := ic_b2E h
      refine ev_ivI (a := 0) (b := 11) [ic_I x1, ic_I x2, ic_O 24 v1004] rfl okX3_spells rfl lmX5_64 rfl (rc5) (Nat.le_of_ble_eq_true rfl) (eX3_spells e1006) (Nat.le_of_ble_eq_true rfl) rfl ?_
      refine ev_ifeq (a := 0) (b := 12) 26 rfl rfl (fun c1008 => ?_) (fun c1008 => ?_)
      · have h := (if_pos c1008).symm.trans h
        refine ev_iinc (a := 0) (b := 15) (x3 + 1) [(0, ic_R 7 0 0), (1, ic_I x1), (2, ic_I x2), (3, ic_I (x3 + 1))] rfl rfl (by first | rfl | decide) (by decide) (And.intro (Or.inr (And.intro rfl rfl)) (And.intro (Or.inr (And.intro rfl rfl)) (And.intro (Or.inr (And.intro rfl rfl)) (And.intro (Or.inl rfl) trivial)))) ?_
        refine ev_goto (a := 0) (b := 16) 2 rfl rfl ?_
        refine ev_fw (lv' := [(0, ic_R 7 0 0), (1, ic_I x1), (2, ic_I x2), (3, ic_I (x3 + 1))]) ?_ (And.intro rfl (And.intro rfl (And.intro rfl (And.intro rfl trivial))))
        exact ih (x3 + 1) g1005 _ h _ _ hq
      · have h := (if_neg c1008).symm.trans h
        refine ev_iload_n (a := 0) (b := 13) rfl rfl ?_
        obtain rfl := ic_s1 h
        obtain ⟨rfl, rfl⟩ := hq
        exact ev_ireturn (a := 0) (b := 14) rfl rfl rfl
set_option maxRecDepth 20000 in
theorem eX5_wordSpelt {x1 : Int32} {x2 : Int32} {g g' : ic_S} {v : Int32} (h : fX5_wordSpelt x1 x2 g = some (v, g')) : ic_Ev mX5_wordSpelt 0 (ic_ag 0 [ic_R 7 0 0, ic_I x1, ic_I x2]) [] g (some (ic_I v)) g' := by
  unfold fX5_wordSpelt at h
  change ic_Ev mX5_wordSpelt 0 [(0, ic_R 7 0 0), (1, ic_I x1), (2, ic_I x2)] [] g _ _
  refine ev_iconst (a := 0) (b := 0) 0 rfl (by decide) ?_
  refine ev_istore_n (a := 0) (b := 1) [(0, ic_R 7 0 0), (1, ic_I x1), (2, ic_I x2), (3, ic_I 0)] rfl (by decide) (And.intro (Or.inr (And.intro rfl rfl)) (And.intro (Or.inr (And.intro rfl rfl)) (And.intro (Or.inr (And.intro rfl rfl)) (And.intro (Or.inl rfl) trivial)))) ?_
  refine ev_fw (lv' := [(0, ic_R 7 0 0), (1, ic_I x1), (2, ic_I x2), (3, ic_I 0)]) ?_ (And.intro rfl (And.intro rfl (And.intro rfl (And.intro rfl trivial))))
  rcases ic_bsE h with e3 | ⟨y1, g2, e3, h⟩
  · exact tX5_wordSpelt_2 (x1 := x1) (x2 := x2)  1000 0 g _ e3 _ _ ⟨rfl, rfl⟩
  · refine tX5_wordSpelt_2 (x1 := x1) (x2 := x2)  1000 0 g _ e3 _ _ ?_
    change ic_Ev mX5_wordSpelt 32 [] [] g2 _ _
    refine ev_iconst (a := 0) (b := 17) (-1) rfl (by decide) ?_
    obtain ⟨rfl, rfl⟩ := ic_s2 h
    exact ev_ireturn (a := 0) (b := 18) rfl rfl rfl
set_option maxRecDepth 20000 in
theorem eX5_append {x1 : Int32} {x2 : Int32} {x3 : Int32} {g g' : ic_S} (h : fX5_append x1 x2 x3 g = some g') : ic_Ev mX5_append 0 (ic_ag 0 [ic_R 7 0 0, ic_I x1, ic_I x2, ic_I x3]) [] g (none) g' := by
  unfold fX5_append at h
  change ic_Ev mX5_append 0 [(0, ic_R 7 0 0), (1, ic_I x1), (2, ic_I x2), (3, ic_I x3)] [] g _ _
  refine ev_aload_n (a := 0) (b := 0) rfl rfl ?_
  refine ev_get (a := 0) (b := 1) 5 1 rfl rfl (Nat.le_of_ble_eq_true rfl) lfX5_15 (gX5_size) ?_
  refine ev_iflt (a := 0) (b := 2) 83 rfl rfl (fun c1 => ?_) (fun c1 => ?_)
  · have h := (if_pos c1).symm.trans h
    obtain rfl := ic_s1 h
    exact ev_return (a := 1) (b := 13) rfl rfl
  · have h := (if_neg c1).symm.trans h
    refine ev_aload_n (a := 0) (b := 3) rfl rfl ?_
    refine ev_get (a := 0) (b := 4) 5 1 rfl rfl (Nat.le_of_ble_eq_true rfl) lfX5_15 (gX5_size) ?_
    refine ev_aload_n (a := 0) (b := 5) rfl rfl ?_
    refine ev_get (a := 0) (b := 6) 5 2 rfl rfl (Nat.le_of_ble_eq_true rfl) lfX5_19 (gX5_sorts) ?_
    refine ev_alen (a := 0) (b := 7) 121 rfl (a8) (by decide) ?_
    refine ev_icge (a := 0) (b := 8) 83 rfl rfl (fun c2 => ?_) (fun c2 => ?_)
    · have h := (if_pos c2).symm.trans h
      obtain rfl := ic_s1 h
      exact ev_return (a := 1) (b := 13) rfl rfl
    · have h := (if_neg c2).symm.trans h
      refine ev_aload_n (a := 0) (b := 9) rfl rfl ?_
      refine ev_get (a := 0) (b := 10) 5 1 rfl rfl (Nat.le_of_ble_eq_true rfl) lfX5_15 (gX5_size) ?_
      refine ev_aload_n (a := 0) (b := 11) rfl rfl ?_
      refine ev_get (a := 0) (b := 12) 5 3 rfl rfl (Nat.le_of_ble_eq_true rfl) lfX5_23 (gX5_places) ?_
      refine ev_alen (a := 0) (b := 13) 121 rfl (a9) (by decide) ?_
      refine ev_icge (a := 0) (b := 14) 83 rfl rfl (fun c3 => ?_) (fun c3 => ?_)
      · have h := (if_pos c3).symm.trans h
        obtain rfl := ic_s1 h
        exact ev_return (a := 1) (b := 13) rfl rfl
      · have h := (if_neg c3).symm.trans h
        refine ev_aload_n (a := 0) (b := 15) rfl rfl ?_
        refine ev_get (a := 0) (b := 16) 5 1 rfl rfl (Nat.le_of_ble_eq_true rfl) lfX5_15 (gX5_size) ?_
        refine ev_aload_n (a := 0) (b := 17) rfl rfl ?_
        refine ev_get (a := 0) (b := 18) 5 4 rfl rfl (Nat.le_of_ble_eq_true rfl) lfX5_26 (gX5_values) ?_
        refine ev_alen (a := 0) (b := 19) 121 rfl (a10) (by decide) ?_
        refine ev_icge (a := 0) (b := 20) 83 rfl rfl (fun c4 => ?_) (fun c4 => ?_)
        · have h := (if_pos c4).symm.trans h
          obtain rfl := ic_s1 h
          exact ev_return (a := 1) (b := 13) rfl rfl
        · have h := (if_neg c4).symm.trans h
          refine ev_aload_n (a := 0) (b := 21) rfl rfl ?_
          refine ev_get (a := 0) (b := 22) 5 2 rfl rfl (Nat.le_of_ble_eq_true rfl) lfX5_19 (gX5_sorts) ?_
          refine ev_aload_n (a := 0) (b := 23) rfl rfl ?_
          refine ev_get (a := 0) (b := 24) 5 1 rfl rfl (Nat.le_of_ble_eq_true rfl) lfX5_15 (gX5_size) ?_
          refine ev_iload_n (a := 0) (b := 25) rfl rfl ?_
          obtain ⟨h5, h⟩ := ic_gdE h
          obtain ⟨g6, eg6, h⟩ := ic_letE h
          refine ev_iast (a := 0) (b := 26) rfl h5 (w8 eg6) ?_
          refine ev_aload_n (a := 0) (b := 27) rfl rfl ?_
          refine ev_get (a := 0) (b := 28) 5 3 rfl rfl (Nat.le_of_ble_eq_true rfl) lfX5_23 (gX5_places) ?_
          refine ev_aload_n (a := 0) (b := 29) rfl rfl ?_
          refine ev_get (a := 0) (b := 30) 5 1 rfl rfl (Nat.le_of_ble_eq_true rfl) lfX5_15 (gX5_size) ?_
          refine ev_iload_n (a := 0) (b := 31) rfl rfl ?_
          obtain ⟨h7, h⟩ := ic_gdE h
          obtain ⟨g8, eg8, h⟩ := ic_letE h
          refine ev_iast (a := 1) (b := 0) rfl h7 (w9 eg8) ?_
          refine ev_aload_n (a := 1) (b := 1) rfl rfl ?_
          refine ev_get (a := 1) (b := 2) 5 4 rfl rfl (Nat.le_of_ble_eq_true rfl) lfX5_26 (gX5_values) ?_
          refine ev_aload_n (a := 1) (b := 3) rfl rfl ?_
          refine ev_get (a := 1) (b := 4) 5 1 rfl rfl (Nat.le_of_ble_eq_true rfl) lfX5_15 (gX5_size) ?_
          refine ev_iload_n (a := 1) (b := 5) rfl rfl ?_
          obtain ⟨h9, h⟩ := ic_gdE h
          obtain ⟨g10, eg10, h⟩ := ic_letE h
          refine ev_iast (a := 1) (b := 6) rfl h9 (w10 eg10) ?_
          refine ev_aload_n (a := 1) (b := 7) rfl rfl ?_
          refine ev_dup (a := 1) (b := 8) rfl rfl ?_
          refine ev_get (a := 1) (b := 9) 5 1 rfl rfl (Nat.le_of_ble_eq_true rfl) lfX5_15 (gX5_size) ?_
          refine ev_iconst (a := 1) (b := 10) 1 rfl (by decide) ?_
          refine ev_iadd (a := 1) (b := 11) rfl ?_
          obtain ⟨g11, eg11, h⟩ := ic_letE h
          refine ev_put (a := 1) (b := 12) 5 1 rfl rfl (Nat.le_of_ble_eq_true rfl) lfX5_15 rfl (pX5_size eg11) ?_
          obtain rfl := ic_s1 h
          exact ev_return (a := 1) (b := 13) rfl rfl
set_option maxRecDepth 20000 in
theorem tX5_cutWord_4 {x1 : Int32} : ∀ (n : Nat) (x2 : Int32) (g : ic_S) (q : (Int32) × ic_S), lX5_cutWord_4 x1 n x2 g = some q → ∀ (r : Option ic_V) (g' : ic_S), ic_Ev mX5_cutWord 32 [(0, ic_R 7 0 0), (1, ic_I x1), (2, ic_I q.1)] [] q.2 r g' → ic_Ev mX5_cutWord 4 [(0, ic_R 7 0 0), (1, ic_I x1), (2, ic_I x2)] [] g r g' := by
  intro n
  induction n with
  | zero => intro x2 g q h; cases h
  | succ n ih =>
    intro x2 g q h r g' hq
    rw [lX5_cutWord_4] at h
    refine ev_iload_n (a := 0) (b := 4) rfl rfl ?_
    refine ev_aload_n (a := 0) (b := 5) rfl rfl ?_
    refine ev_get (a := 0) (b := 6) 5 0 rfl rfl (Nat.le_of_ble_eq_true rfl) lfX5_9 (gX5_tape) ?_
    refine ev_get (a := 0) (b := 7) 3 0 rfl rfl (Nat.le_of_ble_eq_true rfl) lfX5_29 (gX3_size) ?_
    refine ev_icge (a := 0) (b := 8) 32 rfl rfl (fun c1001 => ?_) (fun c1001 => ?_)
    · have h := (if_pos c1001).symm.trans h
      obtain rfl := ic_s1 h
      exact ev_fw (lv' := [(0, ic_R 7 0 0), (1, ic_I x1), (2, ic_I x2)]) hq (And.intro rfl (And.intro rfl (And.intro rfl trivial)))
    · have h := (if_neg c1001).symm.trans h
      refine ev_aload_n (a := 0) (b := 9) rfl rfl ?_
      refine ev_get (a := 0) (b := 10) 5 0 rfl rfl (Nat.le_of_ble_eq_true rfl) lfX5_9 (gX5_tape) ?_
      refine ev_iload_n (a := 0) (b := 11) rfl rfl ?_
      obtain ⟨v1004, g1002, e1003, h⟩ := ic_b2E h
      refine ev_ivI (a := 0) (b := 12) [ic_I x2] rfl okX3_hasLetter rfl lmX5_43 rfl (rc5) (Nat.le_of_ble_eq_true rfl) (eX3_hasLetter e1003) (Nat.le_of_ble_eq_true rfl) rfl ?_
      refine ev_ifeq (a := 0) (b := 13) 32 rfl rfl (fun c1005 => ?_) (fun c1005 => ?_)
      · have h := (if_pos c1005).symm.trans h
        obtain rfl := ic_s1 h
        exact ev_fw (lv' := [(0, ic_R 7 0 0), (1, ic_I x1), (2, ic_I x2)]) hq (And.intro rfl (And.intro rfl (And.intro rfl trivial)))
      · have h := (if_neg c1005).symm.trans h
        refine ev_iinc (a := 0) (b := 14) (x2 + 1) [(0, ic_R 7 0 0), (1, ic_I x1), (2, ic_I (x2 + 1))] rfl rfl (by first | rfl | decide) (by decide) (And.intro (Or.inr (And.intro rfl rfl)) (And.intro (Or.inr (And.intro rfl rfl)) (And.intro (Or.inl rfl) trivial))) ?_
        refine ev_goto (a := 0) (b := 15) 4 rfl rfl ?_
        refine ev_fw (lv' := [(0, ic_R 7 0 0), (1, ic_I x1), (2, ic_I (x2 + 1))]) ?_ (And.intro rfl (And.intro rfl (And.intro rfl trivial)))
        exact ih (x2 + 1) g1002 _ h _ _ hq
set_option maxRecDepth 20000 in
theorem eX5_cutWord {x1 : Int32} {g g' : ic_S} {v : Int32} (h : fX5_cutWord x1 g = some (v, g')) : ic_Ev mX5_cutWord 0 (ic_ag 0 [ic_R 7 0 0, ic_I x1]) [] g (some (ic_I v)) g' := by
  unfold fX5_cutWord at h
  change ic_Ev mX5_cutWord 0 [(0, ic_R 7 0 0), (1, ic_I x1)] [] g _ _
  refine ev_iload_n (a := 0) (b := 0) rfl rfl ?_
  refine ev_iconst (a := 0) (b := 1) 1 rfl (by decide) ?_
  refine ev_iadd (a := 0) (b := 2) rfl ?_
  refine ev_istore_n (a := 0) (b := 3) [(0, ic_R 7 0 0), (1, ic_I x1), (2, ic_I (x1 + 1))] rfl (by decide) (And.intro (Or.inr (And.intro rfl rfl)) (And.intro (Or.inr (And.intro rfl rfl)) (And.intro (Or.inl rfl) trivial))) ?_
  refine ev_fw (lv' := [(0, ic_R 7 0 0), (1, ic_I x1), (2, ic_I (x1 + 1))]) ?_ (And.intro rfl (And.intro rfl (And.intro rfl trivial)))
  obtain ⟨y1, g2, e3, h⟩ := ic_b2E h
  refine tX5_cutWord_4 (x1 := x1)  1000 (x1 + 1) g _ e3 _ _ ?_
  change ic_Ev mX5_cutWord 32 [(0, ic_R 7 0 0), (1, ic_I x1), (2, ic_I y1)] [] g2 _ _
  refine ev_aload_n (a := 0) (b := 16) rfl rfl ?_
  refine ev_iconst (a := 0) (b := 17) 1 rfl (by decide) ?_
  refine ev_iload_n (a := 0) (b := 18) rfl rfl ?_
  refine ev_aload_n (a := 0) (b := 19) rfl rfl ?_
  refine ev_iload_n (a := 0) (b := 20) rfl rfl ?_
  refine ev_iload_n (a := 0) (b := 21) rfl rfl ?_
  obtain ⟨v6, g4, e5, h⟩ := ic_b2E h
  refine ev_ivI (a := 0) (b := 22) [ic_I x1, ic_I y1] rfl okX5_wordSpelt rfl lmX5_56 rfl (rc7) (Nat.le_of_ble_eq_true rfl) (eX5_wordSpelt e5) (Nat.le_of_ble_eq_true rfl) rfl ?_
  obtain ⟨g7, e8, h⟩ := ic_b1E h
  refine ev_ivV (a := 0) (b := 23) [ic_I 1, ic_I x1, ic_I v6] rfl okX5_append rfl lmX5_39 rfl (rc7) (Nat.le_of_ble_eq_true rfl) (eX5_append e8) (Nat.le_of_ble_eq_true rfl) rfl ?_
  refine ev_iload_n (a := 0) (b := 24) rfl rfl ?_
  obtain ⟨rfl, rfl⟩ := ic_s2 h
  exact ev_ireturn (a := 0) (b := 25) rfl rfl rfl
set_option maxRecDepth 20000 in
theorem tX5_cutNumber_4 {x1 : Int32} : ∀ (n : Nat) (x2 : Int32) (x3 : Int32) (g : ic_S) (q : (Int32 × Int32) × ic_S), lX5_cutNumber_4 x1 n x2 x3 g = some q → ∀ (r : Option ic_V) (g' : ic_S), ic_Ev mX5_cutNumber 55 [(0, ic_R 7 0 0), (1, ic_I x1), (2, ic_I q.1.1), (3, ic_I q.1.2)] [] q.2 r g' → ic_Ev mX5_cutNumber 4 [(0, ic_R 7 0 0), (1, ic_I x1), (2, ic_I x2), (3, ic_I x3)] [] g r g' := by
  intro n
  induction n with
  | zero => intro x2 x3 g q h; cases h
  | succ n ih =>
    intro x2 x3 g q h r g' hq
    rw [lX5_cutNumber_4] at h
    refine ev_iload_n (a := 0) (b := 4) rfl rfl ?_
    refine ev_aload_n (a := 0) (b := 5) rfl rfl ?_
    refine ev_get (a := 0) (b := 6) 5 0 rfl rfl (Nat.le_of_ble_eq_true rfl) lfX5_9 (gX5_tape) ?_
    refine ev_get (a := 0) (b := 7) 3 0 rfl rfl (Nat.le_of_ble_eq_true rfl) lfX5_29 (gX3_size) ?_
    refine ev_icge (a := 0) (b := 8) 55 rfl rfl (fun c1001 => ?_) (fun c1001 => ?_)
    · have h := (if_pos c1001).symm.trans h
      obtain rfl := ic_s1 h
      exact ev_fw (lv' := [(0, ic_R 7 0 0), (1, ic_I x1), (2, ic_I x2), (3, ic_I x3)]) hq (And.intro rfl (And.intro rfl (And.intro rfl (And.intro rfl trivial))))
    · have h := (if_neg c1001).symm.trans h
      refine ev_aload_n (a := 0) (b := 9) rfl rfl ?_
      refine ev_get (a := 0) (b := 10) 5 0 rfl rfl (Nat.le_of_ble_eq_true rfl) lfX5_9 (gX5_tape) ?_
      refine ev_iload_n (a := 0) (b := 11) rfl rfl ?_
      obtain ⟨v1004, g1002, e1003, h⟩ := ic_b2E h
      refine ev_ivI (a := 0) (b := 12) [ic_I x2] rfl okX3_hasDigit rfl lmX5_50 rfl (rc5) (Nat.le_of_ble_eq_true rfl) (eX3_hasDigit e1003) (Nat.le_of_ble_eq_true rfl) rfl ?_
      refine ev_ifeq (a := 0) (b := 13) 55 rfl rfl (fun c1005 => ?_) (fun c1005 => ?_)
      · have h := (if_pos c1005).symm.trans h
        obtain rfl := ic_s1 h
        exact ev_fw (lv' := [(0, ic_R 7 0 0), (1, ic_I x1), (2, ic_I x2), (3, ic_I x3)]) hq (And.intro rfl (And.intro rfl (And.intro rfl (And.intro rfl trivial))))
      · have h := (if_neg c1005).symm.trans h
        refine ev_iload_n (a := 0) (b := 14) rfl rfl ?_
        refine ev_bipush (a := 0) (b := 15) 10 rfl (by decide) ?_
        refine ev_imul (a := 0) (b := 16) rfl ?_
        refine ev_aload_n (a := 0) (b := 17) rfl rfl ?_
        refine ev_get (a := 0) (b := 18) 5 0 rfl rfl (Nat.le_of_ble_eq_true rfl) lfX5_9 (gX5_tape) ?_
        refine ev_iload_n (a := 0) (b := 19) rfl rfl ?_
        obtain ⟨v1008, g1006, e1007, h⟩ := ic_b2E h
        refine ev_ivI (a := 0) (b := 20) [ic_I x2] rfl okX3_byteAt rfl lmX5_32 rfl (rc5) (Nat.le_of_ble_eq_true rfl) (eX3_byteAt e1007) (Nat.le_of_ble_eq_true rfl) rfl ?_
        refine ev_iadd (a := 0) (b := 21) rfl ?_
        refine ev_bipush (a := 0) (b := 22) 48 rfl (by decide) ?_
        refine ev_isub (a := 0) (b := 23) rfl ?_
        refine ev_sipush (a := 0) (b := 24) 1000 rfl (by decide) ?_
        refine ev_mmin (a := 0) (b := 25) rfl lmX5_68 ok_mmin rfl (Nat.le_of_ble_eq_true rfl) ?_
        obtain ⟨y1009, ey1009, h⟩ := ic_letE h
        refine ev_topI ey1009 ?_
        refine ev_istore_n (a := 0) (b := 26) [(0, ic_R 7 0 0), (1, ic_I x1), (2, ic_I x2), (3, ic_I y1009)] rfl (by decide) (And.intro (Or.inr (And.intro rfl rfl)) (And.intro (Or.inr (And.intro rfl rfl)) (And.intro (Or.inr (And.intro rfl rfl)) (And.intro (Or.inl rfl) trivial)))) ?_
        refine ev_iinc (a := 0) (b := 27) (x2 + 1) [(0, ic_R 7 0 0), (1, ic_I x1), (2, ic_I (x2 + 1)), (3, ic_I y1009)] rfl rfl (by first | rfl | decide) (by decide) (And.intro (Or.inr (And.intro rfl rfl)) (And.intro (Or.inr (And.intro rfl rfl)) (And.intro (Or.inl rfl) (And.intro (Or.inr (And.intro rfl rfl)) trivial)))) ?_
        refine ev_goto (a := 0) (b := 28) 4 rfl rfl ?_
        refine ev_fw (lv' := [(0, ic_R 7 0 0), (1, ic_I x1), (2, ic_I (x2 + 1)), (3, ic_I y1009)]) ?_ (And.intro rfl (And.intro rfl (And.intro rfl (And.intro rfl trivial))))
        exact ih (x2 + 1) y1009 g1006 _ h _ _ hq
set_option maxRecDepth 20000 in
theorem eX5_cutNumber {x1 : Int32} {g g' : ic_S} {v : Int32} (h : fX5_cutNumber x1 g = some (v, g')) : ic_Ev mX5_cutNumber 0 (ic_ag 0 [ic_R 7 0 0, ic_I x1]) [] g (some (ic_I v)) g' := by
  unfold fX5_cutNumber at h
  change ic_Ev mX5_cutNumber 0 [(0, ic_R 7 0 0), (1, ic_I x1)] [] g _ _
  refine ev_iload_n (a := 0) (b := 0) rfl rfl ?_
  refine ev_istore_n (a := 0) (b := 1) [(0, ic_R 7 0 0), (1, ic_I x1), (2, ic_I x1)] rfl (by decide) (And.intro (Or.inr (And.intro rfl rfl)) (And.intro (Or.inr (And.intro rfl rfl)) (And.intro (Or.inl rfl) trivial))) ?_
  refine ev_iconst (a := 0) (b := 2) 0 rfl (by decide) ?_
  refine ev_istore_n (a := 0) (b := 3) [(0, ic_R 7 0 0), (1, ic_I x1), (2, ic_I x1), (3, ic_I 0)] rfl (by decide) (And.intro (Or.inr (And.intro rfl rfl)) (And.intro (Or.inr (And.intro rfl rfl)) (And.intro (Or.inr (And.intro rfl rfl)) (And.intro (Or.inl rfl) trivial)))) ?_
  refine ev_fw (lv' := [(0, ic_R 7 0 0), (1, ic_I x1), (2, ic_I x1), (3, ic_I 0)]) ?_ (And.intro rfl (And.intro rfl (And.intro rfl (And.intro rfl trivial))))
  obtain ⟨y1, g2, e3, h⟩ := ic_b2E h
  refine tX5_cutNumber_4 (x1 := x1)  1000 x1 0 g _ e3 _ _ ?_
  change ic_Ev mX5_cutNumber 55 [(0, ic_R 7 0 0), (1, ic_I x1), (2, ic_I y1.1), (3, ic_I y1.2)] [] g2 _ _
  refine ev_aload_n (a := 0) (b := 29) rfl rfl ?_
  refine ev_iconst (a := 0) (b := 30) 2 rfl (by decide) ?_
  refine ev_iload_n (a := 0) (b := 31) rfl rfl ?_
  refine ev_iload_n (a := 1) (b := 0) rfl rfl ?_
  obtain ⟨g4, e5, h⟩ := ic_b1E h
  refine ev_ivV (a := 1) (b := 1) [ic_I 2, ic_I x1, ic_I y1.2] rfl okX5_append rfl lmX5_39 rfl (rc7) (Nat.le_of_ble_eq_true rfl) (eX5_append e5) (Nat.le_of_ble_eq_true rfl) rfl ?_
  refine ev_iload_n (a := 1) (b := 2) rfl rfl ?_
  obtain ⟨rfl, rfl⟩ := ic_s2 h
  exact ev_ireturn (a := 1) (b := 3) rfl rfl rfl
set_option maxRecDepth 20000 in
theorem eX5_cutToken {x1 : Int32} {g g' : ic_S} {v : Int32} (h : fX5_cutToken x1 g = some (v, g')) : ic_Ev mX5_cutToken 0 (ic_ag 0 [ic_R 7 0 0, ic_I x1]) [] g (some (ic_I v)) g' := by
  unfold fX5_cutToken at h
  change ic_Ev mX5_cutToken 0 [(0, ic_R 7 0 0), (1, ic_I x1)] [] g _ _
  refine ev_aload_n (a := 0) (b := 0) rfl rfl ?_
  refine ev_get (a := 0) (b := 1) 5 0 rfl rfl (Nat.le_of_ble_eq_true rfl) lfX5_9 (gX5_tape) ?_
  refine ev_iload_n (a := 0) (b := 2) rfl rfl ?_
  obtain ⟨v3, g1, e2, h⟩ := ic_b2E h
  refine ev_ivI (a := 0) (b := 3) [ic_I x1] rfl okX3_hasLetter rfl lmX5_43 rfl (rc5) (Nat.le_of_ble_eq_true rfl) (eX3_hasLetter e2) (Nat.le_of_ble_eq_true rfl) rfl ?_
  refine ev_ifeq (a := 0) (b := 4) 17 rfl rfl (fun c4 => ?_) (fun c4 => ?_)
  · have h := (if_pos c4).symm.trans h
    refine ev_aload_n (a := 0) (b := 9) rfl rfl ?_
    refine ev_get (a := 0) (b := 10) 5 0 rfl rfl (Nat.le_of_ble_eq_true rfl) lfX5_9 (gX5_tape) ?_
    refine ev_iload_n (a := 0) (b := 11) rfl rfl ?_
    obtain ⟨v7, g5, e6, h⟩ := ic_b2E h
    refine ev_ivI (a := 0) (b := 12) [ic_I x1] rfl okX3_hasDigit rfl lmX5_50 rfl (rc5) (Nat.le_of_ble_eq_true rfl) (eX3_hasDigit e6) (Nat.le_of_ble_eq_true rfl) rfl ?_
    refine ev_ifeq (a := 0) (b := 13) 34 rfl rfl (fun c8 => ?_) (fun c8 => ?_)
    · have h := (if_pos c8).symm.trans h
      refine ev_aload_n (a := 0) (b := 18) rfl rfl ?_
      refine ev_aload_n (a := 0) (b := 19) rfl rfl ?_
      refine ev_get (a := 0) (b := 20) 5 0 rfl rfl (Nat.le_of_ble_eq_true rfl) lfX5_9 (gX5_tape) ?_
      refine ev_iload_n (a := 0) (b := 21) rfl rfl ?_
      obtain ⟨v11, g9, e10, h⟩ := ic_b2E h
      refine ev_ivI (a := 0) (b := 22) [ic_I x1] rfl okX3_byteAt rfl lmX5_32 rfl (rc5) (Nat.le_of_ble_eq_true rfl) (eX3_byteAt e10) (Nat.le_of_ble_eq_true rfl) rfl ?_
      refine ev_bipush (a := 0) (b := 23) 59 rfl (by decide) ?_
      refine ev_icne (a := 0) (b := 24) 52 rfl rfl (fun c12 => ?_) (fun c12 => ?_)
      · have h := (if_neg c12).symm.trans h
        refine ev_iconst (a := 0) (b := 27) 4 rfl (by decide) ?_
        refine ev_iload_n (a := 0) (b := 28) rfl rfl ?_
        refine ev_iconst (a := 0) (b := 29) 0 rfl (by decide) ?_
        obtain ⟨g13, e14, h⟩ := ic_b1E h
        refine ev_ivV (a := 0) (b := 30) [ic_I 4, ic_I x1, ic_I 0] rfl okX5_append rfl lmX5_39 rfl (rc7) (Nat.le_of_ble_eq_true rfl) (eX5_append e14) (Nat.le_of_ble_eq_true rfl) rfl ?_
        refine ev_iload_n (a := 0) (b := 31) rfl rfl ?_
        refine ev_iconst (a := 1) (b := 0) 1 rfl (by decide) ?_
        refine ev_iadd (a := 1) (b := 1) rfl ?_
        obtain ⟨rfl, rfl⟩ := ic_s2 h
        exact ev_ireturn (a := 1) (b := 2) rfl rfl rfl
      · have h := (if_pos c12).symm.trans h
        refine ev_iconst (a := 0) (b := 25) 3 rfl (by decide) ?_
        refine ev_goto (a := 0) (b := 26) 53 rfl rfl ?_
        refine ev_iload_n (a := 0) (b := 28) rfl rfl ?_
        refine ev_iconst (a := 0) (b := 29) 0 rfl (by decide) ?_
        obtain ⟨g15, e16, h⟩ := ic_b1E h
        refine ev_ivV (a := 0) (b := 30) [ic_I 3, ic_I x1, ic_I 0] rfl okX5_append rfl lmX5_39 rfl (rc7) (Nat.le_of_ble_eq_true rfl) (eX5_append e16) (Nat.le_of_ble_eq_true rfl) rfl ?_
        refine ev_iload_n (a := 0) (b := 31) rfl rfl ?_
        refine ev_iconst (a := 1) (b := 0) 1 rfl (by decide) ?_
        refine ev_iadd (a := 1) (b := 1) rfl ?_
        obtain ⟨rfl, rfl⟩ := ic_s2 h
        exact ev_ireturn (a := 1) (b := 2) rfl rfl rfl
    · have h := (if_neg c8).symm.trans h
      refine ev_aload_n (a := 0) (b := 14) rfl rfl ?_
      refine ev_iload_n (a := 0) (b := 15) rfl rfl ?_
      obtain ⟨v19, g17, e18, h⟩ := ic_b2E h
      refine ev_ivI (a := 0) (b := 16) [ic_I x1] rfl okX5_cutNumber rfl lmX5_53 rfl (rc7) (Nat.le_of_ble_eq_true rfl) (eX5_cutNumber e18) (Nat.le_of_ble_eq_true rfl) rfl ?_
      obtain ⟨rfl, rfl⟩ := ic_s2 h
      exact ev_ireturn (a := 0) (b := 17) rfl rfl rfl
  · have h := (if_neg c4).symm.trans h
    refine ev_aload_n (a := 0) (b := 5) rfl rfl ?_
    refine ev_iload_n (a := 0) (b := 6) rfl rfl ?_
    obtain ⟨v22, g20, e21, h⟩ := ic_b2E h
    refine ev_ivI (a := 0) (b := 7) [ic_I x1] rfl okX5_cutWord rfl lmX5_47 rfl (rc7) (Nat.le_of_ble_eq_true rfl) (eX5_cutWord e21) (Nat.le_of_ble_eq_true rfl) rfl ?_
    obtain ⟨rfl, rfl⟩ := ic_s2 h
    exact ev_ireturn (a := 0) (b := 8) rfl rfl rfl
