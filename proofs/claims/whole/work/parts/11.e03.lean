set_option maxRecDepth 20000 in
theorem tX5_cut_9 : ∀ (n : Nat) (x1 : Int32) (x2 : Int32) (g : ic_S) (q : Unit × ic_S), lX5_cut_9 n x1 x2 g = some q → ∀ (r : Option ic_V) (g' : ic_S), ic_Ev mX5_cut 50 [(0, ic_R 7 0 0)] [] q.2 r g' → ic_Ev mX5_cut 9 [(0, ic_R 7 0 0), (1, ic_I x1), (2, ic_I x2)] [] g r g' := by
  intro n
  induction n with
  | zero => intro x1 x2 g q h; cases h
  | succ n ih =>
    intro x1 x2 g q h r g' hq
    rw [lX5_cut_9] at h
    refine ev_iload_n (a := 0) (b := 7) rfl rfl ?_
    refine ev_aload_n (a := 0) (b := 8) rfl rfl ?_
    refine ev_get (a := 0) (b := 9) 5 0 rfl rfl (Nat.le_of_ble_eq_true rfl) lfX5_9 (gX5_tape) ?_
    refine ev_get (a := 0) (b := 10) 3 0 rfl rfl (Nat.le_of_ble_eq_true rfl) lfX5_29 (gX3_size) ?_
    refine ev_icge (a := 0) (b := 11) 50 rfl rfl (fun c1001 => ?_) (fun c1001 => ?_)
    · have h := (if_pos c1001).symm.trans h
      obtain rfl := ic_s1 h
      exact ev_fw (lv' := [(0, ic_R 7 0 0)]) hq (And.intro rfl trivial)
    · have h := (if_neg c1001).symm.trans h
      refine ev_iload_n (a := 0) (b := 12) rfl rfl ?_
      refine ev_iload_n (a := 0) (b := 13) rfl rfl ?_
      refine ev_iclt (a := 0) (b := 14) 44 rfl rfl (fun c1002 => ?_) (fun c1002 => ?_)
      · have h := (if_pos c1002).symm.trans h
        refine ev_iinc (a := 0) (b := 25) (x2 + 1) [(0, ic_R 7 0 0), (1, ic_I x1), (2, ic_I (x2 + 1))] rfl rfl (by first | rfl | decide) (by decide) (And.intro (Or.inr (And.intro rfl rfl)) (And.intro (Or.inr (And.intro rfl rfl)) (And.intro (Or.inl rfl) trivial))) ?_
        refine ev_goto (a := 0) (b := 26) 9 rfl rfl ?_
        refine ev_fw (lv' := [(0, ic_R 7 0 0), (1, ic_I x1), (2, ic_I (x2 + 1))]) ?_ (And.intro rfl (And.intro rfl (And.intro rfl trivial)))
        exact ih x1 (x2 + 1) g _ h _ _ hq
      · have h := (if_neg c1002).symm.trans h
        refine ev_aload_n (a := 0) (b := 15) rfl rfl ?_
        refine ev_get (a := 0) (b := 16) 5 0 rfl rfl (Nat.le_of_ble_eq_true rfl) lfX5_9 (gX5_tape) ?_
        refine ev_iload_n (a := 0) (b := 17) rfl rfl ?_
        obtain ⟨v1005, g1003, e1004, h⟩ := ic_b2E h
        refine ev_ivI (a := 0) (b := 18) [ic_I x2] rfl okX3_byteAt rfl lmX5_32 rfl (rc5) (Nat.le_of_ble_eq_true rfl) (eX3_byteAt e1004) (Nat.le_of_ble_eq_true rfl) rfl ?_
        refine ev_bipush (a := 0) (b := 19) 32 rfl (by decide) ?_
        refine ev_iceq (a := 0) (b := 20) 44 rfl rfl (fun c1006 => ?_) (fun c1006 => ?_)
        · have h := (if_pos c1006).symm.trans h
          refine ev_iinc (a := 0) (b := 25) (x2 + 1) [(0, ic_R 7 0 0), (1, ic_I x1), (2, ic_I (x2 + 1))] rfl rfl (by first | rfl | decide) (by decide) (And.intro (Or.inr (And.intro rfl rfl)) (And.intro (Or.inr (And.intro rfl rfl)) (And.intro (Or.inl rfl) trivial))) ?_
          refine ev_goto (a := 0) (b := 26) 9 rfl rfl ?_
          refine ev_fw (lv' := [(0, ic_R 7 0 0), (1, ic_I x1), (2, ic_I (x2 + 1))]) ?_ (And.intro rfl (And.intro rfl (And.intro rfl trivial)))
          exact ih x1 (x2 + 1) g1003 _ h _ _ hq
        · have h := (if_neg c1006).symm.trans h
          refine ev_aload_n (a := 0) (b := 21) rfl rfl ?_
          refine ev_iload_n (a := 0) (b := 22) rfl rfl ?_
          obtain ⟨v1009, g1007, e1008, h⟩ := ic_b2E h
          refine ev_ivI (a := 0) (b := 23) [ic_I x2] rfl okX5_cutToken rfl lmX5_36 rfl (rc7) (Nat.le_of_ble_eq_true rfl) (eX5_cutToken e1008) (Nat.le_of_ble_eq_true rfl) rfl ?_
          refine ev_istore_n (a := 0) (b := 24) [(0, ic_R 7 0 0), (1, ic_I v1009), (2, ic_I x2)] rfl (by decide) (And.intro (Or.inr (And.intro rfl rfl)) (And.intro (Or.inl rfl) (And.intro (Or.inr (And.intro rfl rfl)) trivial))) ?_
          refine ev_iinc (a := 0) (b := 25) (x2 + 1) [(0, ic_R 7 0 0), (1, ic_I v1009), (2, ic_I (x2 + 1))] rfl rfl (by first | rfl | decide) (by decide) (And.intro (Or.inr (And.intro rfl rfl)) (And.intro (Or.inr (And.intro rfl rfl)) (And.intro (Or.inl rfl) trivial))) ?_
          refine ev_goto (a := 0) (b := 26) 9 rfl rfl ?_
          refine ev_fw (lv' := [(0, ic_R 7 0 0), (1, ic_I v1009), (2, ic_I (x2 + 1))]) ?_ (And.intro rfl (And.intro rfl (And.intro rfl trivial)))
          exact ih v1009 (x2 + 1) g1007 _ h _ _ hq
set_option maxRecDepth 20000 in
theorem eX5_cut {g g' : ic_S} (h : fX5_cut  g = some g') : ic_Ev mX5_cut 0 (ic_ag 0 [ic_R 7 0 0]) [] g (none) g' := by
  unfold fX5_cut at h
  change ic_Ev mX5_cut 0 [(0, ic_R 7 0 0)] [] g _ _
  refine ev_aload_n (a := 0) (b := 0) rfl rfl ?_
  refine ev_iconst (a := 0) (b := 1) 0 rfl (by decide) ?_
  obtain ⟨g1, eg1, h⟩ := ic_letE h
  refine ev_put (a := 0) (b := 2) 5 1 rfl rfl (Nat.le_of_ble_eq_true rfl) lfX5_15 rfl (pX5_size eg1) ?_
  refine ev_iconst (a := 0) (b := 3) 0 rfl (by decide) ?_
  refine ev_istore_n (a := 0) (b := 4) [(0, ic_R 7 0 0), (1, ic_I 0)] rfl (by decide) (And.intro (Or.inr (And.intro rfl rfl)) (And.intro (Or.inl rfl) trivial)) ?_
  refine ev_iconst (a := 0) (b := 5) 0 rfl (by decide) ?_
  refine ev_istore_n (a := 0) (b := 6) [(0, ic_R 7 0 0), (1, ic_I 0), (2, ic_I 0)] rfl (by decide) (And.intro (Or.inr (And.intro rfl rfl)) (And.intro (Or.inr (And.intro rfl rfl)) (And.intro (Or.inl rfl) trivial))) ?_
  refine ev_fw (lv' := [(0, ic_R 7 0 0), (1, ic_I 0), (2, ic_I 0)]) ?_ (And.intro rfl (And.intro rfl (And.intro rfl trivial)))
  obtain ⟨y2, g3, e4, h⟩ := ic_b2E h
  refine tX5_cut_9  1000 0 0 g1 _ e4 _ _ ?_
  change ic_Ev mX5_cut 50 [(0, ic_R 7 0 0)] [] g3 _ _
  refine ev_aload_n (a := 0) (b := 27) rfl rfl ?_
  refine ev_iconst (a := 0) (b := 28) 0 rfl (by decide) ?_
  refine ev_aload_n (a := 0) (b := 29) rfl rfl ?_
  refine ev_get (a := 0) (b := 30) 5 0 rfl rfl (Nat.le_of_ble_eq_true rfl) lfX5_9 (gX5_tape) ?_
  refine ev_get (a := 0) (b := 31) 3 0 rfl rfl (Nat.le_of_ble_eq_true rfl) lfX5_29 (gX3_size) ?_
  refine ev_iconst (a := 1) (b := 0) 0 rfl (by decide) ?_
  obtain ⟨g5, e6, h⟩ := ic_b1E h
  refine ev_ivV (a := 1) (b := 1) [ic_I 0, ic_I (g3.1 8 0), ic_I 0] rfl okX5_append rfl lmX5_39 rfl (rc7) (Nat.le_of_ble_eq_true rfl) (eX5_append e6) (Nat.le_of_ble_eq_true rfl) rfl ?_
  obtain rfl := ic_s1 h
  exact ev_return (a := 1) (b := 2) rfl rfl
set_option maxRecDepth 20000 in
theorem eX6_mostOfCart {x0 : Int32} {g g' : ic_S} {v : Int32} (h : fX6_mostOfCart x0 g = some (v, g')) : ic_Ev mX6_mostOfCart 0 (ic_ag 0 [ic_I x0]) [] g (some (ic_I v)) g' := by
  unfold fX6_mostOfCart at h
  change ic_Ev mX6_mostOfCart 0 [(0, ic_I x0)] [] g _ _
  refine ev_iload_n (a := 0) (b := 0) rfl rfl ?_
  rcases Decidable.em (x0 = 0) with c1 | c1
  · have h := (if_pos c1).symm.trans h
    refine ev_tsw1 (a := 0) (b := 1) 0 (31) 32 rfl c1 (by decide) (by decide) rfl rfl ?_
    refine ev_bipush (a := 0) (b := 2) 15 rfl (by decide) ?_
    obtain ⟨rfl, rfl⟩ := ic_s2 h
    exact ev_ireturn (a := 0) (b := 3) rfl rfl rfl
  · have h := (if_neg c1).symm.trans h
    rcases Decidable.em (x0 = 1) with c2 | c2
    · have h := (if_pos c2).symm.trans h
      refine ev_tsw1 (a := 0) (b := 1) 1 (34) 35 rfl c2 (by decide) (by decide) rfl rfl ?_
      refine ev_iconst (a := 0) (b := 4) 1 rfl (by decide) ?_
      obtain ⟨rfl, rfl⟩ := ic_s2 h
      exact ev_ireturn (a := 0) (b := 5) rfl rfl rfl
    · have h := (if_neg c2).symm.trans h
      rcases Decidable.em (x0 = 2) with c3 | c3
      · have h := (if_pos c3).symm.trans h
        refine ev_tsw1 (a := 0) (b := 1) 2 (36) 37 rfl c3 (by decide) (by decide) rfl rfl ?_
        refine ev_iconst (a := 0) (b := 6) 3 rfl (by decide) ?_
        obtain ⟨rfl, rfl⟩ := ic_s2 h
        exact ev_ireturn (a := 0) (b := 7) rfl rfl rfl
      · have h := (if_neg c3).symm.trans h
        rcases Decidable.em (x0 = 3) with c4 | c4
        · have h := (if_pos c4).symm.trans h
          refine ev_tsw1 (a := 0) (b := 1) 3 (38) 39 rfl c4 (by decide) (by decide) rfl rfl ?_
          refine ev_bipush (a := 0) (b := 8) 20 rfl (by decide) ?_
          obtain ⟨rfl, rfl⟩ := ic_s2 h
          exact ev_ireturn (a := 0) (b := 9) rfl rfl rfl
        · have h := (if_neg c4).symm.trans h
          refine ev_tsw0 (a := 0) (b := 1) [0, 1, 2, 3] 42 rfl (List.forall_mem_cons.mpr ⟨c1, List.forall_mem_cons.mpr ⟨c2, List.forall_mem_cons.mpr ⟨c3, List.forall_mem_cons.mpr ⟨c4, fun _ hh => absurd hh List.not_mem_nil⟩⟩⟩⟩) (by decide) (by decide) rfl ?_
          refine ev_iconst (a := 0) (b := 10) (-1) rfl (by decide) ?_
          obtain ⟨rfl, rfl⟩ := ic_s2 h
          exact ev_ireturn (a := 0) (b := 11) rfl rfl rfl
set_option maxRecDepth 20000 in
theorem eX6_finding {x1 : Int32} {g g' : ic_S} {v : Int32} (h : fX6_finding x1 g = some (v, g')) : ic_Ev mX6_finding 0 (ic_ag 0 [ic_R 0 0 0, ic_I x1]) [] g (some (ic_I v)) g' := by
  unfold fX6_finding at h
  change ic_Ev mX6_finding 0 [(0, ic_R 0 0 0), (1, ic_I x1)] [] g _ _
  refine ev_iload_n (a := 0) (b := 0) rfl rfl ?_
  refine ev_iflt (a := 0) (b := 1) 23 rfl rfl (fun c1 => ?_) (fun c1 => ?_)
  · have h := (if_pos c1).symm.trans h
    refine ev_ldc (a := 0) (b := 15) (-1000001) rfl lcX6_239 ?_
    refine ev_iload_n (a := 0) (b := 16) rfl rfl ?_
    refine ev_isub (a := 0) (b := 17) rfl ?_
    obtain ⟨rfl, rfl⟩ := ic_s2 h
    exact ev_ireturn (a := 0) (b := 18) rfl rfl rfl
  · have h := (if_neg c1).symm.trans h
    refine ev_iload_n (a := 0) (b := 2) rfl rfl ?_
    refine ev_aload_n (a := 0) (b := 3) rfl rfl ?_
    refine ev_get (a := 0) (b := 4) 6 8 rfl rfl (Nat.le_of_ble_eq_true rfl) lfX6_58 (gX6_findings) ?_
    refine ev_alen (a := 0) (b := 5) 7 rfl (a15) (by decide) ?_
    refine ev_icge (a := 0) (b := 6) 23 rfl rfl (fun c2 => ?_) (fun c2 => ?_)
    · have h := (if_pos c2).symm.trans h
      refine ev_ldc (a := 0) (b := 15) (-1000001) rfl lcX6_239 ?_
      refine ev_iload_n (a := 0) (b := 16) rfl rfl ?_
      refine ev_isub (a := 0) (b := 17) rfl ?_
      obtain ⟨rfl, rfl⟩ := ic_s2 h
      exact ev_ireturn (a := 0) (b := 18) rfl rfl rfl
    · have h := (if_neg c2).symm.trans h
      refine ev_aload_n (a := 0) (b := 7) rfl rfl ?_
      refine ev_get (a := 0) (b := 8) 6 8 rfl rfl (Nat.le_of_ble_eq_true rfl) lfX6_58 (gX6_findings) ?_
      refine ev_iload_n (a := 0) (b := 9) rfl rfl ?_
      refine ev_dup2 (a := 0) (b := 10) rfl rfl rfl ?_
      obtain ⟨h3, h⟩ := ic_gdE h
      refine ev_iald (a := 0) (b := 11) rfl (a15) h3 ?_
      refine ev_iconst (a := 0) (b := 12) 1 rfl (by decide) ?_
      refine ev_iadd (a := 0) (b := 13) rfl ?_
      obtain ⟨h4, h⟩ := ic_gdE h
      obtain ⟨g5, eg5, h⟩ := ic_letE h
      refine ev_iast (a := 0) (b := 14) rfl h4 (w15 eg5) ?_
      refine ev_ldc (a := 0) (b := 15) (-1000001) rfl lcX6_239 ?_
      refine ev_iload_n (a := 0) (b := 16) rfl rfl ?_
      refine ev_isub (a := 0) (b := 17) rfl ?_
      obtain ⟨rfl, rfl⟩ := ic_s2 h
      exact ev_ireturn (a := 0) (b := 18) rfl rfl rfl
set_option maxRecDepth 20000 in
theorem eX6_set {x1 : Int32} {x2 : Int32} {g g' : ic_S} {v : Int32} (h : fX6_set x1 x2 g = some (v, g')) : ic_Ev mX6_set 0 (ic_ag 0 [ic_R 0 0 0, ic_I x1, ic_I x2]) [] g (some (ic_I v)) g' := by
  unfold fX6_set at h
  change ic_Ev mX6_set 0 [(0, ic_R 0 0 0), (1, ic_I x1), (2, ic_I x2)] [] g _ _
  refine ev_iload_n (a := 0) (b := 0) rfl rfl ?_
  refine ev_iflt (a := 0) (b := 1) 12 rfl rfl (fun c1 => ?_) (fun c1 => ?_)
  · have h := (if_pos c1).symm.trans h
    refine ev_aload_n (a := 0) (b := 6) rfl rfl ?_
    refine ev_iconst (a := 0) (b := 7) 0 rfl (by decide) ?_
    obtain ⟨v4, g2, e3, h⟩ := ic_b2E h
    refine ev_ivI (a := 0) (b := 8) [ic_I 0] rfl okX6_finding rfl lmX6_66 rfl (rc0) (Nat.le_of_ble_eq_true rfl) (eX6_finding e3) (Nat.le_of_ble_eq_true rfl) rfl ?_
    obtain ⟨rfl, rfl⟩ := ic_s2 h
    exact ev_ireturn (a := 0) (b := 9) rfl rfl rfl
  · have h := (if_neg c1).symm.trans h
    refine ev_iload_n (a := 0) (b := 2) rfl rfl ?_
    refine ev_iload_n (a := 0) (b := 3) rfl rfl ?_
    obtain ⟨v7, g5, e6, h⟩ := ic_b2E h
    refine ev_isI (a := 0) (b := 4) [ic_I x1] rfl okX6_mostOfCart rfl lmX6_62 rfl (Nat.le_of_ble_eq_true rfl) (eX6_mostOfCart e6) (Nat.le_of_ble_eq_true rfl) rfl ?_
    refine ev_icle (a := 0) (b := 5) 18 rfl rfl (fun c8 => ?_) (fun c8 => ?_)
    · have h := (if_pos c8).symm.trans h
      refine ev_aload_n (a := 0) (b := 10) rfl rfl ?_
      refine ev_get (a := 0) (b := 11) 6 0 rfl rfl (Nat.le_of_ble_eq_true rfl) lfX6_10 (gX6_street) ?_
      refine ev_iload_n (a := 0) (b := 12) rfl rfl ?_
      obtain ⟨v11, g9, e10, h⟩ := ic_b2E h
      refine ev_ivI (a := 0) (b := 13) [ic_I x1] rfl okX2_cartTold rfl lmX6_69 rfl (rc1 (by decide)) (Nat.le_of_ble_eq_true rfl) (eX2_cartTold e10) (Nat.le_of_ble_eq_true rfl) rfl ?_
      refine ev_istore_n (a := 0) (b := 14) [(0, ic_R 0 0 0), (1, ic_I x1), (2, ic_I x2), (3, ic_I v11)] rfl (by decide) (And.intro (Or.inr (And.intro rfl rfl)) (And.intro (Or.inr (And.intro rfl rfl)) (And.intro (Or.inr (And.intro rfl rfl)) (And.intro (Or.inl rfl) trivial)))) ?_
      refine ev_aload_n (a := 0) (b := 15) rfl rfl ?_
      refine ev_get (a := 0) (b := 16) 6 0 rfl rfl (Nat.le_of_ble_eq_true rfl) lfX6_10 (gX6_street) ?_
      refine ev_iload_n (a := 0) (b := 17) rfl rfl ?_
      refine ev_iload_n (a := 0) (b := 18) rfl rfl ?_
      obtain ⟨g12, e13, h⟩ := ic_b1E h
      refine ev_ivV (a := 0) (b := 19) [ic_I x1, ic_I x2] rfl okX2_alterCart rfl lmX6_72 rfl (rc1 (by decide)) (Nat.le_of_ble_eq_true rfl) (eX2_alterCart e13) (Nat.le_of_ble_eq_true rfl) rfl ?_
      refine ev_iload_n (a := 0) (b := 20) rfl rfl ?_
      obtain ⟨rfl, rfl⟩ := ic_s2 h
      exact ev_ireturn (a := 0) (b := 21) rfl rfl rfl
    · have h := (if_neg c8).symm.trans h
      refine ev_aload_n (a := 0) (b := 6) rfl rfl ?_
      refine ev_iconst (a := 0) (b := 7) 0 rfl (by decide) ?_
      obtain ⟨v16, g14, e15, h⟩ := ic_b2E h
      refine ev_ivI (a := 0) (b := 8) [ic_I 0] rfl okX6_finding rfl lmX6_66 rfl (rc0) (Nat.le_of_ble_eq_true rfl) (eX6_finding e15) (Nat.le_of_ble_eq_true rfl) rfl ?_
      obtain ⟨rfl, rfl⟩ := ic_s2 h
      exact ev_ireturn (a := 0) (b := 9) rfl rfl rfl
set_option maxRecDepth 20000 in
theorem eX6_cart {x1 : Int32} {g g' : ic_S} {v : Int32} (h : fX6_cart x1 g = some (v, g')) : ic_Ev mX6_cart 0 (ic_ag 0 [ic_R 0 0 0, ic_I x1]) [] g (some (ic_I v)) g' := by
  unfold fX6_cart at h
  change ic_Ev mX6_cart 0 [(0, ic_R 0 0 0), (1, ic_I x1)] [] g _ _
  refine ev_aload_n (a := 0) (b := 0) rfl rfl ?_
  refine ev_get (a := 0) (b := 1) 6 0 rfl rfl (Nat.le_of_ble_eq_true rfl) lfX6_10 (gX6_street) ?_
  refine ev_iload_n (a := 0) (b := 2) rfl rfl ?_
  obtain ⟨v3, g1, e2, h⟩ := ic_b2E h
  refine ev_ivI (a := 0) (b := 3) [ic_I x1] rfl okX2_cartTold rfl lmX6_69 rfl (rc1 (by decide)) (Nat.le_of_ble_eq_true rfl) (eX2_cartTold e2) (Nat.le_of_ble_eq_true rfl) rfl ?_
  refine ev_istore_n (a := 0) (b := 4) [(0, ic_R 0 0 0), (2, ic_I v3)] rfl (by decide) (And.intro (Or.inr (And.intro rfl rfl)) (And.intro (Or.inl rfl) trivial)) ?_
  refine ev_iload_n (a := 0) (b := 5) rfl rfl ?_
  refine ev_ifge (a := 0) (b := 6) 21 rfl rfl (fun c4 => ?_) (fun c4 => ?_)
  · have h := (if_pos c4).symm.trans h
    refine ev_iload_n (a := 0) (b := 11) rfl rfl ?_
    obtain ⟨rfl, rfl⟩ := ic_s2 h
    exact ev_ireturn (a := 0) (b := 12) rfl rfl rfl
  · have h := (if_neg c4).symm.trans h
    refine ev_aload_n (a := 0) (b := 7) rfl rfl ?_
    refine ev_iconst (a := 0) (b := 8) 0 rfl (by decide) ?_
    obtain ⟨v7, g5, e6, h⟩ := ic_b2E h
    refine ev_ivI (a := 0) (b := 9) [ic_I 0] rfl okX6_finding rfl lmX6_66 rfl (rc0) (Nat.le_of_ble_eq_true rfl) (eX6_finding e6) (Nat.le_of_ble_eq_true rfl) rfl ?_
    refine ev_goto (a := 0) (b := 10) 22 rfl rfl ?_
    obtain ⟨rfl, rfl⟩ := ic_s2 h
    exact ev_ireturn (a := 0) (b := 12) rfl rfl rfl
set_option maxRecDepth 20000 in
theorem eX6_isCell {x0 : Int32} {g g' : ic_S} {v : Int32} (h : fX6_isCell x0 g = some (v, g')) : ic_Ev mX6_isCell 0 (ic_ag 0 [ic_I x0]) [] g (some (ic_I v)) g' := by
  unfold fX6_isCell at h
  change ic_Ev mX6_isCell 0 [(0, ic_I x0)] [] g _ _
  refine ev_iload_n (a := 0) (b := 0) rfl rfl ?_
  refine ev_iflt (a := 0) (b := 1) 14 rfl rfl (fun c1 => ?_) (fun c1 => ?_)
  · have h := (if_pos c1).symm.trans h
    refine ev_iconst (a := 0) (b := 7) 0 rfl (by decide) ?_
    obtain ⟨rfl, rfl⟩ := ic_s2 h
    exact ev_ireturn (a := 0) (b := 8) rfl rfl rfl
  · have h := (if_neg c1).symm.trans h
    refine ev_iload_n (a := 0) (b := 2) rfl rfl ?_
    refine ev_bipush (a := 0) (b := 3) 16 rfl (by decide) ?_
    refine ev_icge (a := 0) (b := 4) 14 rfl rfl (fun c2 => ?_) (fun c2 => ?_)
    · have h := (if_pos c2).symm.trans h
      refine ev_iconst (a := 0) (b := 7) 0 rfl (by decide) ?_
      obtain ⟨rfl, rfl⟩ := ic_s2 h
      exact ev_ireturn (a := 0) (b := 8) rfl rfl rfl
    · have h := (if_neg c2).symm.trans h
      refine ev_iconst (a := 0) (b := 5) 1 rfl (by decide) ?_
      refine ev_goto (a := 0) (b := 6) 15 rfl rfl ?_
      obtain ⟨rfl, rfl⟩ := ic_s2 h
      exact ev_ireturn (a := 0) (b := 8) rfl rfl rfl
set_option maxRecDepth 20000 in
theorem eX6_thing {x1 : Int32} {x2 : Int32} {g g' : ic_S} {v : Int32} (h : fX6_thing x1 x2 g = some (v, g')) : ic_Ev mX6_thing 0 (ic_ag 0 [ic_R 0 0 0, ic_I x1, ic_I x2]) [] g (some (ic_I v)) g' := by
  unfold fX6_thing at h
  change ic_Ev mX6_thing 0 [(0, ic_R 0 0 0), (1, ic_I x1), (2, ic_I x2)] [] g _ _
  refine ev_iload_n (a := 0) (b := 0) rfl rfl ?_
  obtain ⟨v3, g1, e2, h⟩ := ic_b2E h
  refine ev_isI (a := 0) (b := 1) [ic_I x1] rfl okX6_isKind rfl lmX6_76 rfl (Nat.le_of_ble_eq_true rfl) (eX6_isKind e2) (Nat.le_of_ble_eq_true rfl) rfl ?_
  refine ev_ifeq (a := 0) (b := 2) 14 rfl rfl (fun c4 => ?_) (fun c4 => ?_)
  · have h := (if_pos c4).symm.trans h
    refine ev_aload_n (a := 0) (b := 6) rfl rfl ?_
    refine ev_iconst (a := 0) (b := 7) 0 rfl (by decide) ?_
    obtain ⟨v7, g5, e6, h⟩ := ic_b2E h
    refine ev_ivI (a := 0) (b := 8) [ic_I 0] rfl okX6_finding rfl lmX6_66 rfl (rc0) (Nat.le_of_ble_eq_true rfl) (eX6_finding e6) (Nat.le_of_ble_eq_true rfl) rfl ?_
    obtain ⟨rfl, rfl⟩ := ic_s2 h
    exact ev_ireturn (a := 0) (b := 9) rfl rfl rfl
  · have h := (if_neg c4).symm.trans h
    refine ev_iload_n (a := 0) (b := 3) rfl rfl ?_
    obtain ⟨v10, g8, e9, h⟩ := ic_b2E h
    refine ev_isI (a := 0) (b := 4) [ic_I x2] rfl okX6_isCell rfl lmX6_80 rfl (Nat.le_of_ble_eq_true rfl) (eX6_isCell e9) (Nat.le_of_ble_eq_true rfl) rfl ?_
    refine ev_ifne (a := 0) (b := 5) 20 rfl rfl (fun c11 => ?_) (fun c11 => ?_)
    · have h := (if_neg c11).symm.trans h
      refine ev_aload_n (a := 0) (b := 10) rfl rfl ?_
      refine ev_get (a := 0) (b := 11) 6 0 rfl rfl (Nat.le_of_ble_eq_true rfl) lfX6_10 (gX6_street) ?_
      refine ev_iload_n (a := 0) (b := 12) rfl rfl ?_
      refine ev_iload_n (a := 0) (b := 13) rfl rfl ?_
      obtain ⟨v14, g12, e13, h⟩ := ic_b2E h
      refine ev_ivI (a := 0) (b := 14) [ic_I x1, ic_I x2] rfl okX2_addThing rfl lmX6_83 rfl (rc1 (by decide)) (Nat.le_of_ble_eq_true rfl) (eX2_addThing e13) (Nat.le_of_ble_eq_true rfl) rfl ?_
      refine ev_istore_n (a := 0) (b := 15) [(0, ic_R 0 0 0), (3, ic_I v14)] rfl (by decide) (And.intro (Or.inr (And.intro rfl rfl)) (And.intro (Or.inl rfl) trivial)) ?_
      refine ev_iload_n (a := 0) (b := 16) rfl rfl ?_
      refine ev_ifge (a := 0) (b := 17) 42 rfl rfl (fun c15 => ?_) (fun c15 => ?_)
      · have h := (if_pos c15).symm.trans h
        refine ev_iload_n (a := 0) (b := 22) rfl rfl ?_
        obtain ⟨rfl, rfl⟩ := ic_s2 h
        exact ev_ireturn (a := 0) (b := 23) rfl rfl rfl
      · have h := (if_neg c15).symm.trans h
        refine ev_aload_n (a := 0) (b := 18) rfl rfl ?_
        refine ev_iconst (a := 0) (b := 19) 1 rfl (by decide) ?_
        obtain ⟨v18, g16, e17, h⟩ := ic_b2E h
        refine ev_ivI (a := 0) (b := 20) [ic_I 1] rfl okX6_finding rfl lmX6_66 rfl (rc0) (Nat.le_of_ble_eq_true rfl) (eX6_finding e17) (Nat.le_of_ble_eq_true rfl) rfl ?_
        refine ev_goto (a := 0) (b := 21) 43 rfl rfl ?_
        obtain ⟨rfl, rfl⟩ := ic_s2 h
        exact ev_ireturn (a := 0) (b := 23) rfl rfl rfl
    · have h := (if_pos c11).symm.trans h
      refine ev_aload_n (a := 0) (b := 6) rfl rfl ?_
      refine ev_iconst (a := 0) (b := 7) 0 rfl (by decide) ?_
      obtain ⟨v21, g19, e20, h⟩ := ic_b2E h
      refine ev_ivI (a := 0) (b := 8) [ic_I 0] rfl okX6_finding rfl lmX6_66 rfl (rc0) (Nat.le_of_ble_eq_true rfl) (eX6_finding e20) (Nat.le_of_ble_eq_true rfl) rfl ?_
      obtain ⟨rfl, rfl⟩ := ic_s2 h
      exact ev_ireturn (a := 0) (b := 9) rfl rfl rfl
set_option maxRecDepth 20000 in
theorem eX6_of {x1 : Int32} {x2 : Int32} {g g' : ic_S} {v : Int32} (h : fX6_of x1 x2 g = some (v, g')) : ic_Ev mX6_of 0 (ic_ag 0 [ic_R 0 0 0, ic_I x1, ic_I x2]) [] g (some (ic_I v)) g' := by
  unfold fX6_of at h
  change ic_Ev mX6_of 0 [(0, ic_R 0 0 0), (1, ic_I x1), (2, ic_I x2)] [] g _ _
  refine ev_aload_n (a := 0) (b := 0) rfl rfl ?_
  refine ev_get (a := 0) (b := 1) 6 0 rfl rfl (Nat.le_of_ble_eq_true rfl) lfX6_10 (gX6_street) ?_
  refine ev_iload_n (a := 0) (b := 2) rfl rfl ?_
  refine ev_iload_n (a := 0) (b := 3) rfl rfl ?_
  obtain ⟨v3, g1, e2, h⟩ := ic_b2E h
  refine ev_ivI (a := 0) (b := 4) [ic_I x1, ic_I x2] rfl okX2_told rfl lmX6_87 rfl (rc1 (by decide)) (Nat.le_of_ble_eq_true rfl) (eX2_told e2) (Nat.le_of_ble_eq_true rfl) rfl ?_
  refine ev_istore_n (a := 0) (b := 5) [(0, ic_R 0 0 0), (3, ic_I v3)] rfl (by decide) (And.intro (Or.inr (And.intro rfl rfl)) (And.intro (Or.inl rfl) trivial)) ?_
  refine ev_iload_n (a := 0) (b := 6) rfl rfl ?_
  refine ev_ifge (a := 0) (b := 7) 22 rfl rfl (fun c4 => ?_) (fun c4 => ?_)
  · have h := (if_pos c4).symm.trans h
    refine ev_iload_n (a := 0) (b := 12) rfl rfl ?_
    obtain ⟨rfl, rfl⟩ := ic_s2 h
    exact ev_ireturn (a := 0) (b := 13) rfl rfl rfl
  · have h := (if_neg c4).symm.trans h
    refine ev_aload_n (a := 0) (b := 8) rfl rfl ?_
    refine ev_iconst (a := 0) (b := 9) 0 rfl (by decide) ?_
    obtain ⟨v7, g5, e6, h⟩ := ic_b2E h
    refine ev_ivI (a := 0) (b := 10) [ic_I 0] rfl okX6_finding rfl lmX6_66 rfl (rc0) (Nat.le_of_ble_eq_true rfl) (eX6_finding e6) (Nat.le_of_ble_eq_true rfl) rfl ?_
    refine ev_goto (a := 0) (b := 11) 23 rfl rfl ?_
    obtain ⟨rfl, rfl⟩ := ic_s2 h
    exact ev_ireturn (a := 0) (b := 13) rfl rfl rfl
set_option maxRecDepth 20000 in
theorem eX6_change {x1 : Int32} {x2 : Int32} {x3 : Int32} {g g' : ic_S} {v : Int32} (h : fX6_change x1 x2 x3 g = some (v, g')) : ic_Ev mX6_change 0 (ic_ag 0 [ic_R 0 0 0, ic_I x1, ic_I x2, ic_I x3]) [] g (some (ic_I v)) g' := by
  unfold fX6_change at h
  change ic_Ev mX6_change 0 [(0, ic_R 0 0 0), (1, ic_I x1), (2, ic_I x2), (3, ic_I x3)] [] g _ _
  refine ev_aload_n (a := 0) (b := 0) rfl rfl ?_
  refine ev_get (a := 0) (b := 1) 6 0 rfl rfl (Nat.le_of_ble_eq_true rfl) lfX6_10 (gX6_street) ?_
  refine ev_iload_n (a := 0) (b := 2) rfl rfl ?_
  obtain ⟨v3, g1, e2, h⟩ := ic_b2E h
  refine ev_ivI (a := 0) (b := 3) [ic_I x1] rfl okX2_hasThing rfl lmX6_90 rfl (rc1 (by decide)) (Nat.le_of_ble_eq_true rfl) (eX2_hasThing e2) (Nat.le_of_ble_eq_true rfl) rfl ?_
  refine ev_ifeq (a := 0) (b := 4) 27 rfl rfl (fun c4 => ?_) (fun c4 => ?_)
  · have h := (if_pos c4).symm.trans h
    refine ev_aload_n (a := 0) (b := 13) rfl rfl ?_
    refine ev_iconst (a := 0) (b := 14) 0 rfl (by decide) ?_
    obtain ⟨v7, g5, e6, h⟩ := ic_b2E h
    refine ev_ivI (a := 0) (b := 15) [ic_I 0] rfl okX6_finding rfl lmX6_66 rfl (rc0) (Nat.le_of_ble_eq_true rfl) (eX6_finding e6) (Nat.le_of_ble_eq_true rfl) rfl ?_
    obtain ⟨rfl, rfl⟩ := ic_s2 h
    exact ev_ireturn (a := 0) (b := 16) rfl rfl rfl
  · have h := (if_neg c4).symm.trans h
    refine ev_iload_n (a := 0) (b := 5) rfl rfl ?_
    refine ev_iload_n (a := 0) (b := 6) rfl rfl ?_
    obtain ⟨v10, g8, e9, h⟩ := ic_b2E h
    refine ev_isI (a := 0) (b := 7) [ic_I x2] rfl okX6_leastOf rfl lmX6_93 rfl (Nat.le_of_ble_eq_true rfl) (eX6_leastOf e9) (Nat.le_of_ble_eq_true rfl) rfl ?_
    refine ev_iclt (a := 0) (b := 8) 27 rfl rfl (fun c11 => ?_) (fun c11 => ?_)
    · have h := (if_pos c11).symm.trans h
      refine ev_aload_n (a := 0) (b := 13) rfl rfl ?_
      refine ev_iconst (a := 0) (b := 14) 0 rfl (by decide) ?_
      obtain ⟨v14, g12, e13, h⟩ := ic_b2E h
      refine ev_ivI (a := 0) (b := 15) [ic_I 0] rfl okX6_finding rfl lmX6_66 rfl (rc0) (Nat.le_of_ble_eq_true rfl) (eX6_finding e13) (Nat.le_of_ble_eq_true rfl) rfl ?_
      obtain ⟨rfl, rfl⟩ := ic_s2 h
      exact ev_ireturn (a := 0) (b := 16) rfl rfl rfl
    · have h := (if_neg c11).symm.trans h
      refine ev_iload_n (a := 0) (b := 9) rfl rfl ?_
      refine ev_iload_n (a := 0) (b := 10) rfl rfl ?_
      obtain ⟨v17, g15, e16, h⟩ := ic_b2E h
      refine ev_isI (a := 0) (b := 11) [ic_I x2] rfl okX6_mostOf rfl lmX6_96 rfl (Nat.le_of_ble_eq_true rfl) (eX6_mostOf e16) (Nat.le_of_ble_eq_true rfl) rfl ?_
      refine ev_icle (a := 0) (b := 12) 33 rfl rfl (fun c18 => ?_) (fun c18 => ?_)
      · have h := (if_pos c18).symm.trans h
        refine ev_aload_n (a := 0) (b := 17) rfl rfl ?_
        refine ev_get (a := 0) (b := 18) 6 0 rfl rfl (Nat.le_of_ble_eq_true rfl) lfX6_10 (gX6_street) ?_
        refine ev_iload_n (a := 0) (b := 19) rfl rfl ?_
        refine ev_iload_n (a := 0) (b := 20) rfl rfl ?_
        obtain ⟨v21, g19, e20, h⟩ := ic_b2E h
        refine ev_ivI (a := 0) (b := 21) [ic_I x1, ic_I x2] rfl okX2_told rfl lmX6_87 rfl (rc1 (by decide)) (Nat.le_of_ble_eq_true rfl) (eX2_told e20) (Nat.le_of_ble_eq_true rfl) rfl ?_
        refine ev_istore (a := 0) (b := 22) [(0, ic_R 0 0 0), (1, ic_I x1), (2, ic_I x2), (3, ic_I x3), (4, ic_I v21)] rfl (by decide) (And.intro (Or.inr (And.intro rfl rfl)) (And.intro (Or.inr (And.intro rfl rfl)) (And.intro (Or.inr (And.intro rfl rfl)) (And.intro (Or.inr (And.intro rfl rfl)) (And.intro (Or.inl rfl) trivial))))) ?_
        refine ev_aload_n (a := 0) (b := 23) rfl rfl ?_
        refine ev_get (a := 0) (b := 24) 6 0 rfl rfl (Nat.le_of_ble_eq_true rfl) lfX6_10 (gX6_street) ?_
        refine ev_iload_n (a := 0) (b := 25) rfl rfl ?_
        refine ev_iload_n (a := 0) (b := 26) rfl rfl ?_
        refine ev_iload_n (a := 0) (b := 27) rfl rfl ?_
        obtain ⟨g22, e23, h⟩ := ic_b1E h
        refine ev_ivV (a := 0) (b := 28) [ic_I x1, ic_I x2, ic_I x3] rfl okX2_alter rfl lmX6_99 rfl (rc1 (by decide)) (Nat.le_of_ble_eq_true rfl) (eX2_alter e23) (Nat.le_of_ble_eq_true rfl) rfl ?_
        refine ev_iload (a := 0) (b := 29) rfl rfl ?_
        obtain ⟨rfl, rfl⟩ := ic_s2 h
        exact ev_ireturn (a := 0) (b := 30) rfl rfl rfl
      · have h := (if_neg c18).symm.trans h
        refine ev_aload_n (a := 0) (b := 13) rfl rfl ?_
        refine ev_iconst (a := 0) (b := 14) 0 rfl (by decide) ?_
        obtain ⟨v26, g24, e25, h⟩ := ic_b2E h
        refine ev_ivI (a := 0) (b := 15) [ic_I 0] rfl okX6_finding rfl lmX6_66 rfl (rc0) (Nat.le_of_ble_eq_true rfl) (eX6_finding e25) (Nat.le_of_ble_eq_true rfl) rfl ?_
        obtain ⟨rfl, rfl⟩ := ic_s2 h
        exact ev_ireturn (a := 0) (b := 16) rfl rfl rfl
set_option maxRecDepth 20000 in
theorem eX6_who {x1 : Int32} {g g' : ic_S} {v : Int32} (h : fX6_who x1 g = some (v, g')) : ic_Ev mX6_who 0 (ic_ag 0 [ic_R 0 0 0, ic_I x1]) [] g (some (ic_I v)) g' := by
  unfold fX6_who at h
  change ic_Ev mX6_who 0 [(0, ic_R 0 0 0), (1, ic_I x1)] [] g _ _
  refine ev_iload_n (a := 0) (b := 0) rfl rfl ?_
  obtain ⟨v3, g1, e2, h⟩ := ic_b2E h
  refine ev_isI (a := 0) (b := 1) [ic_I x1] rfl okX6_isCell rfl lmX6_80 rfl (Nat.le_of_ble_eq_true rfl) (eX6_isCell e2) (Nat.le_of_ble_eq_true rfl) rfl ?_
  refine ev_ifeq (a := 0) (b := 2) 18 rfl rfl (fun c4 => ?_) (fun c4 => ?_)
  · have h := (if_pos c4).symm.trans h
    refine ev_aload_n (a := 0) (b := 8) rfl rfl ?_
    refine ev_iconst (a := 0) (b := 9) 0 rfl (by decide) ?_
    obtain ⟨v7, g5, e6, h⟩ := ic_b2E h
    refine ev_ivI (a := 0) (b := 10) [ic_I 0] rfl okX6_finding rfl lmX6_66 rfl (rc0) (Nat.le_of_ble_eq_true rfl) (eX6_finding e6) (Nat.le_of_ble_eq_true rfl) rfl ?_
    obtain ⟨rfl, rfl⟩ := ic_s2 h
    exact ev_ireturn (a := 0) (b := 11) rfl rfl rfl
  · have h := (if_neg c4).symm.trans h
    refine ev_aload_n (a := 0) (b := 3) rfl rfl ?_
    refine ev_get (a := 0) (b := 4) 6 0 rfl rfl (Nat.le_of_ble_eq_true rfl) lfX6_10 (gX6_street) ?_
    refine ev_iload_n (a := 0) (b := 5) rfl rfl ?_
    obtain ⟨v10, g8, e9, h⟩ := ic_b2E h
    refine ev_ivI (a := 0) (b := 6) [ic_I x1] rfl okX2_thingsAt rfl lmX6_103 rfl (rc1 (by decide)) (Nat.le_of_ble_eq_true rfl) (eX2_thingsAt e9) (Nat.le_of_ble_eq_true rfl) rfl ?_
    refine ev_goto (a := 0) (b := 7) 23 rfl rfl ?_
    obtain ⟨rfl, rfl⟩ := ic_s2 h
    exact ev_ireturn (a := 0) (b := 11) rfl rfl rfl
set_option maxRecDepth 20000 in
theorem eX6_go {x1 : Int32} {g g' : ic_S} {v : Int32} (h : fX6_go x1 g = some (v, g')) : ic_Ev mX6_go 0 (ic_ag 0 [ic_R 0 0 0, ic_I x1]) [] g (some (ic_I v)) g' := by
  unfold fX6_go at h
  change ic_Ev mX6_go 0 [(0, ic_R 0 0 0), (1, ic_I x1)] [] g _ _
  refine ev_iload_n (a := 0) (b := 0) rfl rfl ?_
  refine ev_iconst (a := 0) (b := 1) 1 rfl (by decide) ?_
  refine ev_iclt (a := 0) (b := 2) 11 rfl rfl (fun c1 => ?_) (fun c1 => ?_)
  · have h := (if_pos c1).symm.trans h
    refine ev_aload_n (a := 0) (b := 6) rfl rfl ?_
    refine ev_iconst (a := 0) (b := 7) 0 rfl (by decide) ?_
    obtain ⟨v4, g2, e3, h⟩ := ic_b2E h
    refine ev_ivI (a := 0) (b := 8) [ic_I 0] rfl okX6_finding rfl lmX6_66 rfl (rc0) (Nat.le_of_ble_eq_true rfl) (eX6_finding e3) (Nat.le_of_ble_eq_true rfl) rfl ?_
    obtain ⟨rfl, rfl⟩ := ic_s2 h
    exact ev_ireturn (a := 0) (b := 9) rfl rfl rfl
  · have h := (if_neg c1).symm.trans h
    refine ev_iload_n (a := 0) (b := 3) rfl rfl ?_
    refine ev_bipush (a := 0) (b := 4) 60 rfl (by decide) ?_
    refine ev_icle (a := 0) (b := 5) 17 rfl rfl (fun c5 => ?_) (fun c5 => ?_)
    · have h := (if_pos c5).symm.trans h
      refine ev_aload_n (a := 0) (b := 10) rfl rfl ?_
      refine ev_get (a := 0) (b := 11) 6 0 rfl rfl (Nat.le_of_ble_eq_true rfl) lfX6_10 (gX6_street) ?_
      refine ev_get (a := 0) (b := 12) 2 4 rfl rfl (Nat.le_of_ble_eq_true rfl) lfX6_106 (gX2_callNumber (by decide)) ?_
      refine ev_iload_n (a := 0) (b := 13) rfl rfl ?_
      refine ev_iadd (a := 0) (b := 14) rfl ?_
      refine ev_ldc (a := 0) (b := 15) 99999 rfl lcX6_110 ?_
      refine ev_icle (a := 0) (b := 16) 37 rfl rfl (fun c6 => ?_) (fun c6 => ?_)
      · have h := (if_pos c6).symm.trans h
        refine ev_aload_n (a := 0) (b := 21) rfl rfl ?_
        refine ev_get (a := 0) (b := 22) 6 0 rfl rfl (Nat.le_of_ble_eq_true rfl) lfX6_10 (gX6_street) ?_
        refine ev_iload_n (a := 0) (b := 23) rfl rfl ?_
        obtain ⟨g7, e8, h⟩ := ic_b1E h
        refine ev_ivV (a := 0) (b := 24) [ic_I x1] rfl okX2_callTimes rfl lmX6_111 rfl (rc1 (by decide)) (Nat.le_of_ble_eq_true rfl) (eX2_callTimes e8) (Nat.le_of_ble_eq_true rfl) rfl ?_
        refine ev_aload_n (a := 0) (b := 25) rfl rfl ?_
        refine ev_get (a := 0) (b := 26) 6 0 rfl rfl (Nat.le_of_ble_eq_true rfl) lfX6_10 (gX6_street) ?_
        refine ev_iconst (a := 0) (b := 27) 5 rfl (by decide) ?_
        refine ev_iconst (a := 0) (b := 28) 1 rfl (by decide) ?_
        obtain ⟨v11, g9, e10, h⟩ := ic_b2E h
        refine ev_ivI (a := 0) (b := 29) [ic_I 5, ic_I 1] rfl okX2_thingsWith rfl lmX6_115 rfl (rc1 (by decide)) (Nat.le_of_ble_eq_true rfl) (eX2_thingsWith e10) (Nat.le_of_ble_eq_true rfl) rfl ?_
        obtain ⟨rfl, rfl⟩ := ic_s2 h
        exact ev_ireturn (a := 0) (b := 30) rfl rfl rfl
      · have h := (if_neg c6).symm.trans h
        refine ev_aload_n (a := 0) (b := 17) rfl rfl ?_
        refine ev_iconst (a := 0) (b := 18) 4 rfl (by decide) ?_
        obtain ⟨v14, g12, e13, h⟩ := ic_b2E h
        refine ev_ivI (a := 0) (b := 19) [ic_I 4] rfl okX6_finding rfl lmX6_66 rfl (rc0) (Nat.le_of_ble_eq_true rfl) (eX6_finding e13) (Nat.le_of_ble_eq_true rfl) rfl ?_
        obtain ⟨rfl, rfl⟩ := ic_s2 h
        exact ev_ireturn (a := 0) (b := 20) rfl rfl rfl
    · have h := (if_neg c5).symm.trans h
      refine ev_aload_n (a := 0) (b := 6) rfl rfl ?_
      refine ev_iconst (a := 0) (b := 7) 0 rfl (by decide) ?_
      obtain ⟨v17, g15, e16, h⟩ := ic_b2E h
      refine ev_ivI (a := 0) (b := 8) [ic_I 0] rfl okX6_finding rfl lmX6_66 rfl (rc0) (Nat.le_of_ble_eq_true rfl) (eX6_finding e16) (Nat.le_of_ble_eq_true rfl) rfl ?_
      obtain ⟨rfl, rfl⟩ := ic_s2 h
      exact ev_ireturn (a := 0) (b := 9) rfl rfl rfl
set_option maxRecDepth 20000 in
theorem eX6_now {x1 : Int32} {g g' : ic_S} {v : Int32} (h : fX6_now x1 g = some (v, g')) : ic_Ev mX6_now 0 (ic_ag 0 [ic_R 0 0 0, ic_I x1]) [] g (some (ic_I v)) g' := by
  unfold fX6_now at h
  change ic_Ev mX6_now 0 [(0, ic_R 0 0 0), (1, ic_I x1)] [] g _ _
  refine ev_iload_n (a := 0) (b := 0) rfl rfl ?_
  rcases Decidable.em (x1 = 0) with c1 | c1
  · have h := (if_pos c1).symm.trans h
    refine ev_tsw1 (a := 0) (b := 1) 0 (47) 48 rfl c1 (by decide) (by decide) rfl rfl ?_
    refine ev_aload_n (a := 0) (b := 2) rfl rfl ?_
    refine ev_get (a := 0) (b := 3) 6 0 rfl rfl (Nat.le_of_ble_eq_true rfl) lfX6_10 (gX6_street) ?_
    refine ev_get (a := 0) (b := 4) 2 4 rfl rfl (Nat.le_of_ble_eq_true rfl) lfX6_106 (gX2_callNumber (by decide)) ?_
    obtain ⟨rfl, rfl⟩ := ic_s2 h
    exact ev_ireturn (a := 0) (b := 5) rfl rfl rfl
  · have h := (if_neg c1).symm.trans h
    rcases Decidable.em (x1 = 1) with c2 | c2
    · have h := (if_pos c2).symm.trans h
      refine ev_tsw1 (a := 0) (b := 1) 1 (55) 56 rfl c2 (by decide) (by decide) rfl rfl ?_
      refine ev_aload_n (a := 0) (b := 6) rfl rfl ?_
      refine ev_get (a := 0) (b := 7) 6 0 rfl rfl (Nat.le_of_ble_eq_true rfl) lfX6_10 (gX6_street) ?_
      refine ev_iconst (a := 0) (b := 8) 5 rfl (by decide) ?_
      refine ev_iconst (a := 0) (b := 9) 1 rfl (by decide) ?_
      obtain ⟨v11, g9, e10, h⟩ := ic_b2E h
      refine ev_ivI (a := 0) (b := 10) [ic_I 5, ic_I 1] rfl okX2_thingsWith rfl lmX6_115 rfl (rc1 (by decide)) (Nat.le_of_ble_eq_true rfl) (eX2_thingsWith e10) (Nat.le_of_ble_eq_true rfl) rfl ?_
      obtain ⟨rfl, rfl⟩ := ic_s2 h
      exact ev_ireturn (a := 0) (b := 11) rfl rfl rfl
    · have h := (if_neg c2).symm.trans h
      rcases Decidable.em (x1 = 2) with c3 | c3
      · have h := (if_pos c3).symm.trans h
        refine ev_tsw1 (a := 0) (b := 1) 2 (65) 66 rfl c3 (by decide) (by decide) rfl rfl ?_
        refine ev_aload_n (a := 0) (b := 12) rfl rfl ?_
        refine ev_get (a := 0) (b := 13) 6 0 rfl rfl (Nat.le_of_ble_eq_true rfl) lfX6_10 (gX6_street) ?_
        refine ev_iconst (a := 0) (b := 14) 3 rfl (by decide) ?_
        obtain ⟨v14, g12, e13, h⟩ := ic_b2E h
        refine ev_ivI (a := 0) (b := 15) [ic_I 3] rfl okX2_sumOf rfl lmX6_118 rfl (rc1 (by decide)) (Nat.le_of_ble_eq_true rfl) (eX2_sumOf e13) (Nat.le_of_ble_eq_true rfl) rfl ?_
        obtain ⟨rfl, rfl⟩ := ic_s2 h
        exact ev_ireturn (a := 0) (b := 16) rfl rfl rfl
      · have h := (if_neg c3).symm.trans h
        rcases Decidable.em (x1 = 3) with c4 | c4
        · have h := (if_pos c4).symm.trans h
          refine ev_tsw1 (a := 0) (b := 1) 3 (74) 75 rfl c4 (by decide) (by decide) rfl rfl ?_
          refine ev_aload_n (a := 0) (b := 17) rfl rfl ?_
          refine ev_get (a := 0) (b := 18) 6 0 rfl rfl (Nat.le_of_ble_eq_true rfl) lfX6_10 (gX6_street) ?_
          refine ev_bipush (a := 0) (b := 19) 6 rfl (by decide) ?_
          obtain ⟨v17, g15, e16, h⟩ := ic_b2E h
          refine ev_ivI (a := 0) (b := 20) [ic_I 6] rfl okX2_sumOf rfl lmX6_118 rfl (rc1 (by decide)) (Nat.le_of_ble_eq_true rfl) (eX2_sumOf e16) (Nat.le_of_ble_eq_true rfl) rfl ?_
          obtain ⟨rfl, rfl⟩ := ic_s2 h
          exact ev_ireturn (a := 0) (b := 21) rfl rfl rfl
        · have h := (if_neg c4).symm.trans h
          rcases Decidable.em (x1 = 4) with c5 | c5
          · have h := (if_pos c5).symm.trans h
            refine ev_tsw1 (a := 0) (b := 1) 4 (84) 85 rfl c5 (by decide) (by decide) rfl rfl ?_
            refine ev_aload_n (a := 0) (b := 22) rfl rfl ?_
            refine ev_get (a := 0) (b := 23) 6 0 rfl rfl (Nat.le_of_ble_eq_true rfl) lfX6_10 (gX6_street) ?_
            obtain ⟨v20, g18, e19, h⟩ := ic_b2E h
            refine ev_ivI (a := 0) (b := 24) [] rfl okX2_takenHeavy rfl lmX6_121 rfl (rc1 (by decide)) (Nat.le_of_ble_eq_true rfl) (eX2_takenHeavy e19) (Nat.le_of_ble_eq_true rfl) rfl ?_
            obtain ⟨rfl, rfl⟩ := ic_s2 h
            exact ev_ireturn (a := 0) (b := 25) rfl rfl rfl
          · have h := (if_neg c5).symm.trans h
            rcases Decidable.em (x1 = 5) with c6 | c6
            · have h := (if_pos c6).symm.trans h
              refine ev_tsw1 (a := 0) (b := 1) 5 (92) 93 rfl c6 (by decide) (by decide) rfl rfl ?_
              refine ev_aload_n (a := 0) (b := 26) rfl rfl ?_
              refine ev_get (a := 0) (b := 27) 6 0 rfl rfl (Nat.le_of_ble_eq_true rfl) lfX6_10 (gX6_street) ?_
              obtain ⟨v23, g21, e22, h⟩ := ic_b2E h
              refine ev_ivI (a := 0) (b := 28) [] rfl okX2_mostFeeling rfl lmX6_125 rfl (rc1 (by decide)) (Nat.le_of_ble_eq_true rfl) (eX2_mostFeeling e22) (Nat.le_of_ble_eq_true rfl) rfl ?_
              obtain ⟨rfl, rfl⟩ := ic_s2 h
              exact ev_ireturn (a := 0) (b := 29) rfl rfl rfl
            · have h := (if_neg c6).symm.trans h
              rcases Decidable.em (x1 = 6) with c7 | c7
              · have h := (if_pos c7).symm.trans h
                refine ev_tsw1 (a := 0) (b := 1) 6 (100) 101 rfl c7 (by decide) (by decide) rfl rfl ?_
                refine ev_aload_n (a := 0) (b := 30) rfl rfl ?_
                refine ev_get (a := 0) (b := 31) 6 0 rfl rfl (Nat.le_of_ble_eq_true rfl) lfX6_10 (gX6_street) ?_
                obtain ⟨v26, g24, e25, h⟩ := ic_b2E h
                refine ev_ivI (a := 1) (b := 0) [] rfl okX2_cellsInUse rfl lmX6_128 rfl (rc1 (by decide)) (Nat.le_of_ble_eq_true rfl) (eX2_cellsInUse e25) (Nat.le_of_ble_eq_true rfl) rfl ?_
                obtain ⟨rfl, rfl⟩ := ic_s2 h
                exact ev_ireturn (a := 1) (b := 1) rfl rfl rfl
              · have h := (if_neg c7).symm.trans h
                rcases Decidable.em (x1 = 7) with c8 | c8
                · have h := (if_pos c8).symm.trans h
                  refine ev_tsw1 (a := 0) (b := 1) 7 (108) 109 rfl c8 (by decide) (by decide) rfl rfl ?_
                  refine ev_aload_n (a := 1) (b := 2) rfl rfl ?_
                  refine ev_get (a := 1) (b := 3) 6 0 rfl rfl (Nat.le_of_ble_eq_true rfl) lfX6_10 (gX6_street) ?_
                  refine ev_iconst (a := 1) (b := 4) 4 rfl (by decide) ?_
                  refine ev_iconst (a := 1) (b := 5) 1 rfl (by decide) ?_
                  obtain ⟨v29, g27, e28, h⟩ := ic_b2E h
                  refine ev_ivI (a := 1) (b := 6) [ic_I 4, ic_I 1] rfl okX2_thingsWith rfl lmX6_115 rfl (rc1 (by decide)) (Nat.le_of_ble_eq_true rfl) (eX2_thingsWith e28) (Nat.le_of_ble_eq_true rfl) rfl ?_
                  obtain ⟨rfl, rfl⟩ := ic_s2 h
                  exact ev_ireturn (a := 1) (b := 7) rfl rfl rfl
                · have h := (if_neg c8).symm.trans h
                  refine ev_tsw0 (a := 0) (b := 1) [0, 1, 2, 3, 4, 5, 6, 7] 119 rfl (List.forall_mem_cons.mpr ⟨c1, List.forall_mem_cons.mpr ⟨c2, List.forall_mem_cons.mpr ⟨c3, List.forall_mem_cons.mpr ⟨c4, List.forall_mem_cons.mpr ⟨c5, List.forall_mem_cons.mpr ⟨c6, List.forall_mem_cons.mpr ⟨c7, List.forall_mem_cons.mpr ⟨c8, fun _ hh => absurd hh List.not_mem_nil⟩⟩⟩⟩⟩⟩⟩⟩) (by decide) (by decide) rfl ?_
                  refine ev_aload_n (a := 1) (b := 8) rfl rfl ?_
                  refine ev_iconst (a := 1) (b := 9) 0 rfl (by decide) ?_
                  obtain ⟨v32, g30, e31, h⟩ := ic_b2E h
                  refine ev_ivI (a := 1) (b := 10) [ic_I 0] rfl okX6_finding rfl lmX6_66 rfl (rc0) (Nat.le_of_ble_eq_true rfl) (eX6_finding e31) (Nat.le_of_ble_eq_true rfl) rfl ?_
                  obtain ⟨rfl, rfl⟩ := ic_s2 h
                  exact ev_ireturn (a := 1) (b := 11) rfl rfl rfl
set_option maxRecDepth 20000 in
theorem eX6_startTrial {g g' : ic_S} (h : fX6_startTrial  g = some g') : ic_Ev mX6_startTrial 0 (ic_ag 0 [ic_R 0 0 0]) [] g (none) g' := by
  unfold fX6_startTrial at h
  change ic_Ev mX6_startTrial 0 [(0, ic_R 0 0 0)] [] g _ _
  refine ev_aload_n (a := 0) (b := 0) rfl rfl ?_
  refine ev_get (a := 0) (b := 1) 6 1 rfl rfl (Nat.le_of_ble_eq_true rfl) lfX6_16 (gX6_trial) ?_
  refine ev_aload_n (a := 0) (b := 2) rfl rfl ?_
  refine ev_get (a := 0) (b := 3) 6 0 rfl rfl (Nat.le_of_ble_eq_true rfl) lfX6_10 (gX6_street) ?_
  obtain ⟨g1, e2, h⟩ := ic_b1E h
  refine ev_ivV (a := 0) (b := 4) [ic_O 1 (some (0, 0))] rfl okX2_match rfl lmX6_188 rfl (rc1 (by decide)) (Nat.le_of_ble_eq_true rfl) (eX2_match e2) (Nat.le_of_ble_eq_true rfl) rfl ?_
  obtain rfl := ic_s1 h
  exact ev_return (a := 0) (b := 5) rfl rfl
set_option maxRecDepth 20000 in
theorem eX6_ahead {x1 : Int32} {x2 : Int32} {x3 : Int32} {g g' : ic_S} {v : Int32} (h : fX6_ahead x1 x2 x3 g = some (v, g')) : ic_Ev mX6_ahead 0 (ic_ag 0 [ic_R 0 0 0, ic_I x1, ic_I x2, ic_I x3]) [] g (some (ic_I v)) g' := by
  unfold fX6_ahead at h
  change ic_Ev mX6_ahead 0 [(0, ic_R 0 0 0), (1, ic_I x1), (2, ic_I x2), (3, ic_I x3)] [] g _ _
  refine ev_iload_n (a := 0) (b := 0) rfl rfl ?_
  refine ev_iconst (a := 0) (b := 1) 1 rfl (by decide) ?_
  refine ev_iceq (a := 0) (b := 2) 21 rfl rfl (fun c1 => ?_) (fun c1 => ?_)
  · have h := (if_pos c1).symm.trans h
    refine ev_iconst (a := 0) (b := 12) 1 rfl (by decide) ?_
    refine ev_goto (a := 0) (b := 13) 26 rfl rfl ?_
    refine ev_istore (a := 0) (b := 15) [(0, ic_R 0 0 0), (1, ic_I x1), (2, ic_I x2), (3, ic_I x3), (4, ic_I 1)] rfl (by decide) (And.intro (Or.inr (And.intro rfl rfl)) (And.intro (Or.inr (And.intro rfl rfl)) (And.intro (Or.inr (And.intro rfl rfl)) (And.intro (Or.inr (And.intro rfl rfl)) (And.intro (Or.inl rfl) trivial))))) ?_
    refine ev_aload_n (a := 0) (b := 16) rfl rfl ?_
    refine ev_get (a := 0) (b := 17) 6 0 rfl rfl (Nat.le_of_ble_eq_true rfl) lfX6_10 (gX6_street) ?_
    refine ev_iload_n (a := 0) (b := 18) rfl rfl ?_
    obtain ⟨v4, g2, e3, h⟩ := ic_b2E h
    refine ev_ivI (a := 0) (b := 19) [ic_I x1] rfl okX2_hasThing rfl lmX6_90 rfl (rc1 (by decide)) (Nat.le_of_ble_eq_true rfl) (eX2_hasThing e3) (Nat.le_of_ble_eq_true rfl) rfl ?_
    refine ev_ifeq (a := 0) (b := 20) 54 rfl rfl (fun c5 => ?_) (fun c5 => ?_)
    · have h := (if_pos c5).symm.trans h
      refine ev_aload_n (a := 0) (b := 28) rfl rfl ?_
      refine ev_iconst (a := 0) (b := 29) 0 rfl (by decide) ?_
      obtain ⟨v8, g6, e7, h⟩ := ic_b2E h
      refine ev_ivI (a := 0) (b := 30) [ic_I 0] rfl okX6_finding rfl lmX6_66 rfl (rc0) (Nat.le_of_ble_eq_true rfl) (eX6_finding e7) (Nat.le_of_ble_eq_true rfl) rfl ?_
      obtain ⟨rfl, rfl⟩ := ic_s2 h
      exact ev_ireturn (a := 0) (b := 31) rfl rfl rfl
    · have h := (if_neg c5).symm.trans h
      refine ev_iload (a := 0) (b := 21) rfl rfl ?_
      refine ev_ifeq (a := 0) (b := 22) 54 rfl rfl (fun c => absurd c (by decide)) (fun _ => ?_)
      refine ev_iload_n (a := 0) (b := 23) rfl rfl ?_
      refine ev_iflt (a := 0) (b := 24) 54 rfl rfl (fun c9 => ?_) (fun c9 => ?_)
      · have h := (if_pos c9).symm.trans h
        refine ev_aload_n (a := 0) (b := 28) rfl rfl ?_
        refine ev_iconst (a := 0) (b := 29) 0 rfl (by decide) ?_
        obtain ⟨v12, g10, e11, h⟩ := ic_b2E h
        refine ev_ivI (a := 0) (b := 30) [ic_I 0] rfl okX6_finding rfl lmX6_66 rfl (rc0) (Nat.le_of_ble_eq_true rfl) (eX6_finding e11) (Nat.le_of_ble_eq_true rfl) rfl ?_
        obtain ⟨rfl, rfl⟩ := ic_s2 h
        exact ev_ireturn (a := 0) (b := 31) rfl rfl rfl
      · have h := (if_neg c9).symm.trans h
        refine ev_iload_n (a := 0) (b := 25) rfl rfl ?_
        refine ev_bipush (a := 0) (b := 26) 100 rfl (by decide) ?_
        refine ev_icle (a := 0) (b := 27) 60 rfl rfl (fun c13 => ?_) (fun c13 => ?_)
        · have h := (if_pos c13).symm.trans h
          refine ev_aload_n (a := 1) (b := 0) rfl rfl ?_
          obtain ⟨g14, e15, h⟩ := ic_b1E h
          refine ev_ivV (a := 1) (b := 1) [] rfl okX6_startTrial rfl lmX6_131 rfl (rc0) (Nat.le_of_ble_eq_true rfl) (eX6_startTrial e15) (Nat.le_of_ble_eq_true rfl) rfl ?_
          refine ev_aload_n (a := 1) (b := 2) rfl rfl ?_
          refine ev_get (a := 1) (b := 3) 6 1 rfl rfl (Nat.le_of_ble_eq_true rfl) lfX6_16 (gX6_trial) ?_
          refine ev_iload_n (a := 1) (b := 4) rfl rfl ?_
          obtain ⟨g16, e17, h⟩ := ic_b1E h
          refine ev_ivV (a := 1) (b := 5) [ic_I x3] rfl okX2_callTimes rfl lmX6_111 rfl (rc1 (by decide)) (Nat.le_of_ble_eq_true rfl) (eX2_callTimes e17) (Nat.le_of_ble_eq_true rfl) rfl ?_
          refine ev_aload_n (a := 1) (b := 6) rfl rfl ?_
          refine ev_get (a := 1) (b := 7) 6 1 rfl rfl (Nat.le_of_ble_eq_true rfl) lfX6_16 (gX6_trial) ?_
          refine ev_iload_n (a := 1) (b := 8) rfl rfl ?_
          refine ev_iload_n (a := 1) (b := 9) rfl rfl ?_
          obtain ⟨v20, g18, e19, h⟩ := ic_b2E h
          refine ev_ivI (a := 1) (b := 10) [ic_I x1, ic_I x2] rfl okX2_told rfl lmX6_87 rfl (rc1 (by decide)) (Nat.le_of_ble_eq_true rfl) (eX2_told e19) (Nat.le_of_ble_eq_true rfl) rfl ?_
          obtain ⟨rfl, rfl⟩ := ic_s2 h
          exact ev_ireturn (a := 1) (b := 11) rfl rfl rfl
        · have h := (if_neg c13).symm.trans h
          refine ev_aload_n (a := 0) (b := 28) rfl rfl ?_
          refine ev_iconst (a := 0) (b := 29) 0 rfl (by decide) ?_
          obtain ⟨v23, g21, e22, h⟩ := ic_b2E h
          refine ev_ivI (a := 0) (b := 30) [ic_I 0] rfl okX6_finding rfl lmX6_66 rfl (rc0) (Nat.le_of_ble_eq_true rfl) (eX6_finding e22) (Nat.le_of_ble_eq_true rfl) rfl ?_
          obtain ⟨rfl, rfl⟩ := ic_s2 h
          exact ev_ireturn (a := 0) (b := 31) rfl rfl rfl
  · have h := (if_neg c1).symm.trans h
    refine ev_iload_n (a := 0) (b := 3) rfl rfl ?_
    refine ev_iconst (a := 0) (b := 4) 3 rfl (by decide) ?_
    refine ev_iceq (a := 0) (b := 5) 21 rfl rfl (fun c24 => ?_) (fun c24 => ?_)
    · have h := (if_pos c24).symm.trans h
      refine ev_iconst (a := 0) (b := 12) 1 rfl (by decide) ?_
      refine ev_goto (a := 0) (b := 13) 26 rfl rfl ?_
      refine ev_istore (a := 0) (b := 15) [(0, ic_R 0 0 0), (1, ic_I x1), (2, ic_I x2), (3, ic_I x3), (4, ic_I 1)] rfl (by decide) (And.intro (Or.inr (And.intro rfl rfl)) (And.intro (Or.inr (And.intro rfl rfl)) (And.intro (Or.inr (And.intro rfl rfl)) (And.intro (Or.inr (And.intro rfl rfl)) (And.intro (Or.inl rfl) trivial))))) ?_
      refine ev_aload_n (a := 0) (b := 16) rfl rfl ?_
      refine ev_get (a := 0) (b := 17) 6 0 rfl rfl (Nat.le_of_ble_eq_true rfl) lfX6_10 (gX6_street) ?_
      refine ev_iload_n (a := 0) (b := 18) rfl rfl ?_
      obtain ⟨v27, g25, e26, h⟩ := ic_b2E h
      refine ev_ivI (a := 0) (b := 19) [ic_I x1] rfl okX2_hasThing rfl lmX6_90 rfl (rc1 (by decide)) (Nat.le_of_ble_eq_true rfl) (eX2_hasThing e26) (Nat.le_of_ble_eq_true rfl) rfl ?_
      refine ev_ifeq (a := 0) (b := 20) 54 rfl rfl (fun c28 => ?_) (fun c28 => ?_)
      · have h := (if_pos c28).symm.trans h
        refine ev_aload_n (a := 0) (b := 28) rfl rfl ?_
        refine ev_iconst (a := 0) (b := 29) 0 rfl (by decide) ?_
        obtain ⟨v31, g29, e30, h⟩ := ic_b2E h
        refine ev_ivI (a := 0) (b := 30) [ic_I 0] rfl okX6_finding rfl lmX6_66 rfl (rc0) (Nat.le_of_ble_eq_true rfl) (eX6_finding e30) (Nat.le_of_ble_eq_true rfl) rfl ?_
        obtain ⟨rfl, rfl⟩ := ic_s2 h
        exact ev_ireturn (a := 0) (b := 31) rfl rfl rfl
      · have h := (if_neg c28).symm.trans h
        refine ev_iload (a := 0) (b := 21) rfl rfl ?_
        refine ev_ifeq (a := 0) (b := 22) 54 rfl rfl (fun c => absurd c (by decide)) (fun _ => ?_)
        refine ev_iload_n (a := 0) (b := 23) rfl rfl ?_
        refine ev_iflt (a := 0) (b := 24) 54 rfl rfl (fun c32 => ?_) (fun c32 => ?_)
        · have h := (if_pos c32).symm.trans h
          refine ev_aload_n (a := 0) (b := 28) rfl rfl ?_
          refine ev_iconst (a := 0) (b := 29) 0 rfl (by decide) ?_
          obtain ⟨v35, g33, e34, h⟩ := ic_b2E h
          refine ev_ivI (a := 0) (b := 30) [ic_I 0] rfl okX6_finding rfl lmX6_66 rfl (rc0) (Nat.le_of_ble_eq_true rfl) (eX6_finding e34) (Nat.le_of_ble_eq_true rfl) rfl ?_
          obtain ⟨rfl, rfl⟩ := ic_s2 h
          exact ev_ireturn (a := 0) (b := 31) rfl rfl rfl
        · have h := (if_neg c32).symm.trans h
          refine ev_iload_n (a := 0) (b := 25) rfl rfl ?_
          refine ev_bipush (a := 0) (b := 26) 100 rfl (by decide) ?_
          refine ev_icle (a := 0) (b := 27) 60 rfl rfl (fun c36 => ?_) (fun c36 => ?_)
          · have h := (if_pos c36).symm.trans h
            refine ev_aload_n (a := 1) (b := 0) rfl rfl ?_
            obtain ⟨g37, e38, h⟩ := ic_b1E h
            refine ev_ivV (a := 1) (b := 1) [] rfl okX6_startTrial rfl lmX6_131 rfl (rc0) (Nat.le_of_ble_eq_true rfl) (eX6_startTrial e38) (Nat.le_of_ble_eq_true rfl) rfl ?_
            refine ev_aload_n (a := 1) (b := 2) rfl rfl ?_
            refine ev_get (a := 1) (b := 3) 6 1 rfl rfl (Nat.le_of_ble_eq_true rfl) lfX6_16 (gX6_trial) ?_
            refine ev_iload_n (a := 1) (b := 4) rfl rfl ?_
            obtain ⟨g39, e40, h⟩ := ic_b1E h
            refine ev_ivV (a := 1) (b := 5) [ic_I x3] rfl okX2_callTimes rfl lmX6_111 rfl (rc1 (by decide)) (Nat.le_of_ble_eq_true rfl) (eX2_callTimes e40) (Nat.le_of_ble_eq_true rfl) rfl ?_
            refine ev_aload_n (a := 1) (b := 6) rfl rfl ?_
            refine ev_get (a := 1) (b := 7) 6 1 rfl rfl (Nat.le_of_ble_eq_true rfl) lfX6_16 (gX6_trial) ?_
            refine ev_iload_n (a := 1) (b := 8) rfl rfl ?_
            refine ev_iload_n (a := 1) (b := 9) rfl rfl ?_
            obtain ⟨v43, g41, e42, h⟩ := ic_b2E h
            refine ev_ivI (a := 1) (b := 10) [ic_I x1, ic_I x2] rfl okX2_told rfl lmX6_87 rfl (rc1 (by decide)) (Nat.le_of_ble_eq_true rfl) (eX2_told e42) (Nat.le_of_ble_eq_true rfl) rfl ?_
            obtain ⟨rfl, rfl⟩ := ic_s2 h
            exact ev_ireturn (a := 1) (b := 11) rfl rfl rfl
          · have h := (if_neg c36).symm.trans h
            refine ev_aload_n (a := 0) (b := 28) rfl rfl ?_
            refine ev_iconst (a := 0) (b := 29) 0 rfl (by decide) ?_
            obtain ⟨v46, g44, e45, h⟩ := ic_b2E h
            refine ev_ivI (a := 0) (b := 30) [ic_I 0] rfl okX6_finding rfl lmX6_66 rfl (rc0) (Nat.le_of_ble_eq_true rfl) (eX6_finding e45) (Nat.le_of_ble_eq_true rfl) rfl ?_
            obtain ⟨rfl, rfl⟩ := ic_s2 h
            exact ev_ireturn (a := 0) (b := 31) rfl rfl rfl
    · have h := (if_neg c24).symm.trans h
      refine ev_iload_n (a := 0) (b := 6) rfl rfl ?_
      refine ev_iconst (a := 0) (b := 7) 5 rfl (by decide) ?_
      refine ev_iceq (a := 0) (b := 8) 21 rfl rfl (fun c47 => ?_) (fun c47 => ?_)
      · have h := (if_pos c47).symm.trans h
        refine ev_iconst (a := 0) (b := 12) 1 rfl (by decide) ?_
        refine ev_goto (a := 0) (b := 13) 26 rfl rfl ?_
        refine ev_istore (a := 0) (b := 15) [(0, ic_R 0 0 0), (1, ic_I x1), (2, ic_I x2), (3, ic_I x3), (4, ic_I 1)] rfl (by decide) (And.intro (Or.inr (And.intro rfl rfl)) (And.intro (Or.inr (And.intro rfl rfl)) (And.intro (Or.inr (And.intro rfl rfl)) (And.intro (Or.inr (And.intro rfl rfl)) (And.intro (Or.inl rfl) trivial))))) ?_
        refine ev_aload_n (a := 0) (b := 16) rfl rfl ?_
        refine ev_get (a := 0) (b := 17) 6 0 rfl rfl (Nat.le_of_ble_eq_true rfl) lfX6_10 (gX6_street) ?_
        refine ev_iload_n (a := 0) (b := 18) rfl rfl ?_
        obtain ⟨v50, g48, e49, h⟩ := ic_b2E h
        refine ev_ivI (a := 0) (b := 19) [ic_I x1] rfl okX2_hasThing rfl lmX6_90 rfl (rc1 (by decide)) (Nat.le_of_ble_eq_true rfl) (eX2_hasThing e49) (Nat.le_of_ble_eq_true rfl) rfl ?_
        refine ev_ifeq (a := 0) (b := 20) 54 rfl rfl (fun c51 => ?_) (fun c51 => ?_)
        · have h := (if_pos c51).symm.trans h
          refine ev_aload_n (a := 0) (b := 28) rfl rfl ?_
          refine ev_iconst (a := 0) (b := 29) 0 rfl (by decide) ?_
          obtain ⟨v54, g52, e53, h⟩ := ic_b2E h
          refine ev_ivI (a := 0) (b := 30) [ic_I 0] rfl okX6_finding rfl lmX6_66 rfl (rc0) (Nat.le_of_ble_eq_true rfl) (eX6_finding e53) (Nat.le_of_ble_eq_true rfl) rfl ?_
          obtain ⟨rfl, rfl⟩ := ic_s2 h
          exact ev_ireturn (a := 0) (b := 31) rfl rfl rfl
        · have h := (if_neg c51).symm.trans h
          refine ev_iload (a := 0) (b := 21) rfl rfl ?_
          refine ev_ifeq (a := 0) (b := 22) 54 rfl rfl (fun c => absurd c (by decide)) (fun _ => ?_)
          refine ev_iload_n (a := 0) (b := 23) rfl rfl ?_
          refine ev_iflt (a := 0) (b := 24) 54 rfl rfl (fun c55 => ?_) (fun c55 => ?_)
          · have h := (if_pos c55).symm.trans h
            refine ev_aload_n (a := 0) (b := 28) rfl rfl ?_
            refine ev_iconst (a := 0) (b := 29) 0 rfl (by decide) ?_
            obtain ⟨v58, g56, e57, h⟩ := ic_b2E h
            refine ev_ivI (a := 0) (b := 30) [ic_I 0] rfl okX6_finding rfl lmX6_66 rfl (rc0) (Nat.le_of_ble_eq_true rfl) (eX6_finding e57) (Nat.le_of_ble_eq_true rfl) rfl ?_
            obtain ⟨rfl, rfl⟩ := ic_s2 h
            exact ev_ireturn (a := 0) (b := 31) rfl rfl rfl
          · have h := (if_neg c55).symm.trans h
            refine ev_iload_n (a := 0) (b := 25) rfl rfl ?_
            refine ev_bipush (a := 0) (b := 26) 100 rfl (by decide) ?_
            refine ev_icle (a := 0) (b := 27) 60 rfl rfl (fun c59 => ?_) (fun c59 => ?_)
            · have h := (if_pos c59).symm.trans h
              refine ev_aload_n (a := 1) (b := 0) rfl rfl ?_
              obtain ⟨g60, e61, h⟩ := ic_b1E h
              refine ev_ivV (a := 1) (b := 1) [] rfl okX6_startTrial rfl lmX6_131 rfl (rc0) (Nat.le_of_ble_eq_true rfl) (eX6_startTrial e61) (Nat.le_of_ble_eq_true rfl) rfl ?_
              refine ev_aload_n (a := 1) (b := 2) rfl rfl ?_
              refine ev_get (a := 1) (b := 3) 6 1 rfl rfl (Nat.le_of_ble_eq_true rfl) lfX6_16 (gX6_trial) ?_
              refine ev_iload_n (a := 1) (b := 4) rfl rfl ?_
              obtain ⟨g62, e63, h⟩ := ic_b1E h
              refine ev_ivV (a := 1) (b := 5) [ic_I x3] rfl okX2_callTimes rfl lmX6_111 rfl (rc1 (by decide)) (Nat.le_of_ble_eq_true rfl) (eX2_callTimes e63) (Nat.le_of_ble_eq_true rfl) rfl ?_
              refine ev_aload_n (a := 1) (b := 6) rfl rfl ?_
              refine ev_get (a := 1) (b := 7) 6 1 rfl rfl (Nat.le_of_ble_eq_true rfl) lfX6_16 (gX6_trial) ?_
              refine ev_iload_n (a := 1) (b := 8) rfl rfl ?_
              refine ev_iload_n (a := 1) (b := 9) rfl rfl ?_
              obtain ⟨v66, g64, e65, h⟩ := ic_b2E h
              refine ev_ivI (a := 1) (b := 10) [ic_I x1, ic_I x2] rfl okX2_told rfl lmX6_87 rfl (rc1 (by decide)) (Nat.le_of_ble_eq_true rfl) (eX2_told e65) (Nat.le_of_ble_eq_true rfl) rfl ?_
              obtain ⟨rfl, rfl⟩ := ic_s2 h
              exact ev_ireturn (a := 1) (b := 11) rfl rfl rfl
            · have h := (if_neg c59).symm.trans h
              refine ev_aload_n (a := 0) (b := 28) rfl rfl ?_
              refine ev_iconst (a := 0) (b := 29) 0 rfl (by decide) ?_
              obtain ⟨v69, g67, e68, h⟩ := ic_b2E h
              refine ev_ivI (a := 0) (b := 30) [ic_I 0] rfl okX6_finding rfl lmX6_66 rfl (rc0) (Nat.le_of_ble_eq_true rfl) (eX6_finding e68) (Nat.le_of_ble_eq_true rfl) rfl ?_
              obtain ⟨rfl, rfl⟩ := ic_s2 h
              exact ev_ireturn (a := 0) (b := 31) rfl rfl rfl
      · have h := (if_neg c47).symm.trans h
        refine ev_iload_n (a := 0) (b := 9) rfl rfl ?_
        refine ev_bipush (a := 0) (b := 10) 6 rfl (by decide) ?_
        refine ev_icne (a := 0) (b := 11) 25 rfl rfl (fun c70 => ?_) (fun c70 => ?_)
        · have h := (if_neg c70).symm.trans h
          refine ev_iconst (a := 0) (b := 14) 0 rfl (by decide) ?_
          refine ev_istore (a := 0) (b := 15) [(0, ic_R 0 0 0), (1, ic_I x1), (2, ic_I x2), (3, ic_I x3), (4, ic_I 0)] rfl (by decide) (And.intro (Or.inr (And.intro rfl rfl)) (And.intro (Or.inr (And.intro rfl rfl)) (And.intro (Or.inr (And.intro rfl rfl)) (And.intro (Or.inr (And.intro rfl rfl)) (And.intro (Or.inl rfl) trivial))))) ?_
          refine ev_aload_n (a := 0) (b := 16) rfl rfl ?_
          refine ev_get (a := 0) (b := 17) 6 0 rfl rfl (Nat.le_of_ble_eq_true rfl) lfX6_10 (gX6_street) ?_
          refine ev_iload_n (a := 0) (b := 18) rfl rfl ?_
          obtain ⟨v73, g71, e72, h⟩ := ic_b2E h
          refine ev_ivI (a := 0) (b := 19) [ic_I x1] rfl okX2_hasThing rfl lmX6_90 rfl (rc1 (by decide)) (Nat.le_of_ble_eq_true rfl) (eX2_hasThing e72) (Nat.le_of_ble_eq_true rfl) rfl ?_
          refine ev_ifeq (a := 0) (b := 20) 54 rfl rfl (fun c74 => ?_) (fun c74 => ?_)
          · have h := (if_pos c74).symm.trans h
            refine ev_aload_n (a := 0) (b := 28) rfl rfl ?_
            refine ev_iconst (a := 0) (b := 29) 0 rfl (by decide) ?_
            obtain ⟨v77, g75, e76, h⟩ := ic_b2E h
            refine ev_ivI (a := 0) (b := 30) [ic_I 0] rfl okX6_finding rfl lmX6_66 rfl (rc0) (Nat.le_of_ble_eq_true rfl) (eX6_finding e76) (Nat.le_of_ble_eq_true rfl) rfl ?_
            obtain ⟨rfl, rfl⟩ := ic_s2 h
            exact ev_ireturn (a := 0) (b := 31) rfl rfl rfl
          · have h := (if_neg c74).symm.trans h
            refine ev_iload (a := 0) (b := 21) rfl rfl ?_
            refine ev_ifeq (a := 0) (b := 22) 54 rfl rfl (fun _ => ?_) (fun c => absurd (by decide) c)
            refine ev_aload_n (a := 0) (b := 28) rfl rfl ?_
            refine ev_iconst (a := 0) (b := 29) 0 rfl (by decide) ?_
            obtain ⟨v80, g78, e79, h⟩ := ic_b2E h
            refine ev_ivI (a := 0) (b := 30) [ic_I 0] rfl okX6_finding rfl lmX6_66 rfl (rc0) (Nat.le_of_ble_eq_true rfl) (eX6_finding e79) (Nat.le_of_ble_eq_true rfl) rfl ?_
            obtain ⟨rfl, rfl⟩ := ic_s2 h
            exact ev_ireturn (a := 0) (b := 31) rfl rfl rfl
        · have h := (if_pos c70).symm.trans h
          refine ev_iconst (a := 0) (b := 12) 1 rfl (by decide) ?_
          refine ev_goto (a := 0) (b := 13) 26 rfl rfl ?_
          refine ev_istore (a := 0) (b := 15) [(0, ic_R 0 0 0), (1, ic_I x1), (2, ic_I x2), (3, ic_I x3), (4, ic_I 1)] rfl (by decide) (And.intro (Or.inr (And.intro rfl rfl)) (And.intro (Or.inr (And.intro rfl rfl)) (And.intro (Or.inr (And.intro rfl rfl)) (And.intro (Or.inr (And.intro rfl rfl)) (And.intro (Or.inl rfl) trivial))))) ?_
          refine ev_aload_n (a := 0) (b := 16) rfl rfl ?_
          refine ev_get (a := 0) (b := 17) 6 0 rfl rfl (Nat.le_of_ble_eq_true rfl) lfX6_10 (gX6_street) ?_
          refine ev_iload_n (a := 0) (b := 18) rfl rfl ?_
          obtain ⟨v83, g81, e82, h⟩ := ic_b2E h
          refine ev_ivI (a := 0) (b := 19) [ic_I x1] rfl okX2_hasThing rfl lmX6_90 rfl (rc1 (by decide)) (Nat.le_of_ble_eq_true rfl) (eX2_hasThing e82) (Nat.le_of_ble_eq_true rfl) rfl ?_
          refine ev_ifeq (a := 0) (b := 20) 54 rfl rfl (fun c84 => ?_) (fun c84 => ?_)
          · have h := (if_pos c84).symm.trans h
            refine ev_aload_n (a := 0) (b := 28) rfl rfl ?_
            refine ev_iconst (a := 0) (b := 29) 0 rfl (by decide) ?_
            obtain ⟨v87, g85, e86, h⟩ := ic_b2E h
            refine ev_ivI (a := 0) (b := 30) [ic_I 0] rfl okX6_finding rfl lmX6_66 rfl (rc0) (Nat.le_of_ble_eq_true rfl) (eX6_finding e86) (Nat.le_of_ble_eq_true rfl) rfl ?_
            obtain ⟨rfl, rfl⟩ := ic_s2 h
            exact ev_ireturn (a := 0) (b := 31) rfl rfl rfl
          · have h := (if_neg c84).symm.trans h
            refine ev_iload (a := 0) (b := 21) rfl rfl ?_
            refine ev_ifeq (a := 0) (b := 22) 54 rfl rfl (fun c => absurd c (by decide)) (fun _ => ?_)
            refine ev_iload_n (a := 0) (b := 23) rfl rfl ?_
            refine ev_iflt (a := 0) (b := 24) 54 rfl rfl (fun c88 => ?_) (fun c88 => ?_)
            · have h := (if_pos c88).symm.trans h
              refine ev_aload_n (a := 0) (b := 28) rfl rfl ?_
              refine ev_iconst (a := 0) (b := 29) 0 rfl (by decide) ?_
              obtain ⟨v91, g89, e90, h⟩ := ic_b2E h
              refine ev_ivI (a := 0) (b := 30) [ic_I 0] rfl okX6_finding rfl lmX6_66 rfl (rc0) (Nat.le_of_ble_eq_true rfl) (eX6_finding e90) (Nat.le_of_ble_eq_true rfl) rfl ?_
              obtain ⟨rfl, rfl⟩ := ic_s2 h
              exact ev_ireturn (a := 0) (b := 31) rfl rfl rfl
            · have h := (if_neg c88).symm.trans h
              refine ev_iload_n (a := 0) (b := 25) rfl rfl ?_
              refine ev_bipush (a := 0) (b := 26) 100 rfl (by decide) ?_
              refine ev_icle (a := 0) (b := 27) 60 rfl rfl (fun c92 => ?_) (fun c92 => ?_)
              · have h := (if_pos c92).symm.trans h
                refine ev_aload_n (a := 1) (b := 0) rfl rfl ?_
                obtain ⟨g93, e94, h⟩ := ic_b1E h
                refine ev_ivV (a := 1) (b := 1) [] rfl okX6_startTrial rfl lmX6_131 rfl (rc0) (Nat.le_of_ble_eq_true rfl) (eX6_startTrial e94) (Nat.le_of_ble_eq_true rfl) rfl ?_
                refine ev_aload_n (a := 1) (b := 2) rfl rfl ?_
                refine ev_get (a := 1) (b := 3) 6 1 rfl rfl (Nat.le_of_ble_eq_true rfl) lfX6_16 (gX6_trial) ?_
                refine ev_iload_n (a := 1) (b := 4) rfl rfl ?_
                obtain ⟨g95, e96, h⟩ := ic_b1E h
                refine ev_ivV (a := 1) (b := 5) [ic_I x3] rfl okX2_callTimes rfl lmX6_111 rfl (rc1 (by decide)) (Nat.le_of_ble_eq_true rfl) (eX2_callTimes e96) (Nat.le_of_ble_eq_true rfl) rfl ?_
                refine ev_aload_n (a := 1) (b := 6) rfl rfl ?_
                refine ev_get (a := 1) (b := 7) 6 1 rfl rfl (Nat.le_of_ble_eq_true rfl) lfX6_16 (gX6_trial) ?_
                refine ev_iload_n (a := 1) (b := 8) rfl rfl ?_
                refine ev_iload_n (a := 1) (b := 9) rfl rfl ?_
                obtain ⟨v99, g97, e98, h⟩ := ic_b2E h
                refine ev_ivI (a := 1) (b := 10) [ic_I x1, ic_I x2] rfl okX2_told rfl lmX6_87 rfl (rc1 (by decide)) (Nat.le_of_ble_eq_true rfl) (eX2_told e98) (Nat.le_of_ble_eq_true rfl) rfl ?_
                obtain ⟨rfl, rfl⟩ := ic_s2 h
                exact ev_ireturn (a := 1) (b := 11) rfl rfl rfl
              · have h := (if_neg c92).symm.trans h
                refine ev_aload_n (a := 0) (b := 28) rfl rfl ?_
                refine ev_iconst (a := 0) (b := 29) 0 rfl (by decide) ?_
                obtain ⟨v102, g100, e101, h⟩ := ic_b2E h
                refine ev_ivI (a := 0) (b := 30) [ic_I 0] rfl okX6_finding rfl lmX6_66 rfl (rc0) (Nat.le_of_ble_eq_true rfl) (eX6_finding e101) (Nat.le_of_ble_eq_true rfl) rfl ?_
                obtain ⟨rfl, rfl⟩ := ic_s2 h
                exact ev_ireturn (a := 0) (b := 31) rfl rfl rfl
set_option maxRecDepth 20000 in
theorem eX6_where {x1 : Int32} {g g' : ic_S} {v : Int32} (h : fX6_where x1 g = some (v, g')) : ic_Ev mX6_where 0 (ic_ag 0 [ic_R 0 0 0, ic_I x1]) [] g (some (ic_I v)) g' := by
  unfold fX6_where at h
  change ic_Ev mX6_where 0 [(0, ic_R 0 0 0), (1, ic_I x1)] [] g _ _
  refine ev_iload_n (a := 0) (b := 0) rfl rfl ?_
  refine ev_iflt (a := 0) (b := 1) 10 rfl rfl (fun c1 => ?_) (fun c1 => ?_)
  · have h := (if_pos c1).symm.trans h
    refine ev_aload_n (a := 0) (b := 5) rfl rfl ?_
    refine ev_iconst (a := 0) (b := 6) 0 rfl (by decide) ?_
    obtain ⟨v4, g2, e3, h⟩ := ic_b2E h
    refine ev_ivI (a := 0) (b := 7) [ic_I 0] rfl okX6_finding rfl lmX6_66 rfl (rc0) (Nat.le_of_ble_eq_true rfl) (eX6_finding e3) (Nat.le_of_ble_eq_true rfl) rfl ?_
    obtain ⟨rfl, rfl⟩ := ic_s2 h
    exact ev_ireturn (a := 0) (b := 8) rfl rfl rfl
  · have h := (if_neg c1).symm.trans h
    refine ev_iload_n (a := 0) (b := 2) rfl rfl ?_
    refine ev_bipush (a := 0) (b := 3) 100 rfl (by decide) ?_
    refine ev_icle (a := 0) (b := 4) 16 rfl rfl (fun c5 => ?_) (fun c5 => ?_)
    · have h := (if_pos c5).symm.trans h
      refine ev_aload_n (a := 0) (b := 9) rfl rfl ?_
      obtain ⟨g6, e7, h⟩ := ic_b1E h
      refine ev_ivV (a := 0) (b := 10) [] rfl okX6_startTrial rfl lmX6_131 rfl (rc0) (Nat.le_of_ble_eq_true rfl) (eX6_startTrial e7) (Nat.le_of_ble_eq_true rfl) rfl ?_
      refine ev_aload_n (a := 0) (b := 11) rfl rfl ?_
      refine ev_get (a := 0) (b := 12) 6 1 rfl rfl (Nat.le_of_ble_eq_true rfl) lfX6_16 (gX6_trial) ?_
      refine ev_iload_n (a := 0) (b := 13) rfl rfl ?_
      obtain ⟨g8, e9, h⟩ := ic_b1E h
      refine ev_ivV (a := 0) (b := 14) [ic_I x1] rfl okX2_callTimes rfl lmX6_111 rfl (rc1 (by decide)) (Nat.le_of_ble_eq_true rfl) (eX2_callTimes e9) (Nat.le_of_ble_eq_true rfl) rfl ?_
      refine ev_aload_n (a := 0) (b := 15) rfl rfl ?_
      refine ev_get (a := 0) (b := 16) 6 1 rfl rfl (Nat.le_of_ble_eq_true rfl) lfX6_16 (gX6_trial) ?_
      refine ev_get (a := 0) (b := 17) 2 0 rfl rfl (Nat.le_of_ble_eq_true rfl) lfX6_134 (gX2_cell (by decide)) ?_
      obtain ⟨rfl, rfl⟩ := ic_s2 h
      exact ev_ireturn (a := 0) (b := 18) rfl rfl rfl
    · have h := (if_neg c5).symm.trans h
      refine ev_aload_n (a := 0) (b := 5) rfl rfl ?_
      refine ev_iconst (a := 0) (b := 6) 0 rfl (by decide) ?_
      obtain ⟨v12, g10, e11, h⟩ := ic_b2E h
      refine ev_ivI (a := 0) (b := 7) [ic_I 0] rfl okX6_finding rfl lmX6_66 rfl (rc0) (Nat.le_of_ble_eq_true rfl) (eX6_finding e11) (Nat.le_of_ble_eq_true rfl) rfl ?_
      obtain ⟨rfl, rfl⟩ := ic_s2 h
      exact ev_ireturn (a := 0) (b := 8) rfl rfl rfl
set_option maxRecDepth 20000 in
theorem tX6_fewestCalls_7 {x1 : Int32} {x2 : Int32} {x3 : Int32} {x4 : Int32} : ∀ (n : Nat) (x5 : Int32) (g : ic_S) (q : (Int32 × ic_S) ⊕ (Unit × ic_S)), lX6_fewestCalls_7 x1 x2 x3 x4 n x5 g = some q → ∀ (r : Option ic_V) (g' : ic_S), ic_lq q r g' (fun y z => ic_Ev mX6_fewestCalls 56 [(0, ic_R 0 0 0)] [] z r g') → ic_Ev mX6_fewestCalls 7 [(0, ic_R 0 0 0), (1, ic_I x1), (2, ic_I x2), (3, ic_I x3), (4, ic_I x4), (5, ic_I x5)] [] g r g' := by
  intro n
  induction n with
  | zero => intro x5 g q h; cases h
  | succ n ih =>
    intro x5 g q h r g' hq
    rw [lX6_fewestCalls_7] at h
    refine ev_iload (a := 0) (b := 4) rfl rfl ?_
    refine ev_sipush (a := 0) (b := 5) 200 rfl (by decide) ?_
    refine ev_icgt (a := 0) (b := 6) 56 rfl rfl (fun c1001 => ?_) (fun c1001 => ?_)
    · have h := (if_pos c1001).symm.trans h
      obtain rfl := ic_s1 h
      exact ev_fw (lv' := [(0, ic_R 0 0 0)]) hq (And.intro rfl trivial)
    · have h := (if_neg c1001).symm.trans h
      refine ev_aload_n (a := 0) (b := 7) rfl rfl ?_
      refine ev_get (a := 0) (b := 8) 6 1 rfl rfl (Nat.le_of_ble_eq_true rfl) lfX6_16 (gX6_trial) ?_
      refine ev_iload_n (a := 0) (b := 9) rfl rfl ?_
      refine ev_iload_n (a := 0) (b := 10) rfl rfl ?_
      obtain ⟨v1004, g1002, e1003, h⟩ := ic_b2E h
      refine ev_ivI (a := 0) (b := 11) [ic_I x1, ic_I x2] rfl okX2_told rfl lmX6_87 rfl (rc1 (by decide)) (Nat.le_of_ble_eq_true rfl) (eX2_told e1003) (Nat.le_of_ble_eq_true rfl) rfl ?_
      refine ev_istore (a := 0) (b := 12) [(0, ic_R 0 0 0), (1, ic_I x1), (2, ic_I x2), (3, ic_I x3), (4, ic_I x4), (5, ic_I x5), (6, ic_I v1004)] rfl (by decide) (And.intro (Or.inr (And.intro rfl rfl)) (And.intro (Or.inr (And.intro rfl rfl)) (And.intro (Or.inr (And.intro rfl rfl)) (And.intro (Or.inr (And.intro rfl rfl)) (And.intro (Or.inr (And.intro rfl rfl)) (And.intro (Or.inr (And.intro rfl rfl)) (And.intro (Or.inl rfl) trivial))))))) ?_
      refine ev_iload (a := 0) (b := 13) rfl rfl ?_
      refine ev_iload_n (a := 0) (b := 14) rfl rfl ?_
      refine ev_iclt (a := 0) (b := 15) 42 rfl rfl (fun c1005 => ?_) (fun c1005 => ?_)
      · have h := (if_pos c1005).symm.trans h
        refine ev_aload_n (a := 0) (b := 21) rfl rfl ?_
        refine ev_get (a := 0) (b := 22) 6 1 rfl rfl (Nat.le_of_ble_eq_true rfl) lfX6_16 (gX6_trial) ?_
        refine ev_iconst (a := 0) (b := 23) 1 rfl (by decide) ?_
        obtain ⟨g1006, e1007, h⟩ := ic_b1E h
        refine ev_ivV (a := 0) (b := 24) [ic_I 1] rfl okX2_callTimes rfl lmX6_111 rfl (rc1 (by decide)) (Nat.le_of_ble_eq_true rfl) (eX2_callTimes e1007) (Nat.le_of_ble_eq_true rfl) rfl ?_
        refine ev_iinc (a := 0) (b := 25) (x5 + 1) [(0, ic_R 0 0 0), (1, ic_I x1), (2, ic_I x2), (3, ic_I x3), (4, ic_I x4), (5, ic_I (x5 + 1))] rfl rfl (by first | rfl | decide) (by decide) (And.intro (Or.inr (And.intro rfl rfl)) (And.intro (Or.inr (And.intro rfl rfl)) (And.intro (Or.inr (And.intro rfl rfl)) (And.intro (Or.inr (And.intro rfl rfl)) (And.intro (Or.inr (And.intro rfl rfl)) (And.intro (Or.inl rfl) trivial)))))) ?_
        refine ev_goto (a := 0) (b := 26) 7 rfl rfl ?_
        refine ev_fw (lv' := [(0, ic_R 0 0 0), (1, ic_I x1), (2, ic_I x2), (3, ic_I x3), (4, ic_I x4), (5, ic_I (x5 + 1))]) ?_ (And.intro rfl (And.intro rfl (And.intro rfl (And.intro rfl (And.intro rfl (And.intro rfl trivial))))))
        exact ih (x5 + 1) g1006 _ h _ _ hq
      · have h := (if_neg c1005).symm.trans h
        refine ev_iload (a := 0) (b := 16) rfl rfl ?_
        refine ev_iload (a := 0) (b := 17) rfl rfl ?_
        refine ev_icgt (a := 0) (b := 18) 42 rfl rfl (fun c1008 => ?_) (fun c1008 => ?_)
        · have h := (if_pos c1008).symm.trans h
          refine ev_aload_n (a := 0) (b := 21) rfl rfl ?_
          refine ev_get (a := 0) (b := 22) 6 1 rfl rfl (Nat.le_of_ble_eq_true rfl) lfX6_16 (gX6_trial) ?_
          refine ev_iconst (a := 0) (b := 23) 1 rfl (by decide) ?_
          obtain ⟨g1009, e1010, h⟩ := ic_b1E h
          refine ev_ivV (a := 0) (b := 24) [ic_I 1] rfl okX2_callTimes rfl lmX6_111 rfl (rc1 (by decide)) (Nat.le_of_ble_eq_true rfl) (eX2_callTimes e1010) (Nat.le_of_ble_eq_true rfl) rfl ?_
          refine ev_iinc (a := 0) (b := 25) (x5 + 1) [(0, ic_R 0 0 0), (1, ic_I x1), (2, ic_I x2), (3, ic_I x3), (4, ic_I x4), (5, ic_I (x5 + 1))] rfl rfl (by first | rfl | decide) (by decide) (And.intro (Or.inr (And.intro rfl rfl)) (And.intro (Or.inr (And.intro rfl rfl)) (And.intro (Or.inr (And.intro rfl rfl)) (And.intro (Or.inr (And.intro rfl rfl)) (And.intro (Or.inr (And.intro rfl rfl)) (And.intro (Or.inl rfl) trivial)))))) ?_
          refine ev_goto (a := 0) (b := 26) 7 rfl rfl ?_
          refine ev_fw (lv' := [(0, ic_R 0 0 0), (1, ic_I x1), (2, ic_I x2), (3, ic_I x3), (4, ic_I x4), (5, ic_I (x5 + 1))]) ?_ (And.intro rfl (And.intro rfl (And.intro rfl (And.intro rfl (And.intro rfl (And.intro rfl trivial))))))
          exact ih (x5 + 1) g1009 _ h _ _ hq
        · have h := (if_neg c1008).symm.trans h
          refine ev_iload (a := 0) (b := 19) rfl rfl ?_
          obtain rfl := ic_s1 h
          obtain ⟨rfl, rfl⟩ := hq
          exact ev_ireturn (a := 0) (b := 20) rfl rfl rfl
set_option maxRecDepth 20000 in
theorem eX6_fewestCalls {x1 : Int32} {x2 : Int32} {x3 : Int32} {x4 : Int32} {g g' : ic_S} {v : Int32} (h : fX6_fewestCalls x1 x2 x3 x4 g = some (v, g')) : ic_Ev mX6_fewestCalls 0 (ic_ag 0 [ic_R 0 0 0, ic_I x1, ic_I x2, ic_I x3, ic_I x4]) [] g (some (ic_I v)) g' := by
  unfold fX6_fewestCalls at h
  change ic_Ev mX6_fewestCalls 0 [(0, ic_R 0 0 0), (1, ic_I x1), (2, ic_I x2), (3, ic_I x3), (4, ic_I x4)] [] g _ _
  refine ev_aload_n (a := 0) (b := 0) rfl rfl ?_
  obtain ⟨g1, e2, h⟩ := ic_b1E h
  refine ev_ivV (a := 0) (b := 1) [] rfl okX6_startTrial rfl lmX6_131 rfl (rc0) (Nat.le_of_ble_eq_true rfl) (eX6_startTrial e2) (Nat.le_of_ble_eq_true rfl) rfl ?_
  refine ev_iconst (a := 0) (b := 2) 0 rfl (by decide) ?_
  refine ev_istore (a := 0) (b := 3) [(0, ic_R 0 0 0), (1, ic_I x1), (2, ic_I x2), (3, ic_I x3), (4, ic_I x4), (5, ic_I 0)] rfl (by decide) (And.intro (Or.inr (And.intro rfl rfl)) (And.intro (Or.inr (And.intro rfl rfl)) (And.intro (Or.inr (And.intro rfl rfl)) (And.intro (Or.inr (And.intro rfl rfl)) (And.intro (Or.inr (And.intro rfl rfl)) (And.intro (Or.inl rfl) trivial)))))) ?_
  refine ev_fw (lv' := [(0, ic_R 0 0 0), (1, ic_I x1), (2, ic_I x2), (3, ic_I x3), (4, ic_I x4), (5, ic_I 0)]) ?_ (And.intro rfl (And.intro rfl (And.intro rfl (And.intro rfl (And.intro rfl (And.intro rfl trivial))))))
  rcases ic_bsE h with e5 | ⟨y3, g4, e5, h⟩
  · exact tX6_fewestCalls_7 (x1 := x1) (x2 := x2) (x3 := x3) (x4 := x4)  1000 0 g1 _ e5 _ _ ⟨rfl, rfl⟩
  · refine tX6_fewestCalls_7 (x1 := x1) (x2 := x2) (x3 := x3) (x4 := x4)  1000 0 g1 _ e5 _ _ ?_
    change ic_Ev mX6_fewestCalls 56 [(0, ic_R 0 0 0)] [] g4 _ _
    refine ev_aload_n (a := 0) (b := 27) rfl rfl ?_
    refine ev_iconst (a := 0) (b := 28) 3 rfl (by decide) ?_
    obtain ⟨v8, g6, e7, h⟩ := ic_b2E h
    refine ev_ivI (a := 0) (b := 29) [ic_I 3] rfl okX6_finding rfl lmX6_66 rfl (rc0) (Nat.le_of_ble_eq_true rfl) (eX6_finding e7) (Nat.le_of_ble_eq_true rfl) rfl ?_
    obtain ⟨rfl, rfl⟩ := ic_s2 h
    exact ev_ireturn (a := 0) (b := 30) rfl rfl rfl
set_option maxRecDepth 20000 in
theorem eX6_taken {x1 : Int32} {g g' : ic_S} {v : Int32} (h : fX6_taken x1 g = some (v, g')) : ic_Ev mX6_taken 0 (ic_ag 0 [ic_R 0 0 0, ic_I x1]) [] g (some (ic_I v)) g' := by
  unfold fX6_taken at h
  change ic_Ev mX6_taken 0 [(0, ic_R 0 0 0), (1, ic_I x1)] [] g _ _
  refine ev_aload_n (a := 0) (b := 0) rfl rfl ?_
  refine ev_get (a := 0) (b := 1) 6 0 rfl rfl (Nat.le_of_ble_eq_true rfl) lfX6_10 (gX6_street) ?_
  refine ev_iload_n (a := 0) (b := 2) rfl rfl ?_
  obtain ⟨v3, g1, e2, h⟩ := ic_b2E h
  refine ev_ivI (a := 0) (b := 3) [ic_I x1] rfl okX2_hasThing rfl lmX6_90 rfl (rc1 (by decide)) (Nat.le_of_ble_eq_true rfl) (eX2_hasThing e2) (Nat.le_of_ble_eq_true rfl) rfl ?_
  refine ev_ifne (a := 0) (b := 4) 17 rfl rfl (fun c4 => ?_) (fun c4 => ?_)
  · have h := (if_neg c4).symm.trans h
    refine ev_aload_n (a := 0) (b := 9) rfl rfl ?_
    refine ev_iload_n (a := 0) (b := 10) rfl rfl ?_
    refine ev_iconst (a := 0) (b := 11) 5 rfl (by decide) ?_
    refine ev_iconst (a := 0) (b := 12) 1 rfl (by decide) ?_
    refine ev_iconst (a := 0) (b := 13) 1 rfl (by decide) ?_
    obtain ⟨v7, g5, e6, h⟩ := ic_b2E h
    refine ev_ivI (a := 0) (b := 14) [ic_I x1, ic_I 5, ic_I 1, ic_I 1] rfl okX6_fewestCalls rfl lmX6_137 rfl (rc0) (Nat.le_of_ble_eq_true rfl) (eX6_fewestCalls e6) (Nat.le_of_ble_eq_true rfl) rfl ?_
    obtain ⟨rfl, rfl⟩ := ic_s2 h
    exact ev_ireturn (a := 0) (b := 15) rfl rfl rfl
  · have h := (if_pos c4).symm.trans h
    refine ev_aload_n (a := 0) (b := 5) rfl rfl ?_
    refine ev_iconst (a := 0) (b := 6) 0 rfl (by decide) ?_
    obtain ⟨v10, g8, e9, h⟩ := ic_b2E h
    refine ev_ivI (a := 0) (b := 7) [ic_I 0] rfl okX6_finding rfl lmX6_66 rfl (rc0) (Nat.le_of_ble_eq_true rfl) (eX6_finding e9) (Nat.le_of_ble_eq_true rfl) rfl ?_
    obtain ⟨rfl, rfl⟩ := ic_s2 h
    exact ev_ireturn (a := 0) (b := 8) rfl rfl rfl
set_option maxRecDepth 20000 in
theorem eX6_when {x1 : Int32} {x2 : Int32} {g g' : ic_S} {v : Int32} (h : fX6_when x1 x2 g = some (v, g')) : ic_Ev mX6_when 0 (ic_ag 0 [ic_R 0 0 0, ic_I x1, ic_I x2]) [] g (some (ic_I v)) g' := by
  unfold fX6_when at h
  change ic_Ev mX6_when 0 [(0, ic_R 0 0 0), (1, ic_I x1), (2, ic_I x2)] [] g _ _
  refine ev_aload_n (a := 0) (b := 0) rfl rfl ?_
  refine ev_get (a := 0) (b := 1) 6 0 rfl rfl (Nat.le_of_ble_eq_true rfl) lfX6_10 (gX6_street) ?_
  refine ev_iload_n (a := 0) (b := 2) rfl rfl ?_
  obtain ⟨v3, g1, e2, h⟩ := ic_b2E h
  refine ev_ivI (a := 0) (b := 3) [ic_I x1] rfl okX2_hasThing rfl lmX6_90 rfl (rc1 (by decide)) (Nat.le_of_ble_eq_true rfl) (eX2_hasThing e2) (Nat.le_of_ble_eq_true rfl) rfl ?_
  refine ev_ifeq (a := 0) (b := 4) 18 rfl rfl (fun c4 => ?_) (fun c4 => ?_)
  · have h := (if_pos c4).symm.trans h
    refine ev_aload_n (a := 0) (b := 8) rfl rfl ?_
    refine ev_iconst (a := 0) (b := 9) 0 rfl (by decide) ?_
    obtain ⟨v7, g5, e6, h⟩ := ic_b2E h
    refine ev_ivI (a := 0) (b := 10) [ic_I 0] rfl okX6_finding rfl lmX6_66 rfl (rc0) (Nat.le_of_ble_eq_true rfl) (eX6_finding e6) (Nat.le_of_ble_eq_true rfl) rfl ?_
    obtain ⟨rfl, rfl⟩ := ic_s2 h
    exact ev_ireturn (a := 0) (b := 11) rfl rfl rfl
  · have h := (if_neg c4).symm.trans h
    refine ev_iload_n (a := 0) (b := 5) rfl rfl ?_
    obtain ⟨v10, g8, e9, h⟩ := ic_b2E h
    refine ev_isI (a := 0) (b := 6) [ic_I x2] rfl okX6_isCell rfl lmX6_80 rfl (Nat.le_of_ble_eq_true rfl) (eX6_isCell e9) (Nat.le_of_ble_eq_true rfl) rfl ?_
    refine ev_ifne (a := 0) (b := 7) 24 rfl rfl (fun c11 => ?_) (fun c11 => ?_)
    · have h := (if_neg c11).symm.trans h
      refine ev_aload_n (a := 0) (b := 12) rfl rfl ?_
      refine ev_iload_n (a := 0) (b := 13) rfl rfl ?_
      refine ev_iconst (a := 0) (b := 14) 1 rfl (by decide) ?_
      refine ev_iload_n (a := 0) (b := 15) rfl rfl ?_
      refine ev_iload_n (a := 0) (b := 16) rfl rfl ?_
      obtain ⟨v14, g12, e13, h⟩ := ic_b2E h
      refine ev_ivI (a := 0) (b := 17) [ic_I x1, ic_I 1, ic_I x2, ic_I x2] rfl okX6_fewestCalls rfl lmX6_137 rfl (rc0) (Nat.le_of_ble_eq_true rfl) (eX6_fewestCalls e13) (Nat.le_of_ble_eq_true rfl) rfl ?_
      obtain ⟨rfl, rfl⟩ := ic_s2 h
      exact ev_ireturn (a := 0) (b := 18) rfl rfl rfl
    · have h := (if_pos c11).symm.trans h
      refine ev_aload_n (a := 0) (b := 8) rfl rfl ?_
      refine ev_iconst (a := 0) (b := 9) 0 rfl (by decide) ?_
      obtain ⟨v17, g15, e16, h⟩ := ic_b2E h
      refine ev_ivI (a := 0) (b := 10) [ic_I 0] rfl okX6_finding rfl lmX6_66 rfl (rc0) (Nat.le_of_ble_eq_true rfl) (eX6_finding e16) (Nat.le_of_ble_eq_true rfl) rfl ?_
      obtain ⟨rfl, rfl⟩ := ic_s2 h
      exact ev_ireturn (a := 0) (b := 11) rfl rfl rfl
set_option maxRecDepth 20000 in
theorem tX6_meet_39 {x1 : Int32} {x2 : Int32} : ∀ (n : Nat) (x3 : Int32) (g : ic_S) (q : (Int32 × ic_S) ⊕ (Unit × ic_S)), lX6_meet_39 x1 x2 n x3 g = some q → ∀ (r : Option ic_V) (g' : ic_S), ic_lq q r g' (fun y z => ic_Ev mX6_meet 83 [(0, ic_R 0 0 0)] [] z r g') → ic_Ev mX6_meet 39 [(0, ic_R 0 0 0), (1, ic_I x1), (2, ic_I x2), (3, ic_I x3)] [] g r g' := by
  intro n
  induction n with
  | zero => intro x3 g q h; cases h
  | succ n ih =>
    intro x3 g q h r g' hq
    rw [lX6_meet_39] at h
    refine ev_iload_n (a := 0) (b := 21) rfl rfl ?_
    refine ev_sipush (a := 0) (b := 22) 200 rfl (by decide) ?_
    refine ev_icgt (a := 0) (b := 23) 83 rfl rfl (fun c1001 => ?_) (fun c1001 => ?_)
    · have h := (if_pos c1001).symm.trans h
      obtain rfl := ic_s1 h
      exact ev_fw (lv' := [(0, ic_R 0 0 0)]) hq (And.intro rfl trivial)
    · have h := (if_neg c1001).symm.trans h
      refine ev_aload_n (a := 0) (b := 24) rfl rfl ?_
      refine ev_get (a := 0) (b := 25) 6 1 rfl rfl (Nat.le_of_ble_eq_true rfl) lfX6_16 (gX6_trial) ?_
      refine ev_iload_n (a := 0) (b := 26) rfl rfl ?_
      refine ev_iconst (a := 0) (b := 27) 1 rfl (by decide) ?_
      obtain ⟨v1004, g1002, e1003, h⟩ := ic_b2E h
      refine ev_ivI (a := 0) (b := 28) [ic_I x1, ic_I 1] rfl okX2_told rfl lmX6_87 rfl (rc1 (by decide)) (Nat.le_of_ble_eq_true rfl) (eX2_told e1003) (Nat.le_of_ble_eq_true rfl) rfl ?_
      refine ev_aload_n (a := 0) (b := 29) rfl rfl ?_
      refine ev_get (a := 0) (b := 30) 6 1 rfl rfl (Nat.le_of_ble_eq_true rfl) lfX6_16 (gX6_trial) ?_
      refine ev_iload_n (a := 0) (b := 31) rfl rfl ?_
      refine ev_iconst (a := 1) (b := 0) 1 rfl (by decide) ?_
      obtain ⟨v1007, g1005, e1006, h⟩ := ic_b2E h
      refine ev_ivI (a := 1) (b := 1) [ic_I x2, ic_I 1] rfl okX2_told rfl lmX6_87 rfl (rc1 (by decide)) (Nat.le_of_ble_eq_true rfl) (eX2_told e1006) (Nat.le_of_ble_eq_true rfl) rfl ?_
      refine ev_icne (a := 1) (b := 2) 69 rfl rfl (fun c1008 => ?_) (fun c1008 => ?_)
      · have h := (if_neg c1008).symm.trans h
        refine ev_aload_n (a := 1) (b := 5) rfl rfl ?_
        refine ev_get (a := 1) (b := 6) 6 1 rfl rfl (Nat.le_of_ble_eq_true rfl) lfX6_16 (gX6_trial) ?_
        refine ev_iconst (a := 1) (b := 7) 1 rfl (by decide) ?_
        obtain ⟨g1009, e1010, h⟩ := ic_b1E h
        refine ev_ivV (a := 1) (b := 8) [ic_I 1] rfl okX2_callTimes rfl lmX6_111 rfl (rc1 (by decide)) (Nat.le_of_ble_eq_true rfl) (eX2_callTimes e1010) (Nat.le_of_ble_eq_true rfl) rfl ?_
        refine ev_iinc (a := 1) (b := 9) (x3 + 1) [(0, ic_R 0 0 0), (1, ic_I x1), (2, ic_I x2), (3, ic_I (x3 + 1))] rfl rfl (by first | rfl | decide) (by decide) (And.intro (Or.inr (And.intro rfl rfl)) (And.intro (Or.inr (And.intro rfl rfl)) (And.intro (Or.inr (And.intro rfl rfl)) (And.intro (Or.inl rfl) trivial)))) ?_
        refine ev_goto (a := 1) (b := 10) 39 rfl rfl ?_
        refine ev_fw (lv' := [(0, ic_R 0 0 0), (1, ic_I x1), (2, ic_I x2), (3, ic_I (x3 + 1))]) ?_ (And.intro rfl (And.intro rfl (And.intro rfl (And.intro rfl trivial))))
        exact ih (x3 + 1) g1009 _ h _ _ hq
      · have h := (if_pos c1008).symm.trans h
        refine ev_iload_n (a := 1) (b := 3) rfl rfl ?_
        obtain rfl := ic_s1 h
        obtain ⟨rfl, rfl⟩ := hq
        exact ev_ireturn (a := 1) (b := 4) rfl rfl rfl
set_option maxRecDepth 20000 in
theorem eX6_meet {x1 : Int32} {x2 : Int32} {g g' : ic_S} {v : Int32} (h : fX6_meet x1 x2 g = some (v, g')) : ic_Ev mX6_meet 0 (ic_ag 0 [ic_R 0 0 0, ic_I x1, ic_I x2]) [] g (some (ic_I v)) g' := by
  unfold fX6_meet at h
  change ic_Ev mX6_meet 0 [(0, ic_R 0 0 0), (1, ic_I x1), (2, ic_I x2)] [] g _ _
  refine ev_aload_n (a := 0) (b := 0) rfl rfl ?_
  refine ev_get (a := 0) (b := 1) 6 0 rfl rfl (Nat.le_of_ble_eq_true rfl) lfX6_10 (gX6_street) ?_
  refine ev_iload_n (a := 0) (b := 2) rfl rfl ?_
  obtain ⟨v3, g1, e2, h⟩ := ic_b2E h
  refine ev_ivI (a := 0) (b := 3) [ic_I x1] rfl okX2_hasThing rfl lmX6_90 rfl (rc1 (by decide)) (Nat.le_of_ble_eq_true rfl) (eX2_hasThing e2) (Nat.le_of_ble_eq_true rfl) rfl ?_
  refine ev_ifeq (a := 0) (b := 4) 27 rfl rfl (fun c4 => ?_) (fun c4 => ?_)
  · have h := (if_pos c4).symm.trans h
    refine ev_aload_n (a := 0) (b := 13) rfl rfl ?_
    refine ev_iconst (a := 0) (b := 14) 0 rfl (by decide) ?_
    obtain ⟨v7, g5, e6, h⟩ := ic_b2E h
    refine ev_ivI (a := 0) (b := 15) [ic_I 0] rfl okX6_finding rfl lmX6_66 rfl (rc0) (Nat.le_of_ble_eq_true rfl) (eX6_finding e6) (Nat.le_of_ble_eq_true rfl) rfl ?_
    obtain ⟨rfl, rfl⟩ := ic_s2 h
    exact ev_ireturn (a := 0) (b := 16) rfl rfl rfl
  · have h := (if_neg c4).symm.trans h
    refine ev_aload_n (a := 0) (b := 5) rfl rfl ?_
    refine ev_get (a := 0) (b := 6) 6 0 rfl rfl (Nat.le_of_ble_eq_true rfl) lfX6_10 (gX6_street) ?_
    refine ev_iload_n (a := 0) (b := 7) rfl rfl ?_
    obtain ⟨v10, g8, e9, h⟩ := ic_b2E h
    refine ev_ivI (a := 0) (b := 8) [ic_I x2] rfl okX2_hasThing rfl lmX6_90 rfl (rc1 (by decide)) (Nat.le_of_ble_eq_true rfl) (eX2_hasThing e9) (Nat.le_of_ble_eq_true rfl) rfl ?_
    refine ev_ifeq (a := 0) (b := 9) 27 rfl rfl (fun c11 => ?_) (fun c11 => ?_)
    · have h := (if_pos c11).symm.trans h
      refine ev_aload_n (a := 0) (b := 13) rfl rfl ?_
      refine ev_iconst (a := 0) (b := 14) 0 rfl (by decide) ?_
      obtain ⟨v14, g12, e13, h⟩ := ic_b2E h
      refine ev_ivI (a := 0) (b := 15) [ic_I 0] rfl okX6_finding rfl lmX6_66 rfl (rc0) (Nat.le_of_ble_eq_true rfl) (eX6_finding e13) (Nat.le_of_ble_eq_true rfl) rfl ?_
      obtain ⟨rfl, rfl⟩ := ic_s2 h
      exact ev_ireturn (a := 0) (b := 16) rfl rfl rfl
    · have h := (if_neg c11).symm.trans h
      refine ev_iload_n (a := 0) (b := 10) rfl rfl ?_
      refine ev_iload_n (a := 0) (b := 11) rfl rfl ?_
      refine ev_icne (a := 0) (b := 12) 33 rfl rfl (fun c15 => ?_) (fun c15 => ?_)
      · have h := (if_neg c15).symm.trans h
        refine ev_aload_n (a := 0) (b := 17) rfl rfl ?_
        obtain ⟨g16, e17, h⟩ := ic_b1E h
        refine ev_ivV (a := 0) (b := 18) [] rfl okX6_startTrial rfl lmX6_131 rfl (rc0) (Nat.le_of_ble_eq_true rfl) (eX6_startTrial e17) (Nat.le_of_ble_eq_true rfl) rfl ?_
        refine ev_iconst (a := 0) (b := 19) 0 rfl (by decide) ?_
        refine ev_istore_n (a := 0) (b := 20) [(0, ic_R 0 0 0), (1, ic_I x1), (2, ic_I x2), (3, ic_I 0)] rfl (by decide) (And.intro (Or.inr (And.intro rfl rfl)) (And.intro (Or.inr (And.intro rfl rfl)) (And.intro (Or.inr (And.intro rfl rfl)) (And.intro (Or.inl rfl) trivial)))) ?_
        refine ev_fw (lv' := [(0, ic_R 0 0 0), (1, ic_I x1), (2, ic_I x2), (3, ic_I 0)]) ?_ (And.intro rfl (And.intro rfl (And.intro rfl (And.intro rfl trivial))))
        rcases ic_bsE h with e20 | ⟨y18, g19, e20, h⟩
        · exact tX6_meet_39 (x1 := x1) (x2 := x2)  1000 0 g16 _ e20 _ _ ⟨rfl, rfl⟩
        · refine tX6_meet_39 (x1 := x1) (x2 := x2)  1000 0 g16 _ e20 _ _ ?_
          change ic_Ev mX6_meet 83 [(0, ic_R 0 0 0)] [] g19 _ _
          refine ev_aload_n (a := 1) (b := 11) rfl rfl ?_
          refine ev_iconst (a := 1) (b := 12) 3 rfl (by decide) ?_
          obtain ⟨v23, g21, e22, h⟩ := ic_b2E h
          refine ev_ivI (a := 1) (b := 13) [ic_I 3] rfl okX6_finding rfl lmX6_66 rfl (rc0) (Nat.le_of_ble_eq_true rfl) (eX6_finding e22) (Nat.le_of_ble_eq_true rfl) rfl ?_
          obtain ⟨rfl, rfl⟩ := ic_s2 h
          exact ev_ireturn (a := 1) (b := 14) rfl rfl rfl
      · have h := (if_pos c15).symm.trans h
        refine ev_aload_n (a := 0) (b := 13) rfl rfl ?_
        refine ev_iconst (a := 0) (b := 14) 0 rfl (by decide) ?_
        obtain ⟨v26, g24, e25, h⟩ := ic_b2E h
        refine ev_ivI (a := 0) (b := 15) [ic_I 0] rfl okX6_finding rfl lmX6_66 rfl (rc0) (Nat.le_of_ble_eq_true rfl) (eX6_finding e25) (Nat.le_of_ble_eq_true rfl) rfl ?_
        obtain ⟨rfl, rfl⟩ := ic_s2 h
        exact ev_ireturn (a := 0) (b := 16) rfl rfl rfl
set_option maxRecDepth 20000 in
theorem eX6_strained {x1 : Int32} {x2 : Int32} {g g' : ic_S} {v : Int32} (h : fX6_strained x1 x2 g = some (v, g')) : ic_Ev mX6_strained 0 (ic_ag 0 [ic_R 0 0 0, ic_I x1, ic_I x2]) [] g (some (ic_I v)) g' := by
  unfold fX6_strained at h
  change ic_Ev mX6_strained 0 [(0, ic_R 0 0 0), (1, ic_I x1), (2, ic_I x2)] [] g _ _
  refine ev_aload_n (a := 0) (b := 0) rfl rfl ?_
  refine ev_get (a := 0) (b := 1) 6 0 rfl rfl (Nat.le_of_ble_eq_true rfl) lfX6_10 (gX6_street) ?_
  refine ev_iload_n (a := 0) (b := 2) rfl rfl ?_
  obtain ⟨v3, g1, e2, h⟩ := ic_b2E h
  refine ev_ivI (a := 0) (b := 3) [ic_I x1] rfl okX2_hasThing rfl lmX6_90 rfl (rc1 (by decide)) (Nat.le_of_ble_eq_true rfl) (eX2_hasThing e2) (Nat.le_of_ble_eq_true rfl) rfl ?_
  refine ev_ifeq (a := 0) (b := 4) 22 rfl rfl (fun c4 => ?_) (fun c4 => ?_)
  · have h := (if_pos c4).symm.trans h
    refine ev_aload_n (a := 0) (b := 10) rfl rfl ?_
    refine ev_iconst (a := 0) (b := 11) 0 rfl (by decide) ?_
    obtain ⟨v7, g5, e6, h⟩ := ic_b2E h
    refine ev_ivI (a := 0) (b := 12) [ic_I 0] rfl okX6_finding rfl lmX6_66 rfl (rc0) (Nat.le_of_ble_eq_true rfl) (eX6_finding e6) (Nat.le_of_ble_eq_true rfl) rfl ?_
    obtain ⟨rfl, rfl⟩ := ic_s2 h
    exact ev_ireturn (a := 0) (b := 13) rfl rfl rfl
  · have h := (if_neg c4).symm.trans h
    refine ev_iload_n (a := 0) (b := 5) rfl rfl ?_
    refine ev_iflt (a := 0) (b := 6) 22 rfl rfl (fun c8 => ?_) (fun c8 => ?_)
    · have h := (if_pos c8).symm.trans h
      refine ev_aload_n (a := 0) (b := 10) rfl rfl ?_
      refine ev_iconst (a := 0) (b := 11) 0 rfl (by decide) ?_
      obtain ⟨v11, g9, e10, h⟩ := ic_b2E h
      refine ev_ivI (a := 0) (b := 12) [ic_I 0] rfl okX6_finding rfl lmX6_66 rfl (rc0) (Nat.le_of_ble_eq_true rfl) (eX6_finding e10) (Nat.le_of_ble_eq_true rfl) rfl ?_
      obtain ⟨rfl, rfl⟩ := ic_s2 h
      exact ev_ireturn (a := 0) (b := 13) rfl rfl rfl
    · have h := (if_neg c8).symm.trans h
      refine ev_iload_n (a := 0) (b := 7) rfl rfl ?_
      refine ev_sipush (a := 0) (b := 8) 999 rfl (by decide) ?_
      refine ev_icle (a := 0) (b := 9) 28 rfl rfl (fun c12 => ?_) (fun c12 => ?_)
      · have h := (if_pos c12).symm.trans h
        refine ev_aload_n (a := 0) (b := 14) rfl rfl ?_
        refine ev_iload_n (a := 0) (b := 15) rfl rfl ?_
        refine ev_iconst (a := 0) (b := 16) 3 rfl (by decide) ?_
        refine ev_iload_n (a := 0) (b := 17) rfl rfl ?_
        refine ev_sipush (a := 0) (b := 18) 999 rfl (by decide) ?_
        obtain ⟨v15, g13, e14, h⟩ := ic_b2E h
        refine ev_ivI (a := 0) (b := 19) [ic_I x1, ic_I 3, ic_I x2, ic_I 999] rfl okX6_fewestCalls rfl lmX6_137 rfl (rc0) (Nat.le_of_ble_eq_true rfl) (eX6_fewestCalls e14) (Nat.le_of_ble_eq_true rfl) rfl ?_
        obtain ⟨rfl, rfl⟩ := ic_s2 h
        exact ev_ireturn (a := 0) (b := 20) rfl rfl rfl
      · have h := (if_neg c12).symm.trans h
        refine ev_aload_n (a := 0) (b := 10) rfl rfl ?_
        refine ev_iconst (a := 0) (b := 11) 0 rfl (by decide) ?_
        obtain ⟨v18, g16, e17, h⟩ := ic_b2E h
        refine ev_ivI (a := 0) (b := 12) [ic_I 0] rfl okX6_finding rfl lmX6_66 rfl (rc0) (Nat.le_of_ble_eq_true rfl) (eX6_finding e17) (Nat.le_of_ble_eq_true rfl) rfl ?_
        obtain ⟨rfl, rfl⟩ := ic_s2 h
        exact ev_ireturn (a := 0) (b := 13) rfl rfl rfl
set_option maxRecDepth 20000 in
theorem eX6_isPlanned {x0 : Int32} {g g' : ic_S} {v : Int32} (h : fX6_isPlanned x0 g = some (v, g')) : ic_Ev mX6_isPlanned 0 (ic_ag 0 [ic_I x0]) [] g (some (ic_I v)) g' := by
  unfold fX6_isPlanned at h
  change ic_Ev mX6_isPlanned 0 [(0, ic_I x0)] [] g _ _
  refine ev_iload_n (a := 0) (b := 0) rfl rfl ?_
  refine ev_iflt (a := 0) (b := 1) 14 rfl rfl (fun c1 => ?_) (fun c1 => ?_)
  · have h := (if_pos c1).symm.trans h
    refine ev_iconst (a := 0) (b := 7) 0 rfl (by decide) ?_
    obtain ⟨rfl, rfl⟩ := ic_s2 h
    exact ev_ireturn (a := 0) (b := 8) rfl rfl rfl
  · have h := (if_neg c1).symm.trans h
    refine ev_iload_n (a := 0) (b := 2) rfl rfl ?_
    refine ev_bipush (a := 0) (b := 3) 60 rfl (by decide) ?_
    refine ev_icgt (a := 0) (b := 4) 14 rfl rfl (fun c2 => ?_) (fun c2 => ?_)
    · have h := (if_pos c2).symm.trans h
      refine ev_iconst (a := 0) (b := 7) 0 rfl (by decide) ?_
      obtain ⟨rfl, rfl⟩ := ic_s2 h
      exact ev_ireturn (a := 0) (b := 8) rfl rfl rfl
    · have h := (if_neg c2).symm.trans h
      refine ev_iconst (a := 0) (b := 5) 1 rfl (by decide) ?_
      refine ev_goto (a := 0) (b := 6) 15 rfl rfl ?_
      obtain ⟨rfl, rfl⟩ := ic_s2 h
      exact ev_ireturn (a := 0) (b := 8) rfl rfl rfl
set_option maxRecDepth 20000 in
theorem tX6_loudFor_26 {x1 : Int32} {x2 : Int32} : ∀ (n : Nat) (x3 : Int32) (g : ic_S) (q : (Int32 × ic_S) ⊕ (Unit × ic_S)), lX6_loudFor_26 x1 x2 n x3 g = some q → ∀ (r : Option ic_V) (g' : ic_S), ic_lq q r g' (fun y z => ic_Ev mX6_loudFor 74 [(0, ic_R 0 0 0)] [] z r g') → ic_Ev mX6_loudFor 26 [(0, ic_R 0 0 0), (1, ic_I x1), (2, ic_I x2), (3, ic_I x3)] [] g r g' := by
  intro n
  induction n with
  | zero => intro x3 g q h; cases h
  | succ n ih =>
    intro x3 g q h r g' hq
    rw [lX6_loudFor_26] at h
    refine ev_iload_n (a := 0) (b := 14) rfl rfl ?_
    refine ev_bipush (a := 0) (b := 15) 20 rfl (by decide) ?_
    refine ev_icgt (a := 0) (b := 16) 74 rfl rfl (fun c1001 => ?_) (fun c1001 => ?_)
    · have h := (if_pos c1001).symm.trans h
      obtain rfl := ic_s1 h
      exact ev_fw (lv' := [(0, ic_R 0 0 0)]) hq (And.intro rfl trivial)
    · have h := (if_neg c1001).symm.trans h
      refine ev_aload_n (a := 0) (b := 17) rfl rfl ?_
      obtain ⟨g1002, e1003, h⟩ := ic_b1E h
      refine ev_ivV (a := 0) (b := 18) [] rfl okX6_startTrial rfl lmX6_131 rfl (rc0) (Nat.le_of_ble_eq_true rfl) (eX6_startTrial e1003) (Nat.le_of_ble_eq_true rfl) rfl ?_
      refine ev_aload_n (a := 0) (b := 19) rfl rfl ?_
      refine ev_get (a := 0) (b := 20) 6 1 rfl rfl (Nat.le_of_ble_eq_true rfl) lfX6_16 (gX6_trial) ?_
      refine ev_iconst (a := 0) (b := 21) 3 rfl (by decide) ?_
      refine ev_iload_n (a := 0) (b := 22) rfl rfl ?_
      obtain ⟨g1004, e1005, h⟩ := ic_b1E h
      refine ev_ivV (a := 0) (b := 23) [ic_I 3, ic_I x3] rfl okX2_alterCart rfl lmX6_72 rfl (rc1 (by decide)) (Nat.le_of_ble_eq_true rfl) (eX2_alterCart e1005) (Nat.le_of_ble_eq_true rfl) rfl ?_
      refine ev_aload_n (a := 0) (b := 24) rfl rfl ?_
      refine ev_get (a := 0) (b := 25) 6 1 rfl rfl (Nat.le_of_ble_eq_true rfl) lfX6_16 (gX6_trial) ?_
      refine ev_iload_n (a := 0) (b := 26) rfl rfl ?_
      obtain ⟨g1006, e1007, h⟩ := ic_b1E h
      refine ev_ivV (a := 0) (b := 27) [ic_I x2] rfl okX2_callTimes rfl lmX6_111 rfl (rc1 (by decide)) (Nat.le_of_ble_eq_true rfl) (eX2_callTimes e1007) (Nat.le_of_ble_eq_true rfl) rfl ?_
      refine ev_aload_n (a := 0) (b := 28) rfl rfl ?_
      refine ev_get (a := 0) (b := 29) 6 1 rfl rfl (Nat.le_of_ble_eq_true rfl) lfX6_16 (gX6_trial) ?_
      refine ev_iload_n (a := 0) (b := 30) rfl rfl ?_
      refine ev_iconst (a := 0) (b := 31) 5 rfl (by decide) ?_
      obtain ⟨v1010, g1008, e1009, h⟩ := ic_b2E h
      refine ev_ivI (a := 1) (b := 0) [ic_I x1, ic_I 5] rfl okX2_told rfl lmX6_87 rfl (rc1 (by decide)) (Nat.le_of_ble_eq_true rfl) (eX2_told e1009) (Nat.le_of_ble_eq_true rfl) rfl ?_
      refine ev_iconst (a := 1) (b := 1) 1 rfl (by decide) ?_
      refine ev_icne (a := 1) (b := 2) 68 rfl rfl (fun c1011 => ?_) (fun c1011 => ?_)
      · have h := (if_neg c1011).symm.trans h
        refine ev_iinc (a := 1) (b := 5) (x3 + 1) [(0, ic_R 0 0 0), (1, ic_I x1), (2, ic_I x2), (3, ic_I (x3 + 1))] rfl rfl (by first | rfl | decide) (by decide) (And.intro (Or.inr (And.intro rfl rfl)) (And.intro (Or.inr (And.intro rfl rfl)) (And.intro (Or.inr (And.intro rfl rfl)) (And.intro (Or.inl rfl) trivial)))) ?_
        refine ev_goto (a := 1) (b := 6) 26 rfl rfl ?_
        refine ev_fw (lv' := [(0, ic_R 0 0 0), (1, ic_I x1), (2, ic_I x2), (3, ic_I (x3 + 1))]) ?_ (And.intro rfl (And.intro rfl (And.intro rfl (And.intro rfl trivial))))
        exact ih (x3 + 1) g1008 _ h _ _ hq
      · have h := (if_pos c1011).symm.trans h
        refine ev_iload_n (a := 1) (b := 3) rfl rfl ?_
        obtain rfl := ic_s1 h
        obtain ⟨rfl, rfl⟩ := hq
        exact ev_ireturn (a := 1) (b := 4) rfl rfl rfl
set_option maxRecDepth 20000 in
theorem eX6_loudFor {x1 : Int32} {x2 : Int32} {g g' : ic_S} {v : Int32} (h : fX6_loudFor x1 x2 g = some (v, g')) : ic_Ev mX6_loudFor 0 (ic_ag 0 [ic_R 0 0 0, ic_I x1, ic_I x2]) [] g (some (ic_I v)) g' := by
  unfold fX6_loudFor at h
  change ic_Ev mX6_loudFor 0 [(0, ic_R 0 0 0), (1, ic_I x1), (2, ic_I x2)] [] g _ _
  refine ev_aload_n (a := 0) (b := 0) rfl rfl ?_
  refine ev_get (a := 0) (b := 1) 6 0 rfl rfl (Nat.le_of_ble_eq_true rfl) lfX6_10 (gX6_street) ?_
  refine ev_iload_n (a := 0) (b := 2) rfl rfl ?_
  obtain ⟨v3, g1, e2, h⟩ := ic_b2E h
  refine ev_ivI (a := 0) (b := 3) [ic_I x1] rfl okX2_hasThing rfl lmX6_90 rfl (rc1 (by decide)) (Nat.le_of_ble_eq_true rfl) (eX2_hasThing e2) (Nat.le_of_ble_eq_true rfl) rfl ?_
  refine ev_ifeq (a := 0) (b := 4) 18 rfl rfl (fun c4 => ?_) (fun c4 => ?_)
  · have h := (if_pos c4).symm.trans h
    refine ev_aload_n (a := 0) (b := 8) rfl rfl ?_
    refine ev_iconst (a := 0) (b := 9) 0 rfl (by decide) ?_
    obtain ⟨v7, g5, e6, h⟩ := ic_b2E h
    refine ev_ivI (a := 0) (b := 10) [ic_I 0] rfl okX6_finding rfl lmX6_66 rfl (rc0) (Nat.le_of_ble_eq_true rfl) (eX6_finding e6) (Nat.le_of_ble_eq_true rfl) rfl ?_
    obtain ⟨rfl, rfl⟩ := ic_s2 h
    exact ev_ireturn (a := 0) (b := 11) rfl rfl rfl
  · have h := (if_neg c4).symm.trans h
    refine ev_iload_n (a := 0) (b := 5) rfl rfl ?_
    obtain ⟨v10, g8, e9, h⟩ := ic_b2E h
    refine ev_isI (a := 0) (b := 6) [ic_I x2] rfl okX6_isPlanned rfl lmX6_141 rfl (Nat.le_of_ble_eq_true rfl) (eX6_isPlanned e9) (Nat.le_of_ble_eq_true rfl) rfl ?_
    refine ev_ifne (a := 0) (b := 7) 24 rfl rfl (fun c11 => ?_) (fun c11 => ?_)
    · have h := (if_neg c11).symm.trans h
      refine ev_iconst (a := 0) (b := 12) 0 rfl (by decide) ?_
      refine ev_istore_n (a := 0) (b := 13) [(0, ic_R 0 0 0), (1, ic_I x1), (2, ic_I x2), (3, ic_I 0)] rfl (by decide) (And.intro (Or.inr (And.intro rfl rfl)) (And.intro (Or.inr (And.intro rfl rfl)) (And.intro (Or.inr (And.intro rfl rfl)) (And.intro (Or.inl rfl) trivial)))) ?_
      refine ev_fw (lv' := [(0, ic_R 0 0 0), (1, ic_I x1), (2, ic_I x2), (3, ic_I 0)]) ?_ (And.intro rfl (And.intro rfl (And.intro rfl (And.intro rfl trivial))))
      rcases ic_bsE h with e14 | ⟨y12, g13, e14, h⟩
      · exact tX6_loudFor_26 (x1 := x1) (x2 := x2)  1000 0 g8 _ e14 _ _ ⟨rfl, rfl⟩
      · refine tX6_loudFor_26 (x1 := x1) (x2 := x2)  1000 0 g8 _ e14 _ _ ?_
        change ic_Ev mX6_loudFor 74 [(0, ic_R 0 0 0)] [] g13 _ _
        refine ev_aload_n (a := 1) (b := 7) rfl rfl ?_
        refine ev_iconst (a := 1) (b := 8) 3 rfl (by decide) ?_
        obtain ⟨v17, g15, e16, h⟩ := ic_b2E h
        refine ev_ivI (a := 1) (b := 9) [ic_I 3] rfl okX6_finding rfl lmX6_66 rfl (rc0) (Nat.le_of_ble_eq_true rfl) (eX6_finding e16) (Nat.le_of_ble_eq_true rfl) rfl ?_
        obtain ⟨rfl, rfl⟩ := ic_s2 h
        exact ev_ireturn (a := 1) (b := 10) rfl rfl rfl
    · have h := (if_pos c11).symm.trans h
      refine ev_aload_n (a := 0) (b := 8) rfl rfl ?_
      refine ev_iconst (a := 0) (b := 9) 0 rfl (by decide) ?_
      obtain ⟨v20, g18, e19, h⟩ := ic_b2E h
      refine ev_ivI (a := 0) (b := 10) [ic_I 0] rfl okX6_finding rfl lmX6_66 rfl (rc0) (Nat.le_of_ble_eq_true rfl) (eX6_finding e19) (Nat.le_of_ble_eq_true rfl) rfl ?_
      obtain ⟨rfl, rfl⟩ := ic_s2 h
      exact ev_ireturn (a := 0) (b := 11) rfl rfl rfl
set_option maxRecDepth 20000 in
theorem tX6_startFor_20 {x1 : Int32} : ∀ (n : Nat) (x2 : Int32) (x3 : Int32) (x4 : Int32) (g : ic_S) (q : (Int32) × ic_S), lX6_startFor_20 x1 n x2 x3 x4 g = some q → ∀ (r : Option ic_V) (g' : ic_S), ic_Ev mX6_startFor 76 [(2, ic_I q.1)] [] q.2 r g' → ic_Ev mX6_startFor 20 [(0, ic_R 0 0 0), (1, ic_I x1), (2, ic_I x2), (3, ic_I x3), (4, ic_I x4)] [] g r g' := by
  intro n
  induction n with
  | zero => intro x2 x3 x4 g q h; cases h
  | succ n ih =>
    intro x2 x3 x4 g q h r g' hq
    rw [lX6_startFor_20] at h
    refine ev_iload (a := 0) (b := 13) rfl rfl ?_
    refine ev_bipush (a := 0) (b := 14) 16 rfl (by decide) ?_
    refine ev_icge (a := 0) (b := 15) 76 rfl rfl (fun c1001 => ?_) (fun c1001 => ?_)
    · have h := (if_pos c1001).symm.trans h
      obtain rfl := ic_s1 h
      exact ev_fw (lv' := [(2, ic_I x2)]) hq (And.intro rfl trivial)
    · have h := (if_neg c1001).symm.trans h
      refine ev_aload_n (a := 0) (b := 16) rfl rfl ?_
      obtain ⟨g1002, e1003, h⟩ := ic_b1E h
      refine ev_ivV (a := 0) (b := 17) [] rfl okX6_startTrial rfl lmX6_131 rfl (rc0) (Nat.le_of_ble_eq_true rfl) (eX6_startTrial e1003) (Nat.le_of_ble_eq_true rfl) rfl ?_
      refine ev_aload_n (a := 0) (b := 18) rfl rfl ?_
      refine ev_get (a := 0) (b := 19) 6 1 rfl rfl (Nat.le_of_ble_eq_true rfl) lfX6_16 (gX6_trial) ?_
      refine ev_iconst (a := 0) (b := 20) 0 rfl (by decide) ?_
      refine ev_iload (a := 0) (b := 21) rfl rfl ?_
      obtain ⟨g1004, e1005, h⟩ := ic_b1E h
      refine ev_ivV (a := 0) (b := 22) [ic_I 0, ic_I x4] rfl okX2_alterCart rfl lmX6_72 rfl (rc1 (by decide)) (Nat.le_of_ble_eq_true rfl) (eX2_alterCart e1005) (Nat.le_of_ble_eq_true rfl) rfl ?_
      refine ev_aload_n (a := 0) (b := 23) rfl rfl ?_
      refine ev_get (a := 0) (b := 24) 6 1 rfl rfl (Nat.le_of_ble_eq_true rfl) lfX6_16 (gX6_trial) ?_
      refine ev_iload_n (a := 0) (b := 25) rfl rfl ?_
      obtain ⟨g1006, e1007, h⟩ := ic_b1E h
      refine ev_ivV (a := 0) (b := 26) [ic_I x1] rfl okX2_callTimes rfl lmX6_111 rfl (rc1 (by decide)) (Nat.le_of_ble_eq_true rfl) (eX2_callTimes e1007) (Nat.le_of_ble_eq_true rfl) rfl ?_
      refine ev_aload_n (a := 0) (b := 27) rfl rfl ?_
      refine ev_get (a := 0) (b := 28) 6 1 rfl rfl (Nat.le_of_ble_eq_true rfl) lfX6_16 (gX6_trial) ?_
      obtain ⟨v1010, g1008, e1009, h⟩ := ic_b2E h
      refine ev_ivI (a := 0) (b := 29) [] rfl okX2_takenHeavy rfl lmX6_121 rfl (rc1 (by decide)) (Nat.le_of_ble_eq_true rfl) (eX2_takenHeavy e1009) (Nat.le_of_ble_eq_true rfl) rfl ?_
      refine ev_istore (a := 0) (b := 30) [(0, ic_R 0 0 0), (1, ic_I x1), (2, ic_I x2), (3, ic_I x3), (4, ic_I x4), (5, ic_I v1010)] rfl (by decide) (And.intro (Or.inr (And.intro rfl rfl)) (And.intro (Or.inr (And.intro rfl rfl)) (And.intro (Or.inr (And.intro rfl rfl)) (And.intro (Or.inr (And.intro rfl rfl)) (And.intro (Or.inr (And.intro rfl rfl)) (And.intro (Or.inl rfl) trivial)))))) ?_
      refine ev_iload (a := 0) (b := 31) rfl rfl ?_
      refine ev_iload_n (a := 1) (b := 0) rfl rfl ?_
      refine ev_icle (a := 1) (b := 1) 70 rfl rfl (fun c1011 => ?_) (fun c1011 => ?_)
      · have h := (if_pos c1011).symm.trans h
        refine ev_iinc (a := 1) (b := 6) (x4 + 1) [(0, ic_R 0 0 0), (1, ic_I x1), (2, ic_I x2), (3, ic_I x3), (4, ic_I (x4 + 1))] rfl rfl (by first | rfl | decide) (by decide) (And.intro (Or.inr (And.intro rfl rfl)) (And.intro (Or.inr (And.intro rfl rfl)) (And.intro (Or.inr (And.intro rfl rfl)) (And.intro (Or.inr (And.intro rfl rfl)) (And.intro (Or.inl rfl) trivial))))) ?_
        refine ev_goto (a := 1) (b := 7) 20 rfl rfl ?_
        refine ev_fw (lv' := [(0, ic_R 0 0 0), (1, ic_I x1), (2, ic_I x2), (3, ic_I x3), (4, ic_I (x4 + 1))]) ?_ (And.intro rfl (And.intro rfl (And.intro rfl (And.intro rfl (And.intro rfl trivial)))))
        exact ih x2 x3 (x4 + 1) g1008 _ h _ _ hq
      · have h := (if_neg c1011).symm.trans h
        refine ev_iload (a := 1) (b := 2) rfl rfl ?_
        refine ev_istore_n (a := 1) (b := 3) [(0, ic_R 0 0 0), (1, ic_I x1), (3, ic_I v1010), (4, ic_I x4)] rfl (by decide) (And.intro (Or.inr (And.intro rfl rfl)) (And.intro (Or.inr (And.intro rfl rfl)) (And.intro (Or.inl rfl) (And.intro (Or.inr (And.intro rfl rfl)) trivial)))) ?_
        refine ev_iload (a := 1) (b := 4) rfl rfl ?_
        refine ev_istore_n (a := 1) (b := 5) [(0, ic_R 0 0 0), (1, ic_I x1), (2, ic_I x4), (3, ic_I v1010), (4, ic_I x4)] rfl (by decide) (And.intro (Or.inr (And.intro rfl rfl)) (And.intro (Or.inr (And.intro rfl rfl)) (And.intro (Or.inl rfl) (And.intro (Or.inr (And.intro rfl rfl)) (And.intro (Or.inr (And.intro rfl rfl)) trivial))))) ?_
        refine ev_iinc (a := 1) (b := 6) (x4 + 1) [(0, ic_R 0 0 0), (1, ic_I x1), (2, ic_I x4), (3, ic_I v1010), (4, ic_I (x4 + 1))] rfl rfl (by first | rfl | decide) (by decide) (And.intro (Or.inr (And.intro rfl rfl)) (And.intro (Or.inr (And.intro rfl rfl)) (And.intro (Or.inr (And.intro rfl rfl)) (And.intro (Or.inr (And.intro rfl rfl)) (And.intro (Or.inl rfl) trivial))))) ?_
        refine ev_goto (a := 1) (b := 7) 20 rfl rfl ?_
        refine ev_fw (lv' := [(0, ic_R 0 0 0), (1, ic_I x1), (2, ic_I x4), (3, ic_I v1010), (4, ic_I (x4 + 1))]) ?_ (And.intro rfl (And.intro rfl (And.intro rfl (And.intro rfl (And.intro rfl trivial)))))
        exact ih x4 v1010 (x4 + 1) g1008 _ h _ _ hq
set_option maxRecDepth 20000 in
theorem eX6_startFor {x1 : Int32} {g g' : ic_S} {v : Int32} (h : fX6_startFor x1 g = some (v, g')) : ic_Ev mX6_startFor 0 (ic_ag 0 [ic_R 0 0 0, ic_I x1]) [] g (some (ic_I v)) g' := by
  unfold fX6_startFor at h
  change ic_Ev mX6_startFor 0 [(0, ic_R 0 0 0), (1, ic_I x1)] [] g _ _
  refine ev_iload_n (a := 0) (b := 0) rfl rfl ?_
  obtain ⟨v3, g1, e2, h⟩ := ic_b2E h
  refine ev_isI (a := 0) (b := 1) [ic_I x1] rfl okX6_isPlanned rfl lmX6_141 rfl (Nat.le_of_ble_eq_true rfl) (eX6_isPlanned e2) (Nat.le_of_ble_eq_true rfl) rfl ?_
  refine ev_ifne (a := 0) (b := 2) 13 rfl rfl (fun c4 => ?_) (fun c4 => ?_)
  · have h := (if_neg c4).symm.trans h
    refine ev_iconst (a := 0) (b := 7) 0 rfl (by decide) ?_
    refine ev_istore_n (a := 0) (b := 8) [(0, ic_R 0 0 0), (1, ic_I x1), (2, ic_I 0)] rfl (by decide) (And.intro (Or.inr (And.intro rfl rfl)) (And.intro (Or.inr (And.intro rfl rfl)) (And.intro (Or.inl rfl) trivial))) ?_
    refine ev_iconst (a := 0) (b := 9) (-1) rfl (by decide) ?_
    refine ev_istore_n (a := 0) (b := 10) [(0, ic_R 0 0 0), (1, ic_I x1), (2, ic_I 0), (3, ic_I (-1))] rfl (by decide) (And.intro (Or.inr (And.intro rfl rfl)) (And.intro (Or.inr (And.intro rfl rfl)) (And.intro (Or.inr (And.intro rfl rfl)) (And.intro (Or.inl rfl) trivial)))) ?_
    refine ev_iconst (a := 0) (b := 11) 0 rfl (by decide) ?_
    refine ev_istore (a := 0) (b := 12) [(0, ic_R 0 0 0), (1, ic_I x1), (2, ic_I 0), (3, ic_I (-1)), (4, ic_I 0)] rfl (by decide) (And.intro (Or.inr (And.intro rfl rfl)) (And.intro (Or.inr (And.intro rfl rfl)) (And.intro (Or.inr (And.intro rfl rfl)) (And.intro (Or.inr (And.intro rfl rfl)) (And.intro (Or.inl rfl) trivial))))) ?_
    refine ev_fw (lv' := [(0, ic_R 0 0 0), (1, ic_I x1), (2, ic_I 0), (3, ic_I (-1)), (4, ic_I 0)]) ?_ (And.intro rfl (And.intro rfl (And.intro rfl (And.intro rfl (And.intro rfl trivial)))))
    obtain ⟨y5, g6, e7, h⟩ := ic_b2E h
    refine tX6_startFor_20 (x1 := x1)  1000 0 (-1) 0 g1 _ e7 _ _ ?_
    change ic_Ev mX6_startFor 76 [(2, ic_I y5)] [] g6 _ _
    refine ev_iload_n (a := 1) (b := 8) rfl rfl ?_
    obtain ⟨rfl, rfl⟩ := ic_s2 h
    exact ev_ireturn (a := 1) (b := 9) rfl rfl rfl
  · have h := (if_pos c4).symm.trans h
    refine ev_aload_n (a := 0) (b := 3) rfl rfl ?_
    refine ev_iconst (a := 0) (b := 4) 0 rfl (by decide) ?_
    obtain ⟨v10, g8, e9, h⟩ := ic_b2E h
    refine ev_ivI (a := 0) (b := 5) [ic_I 0] rfl okX6_finding rfl lmX6_66 rfl (rc0) (Nat.le_of_ble_eq_true rfl) (eX6_finding e9) (Nat.le_of_ble_eq_true rfl) rfl ?_
    obtain ⟨rfl, rfl⟩ := ic_s2 h
    exact ev_ireturn (a := 0) (b := 6) rfl rfl rfl
set_option maxRecDepth 20000 in
theorem tX6_furthestBy_33 {x1 : Int32} {x2 : Int32} {x3 : Int32} : ∀ (n : Nat) (x4 : Int32) (x5 : Int32) (x6 : Int32) (g : ic_S) (q : (Int32) × ic_S), lX6_furthestBy_33 x1 x2 x3 n x4 x5 x6 g = some q → ∀ (r : Option ic_V) (g' : ic_S), ic_Ev mX6_furthestBy 98 [(4, ic_I q.1)] [] q.2 r g' → ic_Ev mX6_furthestBy 33 [(0, ic_R 0 0 0), (1, ic_I x1), (2, ic_I x2), (3, ic_I x3), (4, ic_I x4), (5, ic_I x5), (6, ic_I x6)] [] g r g' := by
  intro n
  induction n with
  | zero => intro x4 x5 x6 g q h; cases h
  | succ n ih =>
    intro x4 x5 x6 g q h r g' hq
    rw [lX6_furthestBy_33] at h
    refine ev_iload (a := 0) (b := 18) rfl rfl ?_
    refine ev_iload_n (a := 0) (b := 19) rfl rfl ?_
    obtain ⟨v1003, g1001, e1002, h⟩ := ic_b2E h
    refine ev_isI (a := 0) (b := 20) [ic_I x2] rfl okX6_mostOf rfl lmX6_96 rfl (Nat.le_of_ble_eq_true rfl) (eX6_mostOf e1002) (Nat.le_of_ble_eq_true rfl) rfl ?_
    refine ev_icgt (a := 0) (b := 21) 98 rfl rfl (fun c1004 => ?_) (fun c1004 => ?_)
    · have h := (if_pos c1004).symm.trans h
      obtain rfl := ic_s1 h
      exact ev_fw (lv' := [(4, ic_I x4)]) hq (And.intro rfl trivial)
    · have h := (if_neg c1004).symm.trans h
      refine ev_aload_n (a := 0) (b := 22) rfl rfl ?_
      obtain ⟨g1005, e1006, h⟩ := ic_b1E h
      refine ev_ivV (a := 0) (b := 23) [] rfl okX6_startTrial rfl lmX6_131 rfl (rc0) (Nat.le_of_ble_eq_true rfl) (eX6_startTrial e1006) (Nat.le_of_ble_eq_true rfl) rfl ?_
      refine ev_aload_n (a := 0) (b := 24) rfl rfl ?_
      refine ev_get (a := 0) (b := 25) 6 1 rfl rfl (Nat.le_of_ble_eq_true rfl) lfX6_16 (gX6_trial) ?_
      refine ev_iload_n (a := 0) (b := 26) rfl rfl ?_
      refine ev_iload_n (a := 0) (b := 27) rfl rfl ?_
      refine ev_iload (a := 0) (b := 28) rfl rfl ?_
      obtain ⟨g1007, e1008, h⟩ := ic_b1E h
      refine ev_ivV (a := 0) (b := 29) [ic_I x1, ic_I x2, ic_I x6] rfl okX2_alter rfl lmX6_99 rfl (rc1 (by decide)) (Nat.le_of_ble_eq_true rfl) (eX2_alter e1008) (Nat.le_of_ble_eq_true rfl) rfl ?_
      refine ev_aload_n (a := 0) (b := 30) rfl rfl ?_
      refine ev_get (a := 0) (b := 31) 6 1 rfl rfl (Nat.le_of_ble_eq_true rfl) lfX6_16 (gX6_trial) ?_
      refine ev_iload_n (a := 1) (b := 0) rfl rfl ?_
      obtain ⟨g1009, e1010, h⟩ := ic_b1E h
      refine ev_ivV (a := 1) (b := 1) [ic_I x3] rfl okX2_callTimes rfl lmX6_111 rfl (rc1 (by decide)) (Nat.le_of_ble_eq_true rfl) (eX2_callTimes e1010) (Nat.le_of_ble_eq_true rfl) rfl ?_
      refine ev_aload_n (a := 1) (b := 2) rfl rfl ?_
      refine ev_get (a := 1) (b := 3) 6 1 rfl rfl (Nat.le_of_ble_eq_true rfl) lfX6_16 (gX6_trial) ?_
      refine ev_iload_n (a := 1) (b := 4) rfl rfl ?_
      refine ev_bipush (a := 1) (b := 5) 6 rfl (by decide) ?_
      obtain ⟨v1013, g1011, e1012, h⟩ := ic_b2E h
      refine ev_ivI (a := 1) (b := 6) [ic_I x1, ic_I 6] rfl okX2_told rfl lmX6_87 rfl (rc1 (by decide)) (Nat.le_of_ble_eq_true rfl) (eX2_told e1012) (Nat.le_of_ble_eq_true rfl) rfl ?_
      refine ev_istore (a := 1) (b := 7) [(0, ic_R 0 0 0), (1, ic_I x1), (2, ic_I x2), (3, ic_I x3), (4, ic_I x4), (5, ic_I x5), (6, ic_I x6), (7, ic_I v1013)] rfl (by decide) (And.intro (Or.inr (And.intro rfl rfl)) (And.intro (Or.inr (And.intro rfl rfl)) (And.intro (Or.inr (And.intro rfl rfl)) (And.intro (Or.inr (And.intro rfl rfl)) (And.intro (Or.inr (And.intro rfl rfl)) (And.intro (Or.inr (And.intro rfl rfl)) (And.intro (Or.inr (And.intro rfl rfl)) (And.intro (Or.inl rfl) trivial)))))))) ?_
      refine ev_iload (a := 1) (b := 8) rfl rfl ?_
      refine ev_iload (a := 1) (b := 9) rfl rfl ?_
      refine ev_icle (a := 1) (b := 10) 92 rfl rfl (fun c1014 => ?_) (fun c1014 => ?_)
      · have h := (if_pos c1014).symm.trans h
        refine ev_iinc (a := 1) (b := 15) (x6 + 1) [(0, ic_R 0 0 0), (1, ic_I x1), (2, ic_I x2), (3, ic_I x3), (4, ic_I x4), (5, ic_I x5), (6, ic_I (x6 + 1))] rfl rfl (by first | rfl | decide) (by decide) (And.intro (Or.inr (And.intro rfl rfl)) (And.intro (Or.inr (And.intro rfl rfl)) (And.intro (Or.inr (And.intro rfl rfl)) (And.intro (Or.inr (And.intro rfl rfl)) (And.intro (Or.inr (And.intro rfl rfl)) (And.intro (Or.inr (And.intro rfl rfl)) (And.intro (Or.inl rfl) trivial))))))) ?_
        refine ev_goto (a := 1) (b := 16) 33 rfl rfl ?_
        refine ev_fw (lv' := [(0, ic_R 0 0 0), (1, ic_I x1), (2, ic_I x2), (3, ic_I x3), (4, ic_I x4), (5, ic_I x5), (6, ic_I (x6 + 1))]) ?_ (And.intro rfl (And.intro rfl (And.intro rfl (And.intro rfl (And.intro rfl (And.intro rfl (And.intro rfl trivial)))))))
        exact ih x4 x5 (x6 + 1) g1011 _ h _ _ hq
      · have h := (if_neg c1014).symm.trans h
        refine ev_iload (a := 1) (b := 11) rfl rfl ?_
        refine ev_istore (a := 1) (b := 12) [(0, ic_R 0 0 0), (1, ic_I x1), (2, ic_I x2), (3, ic_I x3), (5, ic_I v1013), (6, ic_I x6)] rfl (by decide) (And.intro (Or.inr (And.intro rfl rfl)) (And.intro (Or.inr (And.intro rfl rfl)) (And.intro (Or.inr (And.intro rfl rfl)) (And.intro (Or.inr (And.intro rfl rfl)) (And.intro (Or.inl rfl) (And.intro (Or.inr (And.intro rfl rfl)) trivial)))))) ?_
        refine ev_iload (a := 1) (b := 13) rfl rfl ?_
        refine ev_istore (a := 1) (b := 14) [(0, ic_R 0 0 0), (1, ic_I x1), (2, ic_I x2), (3, ic_I x3), (4, ic_I x6), (5, ic_I v1013), (6, ic_I x6)] rfl (by decide) (And.intro (Or.inr (And.intro rfl rfl)) (And.intro (Or.inr (And.intro rfl rfl)) (And.intro (Or.inr (And.intro rfl rfl)) (And.intro (Or.inr (And.intro rfl rfl)) (And.intro (Or.inl rfl) (And.intro (Or.inr (And.intro rfl rfl)) (And.intro (Or.inr (And.intro rfl rfl)) trivial))))))) ?_
        refine ev_iinc (a := 1) (b := 15) (x6 + 1) [(0, ic_R 0 0 0), (1, ic_I x1), (2, ic_I x2), (3, ic_I x3), (4, ic_I x6), (5, ic_I v1013), (6, ic_I (x6 + 1))] rfl rfl (by first | rfl | decide) (by decide) (And.intro (Or.inr (And.intro rfl rfl)) (And.intro (Or.inr (And.intro rfl rfl)) (And.intro (Or.inr (And.intro rfl rfl)) (And.intro (Or.inr (And.intro rfl rfl)) (And.intro (Or.inr (And.intro rfl rfl)) (And.intro (Or.inr (And.intro rfl rfl)) (And.intro (Or.inl rfl) trivial))))))) ?_
        refine ev_goto (a := 1) (b := 16) 33 rfl rfl ?_
        refine ev_fw (lv' := [(0, ic_R 0 0 0), (1, ic_I x1), (2, ic_I x2), (3, ic_I x3), (4, ic_I x6), (5, ic_I v1013), (6, ic_I (x6 + 1))]) ?_ (And.intro rfl (And.intro rfl (And.intro rfl (And.intro rfl (And.intro rfl (And.intro rfl (And.intro rfl trivial)))))))
        exact ih x6 v1013 (x6 + 1) g1011 _ h _ _ hq
set_option maxRecDepth 20000 in
theorem eX6_furthestBy {x1 : Int32} {x2 : Int32} {x3 : Int32} {g g' : ic_S} {v : Int32} (h : fX6_furthestBy x1 x2 x3 g = some (v, g')) : ic_Ev mX6_furthestBy 0 (ic_ag 0 [ic_R 0 0 0, ic_I x1, ic_I x2, ic_I x3]) [] g (some (ic_I v)) g' := by
  unfold fX6_furthestBy at h
  change ic_Ev mX6_furthestBy 0 [(0, ic_R 0 0 0), (1, ic_I x1), (2, ic_I x2), (3, ic_I x3)] [] g _ _
  refine ev_aload_n (a := 0) (b := 0) rfl rfl ?_
  refine ev_get (a := 0) (b := 1) 6 0 rfl rfl (Nat.le_of_ble_eq_true rfl) lfX6_10 (gX6_street) ?_
  refine ev_iload_n (a := 0) (b := 2) rfl rfl ?_
  obtain ⟨v3, g1, e2, h⟩ := ic_b2E h
  refine ev_ivI (a := 0) (b := 3) [ic_I x1] rfl okX2_hasThing rfl lmX6_90 rfl (rc1 (by decide)) (Nat.le_of_ble_eq_true rfl) (eX2_hasThing e2) (Nat.le_of_ble_eq_true rfl) rfl ?_
  refine ev_ifeq (a := 0) (b := 4) 18 rfl rfl (fun c4 => ?_) (fun c4 => ?_)
  · have h := (if_pos c4).symm.trans h
    refine ev_aload_n (a := 0) (b := 8) rfl rfl ?_
    refine ev_iconst (a := 0) (b := 9) 0 rfl (by decide) ?_
    obtain ⟨v7, g5, e6, h⟩ := ic_b2E h
    refine ev_ivI (a := 0) (b := 10) [ic_I 0] rfl okX6_finding rfl lmX6_66 rfl (rc0) (Nat.le_of_ble_eq_true rfl) (eX6_finding e6) (Nat.le_of_ble_eq_true rfl) rfl ?_
    obtain ⟨rfl, rfl⟩ := ic_s2 h
    exact ev_ireturn (a := 0) (b := 11) rfl rfl rfl
  · have h := (if_neg c4).symm.trans h
    refine ev_iload_n (a := 0) (b := 5) rfl rfl ?_
    obtain ⟨v10, g8, e9, h⟩ := ic_b2E h
    refine ev_isI (a := 0) (b := 6) [ic_I x3] rfl okX6_isPlanned rfl lmX6_141 rfl (Nat.le_of_ble_eq_true rfl) (eX6_isPlanned e9) (Nat.le_of_ble_eq_true rfl) rfl ?_
    refine ev_ifne (a := 0) (b := 7) 24 rfl rfl (fun c11 => ?_) (fun c11 => ?_)
    · have h := (if_neg c11).symm.trans h
      refine ev_iconst (a := 0) (b := 12) 0 rfl (by decide) ?_
      refine ev_istore (a := 0) (b := 13) [(0, ic_R 0 0 0), (1, ic_I x1), (2, ic_I x2), (3, ic_I x3), (4, ic_I 0)] rfl (by decide) (And.intro (Or.inr (And.intro rfl rfl)) (And.intro (Or.inr (And.intro rfl rfl)) (And.intro (Or.inr (And.intro rfl rfl)) (And.intro (Or.inr (And.intro rfl rfl)) (And.intro (Or.inl rfl) trivial))))) ?_
      refine ev_iconst (a := 0) (b := 14) (-1) rfl (by decide) ?_
      refine ev_istore (a := 0) (b := 15) [(0, ic_R 0 0 0), (1, ic_I x1), (2, ic_I x2), (3, ic_I x3), (4, ic_I 0), (5, ic_I (-1))] rfl (by decide) (And.intro (Or.inr (And.intro rfl rfl)) (And.intro (Or.inr (And.intro rfl rfl)) (And.intro (Or.inr (And.intro rfl rfl)) (And.intro (Or.inr (And.intro rfl rfl)) (And.intro (Or.inr (And.intro rfl rfl)) (And.intro (Or.inl rfl) trivial)))))) ?_
      refine ev_iconst (a := 0) (b := 16) 0 rfl (by decide) ?_
      refine ev_istore (a := 0) (b := 17) [(0, ic_R 0 0 0), (1, ic_I x1), (2, ic_I x2), (3, ic_I x3), (4, ic_I 0), (5, ic_I (-1)), (6, ic_I 0)] rfl (by decide) (And.intro (Or.inr (And.intro rfl rfl)) (And.intro (Or.inr (And.intro rfl rfl)) (And.intro (Or.inr (And.intro rfl rfl)) (And.intro (Or.inr (And.intro rfl rfl)) (And.intro (Or.inr (And.intro rfl rfl)) (And.intro (Or.inr (And.intro rfl rfl)) (And.intro (Or.inl rfl) trivial))))))) ?_
      refine ev_fw (lv' := [(0, ic_R 0 0 0), (1, ic_I x1), (2, ic_I x2), (3, ic_I x3), (4, ic_I 0), (5, ic_I (-1)), (6, ic_I 0)]) ?_ (And.intro rfl (And.intro rfl (And.intro rfl (And.intro rfl (And.intro rfl (And.intro rfl (And.intro rfl trivial)))))))
      obtain ⟨y12, g13, e14, h⟩ := ic_b2E h
      refine tX6_furthestBy_33 (x1 := x1) (x2 := x2) (x3 := x3)  1000 0 (-1) 0 g8 _ e14 _ _ ?_
      change ic_Ev mX6_furthestBy 98 [(4, ic_I y12)] [] g13 _ _
      refine ev_iload (a := 1) (b := 17) rfl rfl ?_
      obtain ⟨rfl, rfl⟩ := ic_s2 h
      exact ev_ireturn (a := 1) (b := 18) rfl rfl rfl
    · have h := (if_pos c11).symm.trans h
      refine ev_aload_n (a := 0) (b := 8) rfl rfl ?_
      refine ev_iconst (a := 0) (b := 9) 0 rfl (by decide) ?_
      obtain ⟨v17, g15, e16, h⟩ := ic_b2E h
      refine ev_ivI (a := 0) (b := 10) [ic_I 0] rfl okX6_finding rfl lmX6_66 rfl (rc0) (Nat.le_of_ble_eq_true rfl) (eX6_finding e16) (Nat.le_of_ble_eq_true rfl) rfl ?_
      obtain ⟨rfl, rfl⟩ := ic_s2 h
      exact ev_ireturn (a := 0) (b := 11) rfl rfl rfl
set_option maxRecDepth 20000 in
theorem eX6_layFor {x1 : Int32} {x2 : Int32} {g g' : ic_S} {v : Int32} (h : fX6_layFor x1 x2 g = some (v, g')) : ic_Ev mX6_layFor 0 (ic_ag 0 [ic_R 0 0 0, ic_I x1, ic_I x2]) [] g (some (ic_I v)) g' := by
  unfold fX6_layFor at h
  change ic_Ev mX6_layFor 0 [(0, ic_R 0 0 0), (1, ic_I x1), (2, ic_I x2)] [] g _ _
  refine ev_aload_n (a := 0) (b := 0) rfl rfl ?_
  refine ev_iload_n (a := 0) (b := 1) rfl rfl ?_
  refine ev_iconst (a := 0) (b := 2) 1 rfl (by decide) ?_
  refine ev_iload_n (a := 0) (b := 3) rfl rfl ?_
  obtain ⟨v3, g1, e2, h⟩ := ic_b2E h
  refine ev_ivI (a := 0) (b := 4) [ic_I x1, ic_I 1, ic_I x2] rfl okX6_furthestBy rfl lmX6_144 rfl (rc0) (Nat.le_of_ble_eq_true rfl) (eX6_furthestBy e2) (Nat.le_of_ble_eq_true rfl) rfl ?_
  obtain ⟨rfl, rfl⟩ := ic_s2 h
  exact ev_ireturn (a := 0) (b := 5) rfl rfl rfl
set_option maxRecDepth 20000 in
theorem eX6_kindFor {x1 : Int32} {x2 : Int32} {g g' : ic_S} {v : Int32} (h : fX6_kindFor x1 x2 g = some (v, g')) : ic_Ev mX6_kindFor 0 (ic_ag 0 [ic_R 0 0 0, ic_I x1, ic_I x2]) [] g (some (ic_I v)) g' := by
  unfold fX6_kindFor at h
  change ic_Ev mX6_kindFor 0 [(0, ic_R 0 0 0), (1, ic_I x1), (2, ic_I x2)] [] g _ _
  refine ev_aload_n (a := 0) (b := 0) rfl rfl ?_
  refine ev_iload_n (a := 0) (b := 1) rfl rfl ?_
  refine ev_iconst (a := 0) (b := 2) 0 rfl (by decide) ?_
  refine ev_iload_n (a := 0) (b := 3) rfl rfl ?_
  obtain ⟨v3, g1, e2, h⟩ := ic_b2E h
  refine ev_ivI (a := 0) (b := 4) [ic_I x1, ic_I 0, ic_I x2] rfl okX6_furthestBy rfl lmX6_144 rfl (rc0) (Nat.le_of_ble_eq_true rfl) (eX6_furthestBy e2) (Nat.le_of_ble_eq_true rfl) rfl ?_
  obtain ⟨rfl, rfl⟩ := ic_s2 h
  exact ev_ireturn (a := 0) (b := 5) rfl rfl rfl
