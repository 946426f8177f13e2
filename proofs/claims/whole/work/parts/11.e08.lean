set_option maxRecDepth 20000 in
theorem tX7_calls_39 {x1 : Int32} : ∀ (n : Nat) (x2 : Int32) (g : ic_S) (q : Unit × ic_S), lX7_calls_39 x1 n x2 g = some q → ∀ (r : Option ic_V) (g' : ic_S), ic_Ev mX7_calls 81 [(0, ic_R 16 0 0)] [] q.2 r g' → ic_Ev mX7_calls 39 [(0, ic_R 16 0 0), (1, ic_I x1), (2, ic_I x2)] [] g r g' := by
  intro n
  induction n with
  | zero => intro x2 g q h; cases h
  | succ n ih =>
    intro x2 g q h r g' hq
    rw [lX7_calls_39] at h
    refine ev_iload_n (a := 0) (b := 24) rfl rfl ?_
    refine ev_iload_n (a := 0) (b := 25) rfl rfl ?_
    refine ev_icge (a := 0) (b := 26) 81 rfl rfl (fun c1001 => ?_) (fun c1001 => ?_)
    · have h := (if_pos c1001).symm.trans h
      obtain rfl := ic_s1 h
      exact ev_fw (lv' := [(0, ic_R 16 0 0)]) hq (And.intro rfl trivial)
    · have h := (if_neg c1001).symm.trans h
      refine ev_aload_n (a := 0) (b := 27) rfl rfl ?_
      refine ev_get (a := 0) (b := 28) 7 0 rfl rfl (Nat.le_of_ble_eq_true rfl) lfX7_7 (gX7_d) ?_
      refine ev_iconst (a := 0) (b := 29) 3 rfl (by decide) ?_
      refine ev_aload_n (a := 0) (b := 30) rfl rfl ?_
      obtain ⟨v1004, g1002, e1003, h⟩ := ic_b2E h
      refine ev_ivI (a := 0) (b := 31) [] rfl okX7_draw rfl lmX7_190 rfl (rc16) (Nat.le_of_ble_eq_true rfl) (eX7_draw e1003) (Nat.le_of_ble_eq_true rfl) rfl ?_
      refine ev_bipush (a := 1) (b := 0) 16 rfl (by decide) ?_
      refine ev_irem (a := 1) (b := 1) rfl (by decide) ?_
      obtain ⟨g1005, eg1005, h⟩ := ic_letE h
      refine ev_iastk (a := 1) (b := 2) 3 (by decide) rfl (by decide) (w17 (by decide) eg1005) ?_
      refine ev_aload_n (a := 1) (b := 3) rfl rfl ?_
      refine ev_get (a := 1) (b := 4) 7 0 rfl rfl (Nat.le_of_ble_eq_true rfl) lfX7_7 (gX7_d) ?_
      refine ev_bipush (a := 1) (b := 5) 6 rfl (by decide) ?_
      refine ev_aload_n (a := 1) (b := 6) rfl rfl ?_
      obtain ⟨v1008, g1006, e1007, h⟩ := ic_b2E h
      refine ev_ivI (a := 1) (b := 7) [] rfl okX7_draw rfl lmX7_190 rfl (rc16) (Nat.le_of_ble_eq_true rfl) (eX7_draw e1007) (Nat.le_of_ble_eq_true rfl) rfl ?_
      refine ev_bipush (a := 1) (b := 8) 21 rfl (by decide) ?_
      refine ev_irem (a := 1) (b := 9) rfl (by decide) ?_
      obtain ⟨g1009, eg1009, h⟩ := ic_letE h
      refine ev_iastk (a := 1) (b := 10) 6 (by decide) rfl (by decide) (w17 (by decide) eg1009) ?_
      refine ev_aload_n (a := 1) (b := 11) rfl rfl ?_
      obtain ⟨g1010, e1011, h⟩ := ic_b1E h
      refine ev_ivV (a := 1) (b := 12) [] rfl okX7_callGoes rfl lmX7_100 rfl (rc16) (Nat.le_of_ble_eq_true rfl) (eX7_callGoes e1011) (Nat.le_of_ble_eq_true rfl) rfl ?_
      refine ev_iinc (a := 1) (b := 13) (x2 + 1) [(0, ic_R 16 0 0), (1, ic_I x1), (2, ic_I (x2 + 1))] rfl rfl (by first | rfl | decide) (by decide) (And.intro (Or.inr (And.intro rfl rfl)) (And.intro (Or.inr (And.intro rfl rfl)) (And.intro (Or.inl rfl) trivial))) ?_
      refine ev_goto (a := 1) (b := 14) 39 rfl rfl ?_
      refine ev_fw (lv' := [(0, ic_R 16 0 0), (1, ic_I x1), (2, ic_I (x2 + 1))]) ?_ (And.intro rfl (And.intro rfl (And.intro rfl trivial)))
      exact ih (x2 + 1) g1010 _ h _ _ hq
set_option maxRecDepth 20000 in
theorem eX7_calls {x1 : Int32} {g g' : ic_S} {v : Int32} (h : fX7_calls x1 g = some (v, g')) : ic_Ev mX7_calls 0 (ic_ag 0 [ic_R 16 0 0, ic_I x1]) [] g (some (ic_I v)) g' := by
  unfold fX7_calls at h
  change ic_Ev mX7_calls 0 [(0, ic_R 16 0 0), (1, ic_I x1)] [] g _ _
  refine ev_iload_n (a := 0) (b := 0) rfl rfl ?_
  refine ev_i2l (a := 0) (b := 1) rfl ?_
  refine ev_lconst (a := 0) (b := 2) 1 rfl (by decide) ?_
  refine ev_ldc2 (a := 0) (b := 3) 20 rfl lcX7_108 ?_
  obtain ⟨v3, g1, e2, h⟩ := ic_b2E h
  refine ev_isI (a := 0) (b := 4) [ic_J (Int32.toInt64 x1), ic_J 1, ic_J 20] rfl okX7_in rfl lmX7_42 rfl (Nat.le_of_ble_eq_true rfl) (eX7_in e2) (Nat.le_of_ble_eq_true rfl) rfl ?_
  refine ev_ifne (a := 0) (b := 5) 18 rfl rfl (fun c4 => ?_) (fun c4 => ?_)
  · have h := (if_neg c4).symm.trans h
    refine ev_aload_n (a := 0) (b := 10) rfl rfl ?_
    refine ev_get (a := 0) (b := 11) 7 0 rfl rfl (Nat.le_of_ble_eq_true rfl) lfX7_7 (gX7_d) ?_
    refine ev_iconst (a := 0) (b := 12) 1 rfl (by decide) ?_
    refine ev_ialdk (a := 0) (b := 13) 1 (by decide) rfl (a17 (by decide)) (by decide) ?_
    refine ev_iload_n (a := 0) (b := 14) rfl rfl ?_
    refine ev_iadd (a := 0) (b := 15) rfl ?_
    refine ev_ldc (a := 0) (b := 16) 99999 rfl lcX7_99 ?_
    refine ev_icle (a := 0) (b := 17) 37 rfl rfl (fun c5 => ?_) (fun c5 => ?_)
    · have h := (if_pos c5).symm.trans h
      refine ev_iconst (a := 0) (b := 22) 0 rfl (by decide) ?_
      refine ev_istore_n (a := 0) (b := 23) [(0, ic_R 16 0 0), (1, ic_I x1), (2, ic_I 0)] rfl (by decide) (And.intro (Or.inr (And.intro rfl rfl)) (And.intro (Or.inr (And.intro rfl rfl)) (And.intro (Or.inl rfl) trivial))) ?_
      refine ev_fw (lv' := [(0, ic_R 16 0 0), (1, ic_I x1), (2, ic_I 0)]) ?_ (And.intro rfl (And.intro rfl (And.intro rfl trivial)))
      obtain ⟨y6, g7, e8, h⟩ := ic_b2E h
      refine tX7_calls_39 (x1 := x1)  1000 0 g1 _ e8 _ _ ?_
      change ic_Ev mX7_calls 81 [(0, ic_R 16 0 0)] [] g7 _ _
      refine ev_aload_n (a := 1) (b := 15) rfl rfl ?_
      refine ev_iconst (a := 1) (b := 16) 5 rfl (by decide) ?_
      obtain ⟨v11, g9, e10, h⟩ := ic_b2E h
      refine ev_ivI (a := 1) (b := 17) [ic_I 5] rfl okX7_setOf rfl lmX7_144 rfl (rc16) (Nat.le_of_ble_eq_true rfl) (eX7_setOf e10) (Nat.le_of_ble_eq_true rfl) rfl ?_
      obtain ⟨rfl, rfl⟩ := ic_s2 h
      exact ev_ireturn (a := 1) (b := 18) rfl rfl rfl
    · have h := (if_neg c5).symm.trans h
      refine ev_aload_n (a := 0) (b := 18) rfl rfl ?_
      refine ev_iconst (a := 0) (b := 19) 4 rfl (by decide) ?_
      obtain ⟨v14, g12, e13, h⟩ := ic_b2E h
      refine ev_ivI (a := 0) (b := 20) [ic_I 4] rfl okX7_finds rfl lmX7_117 rfl (rc16) (Nat.le_of_ble_eq_true rfl) (eX7_finds e13) (Nat.le_of_ble_eq_true rfl) rfl ?_
      obtain ⟨rfl, rfl⟩ := ic_s2 h
      exact ev_ireturn (a := 0) (b := 21) rfl rfl rfl
  · have h := (if_pos c4).symm.trans h
    refine ev_aload_n (a := 0) (b := 6) rfl rfl ?_
    refine ev_iconst (a := 0) (b := 7) 0 rfl (by decide) ?_
    obtain ⟨v17, g15, e16, h⟩ := ic_b2E h
    refine ev_ivI (a := 0) (b := 8) [ic_I 0] rfl okX7_finds rfl lmX7_117 rfl (rc16) (Nat.le_of_ble_eq_true rfl) (eX7_finds e16) (Nat.le_of_ble_eq_true rfl) rfl ?_
    obtain ⟨rfl, rfl⟩ := ic_s2 h
    exact ev_ireturn (a := 0) (b := 9) rfl rfl rfl
set_option maxRecDepth 20000 in
theorem tX7_odds_64 {x1 : Int32} {x2 : Int32} {x3 : Int32} {x4 : Int32} {x5 : Int32} : ∀ (n : Nat) (x6 : Int32) (x7 : Int32) (g : ic_S) (q : (Int32) × ic_S), lX7_odds_64 x1 x2 x3 x4 x5 n x6 x7 g = some q → ∀ (r : Option ic_V) (g' : ic_S), ic_Ev mX7_odds 104 [(0, ic_R 16 0 0), (3, ic_I x3), (4, ic_I x4), (5, ic_I x5), (6, ic_I q.1)] [] q.2 r g' → ic_Ev mX7_odds 64 [(0, ic_R 16 0 0), (1, ic_I x1), (2, ic_I x2), (3, ic_I x3), (4, ic_I x4), (5, ic_I x5), (6, ic_I x6), (7, ic_I x7)] [] g r g' := by
  intro n
  induction n with
  | zero => intro x6 x7 g q h; cases h
  | succ n ih =>
    intro x6 x7 g q h r g' hq
    rw [lX7_odds_64] at h
    refine ev_iload (a := 1) (b := 4) rfl rfl ?_
    refine ev_bipush (a := 1) (b := 5) 16 rfl (by decide) ?_
    refine ev_icge (a := 1) (b := 6) 104 rfl rfl (fun c1001 => ?_) (fun c1001 => ?_)
    · have h := (if_pos c1001).symm.trans h
      obtain rfl := ic_s1 h
      exact ev_fw (lv' := [(0, ic_R 16 0 0), (3, ic_I x3), (4, ic_I x4), (5, ic_I x5), (6, ic_I x6)]) hq (And.intro rfl (And.intro rfl (And.intro rfl (And.intro rfl (And.intro rfl trivial)))))
    · have h := (if_neg c1001).symm.trans h
      refine ev_aload_n (a := 1) (b := 7) rfl rfl ?_
      refine ev_get (a := 1) (b := 8) 7 0 rfl rfl (Nat.le_of_ble_eq_true rfl) lfX7_7 (gX7_d) ?_
      refine ev_iconst (a := 1) (b := 9) 3 rfl (by decide) ?_
      refine ev_iload (a := 1) (b := 10) rfl rfl ?_
      obtain ⟨g1002, eg1002, h⟩ := ic_letE h
      refine ev_iastk (a := 1) (b := 11) 3 (by decide) rfl (by decide) (w17 (by decide) eg1002) ?_
      refine ev_iload (a := 1) (b := 12) rfl rfl ?_
      refine ev_aload_n (a := 1) (b := 13) rfl rfl ?_
      refine ev_iload_n (a := 1) (b := 14) rfl rfl ?_
      obtain ⟨v1005, g1003, e1004, h⟩ := ic_b2E h
      refine ev_ivI (a := 1) (b := 15) [ic_I x1] rfl okX7_feels rfl lmX7_76 rfl (rc16) (Nat.le_of_ble_eq_true rfl) (eX7_feels e1004) (Nat.le_of_ble_eq_true rfl) rfl ?_
      refine ev_iload_n (a := 1) (b := 16) rfl rfl ?_
      refine ev_iclt (a := 1) (b := 17) 94 rfl rfl (fun c1006 => ?_) (fun c1006 => ?_)
      · have h := (if_pos c1006).symm.trans h
        refine ev_iconst (a := 1) (b := 20) 0 rfl (by decide) ?_
        refine ev_iadd (a := 1) (b := 21) rfl ?_
        refine ev_istore (a := 1) (b := 22) [(0, ic_R 16 0 0), (1, ic_I x1), (2, ic_I x2), (3, ic_I x3), (4, ic_I x4), (5, ic_I x5), (6, ic_I (x6 + 0)), (7, ic_I x7)] rfl (by decide) (And.intro (Or.inr (And.intro rfl rfl)) (And.intro (Or.inr (And.intro rfl rfl)) (And.intro (Or.inr (And.intro rfl rfl)) (And.intro (Or.inr (And.intro rfl rfl)) (And.intro (Or.inr (And.intro rfl rfl)) (And.intro (Or.inr (And.intro rfl rfl)) (And.intro (Or.inl rfl) (And.intro (Or.inr (And.intro rfl rfl)) trivial)))))))) ?_
        refine ev_iinc (a := 1) (b := 23) (x7 + 1) [(0, ic_R 16 0 0), (1, ic_I x1), (2, ic_I x2), (3, ic_I x3), (4, ic_I x4), (5, ic_I x5), (6, ic_I (x6 + 0)), (7, ic_I (x7 + 1))] rfl rfl (by first | rfl | decide) (by decide) (And.intro (Or.inr (And.intro rfl rfl)) (And.intro (Or.inr (And.intro rfl rfl)) (And.intro (Or.inr (And.intro rfl rfl)) (And.intro (Or.inr (And.intro rfl rfl)) (And.intro (Or.inr (And.intro rfl rfl)) (And.intro (Or.inr (And.intro rfl rfl)) (And.intro (Or.inr (And.intro rfl rfl)) (And.intro (Or.inl rfl) trivial)))))))) ?_
        refine ev_goto (a := 1) (b := 24) 64 rfl rfl ?_
        refine ev_fw (lv' := [(0, ic_R 16 0 0), (1, ic_I x1), (2, ic_I x2), (3, ic_I x3), (4, ic_I x4), (5, ic_I x5), (6, ic_I (x6 + 0)), (7, ic_I (x7 + 1))]) ?_ (And.intro rfl (And.intro rfl (And.intro rfl (And.intro rfl (And.intro rfl (And.intro rfl (And.intro rfl (And.intro rfl trivial))))))))
        exact ih (x6 + 0) (x7 + 1) g1003 _ h _ _ hq
      · have h := (if_neg c1006).symm.trans h
        refine ev_iconst (a := 1) (b := 18) 1 rfl (by decide) ?_
        refine ev_goto (a := 1) (b := 19) 95 rfl rfl ?_
        refine ev_iadd (a := 1) (b := 21) rfl ?_
        refine ev_istore (a := 1) (b := 22) [(0, ic_R 16 0 0), (1, ic_I x1), (2, ic_I x2), (3, ic_I x3), (4, ic_I x4), (5, ic_I x5), (6, ic_I (x6 + 1)), (7, ic_I x7)] rfl (by decide) (And.intro (Or.inr (And.intro rfl rfl)) (And.intro (Or.inr (And.intro rfl rfl)) (And.intro (Or.inr (And.intro rfl rfl)) (And.intro (Or.inr (And.intro rfl rfl)) (And.intro (Or.inr (And.intro rfl rfl)) (And.intro (Or.inr (And.intro rfl rfl)) (And.intro (Or.inl rfl) (And.intro (Or.inr (And.intro rfl rfl)) trivial)))))))) ?_
        refine ev_iinc (a := 1) (b := 23) (x7 + 1) [(0, ic_R 16 0 0), (1, ic_I x1), (2, ic_I x2), (3, ic_I x3), (4, ic_I x4), (5, ic_I x5), (6, ic_I (x6 + 1)), (7, ic_I (x7 + 1))] rfl rfl (by first | rfl | decide) (by decide) (And.intro (Or.inr (And.intro rfl rfl)) (And.intro (Or.inr (And.intro rfl rfl)) (And.intro (Or.inr (And.intro rfl rfl)) (And.intro (Or.inr (And.intro rfl rfl)) (And.intro (Or.inr (And.intro rfl rfl)) (And.intro (Or.inr (And.intro rfl rfl)) (And.intro (Or.inr (And.intro rfl rfl)) (And.intro (Or.inl rfl) trivial)))))))) ?_
        refine ev_goto (a := 1) (b := 24) 64 rfl rfl ?_
        refine ev_fw (lv' := [(0, ic_R 16 0 0), (1, ic_I x1), (2, ic_I x2), (3, ic_I x3), (4, ic_I x4), (5, ic_I x5), (6, ic_I (x6 + 1)), (7, ic_I (x7 + 1))]) ?_ (And.intro rfl (And.intro rfl (And.intro rfl (And.intro rfl (And.intro rfl (And.intro rfl (And.intro rfl (And.intro rfl trivial))))))))
        exact ih (x6 + 1) (x7 + 1) g1003 _ h _ _ hq
set_option maxRecDepth 20000 in
theorem tX7_odds_116 {x3 : Int32} {x4 : Int32} : ∀ (n : Nat) (x6 : Int32) (x7 : Int32) (g : ic_S) (q : (Int32 × Int32) × ic_S), lX7_odds_116 x3 x4 n x6 x7 g = some q → ∀ (r : Option ic_V) (g' : ic_S), ic_Ev mX7_odds 144 [(3, ic_I x3), (4, ic_I x4), (6, ic_I q.1.1), (7, ic_I q.1.2)] [] q.2 r g' → ic_Ev mX7_odds 116 [(3, ic_I x3), (4, ic_I x4), (6, ic_I x6), (7, ic_I x7)] [] g r g' := by
  intro n
  induction n with
  | zero => intro x6 x7 g q h; cases h
  | succ n ih =>
    intro x6 x7 g q h r g' hq
    rw [lX7_odds_116] at h
    refine ev_iload (a := 2) (b := 0) rfl rfl ?_
    refine ev_iconst (a := 2) (b := 1) 2 rfl (by decide) ?_
    refine ev_irem (a := 2) (b := 2) rfl (by decide) ?_
    refine ev_ifne (a := 2) (b := 3) 144 rfl rfl (fun c1001 => ?_) (fun c1001 => ?_)
    · have h := (if_neg c1001).symm.trans h
      obtain rfl := ic_s1 h
      exact ev_fw (lv' := [(3, ic_I x3), (4, ic_I x4), (6, ic_I x6), (7, ic_I x7)]) hq (And.intro rfl (And.intro rfl (And.intro rfl (And.intro rfl trivial))))
    · have h := (if_pos c1001).symm.trans h
      refine ev_iload (a := 2) (b := 4) rfl rfl ?_
      refine ev_iconst (a := 2) (b := 5) 1 rfl (by decide) ?_
      refine ev_icle (a := 2) (b := 6) 144 rfl rfl (fun c1002 => ?_) (fun c1002 => ?_)
      · have h := (if_pos c1002).symm.trans h
        obtain rfl := ic_s1 h
        exact ev_fw (lv' := [(3, ic_I x3), (4, ic_I x4), (6, ic_I x6), (7, ic_I x7)]) hq (And.intro rfl (And.intro rfl (And.intro rfl (And.intro rfl trivial))))
      · have h := (if_neg c1002).symm.trans h
        refine ev_iload (a := 2) (b := 7) rfl rfl ?_
        refine ev_iconst (a := 2) (b := 8) 2 rfl (by decide) ?_
        refine ev_idiv (a := 2) (b := 9) rfl (by decide) ?_
        refine ev_istore (a := 2) (b := 10) [(3, ic_I x3), (4, ic_I x4), (6, ic_I (x6 / 2)), (7, ic_I x7)] rfl (by decide) (And.intro (Or.inr (And.intro rfl rfl)) (And.intro (Or.inr (And.intro rfl rfl)) (And.intro (Or.inl rfl) (And.intro (Or.inr (And.intro rfl rfl)) trivial)))) ?_
        refine ev_iload (a := 2) (b := 11) rfl rfl ?_
        refine ev_iconst (a := 2) (b := 12) 2 rfl (by decide) ?_
        refine ev_idiv (a := 2) (b := 13) rfl (by decide) ?_
        refine ev_istore (a := 2) (b := 14) [(3, ic_I x3), (4, ic_I x4), (6, ic_I (x6 / 2)), (7, ic_I (x7 / 2))] rfl (by decide) (And.intro (Or.inr (And.intro rfl rfl)) (And.intro (Or.inr (And.intro rfl rfl)) (And.intro (Or.inr (And.intro rfl rfl)) (And.intro (Or.inl rfl) trivial)))) ?_
        refine ev_goto (a := 2) (b := 15) 116 rfl rfl ?_
        refine ev_fw (lv' := [(3, ic_I x3), (4, ic_I x4), (6, ic_I (x6 / 2)), (7, ic_I (x7 / 2))]) ?_ (And.intro rfl (And.intro rfl (And.intro rfl (And.intro rfl trivial))))
        exact ih (x6 / 2) (x7 / 2) g _ h _ _ hq
set_option maxRecDepth 20000 in
theorem tX7_odds_150 {x3 : Int32} {x4 : Int32} {x6 : Int32} {x7 : Int32} : ∀ (n : Nat) (x8 : Int64) (x10 : Int32) (g : ic_S) (q : (Int64) × ic_S), lX7_odds_150 x3 x4 x6 x7 n x8 x10 g = some q → ∀ (r : Option ic_V) (g' : ic_S), ic_Ev mX7_odds 181 [(8, ic_J q.1)] [] q.2 r g' → ic_Ev mX7_odds 150 [(3, ic_I x3), (4, ic_I x4), (6, ic_I x6), (7, ic_I x7), (8, ic_J x8), (10, ic_I x10)] [] g r g' := by
  intro n
  induction n with
  | zero => intro x8 x10 g q h; cases h
  | succ n ih =>
    intro x8 x10 g q h r g' hq
    rw [lX7_odds_150] at h
    refine ev_iload (a := 2) (b := 20) rfl rfl ?_
    refine ev_iload_n (a := 2) (b := 21) rfl rfl ?_
    refine ev_icge (a := 2) (b := 22) 181 rfl rfl (fun c1001 => ?_) (fun c1001 => ?_)
    · have h := (if_pos c1001).symm.trans h
      obtain rfl := ic_s1 h
      exact ev_fw (lv' := [(8, ic_J x8)]) hq (And.intro rfl trivial)
    · have h := (if_neg c1001).symm.trans h
      refine ev_lload (a := 2) (b := 23) rfl rfl ?_
      refine ev_iload (a := 2) (b := 24) rfl rfl ?_
      refine ev_ifne (a := 2) (b := 25) 169 rfl rfl (fun c1002 => ?_) (fun c1002 => ?_)
      · have h := (if_neg c1002).symm.trans h
        refine ev_iload (a := 2) (b := 29) rfl rfl ?_
        refine ev_i2l (a := 2) (b := 30) rfl ?_
        refine ev_lmul (a := 2) (b := 31) rfl ?_
        obtain ⟨y1003, ey1003, h⟩ := ic_letE h
        refine ev_topJ ey1003 ?_
        refine ev_lstore (a := 3) (b := 0) [(3, ic_I x3), (4, ic_I x4), (6, ic_I x6), (7, ic_I x7), (8, ic_J y1003), (10, ic_I x10)] rfl (by decide) (And.intro (Or.inr (And.intro rfl rfl)) (And.intro (Or.inr (And.intro rfl rfl)) (And.intro (Or.inr (And.intro rfl rfl)) (And.intro (Or.inr (And.intro rfl rfl)) (And.intro (Or.inl rfl) (And.intro (Or.inr (And.intro rfl rfl)) trivial)))))) ?_
        refine ev_iinc (a := 3) (b := 1) (x10 + 1) [(3, ic_I x3), (4, ic_I x4), (6, ic_I x6), (7, ic_I x7), (8, ic_J y1003), (10, ic_I (x10 + 1))] rfl rfl (by first | rfl | decide) (by decide) (And.intro (Or.inr (And.intro rfl rfl)) (And.intro (Or.inr (And.intro rfl rfl)) (And.intro (Or.inr (And.intro rfl rfl)) (And.intro (Or.inr (And.intro rfl rfl)) (And.intro (Or.inr (And.intro rfl rfl)) (And.intro (Or.inl rfl) trivial)))))) ?_
        refine ev_goto (a := 3) (b := 2) 150 rfl rfl ?_
        refine ev_fw (lv' := [(3, ic_I x3), (4, ic_I x4), (6, ic_I x6), (7, ic_I x7), (8, ic_J y1003), (10, ic_I (x10 + 1))]) ?_ (And.intro rfl (And.intro rfl (And.intro rfl (And.intro rfl (And.intro rfl (And.intro rfl trivial))))))
        exact ih y1003 (x10 + 1) g _ h _ _ hq
      · have h := (if_pos c1002).symm.trans h
        refine ev_iload (a := 2) (b := 26) rfl rfl ?_
        refine ev_i2l (a := 2) (b := 27) rfl ?_
        refine ev_goto (a := 2) (b := 28) 172 rfl rfl ?_
        refine ev_lmul (a := 2) (b := 31) rfl ?_
        obtain ⟨y1004, ey1004, h⟩ := ic_letE h
        refine ev_topJ ey1004 ?_
        refine ev_lstore (a := 3) (b := 0) [(3, ic_I x3), (4, ic_I x4), (6, ic_I x6), (7, ic_I x7), (8, ic_J y1004), (10, ic_I x10)] rfl (by decide) (And.intro (Or.inr (And.intro rfl rfl)) (And.intro (Or.inr (And.intro rfl rfl)) (And.intro (Or.inr (And.intro rfl rfl)) (And.intro (Or.inr (And.intro rfl rfl)) (And.intro (Or.inl rfl) (And.intro (Or.inr (And.intro rfl rfl)) trivial)))))) ?_
        refine ev_iinc (a := 3) (b := 1) (x10 + 1) [(3, ic_I x3), (4, ic_I x4), (6, ic_I x6), (7, ic_I x7), (8, ic_J y1004), (10, ic_I (x10 + 1))] rfl rfl (by first | rfl | decide) (by decide) (And.intro (Or.inr (And.intro rfl rfl)) (And.intro (Or.inr (And.intro rfl rfl)) (And.intro (Or.inr (And.intro rfl rfl)) (And.intro (Or.inr (And.intro rfl rfl)) (And.intro (Or.inr (And.intro rfl rfl)) (And.intro (Or.inl rfl) trivial)))))) ?_
        refine ev_goto (a := 3) (b := 2) 150 rfl rfl ?_
        refine ev_fw (lv' := [(3, ic_I x3), (4, ic_I x4), (6, ic_I x6), (7, ic_I x7), (8, ic_J y1004), (10, ic_I (x10 + 1))]) ?_ (And.intro rfl (And.intro rfl (And.intro rfl (And.intro rfl (And.intro rfl (And.intro rfl trivial))))))
        exact ih y1004 (x10 + 1) g _ h _ _ hq
set_option maxRecDepth 20000 in
theorem eX7_odds {x1 : Int32} {x2 : Int32} {x3 : Int32} {x4 : Int32} {g g' : ic_S} {v : Int64} (h : fX7_odds x1 x2 x3 x4 g = some (v, g')) : ic_Ev mX7_odds 0 (ic_ag 0 [ic_R 16 0 0, ic_I x1, ic_I x2, ic_I x3, ic_I x4]) [] g (some (ic_J v)) g' := by
  unfold fX7_odds at h
  change ic_Ev mX7_odds 0 [(0, ic_R 16 0 0), (1, ic_I x1), (2, ic_I x2), (3, ic_I x3), (4, ic_I x4)] [] g _ _
  refine ev_aload_n (a := 0) (b := 0) rfl rfl ?_
  refine ev_iload_n (a := 0) (b := 1) rfl rfl ?_
  obtain ⟨v3, g1, e2, h⟩ := ic_b2E h
  refine ev_ivI (a := 0) (b := 2) [ic_I x1] rfl okX7_isThing rfl lmX7_125 rfl (rc16) (Nat.le_of_ble_eq_true rfl) (eX7_isThing e2) (Nat.le_of_ble_eq_true rfl) rfl ?_
  refine ev_ifeq (a := 0) (b := 3) 43 rfl rfl (fun c4 => ?_) (fun c4 => ?_)
  · have h := (if_pos c4).symm.trans h
    refine ev_aload_n (a := 0) (b := 22) rfl rfl ?_
    refine ev_iconst (a := 0) (b := 23) 0 rfl (by decide) ?_
    obtain ⟨v7, g5, e6, h⟩ := ic_b2E h
    refine ev_ivI (a := 0) (b := 24) [ic_I 0] rfl okX7_finds rfl lmX7_117 rfl (rc16) (Nat.le_of_ble_eq_true rfl) (eX7_finds e6) (Nat.le_of_ble_eq_true rfl) rfl ?_
    refine ev_i2l (a := 0) (b := 25) rfl ?_
    obtain ⟨rfl, rfl⟩ := ic_s2 h
    exact ev_lreturn (a := 0) (b := 26) rfl rfl
  · have h := (if_neg c4).symm.trans h
    refine ev_iload_n (a := 0) (b := 4) rfl rfl ?_
    refine ev_i2l (a := 0) (b := 5) rfl ?_
    refine ev_lconst (a := 0) (b := 6) 0 rfl (by decide) ?_
    refine ev_ldc2 (a := 0) (b := 7) 99 rfl lcX7_130 ?_
    obtain ⟨v10, g8, e9, h⟩ := ic_b2E h
    refine ev_isI (a := 0) (b := 8) [ic_J (Int32.toInt64 x2), ic_J 0, ic_J 99] rfl okX7_in rfl lmX7_42 rfl (Nat.le_of_ble_eq_true rfl) (eX7_in e9) (Nat.le_of_ble_eq_true rfl) rfl ?_
    refine ev_ifeq (a := 0) (b := 9) 43 rfl rfl (fun c11 => ?_) (fun c11 => ?_)
    · have h := (if_pos c11).symm.trans h
      refine ev_aload_n (a := 0) (b := 22) rfl rfl ?_
      refine ev_iconst (a := 0) (b := 23) 0 rfl (by decide) ?_
      obtain ⟨v14, g12, e13, h⟩ := ic_b2E h
      refine ev_ivI (a := 0) (b := 24) [ic_I 0] rfl okX7_finds rfl lmX7_117 rfl (rc16) (Nat.le_of_ble_eq_true rfl) (eX7_finds e13) (Nat.le_of_ble_eq_true rfl) rfl ?_
      refine ev_i2l (a := 0) (b := 25) rfl ?_
      obtain ⟨rfl, rfl⟩ := ic_s2 h
      exact ev_lreturn (a := 0) (b := 26) rfl rfl
    · have h := (if_neg c11).symm.trans h
      refine ev_iload_n (a := 0) (b := 10) rfl rfl ?_
      refine ev_i2l (a := 0) (b := 11) rfl ?_
      refine ev_lconst (a := 0) (b := 12) 0 rfl (by decide) ?_
      refine ev_ldc2 (a := 0) (b := 13) 15 rfl lcX7_46 ?_
      obtain ⟨v17, g15, e16, h⟩ := ic_b2E h
      refine ev_isI (a := 0) (b := 14) [ic_J (Int32.toInt64 x3), ic_J 0, ic_J 15] rfl okX7_in rfl lmX7_42 rfl (Nat.le_of_ble_eq_true rfl) (eX7_in e16) (Nat.le_of_ble_eq_true rfl) rfl ?_
      refine ev_ifeq (a := 0) (b := 15) 43 rfl rfl (fun c18 => ?_) (fun c18 => ?_)
      · have h := (if_pos c18).symm.trans h
        refine ev_aload_n (a := 0) (b := 22) rfl rfl ?_
        refine ev_iconst (a := 0) (b := 23) 0 rfl (by decide) ?_
        obtain ⟨v21, g19, e20, h⟩ := ic_b2E h
        refine ev_ivI (a := 0) (b := 24) [ic_I 0] rfl okX7_finds rfl lmX7_117 rfl (rc16) (Nat.le_of_ble_eq_true rfl) (eX7_finds e20) (Nat.le_of_ble_eq_true rfl) rfl ?_
        refine ev_i2l (a := 0) (b := 25) rfl ?_
        obtain ⟨rfl, rfl⟩ := ic_s2 h
        exact ev_lreturn (a := 0) (b := 26) rfl rfl
      · have h := (if_neg c18).symm.trans h
        refine ev_iload (a := 0) (b := 16) rfl rfl ?_
        refine ev_i2l (a := 0) (b := 17) rfl ?_
        refine ev_lconst (a := 0) (b := 18) 0 rfl (by decide) ?_
        refine ev_lconst (a := 0) (b := 19) 1 rfl (by decide) ?_
        obtain ⟨v24, g22, e23, h⟩ := ic_b2E h
        refine ev_isI (a := 0) (b := 20) [ic_J (Int32.toInt64 x4), ic_J 0, ic_J 1] rfl okX7_in rfl lmX7_42 rfl (Nat.le_of_ble_eq_true rfl) (eX7_in e23) (Nat.le_of_ble_eq_true rfl) rfl ?_
        refine ev_ifne (a := 0) (b := 21) 50 rfl rfl (fun c25 => ?_) (fun c25 => ?_)
        · have h := (if_neg c25).symm.trans h
          refine ev_aload_n (a := 0) (b := 27) rfl rfl ?_
          refine ev_get (a := 0) (b := 28) 7 0 rfl rfl (Nat.le_of_ble_eq_true rfl) lfX7_7 (gX7_d) ?_
          refine ev_iconst (a := 0) (b := 29) 3 rfl (by decide) ?_
          refine ev_ialdk (a := 0) (b := 30) 3 (by decide) rfl (a17 (by decide)) (by decide) ?_
          refine ev_istore (a := 0) (b := 31) [(0, ic_R 16 0 0), (1, ic_I x1), (2, ic_I x2), (3, ic_I x3), (4, ic_I x4), (5, ic_I (g22.1 (3 + 0) 3))] rfl (by decide) (And.intro (Or.inr (And.intro rfl rfl)) (And.intro (Or.inr (And.intro rfl rfl)) (And.intro (Or.inr (And.intro rfl rfl)) (And.intro (Or.inr (And.intro rfl rfl)) (And.intro (Or.inr (And.intro rfl rfl)) (And.intro (Or.inl rfl) trivial)))))) ?_
          refine ev_iconst (a := 1) (b := 0) 0 rfl (by decide) ?_
          refine ev_istore (a := 1) (b := 1) [(0, ic_R 16 0 0), (1, ic_I x1), (2, ic_I x2), (3, ic_I x3), (4, ic_I x4), (5, ic_I (g22.1 (3 + 0) 3)), (6, ic_I 0)] rfl (by decide) (And.intro (Or.inr (And.intro rfl rfl)) (And.intro (Or.inr (And.intro rfl rfl)) (And.intro (Or.inr (And.intro rfl rfl)) (And.intro (Or.inr (And.intro rfl rfl)) (And.intro (Or.inr (And.intro rfl rfl)) (And.intro (Or.inr (And.intro rfl rfl)) (And.intro (Or.inl rfl) trivial))))))) ?_
          refine ev_iconst (a := 1) (b := 2) 0 rfl (by decide) ?_
          refine ev_istore (a := 1) (b := 3) [(0, ic_R 16 0 0), (1, ic_I x1), (2, ic_I x2), (3, ic_I x3), (4, ic_I x4), (5, ic_I (g22.1 (3 + 0) 3)), (6, ic_I 0), (7, ic_I 0)] rfl (by decide) (And.intro (Or.inr (And.intro rfl rfl)) (And.intro (Or.inr (And.intro rfl rfl)) (And.intro (Or.inr (And.intro rfl rfl)) (And.intro (Or.inr (And.intro rfl rfl)) (And.intro (Or.inr (And.intro rfl rfl)) (And.intro (Or.inr (And.intro rfl rfl)) (And.intro (Or.inr (And.intro rfl rfl)) (And.intro (Or.inl rfl) trivial)))))))) ?_
          refine ev_fw (lv' := [(0, ic_R 16 0 0), (1, ic_I x1), (2, ic_I x2), (3, ic_I x3), (4, ic_I x4), (5, ic_I (g22.1 (3 + 0) 3)), (6, ic_I 0), (7, ic_I 0)]) ?_ (And.intro rfl (And.intro rfl (And.intro rfl (And.intro rfl (And.intro rfl (And.intro rfl (And.intro rfl (And.intro rfl trivial))))))))
          obtain ⟨y26, g27, e28, h⟩ := ic_b2E h
          refine tX7_odds_64 (x1 := x1) (x2 := x2) (x3 := x3) (x4 := x4) (x5 := (g22.1 (3 + 0) 3))  1000 0 0 g22 _ e28 _ _ ?_
          change ic_Ev mX7_odds 104 [(0, ic_R 16 0 0), (3, ic_I x3), (4, ic_I x4), (5, ic_I (g22.1 (3 + 0) 3)), (6, ic_I y26)] [] g27 _ _
          refine ev_aload_n (a := 1) (b := 25) rfl rfl ?_
          refine ev_get (a := 1) (b := 26) 7 0 rfl rfl (Nat.le_of_ble_eq_true rfl) lfX7_7 (gX7_d) ?_
          refine ev_iconst (a := 1) (b := 27) 3 rfl (by decide) ?_
          refine ev_iload (a := 1) (b := 28) rfl rfl ?_
          obtain ⟨g29, eg29, h⟩ := ic_letE h
          refine ev_iastk (a := 1) (b := 29) 3 (by decide) rfl (by decide) (w17 (by decide) eg29) ?_
          refine ev_bipush (a := 1) (b := 30) 16 rfl (by decide) ?_
          refine ev_istore (a := 1) (b := 31) [(3, ic_I x3), (4, ic_I x4), (6, ic_I y26), (7, ic_I 16)] rfl (by decide) (And.intro (Or.inr (And.intro rfl rfl)) (And.intro (Or.inr (And.intro rfl rfl)) (And.intro (Or.inr (And.intro rfl rfl)) (And.intro (Or.inl rfl) trivial)))) ?_
          refine ev_fw (lv' := [(3, ic_I x3), (4, ic_I x4), (6, ic_I y26), (7, ic_I 16)]) ?_ (And.intro rfl (And.intro rfl (And.intro rfl (And.intro rfl trivial))))
          obtain ⟨y30, g31, e32, h⟩ := ic_b2E h
          refine tX7_odds_116 (x3 := x3) (x4 := x4)  1000 y26 16 g29 _ e32 _ _ ?_
          change ic_Ev mX7_odds 144 [(3, ic_I x3), (4, ic_I x4), (6, ic_I y30.1), (7, ic_I y30.2)] [] g31 _ _
          refine ev_lconst (a := 2) (b := 16) 1 rfl (by decide) ?_
          refine ev_lstore (a := 2) (b := 17) [(3, ic_I x3), (4, ic_I x4), (6, ic_I y30.1), (7, ic_I y30.2), (8, ic_J 1)] rfl (by decide) (And.intro (Or.inr (And.intro rfl rfl)) (And.intro (Or.inr (And.intro rfl rfl)) (And.intro (Or.inr (And.intro rfl rfl)) (And.intro (Or.inr (And.intro rfl rfl)) (And.intro (Or.inl rfl) trivial))))) ?_
          refine ev_iconst (a := 2) (b := 18) 0 rfl (by decide) ?_
          refine ev_istore (a := 2) (b := 19) [(3, ic_I x3), (4, ic_I x4), (6, ic_I y30.1), (7, ic_I y30.2), (8, ic_J 1), (10, ic_I 0)] rfl (by decide) (And.intro (Or.inr (And.intro rfl rfl)) (And.intro (Or.inr (And.intro rfl rfl)) (And.intro (Or.inr (And.intro rfl rfl)) (And.intro (Or.inr (And.intro rfl rfl)) (And.intro (Or.inr (And.intro rfl rfl)) (And.intro (Or.inl rfl) trivial)))))) ?_
          refine ev_fw (lv' := [(3, ic_I x3), (4, ic_I x4), (6, ic_I y30.1), (7, ic_I y30.2), (8, ic_J 1), (10, ic_I 0)]) ?_ (And.intro rfl (And.intro rfl (And.intro rfl (And.intro rfl (And.intro rfl (And.intro rfl trivial))))))
          obtain ⟨y33, g34, e35, h⟩ := ic_b2E h
          refine tX7_odds_150 (x3 := x3) (x4 := x4) (x6 := y30.1) (x7 := y30.2)  1000 1 0 g31 _ e35 _ _ ?_
          change ic_Ev mX7_odds 181 [(8, ic_J y33)] [] g34 _ _
          refine ev_lload (a := 3) (b := 3) rfl rfl ?_
          obtain ⟨rfl, rfl⟩ := ic_s2 h
          exact ev_lreturn (a := 3) (b := 4) rfl rfl
        · have h := (if_pos c25).symm.trans h
          refine ev_aload_n (a := 0) (b := 22) rfl rfl ?_
          refine ev_iconst (a := 0) (b := 23) 0 rfl (by decide) ?_
          obtain ⟨v38, g36, e37, h⟩ := ic_b2E h
          refine ev_ivI (a := 0) (b := 24) [ic_I 0] rfl okX7_finds rfl lmX7_117 rfl (rc16) (Nat.le_of_ble_eq_true rfl) (eX7_finds e37) (Nat.le_of_ble_eq_true rfl) rfl ?_
          refine ev_i2l (a := 0) (b := 25) rfl ?_
          obtain ⟨rfl, rfl⟩ := ic_s2 h
          exact ev_lreturn (a := 0) (b := 26) rfl rfl
set_option maxRecDepth 20000 in
theorem eX7_seed {x1 : Int32} {g g' : ic_S} {v : Int32} (h : fX7_seed x1 g = some (v, g')) : ic_Ev mX7_seed 0 (ic_ag 0 [ic_R 16 0 0, ic_I x1]) [] g (some (ic_I v)) g' := by
  unfold fX7_seed at h
  change ic_Ev mX7_seed 0 [(0, ic_R 16 0 0), (1, ic_I x1)] [] g _ _
  refine ev_aload_n (a := 0) (b := 0) rfl rfl ?_
  refine ev_iconst (a := 0) (b := 1) 2 rfl (by decide) ?_
  refine ev_iload_n (a := 0) (b := 2) rfl rfl ?_
  obtain ⟨v3, g1, e2, h⟩ := ic_b2E h
  refine ev_ivI (a := 0) (b := 3) [ic_I 2, ic_I x1] rfl okX7_becomes rfl lmX7_114 rfl (rc16) (Nat.le_of_ble_eq_true rfl) (eX7_becomes e2) (Nat.le_of_ble_eq_true rfl) rfl ?_
  obtain ⟨rfl, rfl⟩ := ic_s2 h
  exact ev_ireturn (a := 0) (b := 4) rfl rfl rfl
set_option maxRecDepth 20000 in
theorem tX7_feed_39 {x1 : Int32} : ∀ (n : Nat) (x3 : Int32) (g : ic_S) (q : Unit × ic_S), lX7_feed_39 x1 n x3 g = some q → ∀ (r : Option ic_V) (g' : ic_S), ic_Ev mX7_feed 75 [(0, ic_R 16 0 0)] [] q.2 r g' → ic_Ev mX7_feed 39 [(0, ic_R 16 0 0), (1, ic_I x1), (3, ic_I x3)] [] g r g' := by
  intro n
  induction n with
  | zero => intro x3 g q h; cases h
  | succ n ih =>
    intro x3 g q h r g' hq
    rw [lX7_feed_39] at h
    refine ev_iload_n (a := 0) (b := 24) rfl rfl ?_
    refine ev_iflt (a := 0) (b := 25) 75 rfl rfl (fun c1001 => ?_) (fun c1001 => ?_)
    · have h := (if_pos c1001).symm.trans h
      obtain rfl := ic_s1 h
      exact ev_fw (lv' := [(0, ic_R 16 0 0)]) hq (And.intro rfl trivial)
    · have h := (if_neg c1001).symm.trans h
      refine ev_aload_n (a := 0) (b := 26) rfl rfl ?_
      refine ev_get (a := 0) (b := 27) 7 6 rfl rfl (Nat.le_of_ble_eq_true rfl) lfX7_25 (gX7_tape) ?_
      refine ev_aload_n (a := 0) (b := 28) rfl rfl ?_
      refine ev_get (a := 0) (b := 29) 7 7 rfl rfl (Nat.le_of_ble_eq_true rfl) lfX7_195 (gX7_taped) ?_
      refine ev_iload_n (a := 0) (b := 30) rfl rfl ?_
      refine ev_bipush (a := 0) (b := 31) 8 rfl (by decide) ?_
      refine ev_iload_n (a := 1) (b := 0) rfl rfl ?_
      refine ev_imul (a := 1) (b := 1) rfl ?_
      refine ev_ishr (a := 1) (b := 2) rfl ?_
      refine ev_i2b (a := 1) (b := 3) rfl ?_
      obtain ⟨h1002, h⟩ := ic_gdE h
      obtain ⟨g1003, eg1003, h⟩ := ic_letE h
      refine ev_bast (a := 1) (b := 4) rfl h1002 (w19 eg1003) ?_
      refine ev_aload_n (a := 1) (b := 5) rfl rfl ?_
      refine ev_dup (a := 1) (b := 6) rfl rfl ?_
      refine ev_get (a := 1) (b := 7) 7 7 rfl rfl (Nat.le_of_ble_eq_true rfl) lfX7_195 (gX7_taped) ?_
      refine ev_iconst (a := 1) (b := 8) 1 rfl (by decide) ?_
      refine ev_iadd (a := 1) (b := 9) rfl ?_
      obtain ⟨g1004, eg1004, h⟩ := ic_letE h
      refine ev_put (a := 1) (b := 10) 7 7 rfl rfl (Nat.le_of_ble_eq_true rfl) lfX7_195 rfl (pX7_taped eg1004) ?_
      refine ev_iinc (a := 1) (b := 11) (x3 + (-1)) [(0, ic_R 16 0 0), (1, ic_I x1), (3, ic_I (x3 + (-1)))] rfl rfl (by first | rfl | decide) (by decide) (And.intro (Or.inr (And.intro rfl rfl)) (And.intro (Or.inr (And.intro rfl rfl)) (And.intro (Or.inl rfl) trivial))) ?_
      refine ev_goto (a := 1) (b := 12) 39 rfl rfl ?_
      refine ev_fw (lv' := [(0, ic_R 16 0 0), (1, ic_I x1), (3, ic_I (x3 + (-1)))]) ?_ (And.intro rfl (And.intro rfl (And.intro rfl trivial)))
      exact ih (x3 + (-1)) g1004 _ h _ _ hq
set_option maxRecDepth 20000 in
theorem eX7_feed {x1 : Int32} {x2 : Int32} {g g' : ic_S} {v : Int32} (h : fX7_feed x1 x2 g = some (v, g')) : ic_Ev mX7_feed 0 (ic_ag 0 [ic_R 16 0 0, ic_I x1, ic_I x2]) [] g (some (ic_I v)) g' := by
  unfold fX7_feed at h
  change ic_Ev mX7_feed 0 [(0, ic_R 16 0 0), (1, ic_I x1), (2, ic_I x2)] [] g _ _
  refine ev_iload_n (a := 0) (b := 0) rfl rfl ?_
  refine ev_i2l (a := 0) (b := 1) rfl ?_
  refine ev_lconst (a := 0) (b := 2) 1 rfl (by decide) ?_
  refine ev_ldc2 (a := 0) (b := 3) 4 rfl lcX7_193 ?_
  obtain ⟨v3, g1, e2, h⟩ := ic_b2E h
  refine ev_isI (a := 0) (b := 4) [ic_J (Int32.toInt64 x2), ic_J 1, ic_J 4] rfl okX7_in rfl lmX7_42 rfl (Nat.le_of_ble_eq_true rfl) (eX7_in e2) (Nat.le_of_ble_eq_true rfl) rfl ?_
  refine ev_ifne (a := 0) (b := 5) 18 rfl rfl (fun c4 => ?_) (fun c4 => ?_)
  · have h := (if_neg c4).symm.trans h
    refine ev_aload_n (a := 0) (b := 10) rfl rfl ?_
    refine ev_get (a := 0) (b := 11) 7 7 rfl rfl (Nat.le_of_ble_eq_true rfl) lfX7_195 (gX7_taped) ?_
    refine ev_iload_n (a := 0) (b := 12) rfl rfl ?_
    refine ev_iadd (a := 0) (b := 13) rfl ?_
    refine ev_bipush (a := 0) (b := 14) 120 rfl (by decide) ?_
    refine ev_icle (a := 0) (b := 15) 35 rfl rfl (fun c5 => ?_) (fun c5 => ?_)
    · have h := (if_pos c5).symm.trans h
      refine ev_iload_n (a := 0) (b := 20) rfl rfl ?_
      refine ev_iconst (a := 0) (b := 21) 1 rfl (by decide) ?_
      refine ev_isub (a := 0) (b := 22) rfl ?_
      refine ev_istore_n (a := 0) (b := 23) [(0, ic_R 16 0 0), (1, ic_I x1), (3, ic_I (x2 - 1))] rfl (by decide) (And.intro (Or.inr (And.intro rfl rfl)) (And.intro (Or.inr (And.intro rfl rfl)) (And.intro (Or.inl rfl) trivial))) ?_
      refine ev_fw (lv' := [(0, ic_R 16 0 0), (1, ic_I x1), (3, ic_I (x2 - 1))]) ?_ (And.intro rfl (And.intro rfl (And.intro rfl trivial)))
      obtain ⟨y6, g7, e8, h⟩ := ic_b2E h
      refine tX7_feed_39 (x1 := x1)  1000 (x2 - 1) g1 _ e8 _ _ ?_
      change ic_Ev mX7_feed 75 [(0, ic_R 16 0 0)] [] g7 _ _
      refine ev_aload_n (a := 1) (b := 13) rfl rfl ?_
      refine ev_get (a := 1) (b := 14) 7 7 rfl rfl (Nat.le_of_ble_eq_true rfl) lfX7_195 (gX7_taped) ?_
      obtain ⟨rfl, rfl⟩ := ic_s2 h
      exact ev_ireturn (a := 1) (b := 15) rfl rfl rfl
    · have h := (if_neg c5).symm.trans h
      refine ev_aload_n (a := 0) (b := 16) rfl rfl ?_
      refine ev_iconst (a := 0) (b := 17) 1 rfl (by decide) ?_
      obtain ⟨v11, g9, e10, h⟩ := ic_b2E h
      refine ev_ivI (a := 0) (b := 18) [ic_I 1] rfl okX7_finds rfl lmX7_117 rfl (rc16) (Nat.le_of_ble_eq_true rfl) (eX7_finds e10) (Nat.le_of_ble_eq_true rfl) rfl ?_
      obtain ⟨rfl, rfl⟩ := ic_s2 h
      exact ev_ireturn (a := 0) (b := 19) rfl rfl rfl
  · have h := (if_pos c4).symm.trans h
    refine ev_aload_n (a := 0) (b := 6) rfl rfl ?_
    refine ev_iconst (a := 0) (b := 7) 0 rfl (by decide) ?_
    obtain ⟨v14, g12, e13, h⟩ := ic_b2E h
    refine ev_ivI (a := 0) (b := 8) [ic_I 0] rfl okX7_finds rfl lmX7_117 rfl (rc16) (Nat.le_of_ble_eq_true rfl) (eX7_finds e13) (Nat.le_of_ble_eq_true rfl) rfl ?_
    obtain ⟨rfl, rfl⟩ := ic_s2 h
    exact ev_ireturn (a := 0) (b := 9) rfl rfl rfl
set_option maxRecDepth 20000 in
theorem eX7_wipe {g g' : ic_S} {v : Int32} (h : fX7_wipe  g = some (v, g')) : ic_Ev mX7_wipe 0 (ic_ag 0 [ic_R 16 0 0]) [] g (some (ic_I v)) g' := by
  unfold fX7_wipe at h
  change ic_Ev mX7_wipe 0 [(0, ic_R 16 0 0)] [] g _ _
  refine ev_aload_n (a := 0) (b := 0) rfl rfl ?_
  refine ev_get (a := 0) (b := 1) 7 7 rfl rfl (Nat.le_of_ble_eq_true rfl) lfX7_195 (gX7_taped) ?_
  refine ev_istore_n (a := 0) (b := 2) [(0, ic_R 16 0 0), (1, ic_I (g.1 24 1))] rfl (by decide) (And.intro (Or.inr (And.intro rfl rfl)) (And.intro (Or.inl rfl) trivial)) ?_
  refine ev_aload_n (a := 0) (b := 3) rfl rfl ?_
  refine ev_iconst (a := 0) (b := 4) 0 rfl (by decide) ?_
  obtain ⟨g1, eg1, h⟩ := ic_letE h
  refine ev_put (a := 0) (b := 5) 7 7 rfl rfl (Nat.le_of_ble_eq_true rfl) lfX7_195 rfl (pX7_taped eg1) ?_
  refine ev_iload_n (a := 0) (b := 6) rfl rfl ?_
  obtain ⟨rfl, rfl⟩ := ic_s2 h
  exact ev_ireturn (a := 0) (b := 7) rfl rfl rfl
set_option maxRecDepth 20000 in
theorem eX7_letter {x0 : Int32} {g g' : ic_S} {v : Int32} (h : fX7_letter x0 g = some (v, g')) : ic_Ev mX7_letter 0 (ic_ag 0 [ic_I x0]) [] g (some (ic_I v)) g' := by
  unfold fX7_letter at h
  change ic_Ev mX7_letter 0 [(0, ic_I x0)] [] g _ _
  refine ev_iload_n (a := 0) (b := 0) rfl rfl ?_
  refine ev_bipush (a := 0) (b := 1) 97 rfl (by decide) ?_
  refine ev_iclt (a := 0) (b := 2) 21 rfl rfl (fun c1 => ?_) (fun c1 => ?_)
  · have h := (if_pos c1).symm.trans h
    refine ev_iconst (a := 0) (b := 12) 0 rfl (by decide) ?_
    obtain ⟨rfl, rfl⟩ := ic_s2 h
    exact ev_ireturn (a := 0) (b := 13) rfl rfl rfl
  · have h := (if_neg c1).symm.trans h
    refine ev_iload_n (a := 0) (b := 3) rfl rfl ?_
    refine ev_bipush (a := 0) (b := 4) 122 rfl (by decide) ?_
    refine ev_icgt (a := 0) (b := 5) 21 rfl rfl (fun c2 => ?_) (fun c2 => ?_)
    · have h := (if_pos c2).symm.trans h
      refine ev_iconst (a := 0) (b := 12) 0 rfl (by decide) ?_
      obtain ⟨rfl, rfl⟩ := ic_s2 h
      exact ev_ireturn (a := 0) (b := 13) rfl rfl rfl
    · have h := (if_neg c2).symm.trans h
      refine ev_iload_n (a := 0) (b := 6) rfl rfl ?_
      refine ev_bipush (a := 0) (b := 7) 97 rfl (by decide) ?_
      refine ev_isub (a := 0) (b := 8) rfl ?_
      refine ev_iconst (a := 0) (b := 9) 1 rfl (by decide) ?_
      refine ev_iadd (a := 0) (b := 10) rfl ?_
      refine ev_goto (a := 0) (b := 11) 22 rfl rfl ?_
      obtain ⟨rfl, rfl⟩ := ic_s2 h
      exact ev_ireturn (a := 0) (b := 13) rfl rfl rfl
set_option maxRecDepth 20000 in
theorem eX7_isDigit {x0 : Int32} {g g' : ic_S} {v : Int32} (h : fX7_isDigit x0 g = some (v, g')) : ic_Ev mX7_isDigit 0 (ic_ag 0 [ic_I x0]) [] g (some (ic_I v)) g' := by
  unfold fX7_isDigit at h
  change ic_Ev mX7_isDigit 0 [(0, ic_I x0)] [] g _ _
  refine ev_iload_n (a := 0) (b := 0) rfl rfl ?_
  refine ev_bipush (a := 0) (b := 1) 48 rfl (by decide) ?_
  refine ev_iclt (a := 0) (b := 2) 16 rfl rfl (fun c1 => ?_) (fun c1 => ?_)
  · have h := (if_pos c1).symm.trans h
    refine ev_iconst (a := 0) (b := 8) 0 rfl (by decide) ?_
    obtain ⟨rfl, rfl⟩ := ic_s2 h
    exact ev_ireturn (a := 0) (b := 9) rfl rfl rfl
  · have h := (if_neg c1).symm.trans h
    refine ev_iload_n (a := 0) (b := 3) rfl rfl ?_
    refine ev_bipush (a := 0) (b := 4) 57 rfl (by decide) ?_
    refine ev_icgt (a := 0) (b := 5) 16 rfl rfl (fun c2 => ?_) (fun c2 => ?_)
    · have h := (if_pos c2).symm.trans h
      refine ev_iconst (a := 0) (b := 8) 0 rfl (by decide) ?_
      obtain ⟨rfl, rfl⟩ := ic_s2 h
      exact ev_ireturn (a := 0) (b := 9) rfl rfl rfl
    · have h := (if_neg c2).symm.trans h
      refine ev_iconst (a := 0) (b := 6) 1 rfl (by decide) ?_
      refine ev_goto (a := 0) (b := 7) 17 rfl rfl ?_
      obtain ⟨rfl, rfl⟩ := ic_s2 h
      exact ev_ireturn (a := 0) (b := 9) rfl rfl rfl
set_option maxRecDepth 20000 in
theorem eX7_byteAt {x1 : Int32} {g g' : ic_S} {v : Int32} (h : fX7_byteAt x1 g = some (v, g')) : ic_Ev mX7_byteAt 0 (ic_ag 0 [ic_R 16 0 0, ic_I x1]) [] g (some (ic_I v)) g' := by
  unfold fX7_byteAt at h
  change ic_Ev mX7_byteAt 0 [(0, ic_R 16 0 0), (1, ic_I x1)] [] g _ _
  refine ev_iload_n (a := 0) (b := 0) rfl rfl ?_
  refine ev_aload_n (a := 0) (b := 1) rfl rfl ?_
  refine ev_get (a := 0) (b := 2) 7 7 rfl rfl (Nat.le_of_ble_eq_true rfl) lfX7_195 (gX7_taped) ?_
  refine ev_icge (a := 0) (b := 3) 17 rfl rfl (fun c1 => ?_) (fun c1 => ?_)
  · have h := (if_pos c1).symm.trans h
    refine ev_iconst (a := 0) (b := 9) (-1) rfl (by decide) ?_
    obtain ⟨rfl, rfl⟩ := ic_s2 h
    exact ev_ireturn (a := 0) (b := 10) rfl rfl rfl
  · have h := (if_neg c1).symm.trans h
    refine ev_aload_n (a := 0) (b := 4) rfl rfl ?_
    refine ev_get (a := 0) (b := 5) 7 6 rfl rfl (Nat.le_of_ble_eq_true rfl) lfX7_25 (gX7_tape) ?_
    refine ev_iload_n (a := 0) (b := 6) rfl rfl ?_
    obtain ⟨h2, h⟩ := ic_gdE h
    refine ev_bald (a := 0) (b := 7) rfl (a19) h2 ?_
    refine ev_goto (a := 0) (b := 8) 18 rfl rfl ?_
    obtain ⟨rfl, rfl⟩ := ic_s2 h
    exact ev_ireturn (a := 0) (b := 10) rfl rfl rfl
set_option maxRecDepth 20000 in
theorem tX7_next_0 : ∀ (n : Nat) (g : ic_S) (q : Unit × ic_S), lX7_next_0 n  g = some q → ∀ (r : Option ic_V) (g' : ic_S), ic_Ev mX7_next 26 [(0, ic_R 16 0 0)] [] q.2 r g' → ic_Ev mX7_next 0 [(0, ic_R 16 0 0)] [] g r g' := by
  intro n
  induction n with
  | zero => intro  g q h; cases h
  | succ n ih =>
    intro  g q h r g' hq
    rw [lX7_next_0] at h
    refine ev_aload_n (a := 0) (b := 0) rfl rfl ?_
    refine ev_aload_n (a := 0) (b := 1) rfl rfl ?_
    refine ev_get (a := 0) (b := 2) 7 8 rfl rfl (Nat.le_of_ble_eq_true rfl) lfX7_199 (gX7_at) ?_
    obtain ⟨v1003, g1001, e1002, h⟩ := ic_b2E h
    refine ev_ivI (a := 0) (b := 3) [ic_I (g.1 24 2)] rfl okX7_byteAt rfl lmX7_202 rfl (rc16) (Nat.le_of_ble_eq_true rfl) (eX7_byteAt e1002) (Nat.le_of_ble_eq_true rfl) rfl ?_
    refine ev_bipush (a := 0) (b := 4) 32 rfl (by decide) ?_
    refine ev_icne (a := 0) (b := 5) 26 rfl rfl (fun c1004 => ?_) (fun c1004 => ?_)
    · have h := (if_neg c1004).symm.trans h
      obtain rfl := ic_s1 h
      exact ev_fw (lv' := [(0, ic_R 16 0 0)]) hq (And.intro rfl trivial)
    · have h := (if_pos c1004).symm.trans h
      refine ev_aload_n (a := 0) (b := 6) rfl rfl ?_
      refine ev_dup (a := 0) (b := 7) rfl rfl ?_
      refine ev_get (a := 0) (b := 8) 7 8 rfl rfl (Nat.le_of_ble_eq_true rfl) lfX7_199 (gX7_at) ?_
      refine ev_iconst (a := 0) (b := 9) 1 rfl (by decide) ?_
      refine ev_iadd (a := 0) (b := 10) rfl ?_
      obtain ⟨g1005, eg1005, h⟩ := ic_letE h
      refine ev_put (a := 0) (b := 11) 7 8 rfl rfl (Nat.le_of_ble_eq_true rfl) lfX7_199 rfl (pX7_at eg1005) ?_
      refine ev_goto (a := 0) (b := 12) 0 rfl rfl ?_
      refine ev_fw (lv' := [(0, ic_R 16 0 0)]) ?_ (And.intro rfl trivial)
      exact ih  g1005 _ h _ _ hq
set_option maxRecDepth 20000 in
theorem tX7_next_185 : ∀ (n : Nat) (g : ic_S) (q : Unit × ic_S), lX7_next_185 n  g = some q → ∀ (r : Option ic_V) (g' : ic_S), ic_Ev mX7_next 261 [] [] q.2 r g' → ic_Ev mX7_next 185 [(0, ic_R 16 0 0)] [] g r g' := by
  intro n
  induction n with
  | zero => intro  g q h; cases h
  | succ n ih =>
    intro  g q h r g' hq
    rw [lX7_next_185] at h
    refine ev_aload_n (a := 2) (b := 29) rfl rfl ?_
    refine ev_aload_n (a := 2) (b := 30) rfl rfl ?_
    refine ev_get (a := 2) (b := 31) 7 8 rfl rfl (Nat.le_of_ble_eq_true rfl) lfX7_199 (gX7_at) ?_
    obtain ⟨v1003, g1001, e1002, h⟩ := ic_b2E h
    refine ev_ivI (a := 3) (b := 0) [ic_I (g.1 24 2)] rfl okX7_byteAt rfl lmX7_202 rfl (rc16) (Nat.le_of_ble_eq_true rfl) (eX7_byteAt e1002) (Nat.le_of_ble_eq_true rfl) rfl ?_
    obtain ⟨v1006, g1004, e1005, h⟩ := ic_b2E h
    refine ev_isI (a := 3) (b := 1) [ic_I v1003] rfl okX7_isDigit rfl lmX7_222 rfl (Nat.le_of_ble_eq_true rfl) (eX7_isDigit e1005) (Nat.le_of_ble_eq_true rfl) rfl ?_
    refine ev_ifeq (a := 3) (b := 2) 261 rfl rfl (fun c1007 => ?_) (fun c1007 => ?_)
    · have h := (if_pos c1007).symm.trans h
      obtain rfl := ic_s1 h
      exact ev_fw (lv' := []) hq trivial
    · have h := (if_neg c1007).symm.trans h
      refine ev_aload_n (a := 3) (b := 3) rfl rfl ?_
      refine ev_aload_n (a := 3) (b := 4) rfl rfl ?_
      refine ev_get (a := 3) (b := 5) 7 11 rfl rfl (Nat.le_of_ble_eq_true rfl) lfX7_208 (gX7_value) ?_
      refine ev_ldc2 (a := 3) (b := 6) 999 rfl lcX7_132 ?_
      refine ev_lcmp (a := 3) (b := 7) rfl ?_
      refine ev_ifle (a := 3) (b := 8) 218 rfl rfl (fun c1008 => ?_) (fun c1008 => ?_)
      · have h := (if_pos c1008).symm.trans h
        refine ev_aload_n (a := 3) (b := 12) rfl rfl ?_
        refine ev_get (a := 3) (b := 13) 7 11 rfl rfl (Nat.le_of_ble_eq_true rfl) lfX7_208 (gX7_value) ?_
        refine ev_ldc2 (a := 3) (b := 14) 10 rfl lcX7_225 ?_
        refine ev_lmul (a := 3) (b := 15) rfl ?_
        refine ev_aload_n (a := 3) (b := 16) rfl rfl ?_
        refine ev_aload_n (a := 3) (b := 17) rfl rfl ?_
        refine ev_get (a := 3) (b := 18) 7 8 rfl rfl (Nat.le_of_ble_eq_true rfl) lfX7_199 (gX7_at) ?_
        obtain ⟨v1011, g1009, e1010, h⟩ := ic_b2E h
        refine ev_ivI (a := 3) (b := 19) [ic_I (g1004.1 24 2)] rfl okX7_byteAt rfl lmX7_202 rfl (rc16) (Nat.le_of_ble_eq_true rfl) (eX7_byteAt e1010) (Nat.le_of_ble_eq_true rfl) rfl ?_
        refine ev_i2l (a := 3) (b := 20) rfl ?_
        refine ev_ladd (a := 3) (b := 21) rfl ?_
        refine ev_ldc2 (a := 3) (b := 22) 48 rfl lcX7_227 ?_
        refine ev_lsub (a := 3) (b := 23) rfl ?_
        obtain ⟨g1012, eg1012, h⟩ := ic_letE h
        refine ev_put (a := 3) (b := 24) 7 11 rfl rfl (Nat.le_of_ble_eq_true rfl) lfX7_208 rfl (pX7_value eg1012) ?_
        refine ev_aload_n (a := 3) (b := 25) rfl rfl ?_
        refine ev_dup (a := 3) (b := 26) rfl rfl ?_
        refine ev_get (a := 3) (b := 27) 7 8 rfl rfl (Nat.le_of_ble_eq_true rfl) lfX7_199 (gX7_at) ?_
        refine ev_iconst (a := 3) (b := 28) 1 rfl (by decide) ?_
        refine ev_iadd (a := 3) (b := 29) rfl ?_
        obtain ⟨g1013, eg1013, h⟩ := ic_letE h
        refine ev_put (a := 3) (b := 30) 7 8 rfl rfl (Nat.le_of_ble_eq_true rfl) lfX7_199 rfl (pX7_at eg1013) ?_
        refine ev_goto (a := 3) (b := 31) 185 rfl rfl ?_
        refine ev_fw (lv' := [(0, ic_R 16 0 0)]) ?_ (And.intro rfl trivial)
        exact ih  g1013 _ h _ _ hq
      · have h := (if_neg c1008).symm.trans h
        refine ev_aload_n (a := 3) (b := 9) rfl rfl ?_
        refine ev_get (a := 3) (b := 10) 7 11 rfl rfl (Nat.le_of_ble_eq_true rfl) lfX7_208 (gX7_value) ?_
        refine ev_goto (a := 3) (b := 11) 240 rfl rfl ?_
        obtain ⟨g1014, eg1014, h⟩ := ic_letE h
        refine ev_put (a := 3) (b := 24) 7 11 rfl rfl (Nat.le_of_ble_eq_true rfl) lfX7_208 rfl (pX7_value eg1014) ?_
        refine ev_aload_n (a := 3) (b := 25) rfl rfl ?_
        refine ev_dup (a := 3) (b := 26) rfl rfl ?_
        refine ev_get (a := 3) (b := 27) 7 8 rfl rfl (Nat.le_of_ble_eq_true rfl) lfX7_199 (gX7_at) ?_
        refine ev_iconst (a := 3) (b := 28) 1 rfl (by decide) ?_
        refine ev_iadd (a := 3) (b := 29) rfl ?_
        obtain ⟨g1015, eg1015, h⟩ := ic_letE h
        refine ev_put (a := 3) (b := 30) 7 8 rfl rfl (Nat.le_of_ble_eq_true rfl) lfX7_199 rfl (pX7_at eg1015) ?_
        refine ev_goto (a := 3) (b := 31) 185 rfl rfl ?_
        refine ev_fw (lv' := [(0, ic_R 16 0 0)]) ?_ (And.intro rfl trivial)
        exact ih  g1015 _ h _ _ hq
set_option maxRecDepth 20000 in
theorem tX7_next_103 : ∀ (n : Nat) (g : ic_S) (q : Unit × ic_S), lX7_next_103 n  g = some q → ∀ (r : Option ic_V) (g' : ic_S), ic_Ev mX7_next 261 [] [] q.2 r g' → ic_Ev mX7_next 103 [(0, ic_R 16 0 0)] [] g r g' := by
  intro n
  induction n with
  | zero => intro  g q h; cases h
  | succ n ih =>
    intro  g q h r g' hq
    rw [lX7_next_103] at h
    refine ev_aload_n (a := 1) (b := 21) rfl rfl ?_
    refine ev_aload_n (a := 1) (b := 22) rfl rfl ?_
    refine ev_get (a := 1) (b := 23) 7 8 rfl rfl (Nat.le_of_ble_eq_true rfl) lfX7_199 (gX7_at) ?_
    obtain ⟨v1003, g1001, e1002, h⟩ := ic_b2E h
    refine ev_ivI (a := 1) (b := 24) [ic_I (g.1 24 2)] rfl okX7_byteAt rfl lmX7_202 rfl (rc16) (Nat.le_of_ble_eq_true rfl) (eX7_byteAt e1002) (Nat.le_of_ble_eq_true rfl) rfl ?_
    obtain ⟨v1006, g1004, e1005, h⟩ := ic_b2E h
    refine ev_isI (a := 1) (b := 25) [ic_I v1003] rfl okX7_letter rfl lmX7_215 rfl (Nat.le_of_ble_eq_true rfl) (eX7_letter e1005) (Nat.le_of_ble_eq_true rfl) rfl ?_
    refine ev_ifle (a := 1) (b := 26) 261 rfl rfl (fun c1007 => ?_) (fun c1007 => ?_)
    · have h := (if_pos c1007).symm.trans h
      obtain rfl := ic_s1 h
      exact ev_fw (lv' := []) hq trivial
    · have h := (if_neg c1007).symm.trans h
      refine ev_aload_n (a := 1) (b := 27) rfl rfl ?_
      refine ev_aload_n (a := 1) (b := 28) rfl rfl ?_
      refine ev_get (a := 1) (b := 29) 7 11 rfl rfl (Nat.le_of_ble_eq_true rfl) lfX7_208 (gX7_value) ?_
      refine ev_ldc2 (a := 1) (b := 30) 100000000000000000 rfl lcX7_218 ?_
      refine ev_lcmp (a := 1) (b := 31) rfl ?_
      refine ev_ifle (a := 2) (b := 0) 136 rfl rfl (fun c1008 => ?_) (fun c1008 => ?_)
      · have h := (if_pos c1008).symm.trans h
        refine ev_aload_n (a := 2) (b := 4) rfl rfl ?_
        refine ev_get (a := 2) (b := 5) 7 11 rfl rfl (Nat.le_of_ble_eq_true rfl) lfX7_208 (gX7_value) ?_
        refine ev_ldc2 (a := 2) (b := 6) 27 rfl lcX7_220 ?_
        refine ev_lmul (a := 2) (b := 7) rfl ?_
        refine ev_aload_n (a := 2) (b := 8) rfl rfl ?_
        refine ev_aload_n (a := 2) (b := 9) rfl rfl ?_
        refine ev_get (a := 2) (b := 10) 7 8 rfl rfl (Nat.le_of_ble_eq_true rfl) lfX7_199 (gX7_at) ?_
        obtain ⟨v1011, g1009, e1010, h⟩ := ic_b2E h
        refine ev_ivI (a := 2) (b := 11) [ic_I (g1004.1 24 2)] rfl okX7_byteAt rfl lmX7_202 rfl (rc16) (Nat.le_of_ble_eq_true rfl) (eX7_byteAt e1010) (Nat.le_of_ble_eq_true rfl) rfl ?_
        obtain ⟨v1014, g1012, e1013, h⟩ := ic_b2E h
        refine ev_isI (a := 2) (b := 12) [ic_I v1011] rfl okX7_letter rfl lmX7_215 rfl (Nat.le_of_ble_eq_true rfl) (eX7_letter e1013) (Nat.le_of_ble_eq_true rfl) rfl ?_
        refine ev_i2l (a := 2) (b := 13) rfl ?_
        refine ev_ladd (a := 2) (b := 14) rfl ?_
        obtain ⟨g1015, eg1015, h⟩ := ic_letE h
        refine ev_put (a := 2) (b := 15) 7 11 rfl rfl (Nat.le_of_ble_eq_true rfl) lfX7_208 rfl (pX7_value eg1015) ?_
        refine ev_aload_n (a := 2) (b := 16) rfl rfl ?_
        refine ev_dup (a := 2) (b := 17) rfl rfl ?_
        refine ev_get (a := 2) (b := 18) 7 8 rfl rfl (Nat.le_of_ble_eq_true rfl) lfX7_199 (gX7_at) ?_
        refine ev_iconst (a := 2) (b := 19) 1 rfl (by decide) ?_
        refine ev_iadd (a := 2) (b := 20) rfl ?_
        obtain ⟨g1016, eg1016, h⟩ := ic_letE h
        refine ev_put (a := 2) (b := 21) 7 8 rfl rfl (Nat.le_of_ble_eq_true rfl) lfX7_199 rfl (pX7_at eg1016) ?_
        refine ev_goto (a := 2) (b := 22) 103 rfl rfl ?_
        refine ev_fw (lv' := [(0, ic_R 16 0 0)]) ?_ (And.intro rfl trivial)
        exact ih  g1016 _ h _ _ hq
      · have h := (if_neg c1008).symm.trans h
        refine ev_aload_n (a := 2) (b := 1) rfl rfl ?_
        refine ev_get (a := 2) (b := 2) 7 11 rfl rfl (Nat.le_of_ble_eq_true rfl) lfX7_208 (gX7_value) ?_
        refine ev_goto (a := 2) (b := 3) 157 rfl rfl ?_
        obtain ⟨g1017, eg1017, h⟩ := ic_letE h
        refine ev_put (a := 2) (b := 15) 7 11 rfl rfl (Nat.le_of_ble_eq_true rfl) lfX7_208 rfl (pX7_value eg1017) ?_
        refine ev_aload_n (a := 2) (b := 16) rfl rfl ?_
        refine ev_dup (a := 2) (b := 17) rfl rfl ?_
        refine ev_get (a := 2) (b := 18) 7 8 rfl rfl (Nat.le_of_ble_eq_true rfl) lfX7_199 (gX7_at) ?_
        refine ev_iconst (a := 2) (b := 19) 1 rfl (by decide) ?_
        refine ev_iadd (a := 2) (b := 20) rfl ?_
        obtain ⟨g1018, eg1018, h⟩ := ic_letE h
        refine ev_put (a := 2) (b := 21) 7 8 rfl rfl (Nat.le_of_ble_eq_true rfl) lfX7_199 rfl (pX7_at eg1018) ?_
        refine ev_goto (a := 2) (b := 22) 103 rfl rfl ?_
        refine ev_fw (lv' := [(0, ic_R 16 0 0)]) ?_ (And.intro rfl trivial)
        exact ih  g1018 _ h _ _ hq
set_option maxRecDepth 20000 in
theorem eX7_next {g g' : ic_S} (h : fX7_next  g = some g') : ic_Ev mX7_next 0 (ic_ag 0 [ic_R 16 0 0]) [] g (none) g' := by
  unfold fX7_next at h
  change ic_Ev mX7_next 0 [(0, ic_R 16 0 0)] [] g _ _
  refine ev_fw (lv' := [(0, ic_R 16 0 0)]) ?_ (And.intro rfl trivial)
  obtain ⟨y1, g2, e3, h⟩ := ic_b2E h
  refine tX7_next_0  1000  g _ e3 _ _ ?_
  change ic_Ev mX7_next 26 [(0, ic_R 16 0 0)] [] g2 _ _
  refine ev_aload_n (a := 0) (b := 13) rfl rfl ?_
  refine ev_aload_n (a := 0) (b := 14) rfl rfl ?_
  refine ev_get (a := 0) (b := 15) 7 8 rfl rfl (Nat.le_of_ble_eq_true rfl) lfX7_199 (gX7_at) ?_
  obtain ⟨g4, eg4, h⟩ := ic_letE h
  refine ev_put (a := 0) (b := 16) 7 10 rfl rfl (Nat.le_of_ble_eq_true rfl) lfX7_205 rfl (pX7_from eg4) ?_
  refine ev_aload_n (a := 0) (b := 17) rfl rfl ?_
  refine ev_lconst (a := 0) (b := 18) 0 rfl (by decide) ?_
  obtain ⟨g5, eg5, h⟩ := ic_letE h
  refine ev_put (a := 0) (b := 19) 7 11 rfl rfl (Nat.le_of_ble_eq_true rfl) lfX7_208 rfl (pX7_value eg5) ?_
  refine ev_aload_n (a := 0) (b := 20) rfl rfl ?_
  refine ev_aload_n (a := 0) (b := 21) rfl rfl ?_
  refine ev_get (a := 0) (b := 22) 7 8 rfl rfl (Nat.le_of_ble_eq_true rfl) lfX7_199 (gX7_at) ?_
  obtain ⟨v8, g6, e7, h⟩ := ic_b2E h
  refine ev_ivI (a := 0) (b := 23) [ic_I (g5.1 24 2)] rfl okX7_byteAt rfl lmX7_202 rfl (rc16) (Nat.le_of_ble_eq_true rfl) (eX7_byteAt e7) (Nat.le_of_ble_eq_true rfl) rfl ?_
  refine ev_istore_n (a := 0) (b := 24) [(0, ic_R 16 0 0), (1, ic_I v8)] rfl (by decide) (And.intro (Or.inr (And.intro rfl rfl)) (And.intro (Or.inl rfl) trivial)) ?_
  refine ev_aload_n (a := 0) (b := 25) rfl rfl ?_
  refine ev_get (a := 0) (b := 26) 7 8 rfl rfl (Nat.le_of_ble_eq_true rfl) lfX7_199 (gX7_at) ?_
  refine ev_aload_n (a := 0) (b := 27) rfl rfl ?_
  refine ev_get (a := 0) (b := 28) 7 7 rfl rfl (Nat.le_of_ble_eq_true rfl) lfX7_195 (gX7_taped) ?_
  refine ev_icne (a := 0) (b := 29) 67 rfl rfl (fun c9 => ?_) (fun c9 => ?_)
  · have h := (if_neg c9).symm.trans h
    refine ev_iload_n (a := 1) (b := 2) rfl rfl ?_
    refine ev_bipush (a := 1) (b := 3) 59 rfl (by decide) ?_
    refine ev_icne (a := 1) (b := 4) 91 rfl rfl (fun c10 => ?_) (fun c10 => ?_)
    · have h := (if_neg c10).symm.trans h
      refine ev_iload_n (a := 1) (b := 15) rfl rfl ?_
      obtain ⟨v13, g11, e12, h⟩ := ic_b2E h
      refine ev_isI (a := 1) (b := 16) [ic_I v8] rfl okX7_letter rfl lmX7_215 rfl (Nat.le_of_ble_eq_true rfl) (eX7_letter e12) (Nat.le_of_ble_eq_true rfl) rfl ?_
      refine ev_ifle (a := 1) (b := 17) 173 rfl rfl (fun c14 => ?_) (fun c14 => ?_)
      · have h := (if_pos c14).symm.trans h
        refine ev_iload_n (a := 2) (b := 23) rfl rfl ?_
        obtain ⟨v17, g15, e16, h⟩ := ic_b2E h
        refine ev_isI (a := 2) (b := 24) [ic_I v8] rfl okX7_isDigit rfl lmX7_222 rfl (Nat.le_of_ble_eq_true rfl) (eX7_isDigit e16) (Nat.le_of_ble_eq_true rfl) rfl ?_
        refine ev_ifeq (a := 2) (b := 25) 256 rfl rfl (fun c18 => ?_) (fun c18 => ?_)
        · have h := (if_pos c18).symm.trans h
          refine ev_aload_n (a := 4) (b := 0) rfl rfl ?_
          refine ev_iconst (a := 4) (b := 1) 4 rfl (by decide) ?_
          obtain ⟨g19, eg19, h⟩ := ic_letE h
          refine ev_put (a := 4) (b := 2) 7 9 rfl rfl (Nat.le_of_ble_eq_true rfl) lfX7_212 rfl (pX7_sort eg19) ?_
          obtain rfl := ic_s1 h
          exact ev_return (a := 4) (b := 3) rfl rfl
        · have h := (if_neg c18).symm.trans h
          refine ev_aload_n (a := 2) (b := 26) rfl rfl ?_
          refine ev_iconst (a := 2) (b := 27) 2 rfl (by decide) ?_
          obtain ⟨g20, eg20, h⟩ := ic_letE h
          refine ev_put (a := 2) (b := 28) 7 9 rfl rfl (Nat.le_of_ble_eq_true rfl) lfX7_212 rfl (pX7_sort eg20) ?_
          refine ev_fw (lv' := [(0, ic_R 16 0 0)]) ?_ (And.intro rfl trivial)
          obtain ⟨y21, g22, e23, h⟩ := ic_b2E h
          refine tX7_next_185  1000  g20 _ e23 _ _ ?_
          change ic_Ev mX7_next 261 [] [] g22 _ _
          obtain rfl := ic_s1 h
          exact ev_return (a := 4) (b := 3) rfl rfl
      · have h := (if_neg c14).symm.trans h
        refine ev_aload_n (a := 1) (b := 18) rfl rfl ?_
        refine ev_iconst (a := 1) (b := 19) 1 rfl (by decide) ?_
        obtain ⟨g24, eg24, h⟩ := ic_letE h
        refine ev_put (a := 1) (b := 20) 7 9 rfl rfl (Nat.le_of_ble_eq_true rfl) lfX7_212 rfl (pX7_sort eg24) ?_
        refine ev_fw (lv' := [(0, ic_R 16 0 0)]) ?_ (And.intro rfl trivial)
        obtain ⟨y25, g26, e27, h⟩ := ic_b2E h
        refine tX7_next_103  1000  g24 _ e27 _ _ ?_
        change ic_Ev mX7_next 261 [] [] g26 _ _
        obtain rfl := ic_s1 h
        exact ev_return (a := 4) (b := 3) rfl rfl
    · have h := (if_pos c10).symm.trans h
      refine ev_aload_n (a := 1) (b := 5) rfl rfl ?_
      refine ev_iconst (a := 1) (b := 6) 3 rfl (by decide) ?_
      obtain ⟨g28, eg28, h⟩ := ic_letE h
      refine ev_put (a := 1) (b := 7) 7 9 rfl rfl (Nat.le_of_ble_eq_true rfl) lfX7_212 rfl (pX7_sort eg28) ?_
      refine ev_aload_n (a := 1) (b := 8) rfl rfl ?_
      refine ev_dup (a := 1) (b := 9) rfl rfl ?_
      refine ev_get (a := 1) (b := 10) 7 8 rfl rfl (Nat.le_of_ble_eq_true rfl) lfX7_199 (gX7_at) ?_
      refine ev_iconst (a := 1) (b := 11) 1 rfl (by decide) ?_
      refine ev_iadd (a := 1) (b := 12) rfl ?_
      obtain ⟨g29, eg29, h⟩ := ic_letE h
      refine ev_put (a := 1) (b := 13) 7 8 rfl rfl (Nat.le_of_ble_eq_true rfl) lfX7_199 rfl (pX7_at eg29) ?_
      refine ev_goto (a := 1) (b := 14) 261 rfl rfl ?_
      obtain rfl := ic_s1 h
      exact ev_return (a := 4) (b := 3) rfl rfl
  · have h := (if_pos c9).symm.trans h
    refine ev_aload_n (a := 0) (b := 30) rfl rfl ?_
    refine ev_iconst (a := 0) (b := 31) 0 rfl (by decide) ?_
    obtain ⟨g30, eg30, h⟩ := ic_letE h
    refine ev_put (a := 1) (b := 0) 7 9 rfl rfl (Nat.le_of_ble_eq_true rfl) lfX7_212 rfl (pX7_sort eg30) ?_
    refine ev_goto (a := 1) (b := 1) 261 rfl rfl ?_
    obtain rfl := ic_s1 h
    exact ev_return (a := 4) (b := 3) rfl rfl
set_option maxRecDepth 20000 in
theorem eX7_wrongHere {g g' : ic_S} (h : fX7_wrongHere  g = some g') : ic_Ev mX7_wrongHere 0 (ic_ag 0 [ic_R 16 0 0]) [] g (none) g' := by
  unfold fX7_wrongHere at h
  change ic_Ev mX7_wrongHere 0 [(0, ic_R 16 0 0)] [] g _ _
  refine ev_aload_n (a := 0) (b := 0) rfl rfl ?_
  refine ev_aload_n (a := 0) (b := 1) rfl rfl ?_
  refine ev_get (a := 0) (b := 2) 7 12 rfl rfl (Nat.le_of_ble_eq_true rfl) lfX7_229 (gX7_fault) ?_
  refine ev_ifge (a := 0) (b := 3) 15 rfl rfl (fun c1 => ?_) (fun c1 => ?_)
  · have h := (if_pos c1).symm.trans h
    refine ev_aload_n (a := 0) (b := 7) rfl rfl ?_
    refine ev_get (a := 0) (b := 8) 7 12 rfl rfl (Nat.le_of_ble_eq_true rfl) lfX7_229 (gX7_fault) ?_
    obtain ⟨g2, eg2, h⟩ := ic_letE h
    refine ev_put (a := 0) (b := 9) 7 12 rfl rfl (Nat.le_of_ble_eq_true rfl) lfX7_229 rfl (pX7_fault eg2) ?_
    obtain rfl := ic_s1 h
    exact ev_return (a := 0) (b := 10) rfl rfl
  · have h := (if_neg c1).symm.trans h
    refine ev_aload_n (a := 0) (b := 4) rfl rfl ?_
    refine ev_get (a := 0) (b := 5) 7 10 rfl rfl (Nat.le_of_ble_eq_true rfl) lfX7_205 (gX7_from) ?_
    refine ev_goto (a := 0) (b := 6) 19 rfl rfl ?_
    obtain ⟨g3, eg3, h⟩ := ic_letE h
    refine ev_put (a := 0) (b := 9) 7 12 rfl rfl (Nat.le_of_ble_eq_true rfl) lfX7_229 rfl (pX7_fault eg3) ?_
    obtain rfl := ic_s1 h
    exact ev_return (a := 0) (b := 10) rfl rfl
set_option maxRecDepth 20000 in
theorem eX7_isWord {x1 : Int64} {g g' : ic_S} {v : Int32} (h : fX7_isWord x1 g = some (v, g')) : ic_Ev mX7_isWord 0 (ic_ag 0 [ic_R 16 0 0, ic_J x1]) [] g (some (ic_I v)) g' := by
  unfold fX7_isWord at h
  change ic_Ev mX7_isWord 0 [(0, ic_R 16 0 0), (1, ic_J x1)] [] g _ _
  refine ev_aload_n (a := 0) (b := 0) rfl rfl ?_
  refine ev_get (a := 0) (b := 1) 7 9 rfl rfl (Nat.le_of_ble_eq_true rfl) lfX7_212 (gX7_sort) ?_
  refine ev_iconst (a := 0) (b := 2) 1 rfl (by decide) ?_
  refine ev_icne (a := 0) (b := 3) 21 rfl rfl (fun c1 => ?_) (fun c1 => ?_)
  · have h := (if_neg c1).symm.trans h
    refine ev_iconst (a := 0) (b := 11) 0 rfl (by decide) ?_
    obtain ⟨rfl, rfl⟩ := ic_s2 h
    exact ev_ireturn (a := 0) (b := 12) rfl rfl rfl
  · have h := (if_pos c1).symm.trans h
    refine ev_aload_n (a := 0) (b := 4) rfl rfl ?_
    refine ev_get (a := 0) (b := 5) 7 11 rfl rfl (Nat.le_of_ble_eq_true rfl) lfX7_208 (gX7_value) ?_
    refine ev_lload_n (a := 0) (b := 6) rfl rfl ?_
    refine ev_lcmp (a := 0) (b := 7) rfl ?_
    refine ev_ifne (a := 0) (b := 8) 21 rfl rfl (fun c2 => ?_) (fun c2 => ?_)
    · have h := (if_neg c2).symm.trans h
      refine ev_iconst (a := 0) (b := 11) 0 rfl (by decide) ?_
      obtain ⟨rfl, rfl⟩ := ic_s2 h
      exact ev_ireturn (a := 0) (b := 12) rfl rfl rfl
    · have h := (if_pos c2).symm.trans h
      refine ev_iconst (a := 0) (b := 9) 1 rfl (by decide) ?_
      refine ev_goto (a := 0) (b := 10) 22 rfl rfl ?_
      obtain ⟨rfl, rfl⟩ := ic_s2 h
      exact ev_ireturn (a := 0) (b := 12) rfl rfl rfl
set_option maxRecDepth 20000 in
theorem eX7_kindHere {g g' : ic_S} {v : Int32} (h : fX7_kindHere  g = some (v, g')) : ic_Ev mX7_kindHere 0 (ic_ag 0 [ic_R 16 0 0]) [] g (some (ic_I v)) g' := by
  unfold fX7_kindHere at h
  change ic_Ev mX7_kindHere 0 [(0, ic_R 16 0 0)] [] g _ _
  refine ev_aload_n (a := 0) (b := 0) rfl rfl ?_
  refine ev_ldc2 (a := 0) (b := 1) 10793230 rfl lcX7_232 ?_
  obtain ⟨v3, g1, e2, h⟩ := ic_b2E h
  refine ev_ivI (a := 0) (b := 2) [ic_J 10793230] rfl okX7_isWord rfl lmX7_234 rfl (rc16) (Nat.le_of_ble_eq_true rfl) (eX7_isWord e2) (Nat.le_of_ble_eq_true rfl) rfl ?_
  refine ev_ifeq (a := 0) (b := 3) 14 rfl rfl (fun c4 => ?_) (fun c4 => ?_)
  · have h := (if_pos c4).symm.trans h
    refine ev_aload_n (a := 0) (b := 6) rfl rfl ?_
    refine ev_ldc2 (a := 0) (b := 7) 190688 rfl lcX7_238 ?_
    obtain ⟨v7, g5, e6, h⟩ := ic_b2E h
    refine ev_ivI (a := 0) (b := 8) [ic_J 190688] rfl okX7_isWord rfl lmX7_234 rfl (rc16) (Nat.le_of_ble_eq_true rfl) (eX7_isWord e6) (Nat.le_of_ble_eq_true rfl) rfl ?_
    refine ev_ifeq (a := 0) (b := 9) 28 rfl rfl (fun c8 => ?_) (fun c8 => ?_)
    · have h := (if_pos c8).symm.trans h
      refine ev_aload_n (a := 0) (b := 12) rfl rfl ?_
      refine ev_ldc2 (a := 0) (b := 13) 149044 rfl lcX7_240 ?_
      obtain ⟨v11, g9, e10, h⟩ := ic_b2E h
      refine ev_ivI (a := 0) (b := 14) [ic_J 149044] rfl okX7_isWord rfl lmX7_234 rfl (rc16) (Nat.le_of_ble_eq_true rfl) (eX7_isWord e10) (Nat.le_of_ble_eq_true rfl) rfl ?_
      refine ev_ifeq (a := 0) (b := 15) 42 rfl rfl (fun c12 => ?_) (fun c12 => ?_)
      · have h := (if_pos c12).symm.trans h
        refine ev_aload_n (a := 0) (b := 18) rfl rfl ?_
        refine ev_ldc2 (a := 0) (b := 19) 10561513 rfl lcX7_242 ?_
        obtain ⟨v15, g13, e14, h⟩ := ic_b2E h
        refine ev_ivI (a := 0) (b := 20) [ic_J 10561513] rfl okX7_isWord rfl lmX7_234 rfl (rc16) (Nat.le_of_ble_eq_true rfl) (eX7_isWord e14) (Nat.le_of_ble_eq_true rfl) rfl ?_
        refine ev_ifeq (a := 0) (b := 21) 56 rfl rfl (fun c16 => ?_) (fun c16 => ?_)
        · have h := (if_pos c16).symm.trans h
          refine ev_aload_n (a := 0) (b := 24) rfl rfl ?_
          refine ev_ldc2 (a := 0) (b := 25) 1597 rfl lcX7_244 ?_
          obtain ⟨v19, g17, e18, h⟩ := ic_b2E h
          refine ev_ivI (a := 0) (b := 26) [ic_J 1597] rfl okX7_isWord rfl lmX7_234 rfl (rc16) (Nat.le_of_ble_eq_true rfl) (eX7_isWord e18) (Nat.le_of_ble_eq_true rfl) rfl ?_
          refine ev_ifeq (a := 0) (b := 27) 70 rfl rfl (fun c20 => ?_) (fun c20 => ?_)
          · have h := (if_pos c20).symm.trans h
            refine ev_aload_n (a := 0) (b := 30) rfl rfl ?_
            refine ev_ldc2 (a := 0) (b := 31) 203643563 rfl lcX7_246 ?_
            obtain ⟨v23, g21, e22, h⟩ := ic_b2E h
            refine ev_ivI (a := 1) (b := 0) [ic_J 203643563] rfl okX7_isWord rfl lmX7_234 rfl (rc16) (Nat.le_of_ble_eq_true rfl) (eX7_isWord e22) (Nat.le_of_ble_eq_true rfl) rfl ?_
            refine ev_ifeq (a := 1) (b := 1) 84 rfl rfl (fun c24 => ?_) (fun c24 => ?_)
            · have h := (if_pos c24).symm.trans h
              refine ev_aload_n (a := 1) (b := 4) rfl rfl ?_
              refine ev_ldc2 (a := 1) (b := 5) 1960187 rfl lcX7_248 ?_
              obtain ⟨v27, g25, e26, h⟩ := ic_b2E h
              refine ev_ivI (a := 1) (b := 6) [ic_J 1960187] rfl okX7_isWord rfl lmX7_234 rfl (rc16) (Nat.le_of_ble_eq_true rfl) (eX7_isWord e26) (Nat.le_of_ble_eq_true rfl) rfl ?_
              refine ev_ifeq (a := 1) (b := 7) 99 rfl rfl (fun c28 => ?_) (fun c28 => ?_)
              · have h := (if_pos c28).symm.trans h
                refine ev_iconst (a := 1) (b := 10) (-1) rfl (by decide) ?_
                obtain ⟨rfl, rfl⟩ := ic_s2 h
                exact ev_ireturn (a := 1) (b := 11) rfl rfl rfl
              · have h := (if_neg c28).symm.trans h
                refine ev_bipush (a := 1) (b := 8) 6 rfl (by decide) ?_
                refine ev_goto (a := 1) (b := 9) 100 rfl rfl ?_
                obtain ⟨rfl, rfl⟩ := ic_s2 h
                exact ev_ireturn (a := 1) (b := 11) rfl rfl rfl
            · have h := (if_neg c24).symm.trans h
              refine ev_iconst (a := 1) (b := 2) 5 rfl (by decide) ?_
              refine ev_goto (a := 1) (b := 3) 100 rfl rfl ?_
              obtain ⟨rfl, rfl⟩ := ic_s2 h
              exact ev_ireturn (a := 1) (b := 11) rfl rfl rfl
          · have h := (if_neg c20).symm.trans h
            refine ev_iconst (a := 0) (b := 28) 4 rfl (by decide) ?_
            refine ev_goto (a := 0) (b := 29) 100 rfl rfl ?_
            obtain ⟨rfl, rfl⟩ := ic_s2 h
            exact ev_ireturn (a := 1) (b := 11) rfl rfl rfl
        · have h := (if_neg c16).symm.trans h
          refine ev_iconst (a := 0) (b := 22) 3 rfl (by decide) ?_
          refine ev_goto (a := 0) (b := 23) 100 rfl rfl ?_
          obtain ⟨rfl, rfl⟩ := ic_s2 h
          exact ev_ireturn (a := 1) (b := 11) rfl rfl rfl
      · have h := (if_neg c12).symm.trans h
        refine ev_iconst (a := 0) (b := 16) 2 rfl (by decide) ?_
        refine ev_goto (a := 0) (b := 17) 100 rfl rfl ?_
        obtain ⟨rfl, rfl⟩ := ic_s2 h
        exact ev_ireturn (a := 1) (b := 11) rfl rfl rfl
    · have h := (if_neg c8).symm.trans h
      refine ev_iconst (a := 0) (b := 10) 1 rfl (by decide) ?_
      refine ev_goto (a := 0) (b := 11) 100 rfl rfl ?_
      obtain ⟨rfl, rfl⟩ := ic_s2 h
      exact ev_ireturn (a := 1) (b := 11) rfl rfl rfl
  · have h := (if_neg c4).symm.trans h
    refine ev_iconst (a := 0) (b := 4) 0 rfl (by decide) ?_
    refine ev_goto (a := 0) (b := 5) 100 rfl rfl ?_
    obtain ⟨rfl, rfl⟩ := ic_s2 h
    exact ev_ireturn (a := 1) (b := 11) rfl rfl rfl
set_option maxRecDepth 20000 in
theorem eX7_numberHere {x1 : Int32} {x2 : Int32} {g g' : ic_S} {v : Int32} (h : fX7_numberHere x1 x2 g = some (v, g')) : ic_Ev mX7_numberHere 0 (ic_ag 0 [ic_R 16 0 0, ic_I x1, ic_I x2]) [] g (some (ic_I v)) g' := by
  unfold fX7_numberHere at h
  change ic_Ev mX7_numberHere 0 [(0, ic_R 16 0 0), (1, ic_I x1), (2, ic_I x2)] [] g _ _
  refine ev_aload_n (a := 0) (b := 0) rfl rfl ?_
  refine ev_get (a := 0) (b := 1) 7 11 rfl rfl (Nat.le_of_ble_eq_true rfl) lfX7_208 (gX7_value) ?_
  refine ev_l2i (a := 0) (b := 2) rfl ?_
  refine ev_istore_n (a := 0) (b := 3) [(0, ic_R 16 0 0), (1, ic_I x1), (2, ic_I x2), (3, ic_I (Int64.toInt32 g.2))] rfl (by decide) (And.intro (Or.inr (And.intro rfl rfl)) (And.intro (Or.inr (And.intro rfl rfl)) (And.intro (Or.inr (And.intro rfl rfl)) (And.intro (Or.inl rfl) trivial)))) ?_
  refine ev_aload_n (a := 0) (b := 4) rfl rfl ?_
  refine ev_get (a := 0) (b := 5) 7 9 rfl rfl (Nat.le_of_ble_eq_true rfl) lfX7_212 (gX7_sort) ?_
  refine ev_iconst (a := 0) (b := 6) 2 rfl (by decide) ?_
  refine ev_icne (a := 0) (b := 7) 28 rfl rfl (fun c1 => ?_) (fun c1 => ?_)
  · have h := (if_neg c1).symm.trans h
    refine ev_aload_n (a := 0) (b := 16) rfl rfl ?_
    obtain ⟨g2, e3, h⟩ := ic_b1E h
    refine ev_ivV (a := 0) (b := 17) [] rfl okX7_wrongHere rfl lmX7_250 rfl (rc16) (Nat.le_of_ble_eq_true rfl) (eX7_wrongHere e3) (Nat.le_of_ble_eq_true rfl) rfl ?_
    refine ev_iconst (a := 0) (b := 18) 0 rfl (by decide) ?_
    obtain ⟨rfl, rfl⟩ := ic_s2 h
    exact ev_ireturn (a := 0) (b := 19) rfl rfl rfl
  · have h := (if_pos c1).symm.trans h
    refine ev_aload_n (a := 0) (b := 8) rfl rfl ?_
    refine ev_get (a := 0) (b := 9) 7 11 rfl rfl (Nat.le_of_ble_eq_true rfl) lfX7_208 (gX7_value) ?_
    refine ev_iload_n (a := 0) (b := 10) rfl rfl ?_
    refine ev_i2l (a := 0) (b := 11) rfl ?_
    refine ev_iload_n (a := 0) (b := 12) rfl rfl ?_
    refine ev_i2l (a := 0) (b := 13) rfl ?_
    obtain ⟨v6, g4, e5, h⟩ := ic_b2E h
    refine ev_isI (a := 0) (b := 14) [ic_J g.2, ic_J (Int32.toInt64 x1), ic_J (Int32.toInt64 x2)] rfl okX7_in rfl lmX7_42 rfl (Nat.le_of_ble_eq_true rfl) (eX7_in e5) (Nat.le_of_ble_eq_true rfl) rfl ?_
    refine ev_ifne (a := 0) (b := 15) 34 rfl rfl (fun c7 => ?_) (fun c7 => ?_)
    · have h := (if_neg c7).symm.trans h
      refine ev_aload_n (a := 0) (b := 20) rfl rfl ?_
      obtain ⟨g8, e9, h⟩ := ic_b1E h
      refine ev_ivV (a := 0) (b := 21) [] rfl okX7_next rfl lmX7_253 rfl (rc16) (Nat.le_of_ble_eq_true rfl) (eX7_next e9) (Nat.le_of_ble_eq_true rfl) rfl ?_
      refine ev_iload_n (a := 0) (b := 22) rfl rfl ?_
      obtain ⟨rfl, rfl⟩ := ic_s2 h
      exact ev_ireturn (a := 0) (b := 23) rfl rfl rfl
    · have h := (if_pos c7).symm.trans h
      refine ev_aload_n (a := 0) (b := 16) rfl rfl ?_
      obtain ⟨g10, e11, h⟩ := ic_b1E h
      refine ev_ivV (a := 0) (b := 17) [] rfl okX7_wrongHere rfl lmX7_250 rfl (rc16) (Nat.le_of_ble_eq_true rfl) (eX7_wrongHere e11) (Nat.le_of_ble_eq_true rfl) rfl ?_
      refine ev_iconst (a := 0) (b := 18) 0 rfl (by decide) ?_
      obtain ⟨rfl, rfl⟩ := ic_s2 h
      exact ev_ireturn (a := 0) (b := 19) rfl rfl rfl
set_option maxRecDepth 20000 in
theorem eX7_perhaps {x1 : Int64} {x3 : Int32} {x4 : Int32} {x5 : Int32} {g g' : ic_S} (h : fX7_perhaps x1 x3 x4 x5 g = some g') : ic_Ev mX7_perhaps 0 (ic_ag 0 [ic_R 16 0 0, ic_J x1, ic_I x3, ic_I x4, ic_I x5]) [] g (none) g' := by
  unfold fX7_perhaps at h
  change ic_Ev mX7_perhaps 0 [(0, ic_R 16 0 0), (1, ic_J x1), (3, ic_I x3), (4, ic_I x4), (5, ic_I x5)] [] g _ _
  refine ev_aload_n (a := 0) (b := 0) rfl rfl ?_
  refine ev_get (a := 0) (b := 1) 7 12 rfl rfl (Nat.le_of_ble_eq_true rfl) lfX7_229 (gX7_fault) ?_
  refine ev_ifge (a := 0) (b := 2) 44 rfl rfl (fun c1 => ?_) (fun c1 => ?_)
  · have h := (if_pos c1).symm.trans h
    obtain rfl := ic_s1 h
    exact ev_return (a := 0) (b := 22) rfl rfl
  · have h := (if_neg c1).symm.trans h
    refine ev_aload_n (a := 0) (b := 3) rfl rfl ?_
    refine ev_lload_n (a := 0) (b := 4) rfl rfl ?_
    obtain ⟨v4, g2, e3, h⟩ := ic_b2E h
    refine ev_ivI (a := 0) (b := 5) [ic_J x1] rfl okX7_isWord rfl lmX7_234 rfl (rc16) (Nat.le_of_ble_eq_true rfl) (eX7_isWord e3) (Nat.le_of_ble_eq_true rfl) rfl ?_
    refine ev_ifeq (a := 0) (b := 6) 44 rfl rfl (fun c5 => ?_) (fun c5 => ?_)
    · have h := (if_pos c5).symm.trans h
      obtain rfl := ic_s1 h
      exact ev_return (a := 0) (b := 22) rfl rfl
    · have h := (if_neg c5).symm.trans h
      refine ev_aload_n (a := 0) (b := 7) rfl rfl ?_
      obtain ⟨g6, e7, h⟩ := ic_b1E h
      refine ev_ivV (a := 0) (b := 8) [] rfl okX7_next rfl lmX7_253 rfl (rc16) (Nat.le_of_ble_eq_true rfl) (eX7_next e7) (Nat.le_of_ble_eq_true rfl) rfl ?_
      refine ev_aload_n (a := 0) (b := 9) rfl rfl ?_
      refine ev_iload (a := 0) (b := 10) rfl rfl ?_
      refine ev_iload (a := 0) (b := 11) rfl rfl ?_
      obtain ⟨v10, g8, e9, h⟩ := ic_b2E h
      refine ev_ivI (a := 0) (b := 12) [ic_I x4, ic_I x5] rfl okX7_numberHere rfl lmX7_256 rfl (rc16) (Nat.le_of_ble_eq_true rfl) (eX7_numberHere e9) (Nat.le_of_ble_eq_true rfl) rfl ?_
      refine ev_istore (a := 0) (b := 13) [(0, ic_R 16 0 0), (3, ic_I x3), (6, ic_I v10)] rfl (by decide) (And.intro (Or.inr (And.intro rfl rfl)) (And.intro (Or.inr (And.intro rfl rfl)) (And.intro (Or.inl rfl) trivial))) ?_
      refine ev_aload_n (a := 0) (b := 14) rfl rfl ?_
      refine ev_get (a := 0) (b := 15) 7 12 rfl rfl (Nat.le_of_ble_eq_true rfl) lfX7_229 (gX7_fault) ?_
      refine ev_ifge (a := 0) (b := 16) 44 rfl rfl (fun c11 => ?_) (fun c11 => ?_)
      · have h := (if_pos c11).symm.trans h
        obtain rfl := ic_s1 h
        exact ev_return (a := 0) (b := 22) rfl rfl
      · have h := (if_neg c11).symm.trans h
        refine ev_aload_n (a := 0) (b := 17) rfl rfl ?_
        refine ev_get (a := 0) (b := 18) 7 0 rfl rfl (Nat.le_of_ble_eq_true rfl) lfX7_7 (gX7_d) ?_
        refine ev_iload_n (a := 0) (b := 19) rfl rfl ?_
        refine ev_iload (a := 0) (b := 20) rfl rfl ?_
        obtain ⟨h12, h⟩ := ic_gdE h
        obtain ⟨g13, eg13, h⟩ := ic_letE h
        refine ev_iast (a := 0) (b := 21) rfl h12 (w17 (by decide) eg13) ?_
        obtain rfl := ic_s1 h
        exact ev_return (a := 0) (b := 22) rfl rfl
set_option maxRecDepth 20000 in
theorem eX7_thingHere {x1 : Int32} {g g' : ic_S} (h : fX7_thingHere x1 g = some g') : ic_Ev mX7_thingHere 0 (ic_ag 0 [ic_R 16 0 0, ic_I x1]) [] g (none) g' := by
  unfold fX7_thingHere at h
  change ic_Ev mX7_thingHere 0 [(0, ic_R 16 0 0), (1, ic_I x1)] [] g _ _
  refine ev_aload_n (a := 0) (b := 0) rfl rfl ?_
  refine ev_get (a := 0) (b := 1) 7 0 rfl rfl (Nat.le_of_ble_eq_true rfl) lfX7_7 (gX7_d) ?_
  refine ev_iconst (a := 0) (b := 2) 0 rfl (by decide) ?_
  refine ev_ialdk (a := 0) (b := 3) 0 (by decide) rfl (a17 (by decide)) (by decide) ?_
  refine ev_bipush (a := 0) (b := 4) 8 rfl (by decide) ?_
  refine ev_icne (a := 0) (b := 5) 16 rfl rfl (fun c1 => ?_) (fun c1 => ?_)
  · have h := (if_neg c1).symm.trans h
    refine ev_aload_n (a := 0) (b := 9) rfl rfl ?_
    obtain ⟨g2, e3, h⟩ := ic_b1E h
    refine ev_ivV (a := 0) (b := 10) [] rfl okX7_next rfl lmX7_253 rfl (rc16) (Nat.le_of_ble_eq_true rfl) (eX7_next e3) (Nat.le_of_ble_eq_true rfl) rfl ?_
    refine ev_aload_n (a := 0) (b := 11) rfl rfl ?_
    refine ev_iload_n (a := 0) (b := 12) rfl rfl ?_
    refine ev_iconst (a := 0) (b := 13) 0 rfl (by decide) ?_
    obtain ⟨v6, g4, e5, h⟩ := ic_b2E h
    refine ev_ivI (a := 0) (b := 14) [ic_I x1, ic_I 0] rfl okX7_comes rfl lmX7_122 rfl (rc16) (Nat.le_of_ble_eq_true rfl) (eX7_comes e5) (Nat.le_of_ble_eq_true rfl) rfl ?_
    refine ev_istore_n (a := 0) (b := 15) [(0, ic_R 16 0 0), (2, ic_I v6)] rfl (by decide) (And.intro (Or.inr (And.intro rfl rfl)) (And.intro (Or.inl rfl) trivial)) ?_
    refine ev_aload_n (a := 0) (b := 16) rfl rfl ?_
    refine ev_ldc2 (a := 0) (b := 17) 47 rfl lcX7_259 ?_
    refine ev_bipush (a := 0) (b := 18) 15 rfl (by decide) ?_
    refine ev_iload_n (a := 0) (b := 19) rfl rfl ?_
    refine ev_iadd (a := 0) (b := 20) rfl ?_
    refine ev_iconst (a := 0) (b := 21) 0 rfl (by decide) ?_
    refine ev_bipush (a := 0) (b := 22) 15 rfl (by decide) ?_
    obtain ⟨g7, e8, h⟩ := ic_b1E h
    refine ev_ivV (a := 0) (b := 23) [ic_J 47, ic_I (15 + v6), ic_I 0, ic_I 15] rfl okX7_perhaps rfl lmX7_261 rfl (rc16) (Nat.le_of_ble_eq_true rfl) (eX7_perhaps e8) (Nat.le_of_ble_eq_true rfl) rfl ?_
    refine ev_aload_n (a := 0) (b := 24) rfl rfl ?_
    refine ev_ldc2 (a := 0) (b := 25) 4351291 rfl lcX7_265 ?_
    refine ev_bipush (a := 0) (b := 26) 23 rfl (by decide) ?_
    refine ev_iload_n (a := 0) (b := 27) rfl rfl ?_
    refine ev_iadd (a := 0) (b := 28) rfl ?_
    refine ev_iconst (a := 0) (b := 29) 1 rfl (by decide) ?_
    refine ev_bipush (a := 0) (b := 30) 99 rfl (by decide) ?_
    obtain ⟨g9, e10, h⟩ := ic_b1E h
    refine ev_ivV (a := 0) (b := 31) [ic_J 4351291, ic_I (23 + v6), ic_I 1, ic_I 99] rfl okX7_perhaps rfl lmX7_261 rfl (rc16) (Nat.le_of_ble_eq_true rfl) (eX7_perhaps e10) (Nat.le_of_ble_eq_true rfl) rfl ?_
    refine ev_aload_n (a := 1) (b := 0) rfl rfl ?_
    refine ev_ldc2 (a := 1) (b := 1) 240987856 rfl lcX7_267 ?_
    refine ev_bipush (a := 1) (b := 2) 31 rfl (by decide) ?_
    refine ev_iload_n (a := 1) (b := 3) rfl rfl ?_
    refine ev_iadd (a := 1) (b := 4) rfl ?_
    refine ev_iconst (a := 1) (b := 5) 0 rfl (by decide) ?_
    refine ev_sipush (a := 1) (b := 6) 999 rfl (by decide) ?_
    obtain ⟨g11, e12, h⟩ := ic_b1E h
    refine ev_ivV (a := 1) (b := 7) [ic_J 240987856, ic_I (31 + v6), ic_I 0, ic_I 999] rfl okX7_perhaps rfl lmX7_261 rfl (rc16) (Nat.le_of_ble_eq_true rfl) (eX7_perhaps e12) (Nat.le_of_ble_eq_true rfl) rfl ?_
    refine ev_aload_n (a := 1) (b := 8) rfl rfl ?_
    refine ev_get (a := 1) (b := 9) 7 12 rfl rfl (Nat.le_of_ble_eq_true rfl) lfX7_229 (gX7_fault) ?_
    refine ev_ifge (a := 1) (b := 10) 98 rfl rfl (fun c13 => ?_) (fun c13 => ?_)
    · have h := (if_pos c13).symm.trans h
      obtain rfl := ic_s1 h
      exact ev_return (a := 1) (b := 22) rfl rfl
    · have h := (if_neg c13).symm.trans h
      refine ev_aload_n (a := 1) (b := 11) rfl rfl ?_
      refine ev_ldc2 (a := 1) (b := 12) 161437 rfl lcX7_269 ?_
      obtain ⟨v16, g14, e15, h⟩ := ic_b2E h
      refine ev_ivI (a := 1) (b := 13) [ic_J 161437] rfl okX7_isWord rfl lmX7_234 rfl (rc16) (Nat.le_of_ble_eq_true rfl) (eX7_isWord e15) (Nat.le_of_ble_eq_true rfl) rfl ?_
      refine ev_ifeq (a := 1) (b := 14) 98 rfl rfl (fun c17 => ?_) (fun c17 => ?_)
      · have h := (if_pos c17).symm.trans h
        obtain rfl := ic_s1 h
        exact ev_return (a := 1) (b := 22) rfl rfl
      · have h := (if_neg c17).symm.trans h
        refine ev_aload_n (a := 1) (b := 15) rfl rfl ?_
        refine ev_iload_n (a := 1) (b := 16) rfl rfl ?_
        refine ev_iconst (a := 1) (b := 17) 4 rfl (by decide) ?_
        refine ev_iconst (a := 1) (b := 18) 1 rfl (by decide) ?_
        obtain ⟨g18, e19, h⟩ := ic_b1E h
        refine ev_ivV (a := 1) (b := 19) [ic_I v6, ic_I 4, ic_I 1] rfl okX7_sets rfl lmX7_79 rfl (rc16) (Nat.le_of_ble_eq_true rfl) (eX7_sets e19) (Nat.le_of_ble_eq_true rfl) rfl ?_
        refine ev_aload_n (a := 1) (b := 20) rfl rfl ?_
        obtain ⟨g20, e21, h⟩ := ic_b1E h
        refine ev_ivV (a := 1) (b := 21) [] rfl okX7_next rfl lmX7_253 rfl (rc16) (Nat.le_of_ble_eq_true rfl) (eX7_next e21) (Nat.le_of_ble_eq_true rfl) rfl ?_
        obtain rfl := ic_s1 h
        exact ev_return (a := 1) (b := 22) rfl rfl
  · have h := (if_pos c1).symm.trans h
    refine ev_aload_n (a := 0) (b := 6) rfl rfl ?_
    obtain ⟨g22, e23, h⟩ := ic_b1E h
    refine ev_ivV (a := 0) (b := 7) [] rfl okX7_wrongHere rfl lmX7_250 rfl (rc16) (Nat.le_of_ble_eq_true rfl) (eX7_wrongHere e23) (Nat.le_of_ble_eq_true rfl) rfl ?_
    obtain rfl := ic_s1 h
    exact ev_return (a := 0) (b := 8) rfl rfl
set_option maxRecDepth 20000 in
theorem eX7_cartHere {g g' : ic_S} (h : fX7_cartHere  g = some g') : ic_Ev mX7_cartHere 0 (ic_ag 0 [ic_R 16 0 0]) [] g (none) g' := by
  unfold fX7_cartHere at h
  change ic_Ev mX7_cartHere 0 [(0, ic_R 16 0 0)] [] g _ _
  refine ev_aload_n (a := 0) (b := 0) rfl rfl ?_
  obtain ⟨g1, e2, h⟩ := ic_b1E h
  refine ev_ivV (a := 0) (b := 1) [] rfl okX7_next rfl lmX7_253 rfl (rc16) (Nat.le_of_ble_eq_true rfl) (eX7_next e2) (Nat.le_of_ble_eq_true rfl) rfl ?_
  refine ev_aload_n (a := 0) (b := 2) rfl rfl ?_
  refine ev_iconst (a := 0) (b := 3) 0 rfl (by decide) ?_
  refine ev_bipush (a := 0) (b := 4) 15 rfl (by decide) ?_
  obtain ⟨v5, g3, e4, h⟩ := ic_b2E h
  refine ev_ivI (a := 0) (b := 5) [ic_I 0, ic_I 15] rfl okX7_numberHere rfl lmX7_256 rfl (rc16) (Nat.le_of_ble_eq_true rfl) (eX7_numberHere e4) (Nat.le_of_ble_eq_true rfl) rfl ?_
  refine ev_istore_n (a := 0) (b := 6) [(0, ic_R 16 0 0), (1, ic_I v5)] rfl (by decide) (And.intro (Or.inr (And.intro rfl rfl)) (And.intro (Or.inl rfl) trivial)) ?_
  refine ev_aload_n (a := 0) (b := 7) rfl rfl ?_
  refine ev_get (a := 0) (b := 8) 7 12 rfl rfl (Nat.le_of_ble_eq_true rfl) lfX7_229 (gX7_fault) ?_
  refine ev_iflt (a := 0) (b := 9) 20 rfl rfl (fun c6 => ?_) (fun c6 => ?_)
  · have h := (if_pos c6).symm.trans h
    refine ev_aload_n (a := 0) (b := 11) rfl rfl ?_
    refine ev_get (a := 0) (b := 12) 7 0 rfl rfl (Nat.le_of_ble_eq_true rfl) lfX7_7 (gX7_d) ?_
    refine ev_iconst (a := 0) (b := 13) 3 rfl (by decide) ?_
    refine ev_iload_n (a := 0) (b := 14) rfl rfl ?_
    obtain ⟨g7, eg7, h⟩ := ic_letE h
    refine ev_iastk (a := 0) (b := 15) 3 (by decide) rfl (by decide) (w17 (by decide) eg7) ?_
    refine ev_aload_n (a := 0) (b := 16) rfl rfl ?_
    refine ev_get (a := 0) (b := 17) 7 0 rfl rfl (Nat.le_of_ble_eq_true rfl) lfX7_7 (gX7_d) ?_
    refine ev_iconst (a := 0) (b := 18) 4 rfl (by decide) ?_
    refine ev_iconst (a := 0) (b := 19) 1 rfl (by decide) ?_
    obtain ⟨g8, eg8, h⟩ := ic_letE h
    refine ev_iastk (a := 0) (b := 20) 4 (by decide) rfl (by decide) (w17 (by decide) eg8) ?_
    refine ev_aload_n (a := 0) (b := 21) rfl rfl ?_
    refine ev_ldc2 (a := 0) (b := 22) 40187 rfl lcX7_271 ?_
    obtain ⟨v11, g9, e10, h⟩ := ic_b2E h
    refine ev_ivI (a := 0) (b := 23) [ic_J 40187] rfl okX7_isWord rfl lmX7_234 rfl (rc16) (Nat.le_of_ble_eq_true rfl) (eX7_isWord e10) (Nat.le_of_ble_eq_true rfl) rfl ?_
    refine ev_ifeq (a := 0) (b := 24) 55 rfl rfl (fun c12 => ?_) (fun c12 => ?_)
    · have h := (if_pos c12).symm.trans h
      refine ev_aload_n (a := 1) (b := 0) rfl rfl ?_
      refine ev_ldc2 (a := 1) (b := 1) 315743 rfl lcX7_273 ?_
      refine ev_iconst (a := 1) (b := 2) 5 rfl (by decide) ?_
      refine ev_iconst (a := 1) (b := 3) 0 rfl (by decide) ?_
      refine ev_iconst (a := 1) (b := 4) 3 rfl (by decide) ?_
      obtain ⟨g13, e14, h⟩ := ic_b1E h
      refine ev_ivV (a := 1) (b := 5) [ic_J 315743, ic_I 5, ic_I 0, ic_I 3] rfl okX7_perhaps rfl lmX7_261 rfl (rc16) (Nat.le_of_ble_eq_true rfl) (eX7_perhaps e14) (Nat.le_of_ble_eq_true rfl) rfl ?_
      obtain rfl := ic_s1 h
      exact ev_return (a := 1) (b := 6) rfl rfl
    · have h := (if_neg c12).symm.trans h
      refine ev_aload_n (a := 0) (b := 25) rfl rfl ?_
      refine ev_get (a := 0) (b := 26) 7 0 rfl rfl (Nat.le_of_ble_eq_true rfl) lfX7_7 (gX7_d) ?_
      refine ev_iconst (a := 0) (b := 27) 4 rfl (by decide) ?_
      refine ev_iconst (a := 0) (b := 28) 0 rfl (by decide) ?_
      obtain ⟨g15, eg15, h⟩ := ic_letE h
      refine ev_iastk (a := 0) (b := 29) 4 (by decide) rfl (by decide) (w17 (by decide) eg15) ?_
      refine ev_aload_n (a := 0) (b := 30) rfl rfl ?_
      obtain ⟨g16, e17, h⟩ := ic_b1E h
      refine ev_ivV (a := 0) (b := 31) [] rfl okX7_next rfl lmX7_253 rfl (rc16) (Nat.le_of_ble_eq_true rfl) (eX7_next e17) (Nat.le_of_ble_eq_true rfl) rfl ?_
      refine ev_aload_n (a := 1) (b := 0) rfl rfl ?_
      refine ev_ldc2 (a := 1) (b := 1) 315743 rfl lcX7_273 ?_
      refine ev_iconst (a := 1) (b := 2) 5 rfl (by decide) ?_
      refine ev_iconst (a := 1) (b := 3) 0 rfl (by decide) ?_
      refine ev_iconst (a := 1) (b := 4) 3 rfl (by decide) ?_
      obtain ⟨g18, e19, h⟩ := ic_b1E h
      refine ev_ivV (a := 1) (b := 5) [ic_J 315743, ic_I 5, ic_I 0, ic_I 3] rfl okX7_perhaps rfl lmX7_261 rfl (rc16) (Nat.le_of_ble_eq_true rfl) (eX7_perhaps e19) (Nat.le_of_ble_eq_true rfl) rfl ?_
      obtain rfl := ic_s1 h
      exact ev_return (a := 1) (b := 6) rfl rfl
  · have h := (if_neg c6).symm.trans h
    obtain rfl := ic_s1 h
    exact ev_return (a := 0) (b := 10) rfl rfl
set_option maxRecDepth 20000 in
theorem eX7_item {g g' : ic_S} (h : fX7_item  g = some g') : ic_Ev mX7_item 0 (ic_ag 0 [ic_R 16 0 0]) [] g (none) g' := by
  unfold fX7_item at h
  change ic_Ev mX7_item 0 [(0, ic_R 16 0 0)] [] g _ _
  refine ev_aload_n (a := 0) (b := 0) rfl rfl ?_
  obtain ⟨v3, g1, e2, h⟩ := ic_b2E h
  refine ev_ivI (a := 0) (b := 1) [] rfl okX7_kindHere rfl lmX7_275 rfl (rc16) (Nat.le_of_ble_eq_true rfl) (eX7_kindHere e2) (Nat.le_of_ble_eq_true rfl) rfl ?_
  refine ev_istore_n (a := 0) (b := 2) [(0, ic_R 16 0 0), (1, ic_I v3)] rfl (by decide) (And.intro (Or.inr (And.intro rfl rfl)) (And.intro (Or.inl rfl) trivial)) ?_
  refine ev_iload_n (a := 0) (b := 3) rfl rfl ?_
  refine ev_iflt (a := 0) (b := 4) 17 rfl rfl (fun c4 => ?_) (fun c4 => ?_)
  · have h := (if_pos c4).symm.trans h
    refine ev_aload_n (a := 0) (b := 9) rfl rfl ?_
    refine ev_ldc2 (a := 0) (b := 10) 60284 rfl lcX7_281 ?_
    obtain ⟨v7, g5, e6, h⟩ := ic_b2E h
    refine ev_ivI (a := 0) (b := 11) [ic_J 60284] rfl okX7_isWord rfl lmX7_234 rfl (rc16) (Nat.le_of_ble_eq_true rfl) (eX7_isWord e6) (Nat.le_of_ble_eq_true rfl) rfl ?_
    refine ev_ifeq (a := 0) (b := 12) 34 rfl rfl (fun c8 => ?_) (fun c8 => ?_)
    · have h := (if_pos c8).symm.trans h
      refine ev_aload_n (a := 0) (b := 16) rfl rfl ?_
      refine ev_ldc2 (a := 0) (b := 17) 247702 rfl lcX7_286 ?_
      obtain ⟨v11, g9, e10, h⟩ := ic_b2E h
      refine ev_ivI (a := 0) (b := 18) [ic_J 247702] rfl okX7_isWord rfl lmX7_234 rfl (rc16) (Nat.le_of_ble_eq_true rfl) (eX7_isWord e10) (Nat.le_of_ble_eq_true rfl) rfl ?_
      refine ev_ifeq (a := 0) (b := 19) 65 rfl rfl (fun c12 => ?_) (fun c12 => ?_)
      · have h := (if_pos c12).symm.trans h
        refine ev_aload_n (a := 0) (b := 31) rfl rfl ?_
        obtain ⟨g13, e14, h⟩ := ic_b1E h
        refine ev_ivV (a := 1) (b := 0) [] rfl okX7_wrongHere rfl lmX7_250 rfl (rc16) (Nat.le_of_ble_eq_true rfl) (eX7_wrongHere e14) (Nat.le_of_ble_eq_true rfl) rfl ?_
        obtain rfl := ic_s1 h
        exact ev_return (a := 1) (b := 1) rfl rfl
      · have h := (if_neg c12).symm.trans h
        refine ev_aload_n (a := 0) (b := 20) rfl rfl ?_
        obtain ⟨g15, e16, h⟩ := ic_b1E h
        refine ev_ivV (a := 0) (b := 21) [] rfl okX7_next rfl lmX7_253 rfl (rc16) (Nat.le_of_ble_eq_true rfl) (eX7_next e16) (Nat.le_of_ble_eq_true rfl) rfl ?_
        refine ev_aload_n (a := 0) (b := 22) rfl rfl ?_
        refine ev_get (a := 0) (b := 23) 7 0 rfl rfl (Nat.le_of_ble_eq_true rfl) lfX7_7 (gX7_d) ?_
        refine ev_bipush (a := 0) (b := 24) 6 rfl (by decide) ?_
        refine ev_aload_n (a := 0) (b := 25) rfl rfl ?_
        refine ev_iconst (a := 0) (b := 26) 0 rfl (by decide) ?_
        refine ev_bipush (a := 0) (b := 27) 20 rfl (by decide) ?_
        obtain ⟨v19, g17, e18, h⟩ := ic_b2E h
        refine ev_ivI (a := 0) (b := 28) [ic_I 0, ic_I 20] rfl okX7_numberHere rfl lmX7_256 rfl (rc16) (Nat.le_of_ble_eq_true rfl) (eX7_numberHere e18) (Nat.le_of_ble_eq_true rfl) rfl ?_
        obtain ⟨g20, eg20, h⟩ := ic_letE h
        refine ev_iastk (a := 0) (b := 29) 6 (by decide) rfl (by decide) (w17 (by decide) eg20) ?_
        refine ev_goto (a := 0) (b := 30) 69 rfl rfl ?_
        obtain rfl := ic_s1 h
        exact ev_return (a := 1) (b := 1) rfl rfl
    · have h := (if_neg c8).symm.trans h
      refine ev_aload_n (a := 0) (b := 13) rfl rfl ?_
      obtain ⟨g21, e22, h⟩ := ic_b1E h
      refine ev_ivV (a := 0) (b := 14) [] rfl okX7_cartHere rfl lmX7_283 rfl (rc16) (Nat.le_of_ble_eq_true rfl) (eX7_cartHere e22) (Nat.le_of_ble_eq_true rfl) rfl ?_
      refine ev_goto (a := 0) (b := 15) 69 rfl rfl ?_
      obtain rfl := ic_s1 h
      exact ev_return (a := 1) (b := 1) rfl rfl
  · have h := (if_neg c4).symm.trans h
    refine ev_aload_n (a := 0) (b := 5) rfl rfl ?_
    refine ev_iload_n (a := 0) (b := 6) rfl rfl ?_
    obtain ⟨g23, e24, h⟩ := ic_b1E h
    refine ev_ivV (a := 0) (b := 7) [ic_I v3] rfl okX7_thingHere rfl lmX7_278 rfl (rc16) (Nat.le_of_ble_eq_true rfl) (eX7_thingHere e24) (Nat.le_of_ble_eq_true rfl) rfl ?_
    refine ev_goto (a := 0) (b := 8) 69 rfl rfl ?_
    obtain rfl := ic_s1 h
    exact ev_return (a := 1) (b := 1) rfl rfl
set_option maxRecDepth 20000 in
theorem tX7_items_20 : ∀ (n : Nat) (x1 : Int32) (g : ic_S) (q : (Int32) × ic_S), lX7_items_20 n x1 g = some q → ∀ (r : Option ic_V) (g' : ic_S), ic_Ev mX7_items 49 [(0, ic_R 16 0 0), (1, ic_I q.1)] [] q.2 r g' → ic_Ev mX7_items 20 [(0, ic_R 16 0 0), (1, ic_I x1)] [] g r g' := by
  intro n
  induction n with
  | zero => intro x1 g q h; cases h
  | succ n ih =>
    intro x1 g q h r g' hq
    rw [lX7_items_20] at h
    refine ev_aload_n (a := 0) (b := 12) rfl rfl ?_
    refine ev_get (a := 0) (b := 13) 7 12 rfl rfl (Nat.le_of_ble_eq_true rfl) lfX7_229 (gX7_fault) ?_
    refine ev_ifge (a := 0) (b := 14) 49 rfl rfl (fun c1001 => ?_) (fun c1001 => ?_)
    · have h := (if_pos c1001).symm.trans h
      obtain rfl := ic_s1 h
      exact ev_fw (lv' := [(0, ic_R 16 0 0), (1, ic_I x1)]) hq (And.intro rfl (And.intro rfl trivial))
    · have h := (if_neg c1001).symm.trans h
      refine ev_aload_n (a := 0) (b := 15) rfl rfl ?_
      refine ev_get (a := 0) (b := 16) 7 9 rfl rfl (Nat.le_of_ble_eq_true rfl) lfX7_212 (gX7_sort) ?_
      refine ev_iconst (a := 0) (b := 17) 3 rfl (by decide) ?_
      refine ev_icne (a := 0) (b := 18) 49 rfl rfl (fun c1002 => ?_) (fun c1002 => ?_)
      · have h := (if_neg c1002).symm.trans h
        obtain rfl := ic_s1 h
        exact ev_fw (lv' := [(0, ic_R 16 0 0), (1, ic_I x1)]) hq (And.intro rfl (And.intro rfl trivial))
      · have h := (if_pos c1002).symm.trans h
        refine ev_aload_n (a := 0) (b := 19) rfl rfl ?_
        obtain ⟨g1003, e1004, h⟩ := ic_b1E h
        refine ev_ivV (a := 0) (b := 20) [] rfl okX7_next rfl lmX7_253 rfl (rc16) (Nat.le_of_ble_eq_true rfl) (eX7_next e1004) (Nat.le_of_ble_eq_true rfl) rfl ?_
        refine ev_aload_n (a := 0) (b := 21) rfl rfl ?_
        obtain ⟨g1005, e1006, h⟩ := ic_b1E h
        refine ev_ivV (a := 0) (b := 22) [] rfl okX7_item rfl lmX7_288 rfl (rc16) (Nat.le_of_ble_eq_true rfl) (eX7_item e1006) (Nat.le_of_ble_eq_true rfl) rfl ?_
        refine ev_iinc (a := 0) (b := 23) (x1 + 1) [(0, ic_R 16 0 0), (1, ic_I (x1 + 1))] rfl rfl (by first | rfl | decide) (by decide) (And.intro (Or.inr (And.intro rfl rfl)) (And.intro (Or.inl rfl) trivial)) ?_
        refine ev_goto (a := 0) (b := 24) 20 rfl rfl ?_
        refine ev_fw (lv' := [(0, ic_R 16 0 0), (1, ic_I (x1 + 1))]) ?_ (And.intro rfl (And.intro rfl trivial))
        exact ih (x1 + 1) g1005 _ h _ _ hq
set_option maxRecDepth 20000 in
theorem eX7_items {g g' : ic_S} {v : Int32} (h : fX7_items  g = some (v, g')) : ic_Ev mX7_items 0 (ic_ag 0 [ic_R 16 0 0]) [] g (some (ic_I v)) g' := by
  unfold fX7_items at h
  change ic_Ev mX7_items 0 [(0, ic_R 16 0 0)] [] g _ _
  refine ev_aload_n (a := 0) (b := 0) rfl rfl ?_
  refine ev_iconst (a := 0) (b := 1) 0 rfl (by decide) ?_
  obtain ⟨g1, eg1, h⟩ := ic_letE h
  refine ev_put (a := 0) (b := 2) 7 8 rfl rfl (Nat.le_of_ble_eq_true rfl) lfX7_199 rfl (pX7_at eg1) ?_
  refine ev_aload_n (a := 0) (b := 3) rfl rfl ?_
  refine ev_iconst (a := 0) (b := 4) (-1) rfl (by decide) ?_
  obtain ⟨g2, eg2, h⟩ := ic_letE h
  refine ev_put (a := 0) (b := 5) 7 12 rfl rfl (Nat.le_of_ble_eq_true rfl) lfX7_229 rfl (pX7_fault eg2) ?_
  refine ev_aload_n (a := 0) (b := 6) rfl rfl ?_
  obtain ⟨g3, e4, h⟩ := ic_b1E h
  refine ev_ivV (a := 0) (b := 7) [] rfl okX7_next rfl lmX7_253 rfl (rc16) (Nat.le_of_ble_eq_true rfl) (eX7_next e4) (Nat.le_of_ble_eq_true rfl) rfl ?_
  refine ev_aload_n (a := 0) (b := 8) rfl rfl ?_
  obtain ⟨g5, e6, h⟩ := ic_b1E h
  refine ev_ivV (a := 0) (b := 9) [] rfl okX7_item rfl lmX7_288 rfl (rc16) (Nat.le_of_ble_eq_true rfl) (eX7_item e6) (Nat.le_of_ble_eq_true rfl) rfl ?_
  refine ev_iconst (a := 0) (b := 10) 1 rfl (by decide) ?_
  refine ev_istore_n (a := 0) (b := 11) [(0, ic_R 16 0 0), (1, ic_I 1)] rfl (by decide) (And.intro (Or.inr (And.intro rfl rfl)) (And.intro (Or.inl rfl) trivial)) ?_
  refine ev_fw (lv' := [(0, ic_R 16 0 0), (1, ic_I 1)]) ?_ (And.intro rfl (And.intro rfl trivial))
  obtain ⟨y7, g8, e9, h⟩ := ic_b2E h
  refine tX7_items_20  1000 1 g5 _ e9 _ _ ?_
  change ic_Ev mX7_items 49 [(0, ic_R 16 0 0), (1, ic_I y7)] [] g8 _ _
  refine ev_aload_n (a := 0) (b := 25) rfl rfl ?_
  refine ev_get (a := 0) (b := 26) 7 12 rfl rfl (Nat.le_of_ble_eq_true rfl) lfX7_229 (gX7_fault) ?_
  refine ev_ifge (a := 0) (b := 27) 67 rfl rfl (fun c10 => ?_) (fun c10 => ?_)
  · have h := (if_pos c10).symm.trans h
    refine ev_iload_n (a := 1) (b := 1) rfl rfl ?_
    obtain ⟨rfl, rfl⟩ := ic_s2 h
    exact ev_ireturn (a := 1) (b := 2) rfl rfl rfl
  · have h := (if_neg c10).symm.trans h
    refine ev_aload_n (a := 0) (b := 28) rfl rfl ?_
    refine ev_get (a := 0) (b := 29) 7 9 rfl rfl (Nat.le_of_ble_eq_true rfl) lfX7_212 (gX7_sort) ?_
    refine ev_ifeq (a := 0) (b := 30) 67 rfl rfl (fun c11 => ?_) (fun c11 => ?_)
    · have h := (if_pos c11).symm.trans h
      refine ev_iload_n (a := 1) (b := 1) rfl rfl ?_
      obtain ⟨rfl, rfl⟩ := ic_s2 h
      exact ev_ireturn (a := 1) (b := 2) rfl rfl rfl
    · have h := (if_neg c11).symm.trans h
      refine ev_aload_n (a := 0) (b := 31) rfl rfl ?_
      obtain ⟨g12, e13, h⟩ := ic_b1E h
      refine ev_ivV (a := 1) (b := 0) [] rfl okX7_wrongHere rfl lmX7_250 rfl (rc16) (Nat.le_of_ble_eq_true rfl) (eX7_wrongHere e13) (Nat.le_of_ble_eq_true rfl) rfl ?_
      refine ev_iload_n (a := 1) (b := 1) rfl rfl ?_
      obtain ⟨rfl, rfl⟩ := ic_s2 h
      exact ev_ireturn (a := 1) (b := 2) rfl rfl rfl
set_option maxRecDepth 20000 in
theorem eX7_text {g g' : ic_S} {v : Int32} (h : fX7_text  g = some (v, g')) : ic_Ev mX7_text 0 (ic_ag 0 [ic_R 16 0 0]) [] g (some (ic_I v)) g' := by
  unfold fX7_text at h
  change ic_Ev mX7_text 0 [(0, ic_R 16 0 0)] [] g _ _
  refine ev_aload_n (a := 0) (b := 0) rfl rfl ?_
  refine ev_get (a := 0) (b := 1) 7 0 rfl rfl (Nat.le_of_ble_eq_true rfl) lfX7_7 (gX7_d) ?_
  refine ev_aload_n (a := 0) (b := 2) rfl rfl ?_
  refine ev_get (a := 0) (b := 3) 7 1 rfl rfl (Nat.le_of_ble_eq_true rfl) lfX7_13 (gX7_e) ?_
  obtain ⟨g1, e2, h⟩ := ic_b1E h
  refine ev_isV (a := 0) (b := 4) [ic_R 17 0 0, ic_R 17 1 0] rfl okX7_copies rfl lmX7_160 rfl (Nat.le_of_ble_eq_true rfl) (eX7_copies e2) (Nat.le_of_ble_eq_true rfl) rfl ?_
  refine ev_aload_n (a := 0) (b := 5) rfl rfl ?_
  obtain ⟨v5, g3, e4, h⟩ := ic_b2E h
  refine ev_ivI (a := 0) (b := 6) [] rfl okX7_items rfl lmX7_291 rfl (rc16) (Nat.le_of_ble_eq_true rfl) (eX7_items e4) (Nat.le_of_ble_eq_true rfl) rfl ?_
  refine ev_istore_n (a := 0) (b := 7) [(0, ic_R 16 0 0), (1, ic_I v5)] rfl (by decide) (And.intro (Or.inr (And.intro rfl rfl)) (And.intro (Or.inl rfl) trivial)) ?_
  refine ev_aload_n (a := 0) (b := 8) rfl rfl ?_
  refine ev_iconst (a := 0) (b := 9) 0 rfl (by decide) ?_
  obtain ⟨g6, eg6, h⟩ := ic_letE h
  refine ev_put (a := 0) (b := 10) 7 7 rfl rfl (Nat.le_of_ble_eq_true rfl) lfX7_195 rfl (pX7_taped eg6) ?_
  refine ev_aload_n (a := 0) (b := 11) rfl rfl ?_
  refine ev_get (a := 0) (b := 12) 7 12 rfl rfl (Nat.le_of_ble_eq_true rfl) lfX7_229 (gX7_fault) ?_
  refine ev_iflt (a := 0) (b := 13) 46 rfl rfl (fun c7 => ?_) (fun c7 => ?_)
  · have h := (if_pos c7).symm.trans h
    refine ev_iload_n (a := 0) (b := 24) rfl rfl ?_
    obtain ⟨rfl, rfl⟩ := ic_s2 h
    exact ev_ireturn (a := 0) (b := 25) rfl rfl rfl
  · have h := (if_neg c7).symm.trans h
    refine ev_aload_n (a := 0) (b := 14) rfl rfl ?_
    refine ev_get (a := 0) (b := 15) 7 1 rfl rfl (Nat.le_of_ble_eq_true rfl) lfX7_13 (gX7_e) ?_
    refine ev_aload_n (a := 0) (b := 16) rfl rfl ?_
    refine ev_get (a := 0) (b := 17) 7 0 rfl rfl (Nat.le_of_ble_eq_true rfl) lfX7_7 (gX7_d) ?_
    obtain ⟨g8, e9, h⟩ := ic_b1E h
    refine ev_isV (a := 0) (b := 18) [ic_R 17 1 0, ic_R 17 0 0] rfl okX7_copies rfl lmX7_160 rfl (Nat.le_of_ble_eq_true rfl) (eX7_copies e9) (Nat.le_of_ble_eq_true rfl) rfl ?_
    refine ev_iconst (a := 0) (b := 19) (-1) rfl (by decide) ?_
    refine ev_aload_n (a := 0) (b := 20) rfl rfl ?_
    refine ev_get (a := 0) (b := 21) 7 12 rfl rfl (Nat.le_of_ble_eq_true rfl) lfX7_229 (gX7_fault) ?_
    refine ev_isub (a := 0) (b := 22) rfl ?_
    obtain ⟨rfl, rfl⟩ := ic_s2 h
    exact ev_ireturn (a := 0) (b := 23) rfl rfl rfl
set_option maxRecDepth 20000 in
theorem eX7_hold {x1 : Int32} {x2 : Int32} {g g' : ic_S} {v : Int32} (h : fX7_hold x1 x2 g = some (v, g')) : ic_Ev mX7_hold 0 (ic_ag 0 [ic_R 16 0 0, ic_I x1, ic_I x2]) [] g (some (ic_I v)) g' := by
  unfold fX7_hold at h
  change ic_Ev mX7_hold 0 [(0, ic_R 16 0 0), (1, ic_I x1), (2, ic_I x2)] [] g _ _
  refine ev_iload_n (a := 0) (b := 0) rfl rfl ?_
  refine ev_i2l (a := 0) (b := 1) rfl ?_
  refine ev_lconst (a := 0) (b := 2) 0 rfl (by decide) ?_
  refine ev_ldc2 (a := 0) (b := 3) 9 rfl lcX7_294 ?_
  obtain ⟨v3, g1, e2, h⟩ := ic_b2E h
  refine ev_isI (a := 0) (b := 4) [ic_J (Int32.toInt64 x1), ic_J 0, ic_J 9] rfl okX7_in rfl lmX7_42 rfl (Nat.le_of_ble_eq_true rfl) (eX7_in e2) (Nat.le_of_ble_eq_true rfl) rfl ?_
  refine ev_ifeq (a := 0) (b := 5) 32 rfl rfl (fun c4 => ?_) (fun c4 => ?_)
  · have h := (if_pos c4).symm.trans h
    refine ev_aload_n (a := 0) (b := 18) rfl rfl ?_
    refine ev_iconst (a := 0) (b := 19) 0 rfl (by decide) ?_
    obtain ⟨v7, g5, e6, h⟩ := ic_b2E h
    refine ev_ivI (a := 0) (b := 20) [ic_I 0] rfl okX7_finds rfl lmX7_117 rfl (rc16) (Nat.le_of_ble_eq_true rfl) (eX7_finds e6) (Nat.le_of_ble_eq_true rfl) rfl ?_
    obtain ⟨rfl, rfl⟩ := ic_s2 h
    exact ev_ireturn (a := 0) (b := 21) rfl rfl rfl
  · have h := (if_neg c4).symm.trans h
    refine ev_iload_n (a := 0) (b := 6) rfl rfl ?_
    refine ev_i2l (a := 0) (b := 7) rfl ?_
    refine ev_ldc2 (a := 0) (b := 8) (-1) rfl lcX7_296 ?_
    refine ev_aload_n (a := 0) (b := 9) rfl rfl ?_
    refine ev_get (a := 0) (b := 10) 7 0 rfl rfl (Nat.le_of_ble_eq_true rfl) lfX7_7 (gX7_d) ?_
    refine ev_iconst (a := 0) (b := 11) 0 rfl (by decide) ?_
    refine ev_ialdk (a := 0) (b := 12) 0 (by decide) rfl (a17 (by decide)) (by decide) ?_
    refine ev_iconst (a := 0) (b := 13) 1 rfl (by decide) ?_
    refine ev_isub (a := 0) (b := 14) rfl ?_
    refine ev_i2l (a := 0) (b := 15) rfl ?_
    obtain ⟨v10, g8, e9, h⟩ := ic_b2E h
    refine ev_isI (a := 0) (b := 16) [ic_J (Int32.toInt64 x2), ic_J (-1), ic_J (Int32.toInt64 ((g1.1 (3 + 0) 0) - 1))] rfl okX7_in rfl lmX7_42 rfl (Nat.le_of_ble_eq_true rfl) (eX7_in e9) (Nat.le_of_ble_eq_true rfl) rfl ?_
    refine ev_ifne (a := 0) (b := 17) 38 rfl rfl (fun c11 => ?_) (fun c11 => ?_)
    · have h := (if_neg c11).symm.trans h
      refine ev_aload_n (a := 0) (b := 22) rfl rfl ?_
      refine ev_get (a := 0) (b := 23) 7 0 rfl rfl (Nat.le_of_ble_eq_true rfl) lfX7_7 (gX7_d) ?_
      refine ev_bipush (a := 0) (b := 24) 63 rfl (by decide) ?_
      refine ev_iload_n (a := 0) (b := 25) rfl rfl ?_
      refine ev_iadd (a := 0) (b := 26) rfl ?_
      refine ev_iload_n (a := 0) (b := 27) rfl rfl ?_
      refine ev_iconst (a := 0) (b := 28) 1 rfl (by decide) ?_
      refine ev_iadd (a := 0) (b := 29) rfl ?_
      obtain ⟨h12, h⟩ := ic_gdE h
      obtain ⟨g13, eg13, h⟩ := ic_letE h
      refine ev_iast (a := 0) (b := 30) rfl h12 (w17 (by decide) eg13) ?_
      refine ev_iconst (a := 0) (b := 31) 1 rfl (by decide) ?_
      obtain ⟨rfl, rfl⟩ := ic_s2 h
      exact ev_ireturn (a := 1) (b := 0) rfl rfl rfl
    · have h := (if_pos c11).symm.trans h
      refine ev_aload_n (a := 0) (b := 18) rfl rfl ?_
      refine ev_iconst (a := 0) (b := 19) 0 rfl (by decide) ?_
      obtain ⟨v16, g14, e15, h⟩ := ic_b2E h
      refine ev_ivI (a := 0) (b := 20) [ic_I 0] rfl okX7_finds rfl lmX7_117 rfl (rc16) (Nat.le_of_ble_eq_true rfl) (eX7_finds e15) (Nat.le_of_ble_eq_true rfl) rfl ?_
      obtain ⟨rfl, rfl⟩ := ic_s2 h
      exact ev_ireturn (a := 0) (b := 21) rfl rfl rfl
set_option maxRecDepth 20000 in
theorem eX7_above {x0 : Int32} {g g' : ic_S} {v : Int32} (h : fX7_above x0 g = some (v, g')) : ic_Ev mX7_above 0 (ic_ag 0 [ic_I x0]) [] g (some (ic_I v)) g' := by
  unfold fX7_above at h
  change ic_Ev mX7_above 0 [(0, ic_I x0)] [] g _ _
  refine ev_iload_n (a := 0) (b := 0) rfl rfl ?_
  refine ev_iconst (a := 0) (b := 1) 3 rfl (by decide) ?_
  refine ev_icne (a := 0) (b := 2) 9 rfl rfl (fun c1 => ?_) (fun c1 => ?_)
  · have h := (if_neg c1).symm.trans h
    refine ev_iload_n (a := 0) (b := 5) rfl rfl ?_
    refine ev_iconst (a := 0) (b := 6) 4 rfl (by decide) ?_
    refine ev_icne (a := 0) (b := 7) 18 rfl rfl (fun c2 => ?_) (fun c2 => ?_)
    · have h := (if_neg c2).symm.trans h
      refine ev_iload_n (a := 0) (b := 10) rfl rfl ?_
      refine ev_bipush (a := 0) (b := 11) 6 rfl (by decide) ?_
      refine ev_icne (a := 0) (b := 12) 28 rfl rfl (fun c3 => ?_) (fun c3 => ?_)
      · have h := (if_neg c3).symm.trans h
        refine ev_iconst (a := 0) (b := 15) 0 rfl (by decide) ?_
        obtain ⟨rfl, rfl⟩ := ic_s2 h
        exact ev_ireturn (a := 0) (b := 16) rfl rfl rfl
      · have h := (if_pos c3).symm.trans h
        refine ev_iconst (a := 0) (b := 13) 2 rfl (by decide) ?_
        refine ev_goto (a := 0) (b := 14) 29 rfl rfl ?_
        obtain ⟨rfl, rfl⟩ := ic_s2 h
        exact ev_ireturn (a := 0) (b := 16) rfl rfl rfl
    · have h := (if_pos c2).symm.trans h
      refine ev_iconst (a := 0) (b := 8) 3 rfl (by decide) ?_
      refine ev_goto (a := 0) (b := 9) 29 rfl rfl ?_
      obtain ⟨rfl, rfl⟩ := ic_s2 h
      exact ev_ireturn (a := 0) (b := 16) rfl rfl rfl
  · have h := (if_pos c1).symm.trans h
    refine ev_iconst (a := 0) (b := 3) 1 rfl (by decide) ?_
    refine ev_goto (a := 0) (b := 4) 29 rfl rfl ?_
    obtain ⟨rfl, rfl⟩ := ic_s2 h
    exact ev_ireturn (a := 0) (b := 16) rfl rfl rfl
set_option maxRecDepth 20000 in
theorem eX7_as {x1 : Int32} {x2 : Int32} {g g' : ic_S} {v : Int32} (h : fX7_as x1 x2 g = some (v, g')) : ic_Ev mX7_as 0 (ic_ag 0 [ic_R 16 0 0, ic_I x1, ic_I x2]) [] g (some (ic_I v)) g' := by
  unfold fX7_as at h
  change ic_Ev mX7_as 0 [(0, ic_R 16 0 0), (1, ic_I x1), (2, ic_I x2)] [] g _ _
  refine ev_iload_n (a := 0) (b := 0) rfl rfl ?_
  refine ev_i2l (a := 0) (b := 1) rfl ?_
  refine ev_lconst (a := 0) (b := 2) 0 rfl (by decide) ?_
  refine ev_ldc2 (a := 0) (b := 3) 9 rfl lcX7_294 ?_
  obtain ⟨v3, g1, e2, h⟩ := ic_b2E h
  refine ev_isI (a := 0) (b := 4) [ic_J (Int32.toInt64 x1), ic_J 0, ic_J 9] rfl okX7_in rfl lmX7_42 rfl (Nat.le_of_ble_eq_true rfl) (eX7_in e2) (Nat.le_of_ble_eq_true rfl) rfl ?_
  refine ev_ifeq (a := 0) (b := 5) 24 rfl rfl (fun c4 => ?_) (fun c4 => ?_)
  · have h := (if_pos c4).symm.trans h
    refine ev_aload_n (a := 0) (b := 12) rfl rfl ?_
    refine ev_iconst (a := 0) (b := 13) 0 rfl (by decide) ?_
    obtain ⟨v7, g5, e6, h⟩ := ic_b2E h
    refine ev_ivI (a := 0) (b := 14) [ic_I 0] rfl okX7_finds rfl lmX7_117 rfl (rc16) (Nat.le_of_ble_eq_true rfl) (eX7_finds e6) (Nat.le_of_ble_eq_true rfl) rfl ?_
    obtain ⟨rfl, rfl⟩ := ic_s2 h
    exact ev_ireturn (a := 0) (b := 15) rfl rfl rfl
  · have h := (if_neg c4).symm.trans h
    refine ev_iload_n (a := 0) (b := 6) rfl rfl ?_
    refine ev_i2l (a := 0) (b := 7) rfl ?_
    refine ev_lconst (a := 0) (b := 8) 0 rfl (by decide) ?_
    refine ev_ldc2 (a := 0) (b := 9) 6 rfl lcX7_120 ?_
    obtain ⟨v10, g8, e9, h⟩ := ic_b2E h
    refine ev_isI (a := 0) (b := 10) [ic_J (Int32.toInt64 x2), ic_J 0, ic_J 6] rfl okX7_in rfl lmX7_42 rfl (Nat.le_of_ble_eq_true rfl) (eX7_in e9) (Nat.le_of_ble_eq_true rfl) rfl ?_
    refine ev_ifne (a := 0) (b := 11) 30 rfl rfl (fun c11 => ?_) (fun c11 => ?_)
    · have h := (if_neg c11).symm.trans h
      refine ev_aload_n (a := 0) (b := 16) rfl rfl ?_
      refine ev_get (a := 0) (b := 17) 7 0 rfl rfl (Nat.le_of_ble_eq_true rfl) lfX7_7 (gX7_d) ?_
      refine ev_bipush (a := 0) (b := 18) 63 rfl (by decide) ?_
      refine ev_iload_n (a := 0) (b := 19) rfl rfl ?_
      refine ev_iadd (a := 0) (b := 20) rfl ?_
      obtain ⟨h12, h⟩ := ic_gdE h
      refine ev_iald (a := 0) (b := 21) rfl (a17 (by decide)) h12 ?_
      refine ev_ifne (a := 0) (b := 22) 48 rfl rfl (fun c13 => ?_) (fun c13 => ?_)
      · have h := (if_neg c13).symm.trans h
        refine ev_aload_n (a := 0) (b := 27) rfl rfl ?_
        refine ev_get (a := 0) (b := 28) 7 0 rfl rfl (Nat.le_of_ble_eq_true rfl) lfX7_7 (gX7_d) ?_
        refine ev_bipush (a := 0) (b := 29) 63 rfl (by decide) ?_
        refine ev_iload_n (a := 0) (b := 30) rfl rfl ?_
        refine ev_iadd (a := 0) (b := 31) rfl ?_
        obtain ⟨h14, h⟩ := ic_gdE h
        refine ev_iald (a := 1) (b := 0) rfl (a17 (by decide)) h14 ?_
        refine ev_iconst (a := 1) (b := 1) 1 rfl (by decide) ?_
        refine ev_isub (a := 1) (b := 2) rfl ?_
        obtain ⟨y15, ey15, h⟩ := ic_letE h
        refine ev_topI ey15 ?_
        refine ev_istore_n (a := 1) (b := 3) [(0, ic_R 16 0 0), (2, ic_I x2), (3, ic_I y15)] rfl (by decide) (And.intro (Or.inr (And.intro rfl rfl)) (And.intro (Or.inr (And.intro rfl rfl)) (And.intro (Or.inl rfl) trivial))) ?_
        refine ev_aload_n (a := 1) (b := 4) rfl rfl ?_
        refine ev_iload_n (a := 1) (b := 5) rfl rfl ?_
        refine ev_iconst (a := 1) (b := 6) 0 rfl (by decide) ?_
        obtain ⟨v18, g16, e17, h⟩ := ic_b2E h
        refine ev_ivI (a := 1) (b := 7) [ic_I y15, ic_I 0] rfl okX7_its rfl lmX7_48 rfl (rc16) (Nat.le_of_ble_eq_true rfl) (eX7_its e17) (Nat.le_of_ble_eq_true rfl) rfl ?_
        refine ev_istore (a := 1) (b := 8) [(0, ic_R 16 0 0), (2, ic_I x2), (3, ic_I y15), (4, ic_I v18)] rfl (by decide) (And.intro (Or.inr (And.intro rfl rfl)) (And.intro (Or.inr (And.intro rfl rfl)) (And.intro (Or.inr (And.intro rfl rfl)) (And.intro (Or.inl rfl) trivial)))) ?_
        refine ev_iload_n (a := 1) (b := 9) rfl rfl ?_
        refine ev_ifeq (a := 1) (b := 10) 99 rfl rfl (fun c19 => ?_) (fun c19 => ?_)
        · have h := (if_pos c19).symm.trans h
          refine ev_iload_n (a := 1) (b := 23) rfl rfl ?_
          refine ev_goto (a := 1) (b := 24) 108 rfl rfl ?_
          obtain ⟨rfl, rfl⟩ := ic_s2 h
          exact ev_ireturn (a := 1) (b := 28) rfl rfl rfl
        · have h := (if_neg c19).symm.trans h
          refine ev_iload_n (a := 1) (b := 11) rfl rfl ?_
          refine ev_iload (a := 1) (b := 12) rfl rfl ?_
          refine ev_iceq (a := 1) (b := 13) 99 rfl rfl (fun c20 => ?_) (fun c20 => ?_)
          · have h := (if_pos c20).symm.trans h
            refine ev_iload_n (a := 1) (b := 23) rfl rfl ?_
            refine ev_goto (a := 1) (b := 24) 108 rfl rfl ?_
            obtain ⟨rfl, rfl⟩ := ic_s2 h
            exact ev_ireturn (a := 1) (b := 28) rfl rfl rfl
          · have h := (if_neg c20).symm.trans h
            refine ev_iload_n (a := 1) (b := 14) rfl rfl ?_
            refine ev_iload (a := 1) (b := 15) rfl rfl ?_
            obtain ⟨v23, g21, e22, h⟩ := ic_b2E h
            refine ev_isI (a := 1) (b := 16) [ic_I v18] rfl okX7_above rfl lmX7_298 rfl (Nat.le_of_ble_eq_true rfl) (eX7_above e22) (Nat.le_of_ble_eq_true rfl) rfl ?_
            refine ev_iceq (a := 1) (b := 17) 99 rfl rfl (fun c24 => ?_) (fun c24 => ?_)
            · have h := (if_pos c24).symm.trans h
              refine ev_iload_n (a := 1) (b := 23) rfl rfl ?_
              refine ev_goto (a := 1) (b := 24) 108 rfl rfl ?_
              obtain ⟨rfl, rfl⟩ := ic_s2 h
              exact ev_ireturn (a := 1) (b := 28) rfl rfl rfl
            · have h := (if_neg c24).symm.trans h
              refine ev_iload_n (a := 1) (b := 18) rfl rfl ?_
              refine ev_iload (a := 1) (b := 19) rfl rfl ?_
              obtain ⟨v27, g25, e26, h⟩ := ic_b2E h
              refine ev_isI (a := 1) (b := 20) [ic_I v18] rfl okX7_above rfl lmX7_298 rfl (Nat.le_of_ble_eq_true rfl) (eX7_above e26) (Nat.le_of_ble_eq_true rfl) rfl ?_
              obtain ⟨v30, g28, e29, h⟩ := ic_b2E h
              refine ev_isI (a := 1) (b := 21) [ic_I v27] rfl okX7_above rfl lmX7_298 rfl (Nat.le_of_ble_eq_true rfl) (eX7_above e29) (Nat.le_of_ble_eq_true rfl) rfl ?_
              refine ev_icne (a := 1) (b := 22) 103 rfl rfl (fun c31 => ?_) (fun c31 => ?_)
              · have h := (if_neg c31).symm.trans h
                refine ev_aload_n (a := 1) (b := 25) rfl rfl ?_
                refine ev_iconst (a := 1) (b := 26) 2 rfl (by decide) ?_
                obtain ⟨v34, g32, e33, h⟩ := ic_b2E h
                refine ev_ivI (a := 1) (b := 27) [ic_I 2] rfl okX7_finds rfl lmX7_117 rfl (rc16) (Nat.le_of_ble_eq_true rfl) (eX7_finds e33) (Nat.le_of_ble_eq_true rfl) rfl ?_
                obtain ⟨rfl, rfl⟩ := ic_s2 h
                exact ev_ireturn (a := 1) (b := 28) rfl rfl rfl
              · have h := (if_pos c31).symm.trans h
                refine ev_iload_n (a := 1) (b := 23) rfl rfl ?_
                refine ev_goto (a := 1) (b := 24) 108 rfl rfl ?_
                obtain ⟨rfl, rfl⟩ := ic_s2 h
                exact ev_ireturn (a := 1) (b := 28) rfl rfl rfl
      · have h := (if_pos c13).symm.trans h
        refine ev_aload_n (a := 0) (b := 23) rfl rfl ?_
        refine ev_iconst (a := 0) (b := 24) 5 rfl (by decide) ?_
        obtain ⟨v37, g35, e36, h⟩ := ic_b2E h
        refine ev_ivI (a := 0) (b := 25) [ic_I 5] rfl okX7_finds rfl lmX7_117 rfl (rc16) (Nat.le_of_ble_eq_true rfl) (eX7_finds e36) (Nat.le_of_ble_eq_true rfl) rfl ?_
        obtain ⟨rfl, rfl⟩ := ic_s2 h
        exact ev_ireturn (a := 0) (b := 26) rfl rfl rfl
    · have h := (if_pos c11).symm.trans h
      refine ev_aload_n (a := 0) (b := 12) rfl rfl ?_
      refine ev_iconst (a := 0) (b := 13) 0 rfl (by decide) ?_
      obtain ⟨v40, g38, e39, h⟩ := ic_b2E h
      refine ev_ivI (a := 0) (b := 14) [ic_I 0] rfl okX7_finds rfl lmX7_117 rfl (rc16) (Nat.le_of_ble_eq_true rfl) (eX7_finds e39) (Nat.le_of_ble_eq_true rfl) rfl ?_
      obtain ⟨rfl, rfl⟩ := ic_s2 h
      exact ev_ireturn (a := 0) (b := 15) rfl rfl rfl
