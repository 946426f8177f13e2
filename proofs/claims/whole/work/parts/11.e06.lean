set_option maxRecDepth 20000 in
theorem eX7_pulls {x1 : Int32} {g g' : ic_S} (h : fX7_pulls x1 g = some g') : ic_Ev mX7_pulls 0 (ic_ag 0 [ic_R 16 0 0, ic_I x1]) [] g (none) g' := by
  unfold fX7_pulls at h
  change ic_Ev mX7_pulls 0 [(0, ic_R 16 0 0), (1, ic_I x1)] [] g _ _
  refine ev_aload_n (a := 0) (b := 0) rfl rfl ?_
  refine ev_iload_n (a := 0) (b := 1) rfl rfl ?_
  refine ev_iconst (a := 0) (b := 2) 3 rfl (by decide) ?_
  refine ev_aload_n (a := 0) (b := 3) rfl rfl ?_
  refine ev_iload_n (a := 0) (b := 4) rfl rfl ?_
  refine ev_iconst (a := 0) (b := 5) 3 rfl (by decide) ?_
  obtain ⟨v3, g1, e2, h⟩ := ic_b2E h
  refine ev_ivI (a := 0) (b := 6) [ic_I x1, ic_I 3] rfl okX7_its rfl lmX7_48 rfl (rc16) (Nat.le_of_ble_eq_true rfl) (eX7_its e2) (Nat.le_of_ble_eq_true rfl) rfl ?_
  refine ev_aload_n (a := 0) (b := 7) rfl rfl ?_
  refine ev_iload_n (a := 0) (b := 8) rfl rfl ?_
  obtain ⟨v6, g4, e5, h⟩ := ic_b2E h
  refine ev_ivI (a := 0) (b := 9) [ic_I x1] rfl okX7_feels rfl lmX7_76 rfl (rc16) (Nat.le_of_ble_eq_true rfl) (eX7_feels e5) (Nat.le_of_ble_eq_true rfl) rfl ?_
  refine ev_iadd (a := 0) (b := 10) rfl ?_
  refine ev_iconst (a := 0) (b := 11) 0 rfl (by decide) ?_
  refine ev_sipush (a := 0) (b := 12) 999 rfl (by decide) ?_
  obtain ⟨v9, g7, e8, h⟩ := ic_b2E h
  refine ev_isI (a := 0) (b := 13) [ic_I (v3 + v6), ic_I 0, ic_I 999] rfl okX7_held rfl lmX7_63 rfl (Nat.le_of_ble_eq_true rfl) (eX7_held e8) (Nat.le_of_ble_eq_true rfl) rfl ?_
  obtain ⟨g10, e11, h⟩ := ic_b1E h
  refine ev_ivV (a := 0) (b := 14) [ic_I x1, ic_I 3, ic_I v9] rfl okX7_sets rfl lmX7_79 rfl (rc16) (Nat.le_of_ble_eq_true rfl) (eX7_sets e11) (Nat.le_of_ble_eq_true rfl) rfl ?_
  refine ev_aload_n (a := 0) (b := 15) rfl rfl ?_
  refine ev_iload_n (a := 0) (b := 16) rfl rfl ?_
  refine ev_iconst (a := 0) (b := 17) 3 rfl (by decide) ?_
  obtain ⟨v14, g12, e13, h⟩ := ic_b2E h
  refine ev_ivI (a := 0) (b := 18) [ic_I x1, ic_I 3] rfl okX7_its rfl lmX7_48 rfl (rc16) (Nat.le_of_ble_eq_true rfl) (eX7_its e13) (Nat.le_of_ble_eq_true rfl) rfl ?_
  refine ev_aload_n (a := 0) (b := 19) rfl rfl ?_
  refine ev_iload_n (a := 0) (b := 20) rfl rfl ?_
  refine ev_iconst (a := 0) (b := 21) 2 rfl (by decide) ?_
  obtain ⟨v17, g15, e16, h⟩ := ic_b2E h
  refine ev_ivI (a := 0) (b := 22) [ic_I x1, ic_I 2] rfl okX7_its rfl lmX7_48 rfl (rc16) (Nat.le_of_ble_eq_true rfl) (eX7_its e16) (Nat.le_of_ble_eq_true rfl) rfl ?_
  refine ev_iclt (a := 0) (b := 23) 140 rfl rfl (fun c18 => ?_) (fun c18 => ?_)
  · have h := (if_pos c18).symm.trans h
    obtain rfl := ic_s1 h
    exact ev_return (a := 2) (b := 22) rfl rfl
  · have h := (if_neg c18).symm.trans h
    refine ev_aload_n (a := 0) (b := 24) rfl rfl ?_
    refine ev_iload_n (a := 0) (b := 25) rfl rfl ?_
    refine ev_iconst (a := 0) (b := 26) 4 rfl (by decide) ?_
    obtain ⟨v21, g19, e20, h⟩ := ic_b2E h
    refine ev_ivI (a := 0) (b := 27) [ic_I x1, ic_I 4] rfl okX7_its rfl lmX7_48 rfl (rc16) (Nat.le_of_ble_eq_true rfl) (eX7_its e20) (Nat.le_of_ble_eq_true rfl) rfl ?_
    refine ev_ifne (a := 0) (b := 28) 140 rfl rfl (fun c22 => ?_) (fun c22 => ?_)
    · have h := (if_neg c22).symm.trans h
      obtain rfl := ic_s1 h
      exact ev_return (a := 2) (b := 22) rfl rfl
    · have h := (if_pos c22).symm.trans h
      refine ev_aload_n (a := 0) (b := 29) rfl rfl ?_
      refine ev_iload_n (a := 0) (b := 30) rfl rfl ?_
      obtain ⟨v25, g23, e24, h⟩ := ic_b2E h
      refine ev_ivI (a := 0) (b := 31) [ic_I x1] rfl okX7_steps rfl lmX7_83 rfl (rc16) (Nat.le_of_ble_eq_true rfl) (eX7_steps e24) (Nat.le_of_ble_eq_true rfl) rfl ?_
      refine ev_iconst (a := 1) (b := 0) 0 rfl (by decide) ?_
      refine ev_aload_n (a := 1) (b := 1) rfl rfl ?_
      refine ev_iload_n (a := 1) (b := 2) rfl rfl ?_
      obtain ⟨v28, g26, e27, h⟩ := ic_b2E h
      refine ev_ivI (a := 1) (b := 3) [ic_I x1] rfl okX7_far rfl lmX7_60 rfl (rc16) (Nat.le_of_ble_eq_true rfl) (eX7_far e27) (Nat.le_of_ble_eq_true rfl) rfl ?_
      obtain ⟨v31, g29, e30, h⟩ := ic_b2E h
      refine ev_isI (a := 1) (b := 4) [ic_I v25, ic_I 0, ic_I v28] rfl okX7_held rfl lmX7_63 rfl (Nat.le_of_ble_eq_true rfl) (eX7_held e30) (Nat.le_of_ble_eq_true rfl) rfl ?_
      refine ev_istore_n (a := 1) (b := 5) [(0, ic_R 16 0 0), (1, ic_I x1), (2, ic_I v31)] rfl (by decide) (And.intro (Or.inr (And.intro rfl rfl)) (And.intro (Or.inr (And.intro rfl rfl)) (And.intro (Or.inl rfl) trivial))) ?_
      refine ev_aload_n (a := 1) (b := 6) rfl rfl ?_
      refine ev_iload_n (a := 1) (b := 7) rfl rfl ?_
      refine ev_iconst (a := 1) (b := 8) 3 rfl (by decide) ?_
      refine ev_aload_n (a := 1) (b := 9) rfl rfl ?_
      refine ev_iload_n (a := 1) (b := 10) rfl rfl ?_
      refine ev_iconst (a := 1) (b := 11) 3 rfl (by decide) ?_
      obtain ⟨v34, g32, e33, h⟩ := ic_b2E h
      refine ev_ivI (a := 1) (b := 12) [ic_I x1, ic_I 3] rfl okX7_its rfl lmX7_48 rfl (rc16) (Nat.le_of_ble_eq_true rfl) (eX7_its e33) (Nat.le_of_ble_eq_true rfl) rfl ?_
      refine ev_aload_n (a := 1) (b := 13) rfl rfl ?_
      refine ev_iload_n (a := 1) (b := 14) rfl rfl ?_
      refine ev_iconst (a := 1) (b := 15) 2 rfl (by decide) ?_
      obtain ⟨v37, g35, e36, h⟩ := ic_b2E h
      refine ev_ivI (a := 1) (b := 16) [ic_I x1, ic_I 2] rfl okX7_its rfl lmX7_48 rfl (rc16) (Nat.le_of_ble_eq_true rfl) (eX7_its e36) (Nat.le_of_ble_eq_true rfl) rfl ?_
      refine ev_isub (a := 1) (b := 17) rfl ?_
      obtain ⟨g38, e39, h⟩ := ic_b1E h
      refine ev_ivV (a := 1) (b := 18) [ic_I x1, ic_I 3, ic_I (v34 - v37)] rfl okX7_sets rfl lmX7_79 rfl (rc16) (Nat.le_of_ble_eq_true rfl) (eX7_sets e39) (Nat.le_of_ble_eq_true rfl) rfl ?_
      refine ev_aload_n (a := 1) (b := 19) rfl rfl ?_
      refine ev_iload_n (a := 1) (b := 20) rfl rfl ?_
      refine ev_iconst (a := 1) (b := 21) 1 rfl (by decide) ?_
      refine ev_aload_n (a := 1) (b := 22) rfl rfl ?_
      refine ev_iload_n (a := 1) (b := 23) rfl rfl ?_
      refine ev_iconst (a := 1) (b := 24) 1 rfl (by decide) ?_
      obtain ⟨v42, g40, e41, h⟩ := ic_b2E h
      refine ev_ivI (a := 1) (b := 25) [ic_I x1, ic_I 1] rfl okX7_its rfl lmX7_48 rfl (rc16) (Nat.le_of_ble_eq_true rfl) (eX7_its e41) (Nat.le_of_ble_eq_true rfl) rfl ?_
      refine ev_aload_n (a := 1) (b := 26) rfl rfl ?_
      refine ev_iload_n (a := 1) (b := 27) rfl rfl ?_
      refine ev_iconst (a := 1) (b := 28) 1 rfl (by decide) ?_
      obtain ⟨v45, g43, e44, h⟩ := ic_b2E h
      refine ev_ivI (a := 1) (b := 29) [ic_I x1, ic_I 1] rfl okX7_its rfl lmX7_48 rfl (rc16) (Nat.le_of_ble_eq_true rfl) (eX7_its e44) (Nat.le_of_ble_eq_true rfl) rfl ?_
      refine ev_aload_n (a := 1) (b := 30) rfl rfl ?_
      refine ev_get (a := 1) (b := 31) 7 0 rfl rfl (Nat.le_of_ble_eq_true rfl) lfX7_7 (gX7_d) ?_
      refine ev_iconst (a := 2) (b := 0) 3 rfl (by decide) ?_
      refine ev_ialdk (a := 2) (b := 1) 3 (by decide) rfl (a17 (by decide)) (by decide) ?_
      refine ev_icge (a := 2) (b := 2) 111 rfl rfl (fun c46 => ?_) (fun c46 => ?_)
      · have h := (if_pos c46).symm.trans h
        refine ev_iload_n (a := 2) (b := 5) rfl rfl ?_
        refine ev_ineg (a := 2) (b := 6) rfl ?_
        refine ev_iadd (a := 2) (b := 7) rfl ?_
        obtain ⟨g47, e48, h⟩ := ic_b1E h
        refine ev_ivV (a := 2) (b := 8) [ic_I x1, ic_I 1, ic_I (v42 + (-v31))] rfl okX7_sets rfl lmX7_79 rfl (rc16) (Nat.le_of_ble_eq_true rfl) (eX7_sets e48) (Nat.le_of_ble_eq_true rfl) rfl ?_
        refine ev_aload_n (a := 2) (b := 9) rfl rfl ?_
        refine ev_iload_n (a := 2) (b := 10) rfl rfl ?_
        refine ev_bipush (a := 2) (b := 11) 6 rfl (by decide) ?_
        refine ev_aload_n (a := 2) (b := 12) rfl rfl ?_
        refine ev_iload_n (a := 2) (b := 13) rfl rfl ?_
        refine ev_bipush (a := 2) (b := 14) 6 rfl (by decide) ?_
        obtain ⟨v51, g49, e50, h⟩ := ic_b2E h
        refine ev_ivI (a := 2) (b := 15) [ic_I x1, ic_I 6] rfl okX7_its rfl lmX7_48 rfl (rc16) (Nat.le_of_ble_eq_true rfl) (eX7_its e50) (Nat.le_of_ble_eq_true rfl) rfl ?_
        refine ev_iload_n (a := 2) (b := 16) rfl rfl ?_
        refine ev_iadd (a := 2) (b := 17) rfl ?_
        refine ev_iconst (a := 2) (b := 18) 0 rfl (by decide) ?_
        refine ev_sipush (a := 2) (b := 19) 9999 rfl (by decide) ?_
        obtain ⟨v54, g52, e53, h⟩ := ic_b2E h
        refine ev_isI (a := 2) (b := 20) [ic_I (v51 + v31), ic_I 0, ic_I 9999] rfl okX7_held rfl lmX7_63 rfl (Nat.le_of_ble_eq_true rfl) (eX7_held e53) (Nat.le_of_ble_eq_true rfl) rfl ?_
        obtain ⟨g55, e56, h⟩ := ic_b1E h
        refine ev_ivV (a := 2) (b := 21) [ic_I x1, ic_I 6, ic_I v54] rfl okX7_sets rfl lmX7_79 rfl (rc16) (Nat.le_of_ble_eq_true rfl) (eX7_sets e56) (Nat.le_of_ble_eq_true rfl) rfl ?_
        obtain rfl := ic_s1 h
        exact ev_return (a := 2) (b := 22) rfl rfl
      · have h := (if_neg c46).symm.trans h
        refine ev_iload_n (a := 2) (b := 3) rfl rfl ?_
        refine ev_goto (a := 2) (b := 4) 113 rfl rfl ?_
        refine ev_iadd (a := 2) (b := 7) rfl ?_
        obtain ⟨g57, e58, h⟩ := ic_b1E h
        refine ev_ivV (a := 2) (b := 8) [ic_I x1, ic_I 1, ic_I (v42 + v31)] rfl okX7_sets rfl lmX7_79 rfl (rc16) (Nat.le_of_ble_eq_true rfl) (eX7_sets e58) (Nat.le_of_ble_eq_true rfl) rfl ?_
        refine ev_aload_n (a := 2) (b := 9) rfl rfl ?_
        refine ev_iload_n (a := 2) (b := 10) rfl rfl ?_
        refine ev_bipush (a := 2) (b := 11) 6 rfl (by decide) ?_
        refine ev_aload_n (a := 2) (b := 12) rfl rfl ?_
        refine ev_iload_n (a := 2) (b := 13) rfl rfl ?_
        refine ev_bipush (a := 2) (b := 14) 6 rfl (by decide) ?_
        obtain ⟨v61, g59, e60, h⟩ := ic_b2E h
        refine ev_ivI (a := 2) (b := 15) [ic_I x1, ic_I 6] rfl okX7_its rfl lmX7_48 rfl (rc16) (Nat.le_of_ble_eq_true rfl) (eX7_its e60) (Nat.le_of_ble_eq_true rfl) rfl ?_
        refine ev_iload_n (a := 2) (b := 16) rfl rfl ?_
        refine ev_iadd (a := 2) (b := 17) rfl ?_
        refine ev_iconst (a := 2) (b := 18) 0 rfl (by decide) ?_
        refine ev_sipush (a := 2) (b := 19) 9999 rfl (by decide) ?_
        obtain ⟨v64, g62, e63, h⟩ := ic_b2E h
        refine ev_isI (a := 2) (b := 20) [ic_I (v61 + v31), ic_I 0, ic_I 9999] rfl okX7_held rfl lmX7_63 rfl (Nat.le_of_ble_eq_true rfl) (eX7_held e63) (Nat.le_of_ble_eq_true rfl) rfl ?_
        obtain ⟨g65, e66, h⟩ := ic_b1E h
        refine ev_ivV (a := 2) (b := 21) [ic_I x1, ic_I 6, ic_I v64] rfl okX7_sets rfl lmX7_79 rfl (rc16) (Nat.le_of_ble_eq_true rfl) (eX7_sets e66) (Nat.le_of_ble_eq_true rfl) rfl ?_
        obtain rfl := ic_s1 h
        exact ev_return (a := 2) (b := 22) rfl rfl
set_option maxRecDepth 20000 in
theorem tX7_callGoes_6 : ∀ (n : Nat) (x1 : Int32) (g : ic_S) (q : Unit × ic_S), lX7_callGoes_6 n x1 g = some q → ∀ (r : Option ic_V) (g' : ic_S), ic_Ev mX7_callGoes 35 [(0, ic_R 16 0 0)] [] q.2 r g' → ic_Ev mX7_callGoes 6 [(0, ic_R 16 0 0), (1, ic_I x1)] [] g r g' := by
  intro n
  induction n with
  | zero => intro x1 g q h; cases h
  | succ n ih =>
    intro x1 g q h r g' hq
    rw [lX7_callGoes_6] at h
    refine ev_iload_n (a := 0) (b := 4) rfl rfl ?_
    refine ev_aload_n (a := 0) (b := 5) rfl rfl ?_
    refine ev_get (a := 0) (b := 6) 7 0 rfl rfl (Nat.le_of_ble_eq_true rfl) lfX7_7 (gX7_d) ?_
    refine ev_iconst (a := 0) (b := 7) 0 rfl (by decide) ?_
    refine ev_ialdk (a := 0) (b := 8) 0 (by decide) rfl (a17 (by decide)) (by decide) ?_
    refine ev_icge (a := 0) (b := 9) 35 rfl rfl (fun c1001 => ?_) (fun c1001 => ?_)
    · have h := (if_pos c1001).symm.trans h
      obtain rfl := ic_s1 h
      exact ev_fw (lv' := [(0, ic_R 16 0 0)]) hq (And.intro rfl trivial)
    · have h := (if_neg c1001).symm.trans h
      refine ev_aload_n (a := 0) (b := 10) rfl rfl ?_
      refine ev_iload_n (a := 0) (b := 11) rfl rfl ?_
      obtain ⟨v1004, g1002, e1003, h⟩ := ic_b2E h
      refine ev_ivI (a := 0) (b := 12) [ic_I x1] rfl okX7_isTaken rfl lmX7_56 rfl (rc16) (Nat.le_of_ble_eq_true rfl) (eX7_isTaken e1003) (Nat.le_of_ble_eq_true rfl) rfl ?_
      refine ev_ifne (a := 0) (b := 13) 29 rfl rfl (fun c1005 => ?_) (fun c1005 => ?_)
      · have h := (if_neg c1005).symm.trans h
        refine ev_iinc (a := 0) (b := 17) (x1 + 1) [(0, ic_R 16 0 0), (1, ic_I (x1 + 1))] rfl rfl (by first | rfl | decide) (by decide) (And.intro (Or.inr (And.intro rfl rfl)) (And.intro (Or.inl rfl) trivial)) ?_
        refine ev_goto (a := 0) (b := 18) 6 rfl rfl ?_
        refine ev_fw (lv' := [(0, ic_R 16 0 0), (1, ic_I (x1 + 1))]) ?_ (And.intro rfl (And.intro rfl trivial))
        exact ih (x1 + 1) g1002 _ h _ _ hq
      · have h := (if_pos c1005).symm.trans h
        refine ev_aload_n (a := 0) (b := 14) rfl rfl ?_
        refine ev_iload_n (a := 0) (b := 15) rfl rfl ?_
        obtain ⟨g1006, e1007, h⟩ := ic_b1E h
        refine ev_ivV (a := 0) (b := 16) [ic_I x1] rfl okX7_pulls rfl lmX7_89 rfl (rc16) (Nat.le_of_ble_eq_true rfl) (eX7_pulls e1007) (Nat.le_of_ble_eq_true rfl) rfl ?_
        refine ev_iinc (a := 0) (b := 17) (x1 + 1) [(0, ic_R 16 0 0), (1, ic_I (x1 + 1))] rfl rfl (by first | rfl | decide) (by decide) (And.intro (Or.inr (And.intro rfl rfl)) (And.intro (Or.inl rfl) trivial)) ?_
        refine ev_goto (a := 0) (b := 18) 6 rfl rfl ?_
        refine ev_fw (lv' := [(0, ic_R 16 0 0), (1, ic_I (x1 + 1))]) ?_ (And.intro rfl (And.intro rfl trivial))
        exact ih (x1 + 1) g1006 _ h _ _ hq
set_option maxRecDepth 20000 in
theorem tX7_callGoes_37 : ∀ (n : Nat) (x1 : Int32) (g : ic_S) (q : Unit × ic_S), lX7_callGoes_37 n x1 g = some q → ∀ (r : Option ic_V) (g' : ic_S), ic_Ev mX7_callGoes 93 [(0, ic_R 16 0 0)] [] q.2 r g' → ic_Ev mX7_callGoes 37 [(0, ic_R 16 0 0), (1, ic_I x1)] [] g r g' := by
  intro n
  induction n with
  | zero => intro x1 g q h; cases h
  | succ n ih =>
    intro x1 g q h r g' hq
    rw [lX7_callGoes_37] at h
    refine ev_iload_n (a := 0) (b := 21) rfl rfl ?_
    refine ev_aload_n (a := 0) (b := 22) rfl rfl ?_
    refine ev_get (a := 0) (b := 23) 7 0 rfl rfl (Nat.le_of_ble_eq_true rfl) lfX7_7 (gX7_d) ?_
    refine ev_iconst (a := 0) (b := 24) 0 rfl (by decide) ?_
    refine ev_ialdk (a := 0) (b := 25) 0 (by decide) rfl (a17 (by decide)) (by decide) ?_
    refine ev_icge (a := 0) (b := 26) 93 rfl rfl (fun c1001 => ?_) (fun c1001 => ?_)
    · have h := (if_pos c1001).symm.trans h
      obtain rfl := ic_s1 h
      exact ev_fw (lv' := [(0, ic_R 16 0 0)]) hq (And.intro rfl trivial)
    · have h := (if_neg c1001).symm.trans h
      refine ev_aload_n (a := 0) (b := 27) rfl rfl ?_
      refine ev_iload_n (a := 0) (b := 28) rfl rfl ?_
      obtain ⟨v1004, g1002, e1003, h⟩ := ic_b2E h
      refine ev_ivI (a := 0) (b := 29) [ic_I x1] rfl okX7_isTaken rfl lmX7_56 rfl (rc16) (Nat.le_of_ble_eq_true rfl) (eX7_isTaken e1003) (Nat.le_of_ble_eq_true rfl) rfl ?_
      refine ev_ifne (a := 0) (b := 30) 87 rfl rfl (fun c1005 => ?_) (fun c1005 => ?_)
      · have h := (if_neg c1005).symm.trans h
        refine ev_iinc (a := 1) (b := 17) (x1 + 1) [(0, ic_R 16 0 0), (1, ic_I (x1 + 1))] rfl rfl (by first | rfl | decide) (by decide) (And.intro (Or.inr (And.intro rfl rfl)) (And.intro (Or.inl rfl) trivial)) ?_
        refine ev_goto (a := 1) (b := 18) 37 rfl rfl ?_
        refine ev_fw (lv' := [(0, ic_R 16 0 0), (1, ic_I (x1 + 1))]) ?_ (And.intro rfl (And.intro rfl trivial))
        exact ih (x1 + 1) g1002 _ h _ _ hq
      · have h := (if_pos c1005).symm.trans h
        refine ev_aload_n (a := 0) (b := 31) rfl rfl ?_
        refine ev_iload_n (a := 1) (b := 0) rfl rfl ?_
        obtain ⟨v1008, g1006, e1007, h⟩ := ic_b2E h
        refine ev_ivI (a := 1) (b := 1) [ic_I x1] rfl okX7_far rfl lmX7_60 rfl (rc16) (Nat.le_of_ble_eq_true rfl) (eX7_far e1007) (Nat.le_of_ble_eq_true rfl) rfl ?_
        refine ev_ifne (a := 1) (b := 2) 87 rfl rfl (fun c1009 => ?_) (fun c1009 => ?_)
        · have h := (if_neg c1009).symm.trans h
          refine ev_iinc (a := 1) (b := 17) (x1 + 1) [(0, ic_R 16 0 0), (1, ic_I (x1 + 1))] rfl rfl (by first | rfl | decide) (by decide) (And.intro (Or.inr (And.intro rfl rfl)) (And.intro (Or.inl rfl) trivial)) ?_
          refine ev_goto (a := 1) (b := 18) 37 rfl rfl ?_
          refine ev_fw (lv' := [(0, ic_R 16 0 0), (1, ic_I (x1 + 1))]) ?_ (And.intro rfl (And.intro rfl trivial))
          exact ih (x1 + 1) g1006 _ h _ _ hq
        · have h := (if_pos c1009).symm.trans h
          refine ev_aload_n (a := 1) (b := 3) rfl rfl ?_
          refine ev_iload_n (a := 1) (b := 4) rfl rfl ?_
          refine ev_iconst (a := 1) (b := 5) 4 rfl (by decide) ?_
          obtain ⟨v1012, g1010, e1011, h⟩ := ic_b2E h
          refine ev_ivI (a := 1) (b := 6) [ic_I x1, ic_I 4] rfl okX7_its rfl lmX7_48 rfl (rc16) (Nat.le_of_ble_eq_true rfl) (eX7_its e1011) (Nat.le_of_ble_eq_true rfl) rfl ?_
          refine ev_ifne (a := 1) (b := 7) 87 rfl rfl (fun c1013 => ?_) (fun c1013 => ?_)
          · have h := (if_neg c1013).symm.trans h
            refine ev_iinc (a := 1) (b := 17) (x1 + 1) [(0, ic_R 16 0 0), (1, ic_I (x1 + 1))] rfl rfl (by first | rfl | decide) (by decide) (And.intro (Or.inr (And.intro rfl rfl)) (And.intro (Or.inl rfl) trivial)) ?_
            refine ev_goto (a := 1) (b := 18) 37 rfl rfl ?_
            refine ev_fw (lv' := [(0, ic_R 16 0 0), (1, ic_I (x1 + 1))]) ?_ (And.intro rfl (And.intro rfl trivial))
            exact ih (x1 + 1) g1010 _ h _ _ hq
          · have h := (if_pos c1013).symm.trans h
            refine ev_aload_n (a := 1) (b := 8) rfl rfl ?_
            refine ev_iload_n (a := 1) (b := 9) rfl rfl ?_
            obtain ⟨v1016, g1014, e1015, h⟩ := ic_b2E h
            refine ev_ivI (a := 1) (b := 10) [ic_I x1] rfl okX7_isLiked rfl lmX7_93 rfl (rc16) (Nat.le_of_ble_eq_true rfl) (eX7_isLiked e1015) (Nat.le_of_ble_eq_true rfl) rfl ?_
            refine ev_ifeq (a := 1) (b := 11) 87 rfl rfl (fun c1017 => ?_) (fun c1017 => ?_)
            · have h := (if_pos c1017).symm.trans h
              refine ev_iinc (a := 1) (b := 17) (x1 + 1) [(0, ic_R 16 0 0), (1, ic_I (x1 + 1))] rfl rfl (by first | rfl | decide) (by decide) (And.intro (Or.inr (And.intro rfl rfl)) (And.intro (Or.inl rfl) trivial)) ?_
              refine ev_goto (a := 1) (b := 18) 37 rfl rfl ?_
              refine ev_fw (lv' := [(0, ic_R 16 0 0), (1, ic_I (x1 + 1))]) ?_ (And.intro rfl (And.intro rfl trivial))
              exact ih (x1 + 1) g1014 _ h _ _ hq
            · have h := (if_neg c1017).symm.trans h
              refine ev_aload_n (a := 1) (b := 12) rfl rfl ?_
              refine ev_iload_n (a := 1) (b := 13) rfl rfl ?_
              refine ev_iconst (a := 1) (b := 14) 5 rfl (by decide) ?_
              refine ev_iconst (a := 1) (b := 15) 1 rfl (by decide) ?_
              obtain ⟨g1018, e1019, h⟩ := ic_b1E h
              refine ev_ivV (a := 1) (b := 16) [ic_I x1, ic_I 5, ic_I 1] rfl okX7_sets rfl lmX7_79 rfl (rc16) (Nat.le_of_ble_eq_true rfl) (eX7_sets e1019) (Nat.le_of_ble_eq_true rfl) rfl ?_
              refine ev_iinc (a := 1) (b := 17) (x1 + 1) [(0, ic_R 16 0 0), (1, ic_I (x1 + 1))] rfl rfl (by first | rfl | decide) (by decide) (And.intro (Or.inr (And.intro rfl rfl)) (And.intro (Or.inl rfl) trivial)) ?_
              refine ev_goto (a := 1) (b := 18) 37 rfl rfl ?_
              refine ev_fw (lv' := [(0, ic_R 16 0 0), (1, ic_I (x1 + 1))]) ?_ (And.intro rfl (And.intro rfl trivial))
              exact ih (x1 + 1) g1018 _ h _ _ hq
set_option maxRecDepth 20000 in
theorem tX7_callGoes_95 : ∀ (n : Nat) (x1 : Int32) (g : ic_S) (q : Unit × ic_S), lX7_callGoes_95 n x1 g = some q → ∀ (r : Option ic_V) (g' : ic_S), ic_Ev mX7_callGoes 144 [(0, ic_R 16 0 0)] [] q.2 r g' → ic_Ev mX7_callGoes 95 [(0, ic_R 16 0 0), (1, ic_I x1)] [] g r g' := by
  intro n
  induction n with
  | zero => intro x1 g q h; cases h
  | succ n ih =>
    intro x1 g q h r g' hq
    rw [lX7_callGoes_95] at h
    refine ev_iload_n (a := 1) (b := 21) rfl rfl ?_
    refine ev_aload_n (a := 1) (b := 22) rfl rfl ?_
    refine ev_get (a := 1) (b := 23) 7 0 rfl rfl (Nat.le_of_ble_eq_true rfl) lfX7_7 (gX7_d) ?_
    refine ev_iconst (a := 1) (b := 24) 0 rfl (by decide) ?_
    refine ev_ialdk (a := 1) (b := 25) 0 (by decide) rfl (a17 (by decide)) (by decide) ?_
    refine ev_icge (a := 1) (b := 26) 144 rfl rfl (fun c1001 => ?_) (fun c1001 => ?_)
    · have h := (if_pos c1001).symm.trans h
      obtain rfl := ic_s1 h
      exact ev_fw (lv' := [(0, ic_R 16 0 0)]) hq (And.intro rfl trivial)
    · have h := (if_neg c1001).symm.trans h
      refine ev_aload_n (a := 1) (b := 27) rfl rfl ?_
      refine ev_iload_n (a := 1) (b := 28) rfl rfl ?_
      obtain ⟨v1004, g1002, e1003, h⟩ := ic_b2E h
      refine ev_ivI (a := 1) (b := 29) [ic_I x1] rfl okX7_isTaken rfl lmX7_56 rfl (rc16) (Nat.le_of_ble_eq_true rfl) (eX7_isTaken e1003) (Nat.le_of_ble_eq_true rfl) rfl ?_
      refine ev_ifne (a := 1) (b := 30) 138 rfl rfl (fun c1005 => ?_) (fun c1005 => ?_)
      · have h := (if_neg c1005).symm.trans h
        refine ev_iinc (a := 2) (b := 14) (x1 + 1) [(0, ic_R 16 0 0), (1, ic_I (x1 + 1))] rfl rfl (by first | rfl | decide) (by decide) (And.intro (Or.inr (And.intro rfl rfl)) (And.intro (Or.inl rfl) trivial)) ?_
        refine ev_goto (a := 2) (b := 15) 95 rfl rfl ?_
        refine ev_fw (lv' := [(0, ic_R 16 0 0), (1, ic_I (x1 + 1))]) ?_ (And.intro rfl (And.intro rfl trivial))
        exact ih (x1 + 1) g1002 _ h _ _ hq
      · have h := (if_pos c1005).symm.trans h
        refine ev_aload_n (a := 1) (b := 31) rfl rfl ?_
        refine ev_iload_n (a := 2) (b := 0) rfl rfl ?_
        refine ev_iconst (a := 2) (b := 1) 3 rfl (by decide) ?_
        refine ev_aload_n (a := 2) (b := 2) rfl rfl ?_
        refine ev_iload_n (a := 2) (b := 3) rfl rfl ?_
        refine ev_iconst (a := 2) (b := 4) 3 rfl (by decide) ?_
        obtain ⟨v1008, g1006, e1007, h⟩ := ic_b2E h
        refine ev_ivI (a := 2) (b := 5) [ic_I x1, ic_I 3] rfl okX7_its rfl lmX7_48 rfl (rc16) (Nat.le_of_ble_eq_true rfl) (eX7_its e1007) (Nat.le_of_ble_eq_true rfl) rfl ?_
        refine ev_aload_n (a := 2) (b := 6) rfl rfl ?_
        refine ev_iload_n (a := 2) (b := 7) rfl rfl ?_
        obtain ⟨v1011, g1009, e1010, h⟩ := ic_b2E h
        refine ev_ivI (a := 2) (b := 8) [ic_I x1] rfl okX7_rests rfl lmX7_96 rfl (rc16) (Nat.le_of_ble_eq_true rfl) (eX7_rests e1010) (Nat.le_of_ble_eq_true rfl) rfl ?_
        refine ev_isub (a := 2) (b := 9) rfl ?_
        refine ev_iconst (a := 2) (b := 10) 0 rfl (by decide) ?_
        refine ev_sipush (a := 2) (b := 11) 999 rfl (by decide) ?_
        obtain ⟨v1014, g1012, e1013, h⟩ := ic_b2E h
        refine ev_isI (a := 2) (b := 12) [ic_I (v1008 - v1011), ic_I 0, ic_I 999] rfl okX7_held rfl lmX7_63 rfl (Nat.le_of_ble_eq_true rfl) (eX7_held e1013) (Nat.le_of_ble_eq_true rfl) rfl ?_
        obtain ⟨g1015, e1016, h⟩ := ic_b1E h
        refine ev_ivV (a := 2) (b := 13) [ic_I x1, ic_I 3, ic_I v1014] rfl okX7_sets rfl lmX7_79 rfl (rc16) (Nat.le_of_ble_eq_true rfl) (eX7_sets e1016) (Nat.le_of_ble_eq_true rfl) rfl ?_
        refine ev_iinc (a := 2) (b := 14) (x1 + 1) [(0, ic_R 16 0 0), (1, ic_I (x1 + 1))] rfl rfl (by first | rfl | decide) (by decide) (And.intro (Or.inr (And.intro rfl rfl)) (And.intro (Or.inl rfl) trivial)) ?_
        refine ev_goto (a := 2) (b := 15) 95 rfl rfl ?_
        refine ev_fw (lv' := [(0, ic_R 16 0 0), (1, ic_I (x1 + 1))]) ?_ (And.intro rfl (And.intro rfl trivial))
        exact ih (x1 + 1) g1015 _ h _ _ hq
set_option maxRecDepth 20000 in
theorem eX7_callGoes {g g' : ic_S} (h : fX7_callGoes  g = some g') : ic_Ev mX7_callGoes 0 (ic_ag 0 [ic_R 16 0 0]) [] g (none) g' := by
  unfold fX7_callGoes at h
  change ic_Ev mX7_callGoes 0 [(0, ic_R 16 0 0)] [] g _ _
  refine ev_aload_n (a := 0) (b := 0) rfl rfl ?_
  obtain ⟨g1, e2, h⟩ := ic_b1E h
  refine ev_ivV (a := 0) (b := 1) [] rfl okX7_cartGoes rfl lmX7_86 rfl (rc16) (Nat.le_of_ble_eq_true rfl) (eX7_cartGoes e2) (Nat.le_of_ble_eq_true rfl) rfl ?_
  refine ev_iconst (a := 0) (b := 2) 0 rfl (by decide) ?_
  refine ev_istore_n (a := 0) (b := 3) [(0, ic_R 16 0 0), (1, ic_I 0)] rfl (by decide) (And.intro (Or.inr (And.intro rfl rfl)) (And.intro (Or.inl rfl) trivial)) ?_
  refine ev_fw (lv' := [(0, ic_R 16 0 0), (1, ic_I 0)]) ?_ (And.intro rfl (And.intro rfl trivial))
  obtain ⟨y3, g4, e5, h⟩ := ic_b2E h
  refine tX7_callGoes_6  1000 0 g1 _ e5 _ _ ?_
  change ic_Ev mX7_callGoes 35 [(0, ic_R 16 0 0)] [] g4 _ _
  refine ev_iconst (a := 0) (b := 19) 0 rfl (by decide) ?_
  refine ev_istore_n (a := 0) (b := 20) [(0, ic_R 16 0 0), (1, ic_I 0)] rfl (by decide) (And.intro (Or.inr (And.intro rfl rfl)) (And.intro (Or.inl rfl) trivial)) ?_
  refine ev_fw (lv' := [(0, ic_R 16 0 0), (1, ic_I 0)]) ?_ (And.intro rfl (And.intro rfl trivial))
  obtain ⟨y6, g7, e8, h⟩ := ic_b2E h
  refine tX7_callGoes_37  1000 0 g4 _ e8 _ _ ?_
  change ic_Ev mX7_callGoes 93 [(0, ic_R 16 0 0)] [] g7 _ _
  refine ev_iconst (a := 1) (b := 19) 0 rfl (by decide) ?_
  refine ev_istore_n (a := 1) (b := 20) [(0, ic_R 16 0 0), (1, ic_I 0)] rfl (by decide) (And.intro (Or.inr (And.intro rfl rfl)) (And.intro (Or.inl rfl) trivial)) ?_
  refine ev_fw (lv' := [(0, ic_R 16 0 0), (1, ic_I 0)]) ?_ (And.intro rfl (And.intro rfl trivial))
  obtain ⟨y9, g10, e11, h⟩ := ic_b2E h
  refine tX7_callGoes_95  1000 0 g7 _ e11 _ _ ?_
  change ic_Ev mX7_callGoes 144 [(0, ic_R 16 0 0)] [] g10 _ _
  refine ev_aload_n (a := 2) (b := 16) rfl rfl ?_
  refine ev_get (a := 2) (b := 17) 7 0 rfl rfl (Nat.le_of_ble_eq_true rfl) lfX7_7 (gX7_d) ?_
  refine ev_iconst (a := 2) (b := 18) 1 rfl (by decide) ?_
  refine ev_aload_n (a := 2) (b := 19) rfl rfl ?_
  refine ev_get (a := 2) (b := 20) 7 0 rfl rfl (Nat.le_of_ble_eq_true rfl) lfX7_7 (gX7_d) ?_
  refine ev_iconst (a := 2) (b := 21) 1 rfl (by decide) ?_
  refine ev_ialdk (a := 2) (b := 22) 1 (by decide) rfl (a17 (by decide)) (by decide) ?_
  refine ev_iconst (a := 2) (b := 23) 1 rfl (by decide) ?_
  refine ev_iadd (a := 2) (b := 24) rfl ?_
  refine ev_iconst (a := 2) (b := 25) 0 rfl (by decide) ?_
  refine ev_ldc (a := 2) (b := 26) 99999 rfl lcX7_99 ?_
  obtain ⟨v14, g12, e13, h⟩ := ic_b2E h
  refine ev_isI (a := 2) (b := 27) [ic_I ((g10.1 (3 + 0) 1) + 1), ic_I 0, ic_I 99999] rfl okX7_held rfl lmX7_63 rfl (Nat.le_of_ble_eq_true rfl) (eX7_held e13) (Nat.le_of_ble_eq_true rfl) rfl ?_
  obtain ⟨g15, eg15, h⟩ := ic_letE h
  refine ev_iastk (a := 2) (b := 28) 1 (by decide) rfl (by decide) (w17 (by decide) eg15) ?_
  obtain rfl := ic_s1 h
  exact ev_return (a := 2) (b := 29) rfl rfl
set_option maxRecDepth 20000 in
theorem tX7_callsGo_2 {x1 : Int32} : ∀ (n : Nat) (x2 : Int32) (g : ic_S) (q : Unit × ic_S), lX7_callsGo_2 x1 n x2 g = some q → ∀ (r : Option ic_V) (g' : ic_S), ic_Ev mX7_callsGo 17 [] [] q.2 r g' → ic_Ev mX7_callsGo 2 [(0, ic_R 16 0 0), (1, ic_I x1), (2, ic_I x2)] [] g r g' := by
  intro n
  induction n with
  | zero => intro x2 g q h; cases h
  | succ n ih =>
    intro x2 g q h r g' hq
    rw [lX7_callsGo_2] at h
    refine ev_iload_n (a := 0) (b := 2) rfl rfl ?_
    refine ev_iload_n (a := 0) (b := 3) rfl rfl ?_
    refine ev_icge (a := 0) (b := 4) 17 rfl rfl (fun c1001 => ?_) (fun c1001 => ?_)
    · have h := (if_pos c1001).symm.trans h
      obtain rfl := ic_s1 h
      exact ev_fw (lv' := []) hq trivial
    · have h := (if_neg c1001).symm.trans h
      refine ev_aload_n (a := 0) (b := 5) rfl rfl ?_
      obtain ⟨g1002, e1003, h⟩ := ic_b1E h
      refine ev_ivV (a := 0) (b := 6) [] rfl okX7_callGoes rfl lmX7_100 rfl (rc16) (Nat.le_of_ble_eq_true rfl) (eX7_callGoes e1003) (Nat.le_of_ble_eq_true rfl) rfl ?_
      refine ev_iinc (a := 0) (b := 7) (x2 + 1) [(0, ic_R 16 0 0), (1, ic_I x1), (2, ic_I (x2 + 1))] rfl rfl (by first | rfl | decide) (by decide) (And.intro (Or.inr (And.intro rfl rfl)) (And.intro (Or.inr (And.intro rfl rfl)) (And.intro (Or.inl rfl) trivial))) ?_
      refine ev_goto (a := 0) (b := 8) 2 rfl rfl ?_
      refine ev_fw (lv' := [(0, ic_R 16 0 0), (1, ic_I x1), (2, ic_I (x2 + 1))]) ?_ (And.intro rfl (And.intro rfl (And.intro rfl trivial)))
      exact ih (x2 + 1) g1002 _ h _ _ hq
set_option maxRecDepth 20000 in
theorem eX7_callsGo {x1 : Int32} {g g' : ic_S} (h : fX7_callsGo x1 g = some g') : ic_Ev mX7_callsGo 0 (ic_ag 0 [ic_R 16 0 0, ic_I x1]) [] g (none) g' := by
  unfold fX7_callsGo at h
  change ic_Ev mX7_callsGo 0 [(0, ic_R 16 0 0), (1, ic_I x1)] [] g _ _
  refine ev_iconst (a := 0) (b := 0) 0 rfl (by decide) ?_
  refine ev_istore_n (a := 0) (b := 1) [(0, ic_R 16 0 0), (1, ic_I x1), (2, ic_I 0)] rfl (by decide) (And.intro (Or.inr (And.intro rfl rfl)) (And.intro (Or.inr (And.intro rfl rfl)) (And.intro (Or.inl rfl) trivial))) ?_
  refine ev_fw (lv' := [(0, ic_R 16 0 0), (1, ic_I x1), (2, ic_I 0)]) ?_ (And.intro rfl (And.intro rfl (And.intro rfl trivial)))
  obtain ⟨y1, g2, e3, h⟩ := ic_b2E h
  refine tX7_callsGo_2 (x1 := x1)  1000 0 g _ e3 _ _ ?_
  change ic_Ev mX7_callsGo 17 [] [] g2 _ _
  obtain rfl := ic_s1 h
  exact ev_return (a := 0) (b := 9) rfl rfl
set_option maxRecDepth 20000 in
theorem tX7_sumOf_4 {x1 : Int32} : ∀ (n : Nat) (x2 : Int32) (x3 : Int32) (g : ic_S) (q : (Int32) × ic_S), lX7_sumOf_4 x1 n x2 x3 g = some q → ∀ (r : Option ic_V) (g' : ic_S), ic_Ev mX7_sumOf 29 [(2, ic_I q.1)] [] q.2 r g' → ic_Ev mX7_sumOf 4 [(0, ic_R 16 0 0), (1, ic_I x1), (2, ic_I x2), (3, ic_I x3)] [] g r g' := by
  intro n
  induction n with
  | zero => intro x2 x3 g q h; cases h
  | succ n ih =>
    intro x2 x3 g q h r g' hq
    rw [lX7_sumOf_4] at h
    refine ev_iload_n (a := 0) (b := 4) rfl rfl ?_
    refine ev_aload_n (a := 0) (b := 5) rfl rfl ?_
    refine ev_get (a := 0) (b := 6) 7 0 rfl rfl (Nat.le_of_ble_eq_true rfl) lfX7_7 (gX7_d) ?_
    refine ev_iconst (a := 0) (b := 7) 0 rfl (by decide) ?_
    refine ev_ialdk (a := 0) (b := 8) 0 (by decide) rfl (a17 (by decide)) (by decide) ?_
    refine ev_icge (a := 0) (b := 9) 29 rfl rfl (fun c1001 => ?_) (fun c1001 => ?_)
    · have h := (if_pos c1001).symm.trans h
      obtain rfl := ic_s1 h
      exact ev_fw (lv' := [(2, ic_I x2)]) hq (And.intro rfl trivial)
    · have h := (if_neg c1001).symm.trans h
      refine ev_iload_n (a := 0) (b := 10) rfl rfl ?_
      refine ev_aload_n (a := 0) (b := 11) rfl rfl ?_
      refine ev_iload_n (a := 0) (b := 12) rfl rfl ?_
      refine ev_iload_n (a := 0) (b := 13) rfl rfl ?_
      obtain ⟨v1004, g1002, e1003, h⟩ := ic_b2E h
      refine ev_ivI (a := 0) (b := 14) [ic_I x3, ic_I x1] rfl okX7_its rfl lmX7_48 rfl (rc16) (Nat.le_of_ble_eq_true rfl) (eX7_its e1003) (Nat.le_of_ble_eq_true rfl) rfl ?_
      refine ev_iadd (a := 0) (b := 15) rfl ?_
      refine ev_istore_n (a := 0) (b := 16) [(0, ic_R 16 0 0), (1, ic_I x1), (2, ic_I (x2 + v1004)), (3, ic_I x3)] rfl (by decide) (And.intro (Or.inr (And.intro rfl rfl)) (And.intro (Or.inr (And.intro rfl rfl)) (And.intro (Or.inl rfl) (And.intro (Or.inr (And.intro rfl rfl)) trivial)))) ?_
      refine ev_iinc (a := 0) (b := 17) (x3 + 1) [(0, ic_R 16 0 0), (1, ic_I x1), (2, ic_I (x2 + v1004)), (3, ic_I (x3 + 1))] rfl rfl (by first | rfl | decide) (by decide) (And.intro (Or.inr (And.intro rfl rfl)) (And.intro (Or.inr (And.intro rfl rfl)) (And.intro (Or.inr (And.intro rfl rfl)) (And.intro (Or.inl rfl) trivial)))) ?_
      refine ev_goto (a := 0) (b := 18) 4 rfl rfl ?_
      refine ev_fw (lv' := [(0, ic_R 16 0 0), (1, ic_I x1), (2, ic_I (x2 + v1004)), (3, ic_I (x3 + 1))]) ?_ (And.intro rfl (And.intro rfl (And.intro rfl (And.intro rfl trivial))))
      exact ih (x2 + v1004) (x3 + 1) g1002 _ h _ _ hq
set_option maxRecDepth 20000 in
theorem eX7_sumOf {x1 : Int32} {g g' : ic_S} {v : Int32} (h : fX7_sumOf x1 g = some (v, g')) : ic_Ev mX7_sumOf 0 (ic_ag 0 [ic_R 16 0 0, ic_I x1]) [] g (some (ic_I v)) g' := by
  unfold fX7_sumOf at h
  change ic_Ev mX7_sumOf 0 [(0, ic_R 16 0 0), (1, ic_I x1)] [] g _ _
  refine ev_iconst (a := 0) (b := 0) 0 rfl (by decide) ?_
  refine ev_istore_n (a := 0) (b := 1) [(0, ic_R 16 0 0), (1, ic_I x1), (2, ic_I 0)] rfl (by decide) (And.intro (Or.inr (And.intro rfl rfl)) (And.intro (Or.inr (And.intro rfl rfl)) (And.intro (Or.inl rfl) trivial))) ?_
  refine ev_iconst (a := 0) (b := 2) 0 rfl (by decide) ?_
  refine ev_istore_n (a := 0) (b := 3) [(0, ic_R 16 0 0), (1, ic_I x1), (2, ic_I 0), (3, ic_I 0)] rfl (by decide) (And.intro (Or.inr (And.intro rfl rfl)) (And.intro (Or.inr (And.intro rfl rfl)) (And.intro (Or.inr (And.intro rfl rfl)) (And.intro (Or.inl rfl) trivial)))) ?_
  refine ev_fw (lv' := [(0, ic_R 16 0 0), (1, ic_I x1), (2, ic_I 0), (3, ic_I 0)]) ?_ (And.intro rfl (And.intro rfl (And.intro rfl (And.intro rfl trivial))))
  obtain ⟨y1, g2, e3, h⟩ := ic_b2E h
  refine tX7_sumOf_4 (x1 := x1)  1000 0 0 g _ e3 _ _ ?_
  change ic_Ev mX7_sumOf 29 [(2, ic_I y1)] [] g2 _ _
  refine ev_iload_n (a := 0) (b := 19) rfl rfl ?_
  obtain ⟨rfl, rfl⟩ := ic_s2 h
  exact ev_ireturn (a := 0) (b := 20) rfl rfl rfl
set_option maxRecDepth 20000 in
theorem tX7_setOf_4 {x1 : Int32} : ∀ (n : Nat) (x2 : Int32) (x3 : Int32) (g : ic_S) (q : (Int32) × ic_S), lX7_setOf_4 x1 n x2 x3 g = some q → ∀ (r : Option ic_V) (g' : ic_S), ic_Ev mX7_setOf 31 [(2, ic_I q.1)] [] q.2 r g' → ic_Ev mX7_setOf 4 [(0, ic_R 16 0 0), (1, ic_I x1), (2, ic_I x2), (3, ic_I x3)] [] g r g' := by
  intro n
  induction n with
  | zero => intro x2 x3 g q h; cases h
  | succ n ih =>
    intro x2 x3 g q h r g' hq
    rw [lX7_setOf_4] at h
    refine ev_iload_n (a := 0) (b := 4) rfl rfl ?_
    refine ev_aload_n (a := 0) (b := 5) rfl rfl ?_
    refine ev_get (a := 0) (b := 6) 7 0 rfl rfl (Nat.le_of_ble_eq_true rfl) lfX7_7 (gX7_d) ?_
    refine ev_iconst (a := 0) (b := 7) 0 rfl (by decide) ?_
    refine ev_ialdk (a := 0) (b := 8) 0 (by decide) rfl (a17 (by decide)) (by decide) ?_
    refine ev_icge (a := 0) (b := 9) 31 rfl rfl (fun c1001 => ?_) (fun c1001 => ?_)
    · have h := (if_pos c1001).symm.trans h
      obtain rfl := ic_s1 h
      exact ev_fw (lv' := [(2, ic_I x2)]) hq (And.intro rfl trivial)
    · have h := (if_neg c1001).symm.trans h
      refine ev_iload_n (a := 0) (b := 10) rfl rfl ?_
      refine ev_aload_n (a := 0) (b := 11) rfl rfl ?_
      refine ev_iload_n (a := 0) (b := 12) rfl rfl ?_
      refine ev_iload_n (a := 0) (b := 13) rfl rfl ?_
      obtain ⟨v1004, g1002, e1003, h⟩ := ic_b2E h
      refine ev_ivI (a := 0) (b := 14) [ic_I x3, ic_I x1] rfl okX7_its rfl lmX7_48 rfl (rc16) (Nat.le_of_ble_eq_true rfl) (eX7_its e1003) (Nat.le_of_ble_eq_true rfl) rfl ?_
      refine ev_iload_n (a := 0) (b := 15) rfl rfl ?_
      refine ev_ishl (a := 0) (b := 16) rfl ?_
      refine ev_ior (a := 0) (b := 17) rfl ?_
      obtain ⟨y1005, ey1005, h⟩ := ic_letE h
      refine ev_topI ey1005 ?_
      refine ev_istore_n (a := 0) (b := 18) [(0, ic_R 16 0 0), (1, ic_I x1), (2, ic_I y1005), (3, ic_I x3)] rfl (by decide) (And.intro (Or.inr (And.intro rfl rfl)) (And.intro (Or.inr (And.intro rfl rfl)) (And.intro (Or.inl rfl) (And.intro (Or.inr (And.intro rfl rfl)) trivial)))) ?_
      refine ev_iinc (a := 0) (b := 19) (x3 + 1) [(0, ic_R 16 0 0), (1, ic_I x1), (2, ic_I y1005), (3, ic_I (x3 + 1))] rfl rfl (by first | rfl | decide) (by decide) (And.intro (Or.inr (And.intro rfl rfl)) (And.intro (Or.inr (And.intro rfl rfl)) (And.intro (Or.inr (And.intro rfl rfl)) (And.intro (Or.inl rfl) trivial)))) ?_
      refine ev_goto (a := 0) (b := 20) 4 rfl rfl ?_
      refine ev_fw (lv' := [(0, ic_R 16 0 0), (1, ic_I x1), (2, ic_I y1005), (3, ic_I (x3 + 1))]) ?_ (And.intro rfl (And.intro rfl (And.intro rfl (And.intro rfl trivial))))
      exact ih y1005 (x3 + 1) g1002 _ h _ _ hq
set_option maxRecDepth 20000 in
theorem eX7_setOf {x1 : Int32} {g g' : ic_S} {v : Int32} (h : fX7_setOf x1 g = some (v, g')) : ic_Ev mX7_setOf 0 (ic_ag 0 [ic_R 16 0 0, ic_I x1]) [] g (some (ic_I v)) g' := by
  unfold fX7_setOf at h
  change ic_Ev mX7_setOf 0 [(0, ic_R 16 0 0), (1, ic_I x1)] [] g _ _
  refine ev_iconst (a := 0) (b := 0) 0 rfl (by decide) ?_
  refine ev_istore_n (a := 0) (b := 1) [(0, ic_R 16 0 0), (1, ic_I x1), (2, ic_I 0)] rfl (by decide) (And.intro (Or.inr (And.intro rfl rfl)) (And.intro (Or.inr (And.intro rfl rfl)) (And.intro (Or.inl rfl) trivial))) ?_
  refine ev_iconst (a := 0) (b := 2) 0 rfl (by decide) ?_
  refine ev_istore_n (a := 0) (b := 3) [(0, ic_R 16 0 0), (1, ic_I x1), (2, ic_I 0), (3, ic_I 0)] rfl (by decide) (And.intro (Or.inr (And.intro rfl rfl)) (And.intro (Or.inr (And.intro rfl rfl)) (And.intro (Or.inr (And.intro rfl rfl)) (And.intro (Or.inl rfl) trivial)))) ?_
  refine ev_fw (lv' := [(0, ic_R 16 0 0), (1, ic_I x1), (2, ic_I 0), (3, ic_I 0)]) ?_ (And.intro rfl (And.intro rfl (And.intro rfl (And.intro rfl trivial))))
  obtain ⟨y1, g2, e3, h⟩ := ic_b2E h
  refine tX7_setOf_4 (x1 := x1)  1000 0 0 g _ e3 _ _ ?_
  change ic_Ev mX7_setOf 31 [(2, ic_I y1)] [] g2 _ _
  refine ev_iload_n (a := 0) (b := 21) rfl rfl ?_
  obtain ⟨rfl, rfl⟩ := ic_s2 h
  exact ev_ireturn (a := 0) (b := 22) rfl rfl rfl
set_option maxRecDepth 20000 in
theorem tX7_heavyTaken_4 : ∀ (n : Nat) (x1 : Int32) (x2 : Int32) (g : ic_S) (q : (Int32) × ic_S), lX7_heavyTaken_4 n x1 x2 g = some q → ∀ (r : Option ic_V) (g' : ic_S), ic_Ev mX7_heavyTaken 41 [(1, ic_I q.1)] [] q.2 r g' → ic_Ev mX7_heavyTaken 4 [(0, ic_R 16 0 0), (1, ic_I x1), (2, ic_I x2)] [] g r g' := by
  intro n
  induction n with
  | zero => intro x1 x2 g q h; cases h
  | succ n ih =>
    intro x1 x2 g q h r g' hq
    rw [lX7_heavyTaken_4] at h
    refine ev_iload_n (a := 0) (b := 4) rfl rfl ?_
    refine ev_aload_n (a := 0) (b := 5) rfl rfl ?_
    refine ev_get (a := 0) (b := 6) 7 0 rfl rfl (Nat.le_of_ble_eq_true rfl) lfX7_7 (gX7_d) ?_
    refine ev_iconst (a := 0) (b := 7) 0 rfl (by decide) ?_
    refine ev_ialdk (a := 0) (b := 8) 0 (by decide) rfl (a17 (by decide)) (by decide) ?_
    refine ev_icge (a := 0) (b := 9) 41 rfl rfl (fun c1001 => ?_) (fun c1001 => ?_)
    · have h := (if_pos c1001).symm.trans h
      obtain rfl := ic_s1 h
      exact ev_fw (lv' := [(1, ic_I x1)]) hq (And.intro rfl trivial)
    · have h := (if_neg c1001).symm.trans h
      refine ev_iload_n (a := 0) (b := 10) rfl rfl ?_
      refine ev_aload_n (a := 0) (b := 11) rfl rfl ?_
      refine ev_iload_n (a := 0) (b := 12) rfl rfl ?_
      obtain ⟨v1004, g1002, e1003, h⟩ := ic_b2E h
      refine ev_ivI (a := 0) (b := 13) [ic_I x2] rfl okX7_isTaken rfl lmX7_56 rfl (rc16) (Nat.le_of_ble_eq_true rfl) (eX7_isTaken e1003) (Nat.le_of_ble_eq_true rfl) rfl ?_
      refine ev_ifeq (a := 0) (b := 14) 32 rfl rfl (fun c1005 => ?_) (fun c1005 => ?_)
      · have h := (if_pos c1005).symm.trans h
        refine ev_iconst (a := 0) (b := 20) 0 rfl (by decide) ?_
        refine ev_iadd (a := 0) (b := 21) rfl ?_
        refine ev_istore_n (a := 0) (b := 22) [(0, ic_R 16 0 0), (1, ic_I (x1 + 0)), (2, ic_I x2)] rfl (by decide) (And.intro (Or.inr (And.intro rfl rfl)) (And.intro (Or.inl rfl) (And.intro (Or.inr (And.intro rfl rfl)) trivial))) ?_
        refine ev_iinc (a := 0) (b := 23) (x2 + 1) [(0, ic_R 16 0 0), (1, ic_I (x1 + 0)), (2, ic_I (x2 + 1))] rfl rfl (by first | rfl | decide) (by decide) (And.intro (Or.inr (And.intro rfl rfl)) (And.intro (Or.inr (And.intro rfl rfl)) (And.intro (Or.inl rfl) trivial))) ?_
        refine ev_goto (a := 0) (b := 24) 4 rfl rfl ?_
        refine ev_fw (lv' := [(0, ic_R 16 0 0), (1, ic_I (x1 + 0)), (2, ic_I (x2 + 1))]) ?_ (And.intro rfl (And.intro rfl (And.intro rfl trivial)))
        exact ih (x1 + 0) (x2 + 1) g1002 _ h _ _ hq
      · have h := (if_neg c1005).symm.trans h
        refine ev_aload_n (a := 0) (b := 15) rfl rfl ?_
        refine ev_iload_n (a := 0) (b := 16) rfl rfl ?_
        refine ev_iconst (a := 0) (b := 17) 2 rfl (by decide) ?_
        obtain ⟨v1008, g1006, e1007, h⟩ := ic_b2E h
        refine ev_ivI (a := 0) (b := 18) [ic_I x2, ic_I 2] rfl okX7_its rfl lmX7_48 rfl (rc16) (Nat.le_of_ble_eq_true rfl) (eX7_its e1007) (Nat.le_of_ble_eq_true rfl) rfl ?_
        refine ev_goto (a := 0) (b := 19) 33 rfl rfl ?_
        refine ev_iadd (a := 0) (b := 21) rfl ?_
        refine ev_istore_n (a := 0) (b := 22) [(0, ic_R 16 0 0), (1, ic_I (x1 + v1008)), (2, ic_I x2)] rfl (by decide) (And.intro (Or.inr (And.intro rfl rfl)) (And.intro (Or.inl rfl) (And.intro (Or.inr (And.intro rfl rfl)) trivial))) ?_
        refine ev_iinc (a := 0) (b := 23) (x2 + 1) [(0, ic_R 16 0 0), (1, ic_I (x1 + v1008)), (2, ic_I (x2 + 1))] rfl rfl (by first | rfl | decide) (by decide) (And.intro (Or.inr (And.intro rfl rfl)) (And.intro (Or.inr (And.intro rfl rfl)) (And.intro (Or.inl rfl) trivial))) ?_
        refine ev_goto (a := 0) (b := 24) 4 rfl rfl ?_
        refine ev_fw (lv' := [(0, ic_R 16 0 0), (1, ic_I (x1 + v1008)), (2, ic_I (x2 + 1))]) ?_ (And.intro rfl (And.intro rfl (And.intro rfl trivial)))
        exact ih (x1 + v1008) (x2 + 1) g1006 _ h _ _ hq
set_option maxRecDepth 20000 in
theorem eX7_heavyTaken {g g' : ic_S} {v : Int32} (h : fX7_heavyTaken  g = some (v, g')) : ic_Ev mX7_heavyTaken 0 (ic_ag 0 [ic_R 16 0 0]) [] g (some (ic_I v)) g' := by
  unfold fX7_heavyTaken at h
  change ic_Ev mX7_heavyTaken 0 [(0, ic_R 16 0 0)] [] g _ _
  refine ev_iconst (a := 0) (b := 0) 0 rfl (by decide) ?_
  refine ev_istore_n (a := 0) (b := 1) [(0, ic_R 16 0 0), (1, ic_I 0)] rfl (by decide) (And.intro (Or.inr (And.intro rfl rfl)) (And.intro (Or.inl rfl) trivial)) ?_
  refine ev_iconst (a := 0) (b := 2) 0 rfl (by decide) ?_
  refine ev_istore_n (a := 0) (b := 3) [(0, ic_R 16 0 0), (1, ic_I 0), (2, ic_I 0)] rfl (by decide) (And.intro (Or.inr (And.intro rfl rfl)) (And.intro (Or.inr (And.intro rfl rfl)) (And.intro (Or.inl rfl) trivial))) ?_
  refine ev_fw (lv' := [(0, ic_R 16 0 0), (1, ic_I 0), (2, ic_I 0)]) ?_ (And.intro rfl (And.intro rfl (And.intro rfl trivial)))
  obtain ⟨y1, g2, e3, h⟩ := ic_b2E h
  refine tX7_heavyTaken_4  1000 0 0 g _ e3 _ _ ?_
  change ic_Ev mX7_heavyTaken 41 [(1, ic_I y1)] [] g2 _ _
  refine ev_iload_n (a := 0) (b := 25) rfl rfl ?_
  obtain ⟨rfl, rfl⟩ := ic_s2 h
  exact ev_ireturn (a := 0) (b := 26) rfl rfl rfl
set_option maxRecDepth 20000 in
theorem eX7_isSet {x0 : Int32} {x1 : Int32} {g g' : ic_S} {v : Int32} (h : fX7_isSet x0 x1 g = some (v, g')) : ic_Ev mX7_isSet 0 (ic_ag 0 [ic_I x0, ic_I x1]) [] g (some (ic_I v)) g' := by
  unfold fX7_isSet at h
  change ic_Ev mX7_isSet 0 [(0, ic_I x0), (1, ic_I x1)] [] g _ _
  refine ev_iload_n (a := 0) (b := 0) rfl rfl ?_
  refine ev_ifne (a := 0) (b := 1) 11 rfl rfl (fun c1 => ?_) (fun c1 => ?_)
  · have h := (if_neg c1).symm.trans h
    refine ev_iload_n (a := 0) (b := 5) rfl rfl ?_
    refine ev_iconst (a := 0) (b := 6) 1 rfl (by decide) ?_
    refine ev_icne (a := 0) (b := 7) 26 rfl rfl (fun c2 => ?_) (fun c2 => ?_)
    · have h := (if_neg c2).symm.trans h
      refine ev_iload_n (a := 0) (b := 14) rfl rfl ?_
      refine ev_iconst (a := 0) (b := 15) 2 rfl (by decide) ?_
      refine ev_icne (a := 0) (b := 16) 43 rfl rfl (fun c3 => ?_) (fun c3 => ?_)
      · have h := (if_neg c3).symm.trans h
        refine ev_iload_n (a := 0) (b := 23) rfl rfl ?_
        refine ev_iconst (a := 0) (b := 24) 3 rfl (by decide) ?_
        refine ev_icne (a := 0) (b := 25) 64 rfl rfl (fun c4 => ?_) (fun c4 => ?_)
        · have h := (if_neg c4).symm.trans h
          refine ev_iconst (a := 1) (b := 2) 0 rfl (by decide) ?_
          obtain ⟨rfl, rfl⟩ := ic_s2 h
          exact ev_ireturn (a := 1) (b := 3) rfl rfl rfl
        · have h := (if_pos c4).symm.trans h
          refine ev_iload_n (a := 0) (b := 26) rfl rfl ?_
          refine ev_i2l (a := 0) (b := 27) rfl ?_
          refine ev_lconst (a := 0) (b := 28) 0 rfl (by decide) ?_
          refine ev_ldc2 (a := 0) (b := 29) 20 rfl lcX7_108 ?_
          obtain ⟨v7, g5, e6, h⟩ := ic_b2E h
          refine ev_isI (a := 0) (b := 30) [ic_J (Int32.toInt64 x1), ic_J 0, ic_J 20] rfl okX7_in rfl lmX7_42 rfl (Nat.le_of_ble_eq_true rfl) (eX7_in e6) (Nat.le_of_ble_eq_true rfl) rfl ?_
          refine ev_ifeq (a := 0) (b := 31) 64 rfl rfl (fun c8 => ?_) (fun c8 => ?_)
          · have h := (if_pos c8).symm.trans h
            refine ev_iconst (a := 1) (b := 2) 0 rfl (by decide) ?_
            obtain ⟨rfl, rfl⟩ := ic_s2 h
            exact ev_ireturn (a := 1) (b := 3) rfl rfl rfl
          · have h := (if_neg c8).symm.trans h
            refine ev_iconst (a := 1) (b := 0) 1 rfl (by decide) ?_
            refine ev_goto (a := 1) (b := 1) 65 rfl rfl ?_
            obtain ⟨rfl, rfl⟩ := ic_s2 h
            exact ev_ireturn (a := 1) (b := 3) rfl rfl rfl
      · have h := (if_pos c3).symm.trans h
        refine ev_iload_n (a := 0) (b := 17) rfl rfl ?_
        refine ev_i2l (a := 0) (b := 18) rfl ?_
        refine ev_lconst (a := 0) (b := 19) 0 rfl (by decide) ?_
        refine ev_ldc2 (a := 0) (b := 20) 3 rfl lcX7_106 ?_
        obtain ⟨v11, g9, e10, h⟩ := ic_b2E h
        refine ev_isI (a := 0) (b := 21) [ic_J (Int32.toInt64 x1), ic_J 0, ic_J 3] rfl okX7_in rfl lmX7_42 rfl (Nat.le_of_ble_eq_true rfl) (eX7_in e10) (Nat.le_of_ble_eq_true rfl) rfl ?_
        refine ev_goto (a := 0) (b := 22) 65 rfl rfl ?_
        obtain ⟨h12, h⟩ := ic_gdE h
        obtain ⟨rfl, rfl⟩ := ic_s2 h
        exact ev_ireturn (a := 1) (b := 3) rfl rfl (ic_nzn h12).1
    · have h := (if_pos c2).symm.trans h
      refine ev_iload_n (a := 0) (b := 8) rfl rfl ?_
      refine ev_i2l (a := 0) (b := 9) rfl ?_
      refine ev_lconst (a := 0) (b := 10) 0 rfl (by decide) ?_
      refine ev_lconst (a := 0) (b := 11) 1 rfl (by decide) ?_
      obtain ⟨v15, g13, e14, h⟩ := ic_b2E h
      refine ev_isI (a := 0) (b := 12) [ic_J (Int32.toInt64 x1), ic_J 0, ic_J 1] rfl okX7_in rfl lmX7_42 rfl (Nat.le_of_ble_eq_true rfl) (eX7_in e14) (Nat.le_of_ble_eq_true rfl) rfl ?_
      refine ev_goto (a := 0) (b := 13) 65 rfl rfl ?_
      obtain ⟨h16, h⟩ := ic_gdE h
      obtain ⟨rfl, rfl⟩ := ic_s2 h
      exact ev_ireturn (a := 1) (b := 3) rfl rfl (ic_nzn h16).1
  · have h := (if_pos c1).symm.trans h
    refine ev_iload_n (a := 0) (b := 2) rfl rfl ?_
    obtain ⟨v19, g17, e18, h⟩ := ic_b2E h
    refine ev_isI (a := 0) (b := 3) [ic_I x1] rfl okX7_isCell rfl lmX7_103 rfl (Nat.le_of_ble_eq_true rfl) (eX7_isCell e18) (Nat.le_of_ble_eq_true rfl) rfl ?_
    refine ev_goto (a := 0) (b := 4) 65 rfl rfl ?_
    obtain ⟨h20, h⟩ := ic_gdE h
    obtain ⟨rfl, rfl⟩ := ic_s2 h
    exact ev_ireturn (a := 1) (b := 3) rfl rfl (ic_nzn h20).1
set_option maxRecDepth 20000 in
theorem eX7_set {x1 : Int32} {x2 : Int32} {g g' : ic_S} {v : Int32} (h : fX7_set x1 x2 g = some (v, g')) : ic_Ev mX7_set 0 (ic_ag 0 [ic_R 16 0 0, ic_I x1, ic_I x2]) [] g (some (ic_I v)) g' := by
  unfold fX7_set at h
  change ic_Ev mX7_set 0 [(0, ic_R 16 0 0), (1, ic_I x1), (2, ic_I x2)] [] g _ _
  refine ev_iload_n (a := 0) (b := 0) rfl rfl ?_
  refine ev_iload_n (a := 0) (b := 1) rfl rfl ?_
  obtain ⟨v3, g1, e2, h⟩ := ic_b2E h
  refine ev_isI (a := 0) (b := 2) [ic_I x1, ic_I x2] rfl okX7_isSet rfl lmX7_110 rfl (Nat.le_of_ble_eq_true rfl) (eX7_isSet e2) (Nat.le_of_ble_eq_true rfl) rfl ?_
  refine ev_ifeq (a := 0) (b := 3) 19 rfl rfl (fun c4 => ?_) (fun c4 => ?_)
  · have h := (if_pos c4).symm.trans h
    refine ev_aload_n (a := 0) (b := 11) rfl rfl ?_
    refine ev_iconst (a := 0) (b := 12) 0 rfl (by decide) ?_
    obtain ⟨v7, g5, e6, h⟩ := ic_b2E h
    refine ev_ivI (a := 0) (b := 13) [ic_I 0] rfl okX7_finds rfl lmX7_117 rfl (rc16) (Nat.le_of_ble_eq_true rfl) (eX7_finds e6) (Nat.le_of_ble_eq_true rfl) rfl ?_
    obtain ⟨rfl, rfl⟩ := ic_s2 h
    exact ev_ireturn (a := 0) (b := 14) rfl rfl rfl
  · have h := (if_neg c4).symm.trans h
    refine ev_aload_n (a := 0) (b := 4) rfl rfl ?_
    refine ev_iconst (a := 0) (b := 5) 3 rfl (by decide) ?_
    refine ev_iload_n (a := 0) (b := 6) rfl rfl ?_
    refine ev_iadd (a := 0) (b := 7) rfl ?_
    refine ev_iload_n (a := 0) (b := 8) rfl rfl ?_
    obtain ⟨v10, g8, e9, h⟩ := ic_b2E h
    refine ev_ivI (a := 0) (b := 9) [ic_I (3 + x1), ic_I x2] rfl okX7_becomes rfl lmX7_114 rfl (rc16) (Nat.le_of_ble_eq_true rfl) (eX7_becomes e9) (Nat.le_of_ble_eq_true rfl) rfl ?_
    refine ev_goto (a := 0) (b := 10) 24 rfl rfl ?_
    obtain ⟨rfl, rfl⟩ := ic_s2 h
    exact ev_ireturn (a := 0) (b := 14) rfl rfl rfl
set_option maxRecDepth 20000 in
theorem eX7_cart {x1 : Int32} {g g' : ic_S} {v : Int32} (h : fX7_cart x1 g = some (v, g')) : ic_Ev mX7_cart 0 (ic_ag 0 [ic_R 16 0 0, ic_I x1]) [] g (some (ic_I v)) g' := by
  unfold fX7_cart at h
  change ic_Ev mX7_cart 0 [(0, ic_R 16 0 0), (1, ic_I x1)] [] g _ _
  refine ev_iload_n (a := 0) (b := 0) rfl rfl ?_
  refine ev_i2l (a := 0) (b := 1) rfl ?_
  refine ev_lconst (a := 0) (b := 2) 0 rfl (by decide) ?_
  refine ev_ldc2 (a := 0) (b := 3) 3 rfl lcX7_106 ?_
  obtain ⟨v3, g1, e2, h⟩ := ic_b2E h
  refine ev_isI (a := 0) (b := 4) [ic_J (Int32.toInt64 x1), ic_J 0, ic_J 3] rfl okX7_in rfl lmX7_42 rfl (Nat.le_of_ble_eq_true rfl) (eX7_in e2) (Nat.le_of_ble_eq_true rfl) rfl ?_
  refine ev_ifeq (a := 0) (b := 5) 23 rfl rfl (fun c4 => ?_) (fun c4 => ?_)
  · have h := (if_pos c4).symm.trans h
    refine ev_aload_n (a := 0) (b := 13) rfl rfl ?_
    refine ev_iconst (a := 0) (b := 14) 0 rfl (by decide) ?_
    obtain ⟨v7, g5, e6, h⟩ := ic_b2E h
    refine ev_ivI (a := 0) (b := 15) [ic_I 0] rfl okX7_finds rfl lmX7_117 rfl (rc16) (Nat.le_of_ble_eq_true rfl) (eX7_finds e6) (Nat.le_of_ble_eq_true rfl) rfl ?_
    obtain ⟨rfl, rfl⟩ := ic_s2 h
    exact ev_ireturn (a := 0) (b := 16) rfl rfl rfl
  · have h := (if_neg c4).symm.trans h
    refine ev_aload_n (a := 0) (b := 6) rfl rfl ?_
    refine ev_get (a := 0) (b := 7) 7 0 rfl rfl (Nat.le_of_ble_eq_true rfl) lfX7_7 (gX7_d) ?_
    refine ev_iconst (a := 0) (b := 8) 3 rfl (by decide) ?_
    refine ev_iload_n (a := 0) (b := 9) rfl rfl ?_
    refine ev_iadd (a := 0) (b := 10) rfl ?_
    obtain ⟨h8, h⟩ := ic_gdE h
    refine ev_iald (a := 0) (b := 11) rfl (a17 (by decide)) h8 ?_
    refine ev_goto (a := 0) (b := 12) 28 rfl rfl ?_
    obtain ⟨rfl, rfl⟩ := ic_s2 h
    exact ev_ireturn (a := 0) (b := 16) rfl rfl rfl
set_option maxRecDepth 20000 in
theorem tX7_comes_10 {x1 : Int32} {x2 : Int32} {x3 : Int32} : ∀ (n : Nat) (x4 : Int32) (g : ic_S) (q : Unit × ic_S), lX7_comes_10 x1 x2 x3 n x4 g = some q → ∀ (r : Option ic_V) (g' : ic_S), ic_Ev mX7_comes 31 [(0, ic_R 16 0 0), (1, ic_I x1), (2, ic_I x2), (3, ic_I x3)] [] q.2 r g' → ic_Ev mX7_comes 10 [(0, ic_R 16 0 0), (1, ic_I x1), (2, ic_I x2), (3, ic_I x3), (4, ic_I x4)] [] g r g' := by
  intro n
  induction n with
  | zero => intro x4 g q h; cases h
  | succ n ih =>
    intro x4 g q h r g' hq
    rw [lX7_comes_10] at h
    refine ev_iload (a := 0) (b := 7) rfl rfl ?_
    refine ev_bipush (a := 0) (b := 8) 6 rfl (by decide) ?_
    refine ev_icgt (a := 0) (b := 9) 31 rfl rfl (fun c1001 => ?_) (fun c1001 => ?_)
    · have h := (if_pos c1001).symm.trans h
      obtain rfl := ic_s1 h
      exact ev_fw (lv' := [(0, ic_R 16 0 0), (1, ic_I x1), (2, ic_I x2), (3, ic_I x3)]) hq (And.intro rfl (And.intro rfl (And.intro rfl (And.intro rfl trivial))))
    · have h := (if_neg c1001).symm.trans h
      refine ev_aload_n (a := 0) (b := 10) rfl rfl ?_
      refine ev_iload_n (a := 0) (b := 11) rfl rfl ?_
      refine ev_iload (a := 0) (b := 12) rfl rfl ?_
      refine ev_iconst (a := 0) (b := 13) 0 rfl (by decide) ?_
      obtain ⟨g1002, e1003, h⟩ := ic_b1E h
      refine ev_ivV (a := 0) (b := 14) [ic_I x3, ic_I x4, ic_I 0] rfl okX7_sets rfl lmX7_79 rfl (rc16) (Nat.le_of_ble_eq_true rfl) (eX7_sets e1003) (Nat.le_of_ble_eq_true rfl) rfl ?_
      refine ev_iinc (a := 0) (b := 15) (x4 + 1) [(0, ic_R 16 0 0), (1, ic_I x1), (2, ic_I x2), (3, ic_I x3), (4, ic_I (x4 + 1))] rfl rfl (by first | rfl | decide) (by decide) (And.intro (Or.inr (And.intro rfl rfl)) (And.intro (Or.inr (And.intro rfl rfl)) (And.intro (Or.inr (And.intro rfl rfl)) (And.intro (Or.inr (And.intro rfl rfl)) (And.intro (Or.inl rfl) trivial))))) ?_
      refine ev_goto (a := 0) (b := 16) 10 rfl rfl ?_
      refine ev_fw (lv' := [(0, ic_R 16 0 0), (1, ic_I x1), (2, ic_I x2), (3, ic_I x3), (4, ic_I (x4 + 1))]) ?_ (And.intro rfl (And.intro rfl (And.intro rfl (And.intro rfl (And.intro rfl trivial)))))
      exact ih (x4 + 1) g1002 _ h _ _ hq
set_option maxRecDepth 20000 in
theorem eX7_comes {x1 : Int32} {x2 : Int32} {g g' : ic_S} {v : Int32} (h : fX7_comes x1 x2 g = some (v, g')) : ic_Ev mX7_comes 0 (ic_ag 0 [ic_R 16 0 0, ic_I x1, ic_I x2]) [] g (some (ic_I v)) g' := by
  unfold fX7_comes at h
  change ic_Ev mX7_comes 0 [(0, ic_R 16 0 0), (1, ic_I x1), (2, ic_I x2)] [] g _ _
  refine ev_aload_n (a := 0) (b := 0) rfl rfl ?_
  refine ev_get (a := 0) (b := 1) 7 0 rfl rfl (Nat.le_of_ble_eq_true rfl) lfX7_7 (gX7_d) ?_
  refine ev_iconst (a := 0) (b := 2) 0 rfl (by decide) ?_
  refine ev_ialdk (a := 0) (b := 3) 0 (by decide) rfl (a17 (by decide)) (by decide) ?_
  refine ev_istore_n (a := 0) (b := 4) [(0, ic_R 16 0 0), (1, ic_I x1), (2, ic_I x2), (3, ic_I (g.1 (3 + 0) 0))] rfl (by decide) (And.intro (Or.inr (And.intro rfl rfl)) (And.intro (Or.inr (And.intro rfl rfl)) (And.intro (Or.inr (And.intro rfl rfl)) (And.intro (Or.inl rfl) trivial)))) ?_
  refine ev_iconst (a := 0) (b := 5) 0 rfl (by decide) ?_
  refine ev_istore (a := 0) (b := 6) [(0, ic_R 16 0 0), (1, ic_I x1), (2, ic_I x2), (3, ic_I (g.1 (3 + 0) 0)), (4, ic_I 0)] rfl (by decide) (And.intro (Or.inr (And.intro rfl rfl)) (And.intro (Or.inr (And.intro rfl rfl)) (And.intro (Or.inr (And.intro rfl rfl)) (And.intro (Or.inr (And.intro rfl rfl)) (And.intro (Or.inl rfl) trivial))))) ?_
  refine ev_fw (lv' := [(0, ic_R 16 0 0), (1, ic_I x1), (2, ic_I x2), (3, ic_I (g.1 (3 + 0) 0)), (4, ic_I 0)]) ?_ (And.intro rfl (And.intro rfl (And.intro rfl (And.intro rfl (And.intro rfl trivial)))))
  obtain ⟨y1, g2, e3, h⟩ := ic_b2E h
  refine tX7_comes_10 (x1 := x1) (x2 := x2) (x3 := (g.1 (3 + 0) 0))  1000 0 g _ e3 _ _ ?_
  change ic_Ev mX7_comes 31 [(0, ic_R 16 0 0), (1, ic_I x1), (2, ic_I x2), (3, ic_I (g.1 (3 + 0) 0))] [] g2 _ _
  refine ev_aload_n (a := 0) (b := 17) rfl rfl ?_
  refine ev_iload_n (a := 0) (b := 18) rfl rfl ?_
  refine ev_iconst (a := 0) (b := 19) 0 rfl (by decide) ?_
  refine ev_iload_n (a := 0) (b := 20) rfl rfl ?_
  obtain ⟨g4, e5, h⟩ := ic_b1E h
  refine ev_ivV (a := 0) (b := 21) [ic_I (g.1 (3 + 0) 0), ic_I 0, ic_I x1] rfl okX7_sets rfl lmX7_79 rfl (rc16) (Nat.le_of_ble_eq_true rfl) (eX7_sets e5) (Nat.le_of_ble_eq_true rfl) rfl ?_
  refine ev_aload_n (a := 0) (b := 22) rfl rfl ?_
  refine ev_iload_n (a := 0) (b := 23) rfl rfl ?_
  refine ev_iconst (a := 0) (b := 24) 1 rfl (by decide) ?_
  refine ev_iload_n (a := 0) (b := 25) rfl rfl ?_
  obtain ⟨g6, e7, h⟩ := ic_b1E h
  refine ev_ivV (a := 0) (b := 26) [ic_I (g.1 (3 + 0) 0), ic_I 1, ic_I x2] rfl okX7_sets rfl lmX7_79 rfl (rc16) (Nat.le_of_ble_eq_true rfl) (eX7_sets e7) (Nat.le_of_ble_eq_true rfl) rfl ?_
  refine ev_aload_n (a := 0) (b := 27) rfl rfl ?_
  refine ev_iload_n (a := 0) (b := 28) rfl rfl ?_
  refine ev_iconst (a := 0) (b := 29) 2 rfl (by decide) ?_
  refine ev_bipush (a := 0) (b := 30) 10 rfl (by decide) ?_
  obtain ⟨g8, e9, h⟩ := ic_b1E h
  refine ev_ivV (a := 0) (b := 31) [ic_I (g.1 (3 + 0) 0), ic_I 2, ic_I 10] rfl okX7_sets rfl lmX7_79 rfl (rc16) (Nat.le_of_ble_eq_true rfl) (eX7_sets e9) (Nat.le_of_ble_eq_true rfl) rfl ?_
  refine ev_aload_n (a := 1) (b := 0) rfl rfl ?_
  refine ev_get (a := 1) (b := 1) 7 0 rfl rfl (Nat.le_of_ble_eq_true rfl) lfX7_7 (gX7_d) ?_
  refine ev_iconst (a := 1) (b := 2) 0 rfl (by decide) ?_
  refine ev_dup2 (a := 1) (b := 3) rfl rfl rfl ?_
  refine ev_ialdk (a := 1) (b := 4) 0 (by decide) rfl (a17 (by decide)) (by decide) ?_
  refine ev_iconst (a := 1) (b := 5) 1 rfl (by decide) ?_
  refine ev_iadd (a := 1) (b := 6) rfl ?_
  obtain ⟨g10, eg10, h⟩ := ic_letE h
  refine ev_iastk (a := 1) (b := 7) 0 (by decide) rfl (by decide) (w17 (by decide) eg10) ?_
  refine ev_iload_n (a := 1) (b := 8) rfl rfl ?_
  obtain ⟨rfl, rfl⟩ := ic_s2 h
  exact ev_ireturn (a := 1) (b := 9) rfl rfl rfl
set_option maxRecDepth 20000 in
theorem eX7_thing {x1 : Int32} {x2 : Int32} {g g' : ic_S} {v : Int32} (h : fX7_thing x1 x2 g = some (v, g')) : ic_Ev mX7_thing 0 (ic_ag 0 [ic_R 16 0 0, ic_I x1, ic_I x2]) [] g (some (ic_I v)) g' := by
  unfold fX7_thing at h
  change ic_Ev mX7_thing 0 [(0, ic_R 16 0 0), (1, ic_I x1), (2, ic_I x2)] [] g _ _
  refine ev_iload_n (a := 0) (b := 0) rfl rfl ?_
  refine ev_i2l (a := 0) (b := 1) rfl ?_
  refine ev_lconst (a := 0) (b := 2) 0 rfl (by decide) ?_
  refine ev_ldc2 (a := 0) (b := 3) 6 rfl lcX7_120 ?_
  obtain ⟨v3, g1, e2, h⟩ := ic_b2E h
  refine ev_isI (a := 0) (b := 4) [ic_J (Int32.toInt64 x1), ic_J 0, ic_J 6] rfl okX7_in rfl lmX7_42 rfl (Nat.le_of_ble_eq_true rfl) (eX7_in e2) (Nat.le_of_ble_eq_true rfl) rfl ?_
  refine ev_ifeq (a := 0) (b := 5) 19 rfl rfl (fun c4 => ?_) (fun c4 => ?_)
  · have h := (if_pos c4).symm.trans h
    refine ev_aload_n (a := 0) (b := 9) rfl rfl ?_
    refine ev_iconst (a := 0) (b := 10) 0 rfl (by decide) ?_
    obtain ⟨v7, g5, e6, h⟩ := ic_b2E h
    refine ev_ivI (a := 0) (b := 11) [ic_I 0] rfl okX7_finds rfl lmX7_117 rfl (rc16) (Nat.le_of_ble_eq_true rfl) (eX7_finds e6) (Nat.le_of_ble_eq_true rfl) rfl ?_
    obtain ⟨rfl, rfl⟩ := ic_s2 h
    exact ev_ireturn (a := 0) (b := 12) rfl rfl rfl
  · have h := (if_neg c4).symm.trans h
    refine ev_iload_n (a := 0) (b := 6) rfl rfl ?_
    obtain ⟨v10, g8, e9, h⟩ := ic_b2E h
    refine ev_isI (a := 0) (b := 7) [ic_I x2] rfl okX7_isCell rfl lmX7_103 rfl (Nat.le_of_ble_eq_true rfl) (eX7_isCell e9) (Nat.le_of_ble_eq_true rfl) rfl ?_
    refine ev_ifne (a := 0) (b := 8) 25 rfl rfl (fun c11 => ?_) (fun c11 => ?_)
    · have h := (if_neg c11).symm.trans h
      refine ev_aload_n (a := 0) (b := 13) rfl rfl ?_
      refine ev_get (a := 0) (b := 14) 7 0 rfl rfl (Nat.le_of_ble_eq_true rfl) lfX7_7 (gX7_d) ?_
      refine ev_iconst (a := 0) (b := 15) 0 rfl (by decide) ?_
      refine ev_ialdk (a := 0) (b := 16) 0 (by decide) rfl (a17 (by decide)) (by decide) ?_
      refine ev_bipush (a := 0) (b := 17) 8 rfl (by decide) ?_
      refine ev_icne (a := 0) (b := 18) 44 rfl rfl (fun c12 => ?_) (fun c12 => ?_)
      · have h := (if_neg c12).symm.trans h
        refine ev_aload_n (a := 0) (b := 23) rfl rfl ?_
        refine ev_iload_n (a := 0) (b := 24) rfl rfl ?_
        refine ev_iload_n (a := 0) (b := 25) rfl rfl ?_
        obtain ⟨v15, g13, e14, h⟩ := ic_b2E h
        refine ev_ivI (a := 0) (b := 26) [ic_I x1, ic_I x2] rfl okX7_comes rfl lmX7_122 rfl (rc16) (Nat.le_of_ble_eq_true rfl) (eX7_comes e14) (Nat.le_of_ble_eq_true rfl) rfl ?_
        obtain ⟨rfl, rfl⟩ := ic_s2 h
        exact ev_ireturn (a := 0) (b := 27) rfl rfl rfl
      · have h := (if_pos c12).symm.trans h
        refine ev_aload_n (a := 0) (b := 19) rfl rfl ?_
        refine ev_iconst (a := 0) (b := 20) 1 rfl (by decide) ?_
        obtain ⟨v18, g16, e17, h⟩ := ic_b2E h
        refine ev_ivI (a := 0) (b := 21) [ic_I 1] rfl okX7_finds rfl lmX7_117 rfl (rc16) (Nat.le_of_ble_eq_true rfl) (eX7_finds e17) (Nat.le_of_ble_eq_true rfl) rfl ?_
        refine ev_goto (a := 0) (b := 22) 50 rfl rfl ?_
        obtain ⟨rfl, rfl⟩ := ic_s2 h
        exact ev_ireturn (a := 0) (b := 27) rfl rfl rfl
    · have h := (if_pos c11).symm.trans h
      refine ev_aload_n (a := 0) (b := 9) rfl rfl ?_
      refine ev_iconst (a := 0) (b := 10) 0 rfl (by decide) ?_
      obtain ⟨v21, g19, e20, h⟩ := ic_b2E h
      refine ev_ivI (a := 0) (b := 11) [ic_I 0] rfl okX7_finds rfl lmX7_117 rfl (rc16) (Nat.le_of_ble_eq_true rfl) (eX7_finds e20) (Nat.le_of_ble_eq_true rfl) rfl ?_
      obtain ⟨rfl, rfl⟩ := ic_s2 h
      exact ev_ireturn (a := 0) (b := 12) rfl rfl rfl
set_option maxRecDepth 20000 in
theorem eX7_of {x1 : Int32} {x2 : Int32} {g g' : ic_S} {v : Int32} (h : fX7_of x1 x2 g = some (v, g')) : ic_Ev mX7_of 0 (ic_ag 0 [ic_R 16 0 0, ic_I x1, ic_I x2]) [] g (some (ic_I v)) g' := by
  unfold fX7_of at h
  change ic_Ev mX7_of 0 [(0, ic_R 16 0 0), (1, ic_I x1), (2, ic_I x2)] [] g _ _
  refine ev_aload_n (a := 0) (b := 0) rfl rfl ?_
  refine ev_iload_n (a := 0) (b := 1) rfl rfl ?_
  obtain ⟨v3, g1, e2, h⟩ := ic_b2E h
  refine ev_ivI (a := 0) (b := 2) [ic_I x1] rfl okX7_isThing rfl lmX7_125 rfl (rc16) (Nat.le_of_ble_eq_true rfl) (eX7_isThing e2) (Nat.le_of_ble_eq_true rfl) rfl ?_
  refine ev_ifeq (a := 0) (b := 3) 20 rfl rfl (fun c4 => ?_) (fun c4 => ?_)
  · have h := (if_pos c4).symm.trans h
    refine ev_aload_n (a := 0) (b := 10) rfl rfl ?_
    refine ev_iconst (a := 0) (b := 11) 0 rfl (by decide) ?_
    obtain ⟨v7, g5, e6, h⟩ := ic_b2E h
    refine ev_ivI (a := 0) (b := 12) [ic_I 0] rfl okX7_finds rfl lmX7_117 rfl (rc16) (Nat.le_of_ble_eq_true rfl) (eX7_finds e6) (Nat.le_of_ble_eq_true rfl) rfl ?_
    obtain ⟨rfl, rfl⟩ := ic_s2 h
    exact ev_ireturn (a := 0) (b := 13) rfl rfl rfl
  · have h := (if_neg c4).symm.trans h
    refine ev_iload_n (a := 0) (b := 4) rfl rfl ?_
    refine ev_i2l (a := 0) (b := 5) rfl ?_
    refine ev_lconst (a := 0) (b := 6) 0 rfl (by decide) ?_
    refine ev_ldc2 (a := 0) (b := 7) 11 rfl lcX7_128 ?_
    obtain ⟨v10, g8, e9, h⟩ := ic_b2E h
    refine ev_isI (a := 0) (b := 8) [ic_J (Int32.toInt64 x2), ic_J 0, ic_J 11] rfl okX7_in rfl lmX7_42 rfl (Nat.le_of_ble_eq_true rfl) (eX7_in e9) (Nat.le_of_ble_eq_true rfl) rfl ?_
    refine ev_ifne (a := 0) (b := 9) 26 rfl rfl (fun c11 => ?_) (fun c11 => ?_)
    · have h := (if_neg c11).symm.trans h
      refine ev_iload_n (a := 0) (b := 14) rfl rfl ?_
      rcases Decidable.em (x2 = 7) with c12 | c12
      · have h := (if_pos c12).symm.trans h
        refine ev_tsw1 (a := 0) (b := 15) 7 (33) 60 rfl c12 (by decide) (by decide) rfl rfl ?_
        refine ev_aload_n (a := 0) (b := 16) rfl rfl ?_
        refine ev_iload_n (a := 0) (b := 17) rfl rfl ?_
        obtain ⟨v19, g17, e18, h⟩ := ic_b2E h
        refine ev_ivI (a := 0) (b := 18) [ic_I x1] rfl okX7_feels rfl lmX7_76 rfl (rc16) (Nat.le_of_ble_eq_true rfl) (eX7_feels e18) (Nat.le_of_ble_eq_true rfl) rfl ?_
        obtain ⟨rfl, rfl⟩ := ic_s2 h
        exact ev_ireturn (a := 0) (b := 19) rfl rfl rfl
      · have h := (if_neg c12).symm.trans h
        rcases Decidable.em (x2 = 8) with c13 | c13
        · have h := (if_pos c13).symm.trans h
          refine ev_tsw1 (a := 0) (b := 15) 8 (39) 66 rfl c13 (by decide) (by decide) rfl rfl ?_
          refine ev_aload_n (a := 0) (b := 20) rfl rfl ?_
          refine ev_iload_n (a := 0) (b := 21) rfl rfl ?_
          obtain ⟨v22, g20, e21, h⟩ := ic_b2E h
          refine ev_ivI (a := 0) (b := 22) [ic_I x1] rfl okX7_steps rfl lmX7_83 rfl (rc16) (Nat.le_of_ble_eq_true rfl) (eX7_steps e21) (Nat.le_of_ble_eq_true rfl) rfl ?_
          obtain ⟨rfl, rfl⟩ := ic_s2 h
          exact ev_ireturn (a := 0) (b := 23) rfl rfl rfl
        · have h := (if_neg c13).symm.trans h
          rcases Decidable.em (x2 = 9) with c14 | c14
          · have h := (if_pos c14).symm.trans h
            refine ev_tsw1 (a := 0) (b := 15) 9 (45) 72 rfl c14 (by decide) (by decide) rfl rfl ?_
            refine ev_aload_n (a := 0) (b := 24) rfl rfl ?_
            refine ev_iload_n (a := 0) (b := 25) rfl rfl ?_
            obtain ⟨v25, g23, e24, h⟩ := ic_b2E h
            refine ev_ivI (a := 0) (b := 26) [ic_I x1] rfl okX7_isLiked rfl lmX7_93 rfl (rc16) (Nat.le_of_ble_eq_true rfl) (eX7_isLiked e24) (Nat.le_of_ble_eq_true rfl) rfl ?_
            refine ev_ifeq (a := 0) (b := 27) 84 rfl rfl (fun c26 => ?_) (fun c26 => ?_)
            · have h := (if_pos c26).symm.trans h
              refine ev_iconst (a := 0) (b := 30) 0 rfl (by decide) ?_
              obtain ⟨rfl, rfl⟩ := ic_s2 h
              exact ev_ireturn (a := 0) (b := 31) rfl rfl rfl
            · have h := (if_neg c26).symm.trans h
              refine ev_iconst (a := 0) (b := 28) 1 rfl (by decide) ?_
              refine ev_goto (a := 0) (b := 29) 85 rfl rfl ?_
              obtain ⟨rfl, rfl⟩ := ic_s2 h
              exact ev_ireturn (a := 0) (b := 31) rfl rfl rfl
          · have h := (if_neg c14).symm.trans h
            rcases Decidable.em (x2 = 10) with c15 | c15
            · have h := (if_pos c15).symm.trans h
              refine ev_tsw1 (a := 0) (b := 15) 10 (59) 86 rfl c15 (by decide) (by decide) rfl rfl ?_
              refine ev_aload_n (a := 1) (b := 0) rfl rfl ?_
              refine ev_iload_n (a := 1) (b := 1) rfl rfl ?_
              obtain ⟨v29, g27, e28, h⟩ := ic_b2E h
              refine ev_ivI (a := 1) (b := 2) [ic_I x1] rfl okX7_rests rfl lmX7_96 rfl (rc16) (Nat.le_of_ble_eq_true rfl) (eX7_rests e28) (Nat.le_of_ble_eq_true rfl) rfl ?_
              obtain ⟨rfl, rfl⟩ := ic_s2 h
              exact ev_ireturn (a := 1) (b := 3) rfl rfl rfl
            · have h := (if_neg c15).symm.trans h
              rcases Decidable.em (x2 = 11) with c16 | c16
              · have h := (if_pos c16).symm.trans h
                refine ev_tsw1 (a := 0) (b := 15) 11 (65) 92 rfl c16 (by decide) (by decide) rfl rfl ?_
                refine ev_aload_n (a := 1) (b := 4) rfl rfl ?_
                refine ev_iload_n (a := 1) (b := 5) rfl rfl ?_
                obtain ⟨v32, g30, e31, h⟩ := ic_b2E h
                refine ev_ivI (a := 1) (b := 6) [ic_I x1] rfl okX7_far rfl lmX7_60 rfl (rc16) (Nat.le_of_ble_eq_true rfl) (eX7_far e31) (Nat.le_of_ble_eq_true rfl) rfl ?_
                obtain ⟨rfl, rfl⟩ := ic_s2 h
                exact ev_ireturn (a := 1) (b := 7) rfl rfl rfl
              · have h := (if_neg c16).symm.trans h
                refine ev_tsw0 (a := 0) (b := 15) [7, 8, 9, 10, 11] 98 rfl (List.forall_mem_cons.mpr ⟨c12, List.forall_mem_cons.mpr ⟨c13, List.forall_mem_cons.mpr ⟨c14, List.forall_mem_cons.mpr ⟨c15, List.forall_mem_cons.mpr ⟨c16, fun _ hh => absurd hh List.not_mem_nil⟩⟩⟩⟩⟩) (by decide) (by decide) rfl ?_
                refine ev_aload_n (a := 1) (b := 8) rfl rfl ?_
                refine ev_iload_n (a := 1) (b := 9) rfl rfl ?_
                refine ev_iload_n (a := 1) (b := 10) rfl rfl ?_
                obtain ⟨v35, g33, e34, h⟩ := ic_b2E h
                refine ev_ivI (a := 1) (b := 11) [ic_I x1, ic_I x2] rfl okX7_its rfl lmX7_48 rfl (rc16) (Nat.le_of_ble_eq_true rfl) (eX7_its e34) (Nat.le_of_ble_eq_true rfl) rfl ?_
                obtain ⟨rfl, rfl⟩ := ic_s2 h
                exact ev_ireturn (a := 1) (b := 12) rfl rfl rfl
    · have h := (if_pos c11).symm.trans h
      refine ev_aload_n (a := 0) (b := 10) rfl rfl ?_
      refine ev_iconst (a := 0) (b := 11) 0 rfl (by decide) ?_
      obtain ⟨v38, g36, e37, h⟩ := ic_b2E h
      refine ev_ivI (a := 0) (b := 12) [ic_I 0] rfl okX7_finds rfl lmX7_117 rfl (rc16) (Nat.le_of_ble_eq_true rfl) (eX7_finds e37) (Nat.le_of_ble_eq_true rfl) rfl ?_
      obtain ⟨rfl, rfl⟩ := ic_s2 h
      exact ev_ireturn (a := 0) (b := 13) rfl rfl rfl
set_option maxRecDepth 20000 in
theorem eX7_isIts {x0 : Int32} {x1 : Int32} {g g' : ic_S} {v : Int32} (h : fX7_isIts x0 x1 g = some (v, g')) : ic_Ev mX7_isIts 0 (ic_ag 0 [ic_I x0, ic_I x1]) [] g (some (ic_I v)) g' := by
  unfold fX7_isIts at h
  change ic_Ev mX7_isIts 0 [(0, ic_I x0), (1, ic_I x1)] [] g _ _
  refine ev_iload_n (a := 0) (b := 0) rfl rfl ?_
  rcases Decidable.em (x0 = 0) with c1 | c1
  · have h := (if_pos c1).symm.trans h
    refine ev_tsw1 (a := 0) (b := 1) 0 (43) 44 rfl c1 (by decide) (by decide) rfl rfl ?_
    refine ev_iload_n (a := 0) (b := 2) rfl rfl ?_
    refine ev_i2l (a := 0) (b := 3) rfl ?_
    refine ev_lconst (a := 0) (b := 4) 0 rfl (by decide) ?_
    refine ev_ldc2 (a := 0) (b := 5) 6 rfl lcX7_120 ?_
    obtain ⟨v10, g8, e9, h⟩ := ic_b2E h
    refine ev_isI (a := 0) (b := 6) [ic_J (Int32.toInt64 x1), ic_J 0, ic_J 6] rfl okX7_in rfl lmX7_42 rfl (Nat.le_of_ble_eq_true rfl) (eX7_in e9) (Nat.le_of_ble_eq_true rfl) rfl ?_
    obtain ⟨h11, h⟩ := ic_gdE h
    obtain ⟨rfl, rfl⟩ := ic_s2 h
    exact ev_ireturn (a := 0) (b := 7) rfl rfl (ic_nzn h11).1
  · have h := (if_neg c1).symm.trans h
    rcases Decidable.em (x0 = 1) with c2 | c2
    · have h := (if_pos c2).symm.trans h
      refine ev_tsw1 (a := 0) (b := 1) 1 (53) 54 rfl c2 (by decide) (by decide) rfl rfl ?_
      refine ev_iload_n (a := 0) (b := 8) rfl rfl ?_
      obtain ⟨v14, g12, e13, h⟩ := ic_b2E h
      refine ev_isI (a := 0) (b := 9) [ic_I x1] rfl okX7_isCell rfl lmX7_103 rfl (Nat.le_of_ble_eq_true rfl) (eX7_isCell e13) (Nat.le_of_ble_eq_true rfl) rfl ?_
      obtain ⟨h15, h⟩ := ic_gdE h
      obtain ⟨rfl, rfl⟩ := ic_s2 h
      exact ev_ireturn (a := 0) (b := 10) rfl rfl (ic_nzn h15).1
    · have h := (if_neg c2).symm.trans h
      rcases Decidable.em (x0 = 2) with c3 | c3
      · have h := (if_pos c3).symm.trans h
        refine ev_tsw1 (a := 0) (b := 1) 2 (58) 59 rfl c3 (by decide) (by decide) rfl rfl ?_
        refine ev_iload_n (a := 0) (b := 11) rfl rfl ?_
        refine ev_i2l (a := 0) (b := 12) rfl ?_
        refine ev_lconst (a := 0) (b := 13) 1 rfl (by decide) ?_
        refine ev_ldc2 (a := 0) (b := 14) 99 rfl lcX7_130 ?_
        obtain ⟨v18, g16, e17, h⟩ := ic_b2E h
        refine ev_isI (a := 0) (b := 15) [ic_J (Int32.toInt64 x1), ic_J 1, ic_J 99] rfl okX7_in rfl lmX7_42 rfl (Nat.le_of_ble_eq_true rfl) (eX7_in e17) (Nat.le_of_ble_eq_true rfl) rfl ?_
        obtain ⟨h19, h⟩ := ic_gdE h
        obtain ⟨rfl, rfl⟩ := ic_s2 h
        exact ev_ireturn (a := 0) (b := 16) rfl rfl (ic_nzn h19).1
      · have h := (if_neg c3).symm.trans h
        rcases Decidable.em (x0 = 3) with c4 | c4
        · have h := (if_pos c4).symm.trans h
          refine ev_tsw1 (a := 0) (b := 1) 3 (68) 69 rfl c4 (by decide) (by decide) rfl rfl ?_
          refine ev_iload_n (a := 0) (b := 17) rfl rfl ?_
          refine ev_i2l (a := 0) (b := 18) rfl ?_
          refine ev_lconst (a := 0) (b := 19) 0 rfl (by decide) ?_
          refine ev_ldc2 (a := 0) (b := 20) 999 rfl lcX7_132 ?_
          obtain ⟨v22, g20, e21, h⟩ := ic_b2E h
          refine ev_isI (a := 0) (b := 21) [ic_J (Int32.toInt64 x1), ic_J 0, ic_J 999] rfl okX7_in rfl lmX7_42 rfl (Nat.le_of_ble_eq_true rfl) (eX7_in e21) (Nat.le_of_ble_eq_true rfl) rfl ?_
          obtain ⟨h23, h⟩ := ic_gdE h
          obtain ⟨rfl, rfl⟩ := ic_s2 h
          exact ev_ireturn (a := 0) (b := 22) rfl rfl (ic_nzn h23).1
        · have h := (if_neg c4).symm.trans h
          rcases Decidable.em (x0 = 4) with c5 | c5
          · have h := (if_pos c5).symm.trans h
            refine ev_tsw1 (a := 0) (b := 1) 4 (78) 79 rfl c5 (by decide) (by decide) rfl rfl ?_
            refine ev_iload_n (a := 0) (b := 23) rfl rfl ?_
            refine ev_i2l (a := 0) (b := 24) rfl ?_
            refine ev_lconst (a := 0) (b := 25) 0 rfl (by decide) ?_
            refine ev_lconst (a := 0) (b := 26) 1 rfl (by decide) ?_
            obtain ⟨v26, g24, e25, h⟩ := ic_b2E h
            refine ev_isI (a := 0) (b := 27) [ic_J (Int32.toInt64 x1), ic_J 0, ic_J 1] rfl okX7_in rfl lmX7_42 rfl (Nat.le_of_ble_eq_true rfl) (eX7_in e25) (Nat.le_of_ble_eq_true rfl) rfl ?_
            obtain ⟨h27, h⟩ := ic_gdE h
            obtain ⟨rfl, rfl⟩ := ic_s2 h
            exact ev_ireturn (a := 0) (b := 28) rfl rfl (ic_nzn h27).1
          · have h := (if_neg c5).symm.trans h
            rcases Decidable.em (x0 = 5) with c6 | c6
            · have h := (if_pos c6).symm.trans h
              refine ev_tsw1 (a := 0) (b := 1) 5 (78) 79 rfl c6 (by decide) (by decide) rfl rfl ?_
              refine ev_iload_n (a := 0) (b := 23) rfl rfl ?_
              refine ev_i2l (a := 0) (b := 24) rfl ?_
              refine ev_lconst (a := 0) (b := 25) 0 rfl (by decide) ?_
              refine ev_lconst (a := 0) (b := 26) 1 rfl (by decide) ?_
              obtain ⟨v30, g28, e29, h⟩ := ic_b2E h
              refine ev_isI (a := 0) (b := 27) [ic_J (Int32.toInt64 x1), ic_J 0, ic_J 1] rfl okX7_in rfl lmX7_42 rfl (Nat.le_of_ble_eq_true rfl) (eX7_in e29) (Nat.le_of_ble_eq_true rfl) rfl ?_
              obtain ⟨h31, h⟩ := ic_gdE h
              obtain ⟨rfl, rfl⟩ := ic_s2 h
              exact ev_ireturn (a := 0) (b := 28) rfl rfl (ic_nzn h31).1
            · have h := (if_neg c6).symm.trans h
              rcases Decidable.em (x0 = 6) with c7 | c7
              · have h := (if_pos c7).symm.trans h
                refine ev_tsw1 (a := 0) (b := 1) 6 (86) 87 rfl c7 (by decide) (by decide) rfl rfl ?_
                refine ev_iload_n (a := 0) (b := 29) rfl rfl ?_
                refine ev_i2l (a := 0) (b := 30) rfl ?_
                refine ev_lconst (a := 0) (b := 31) 0 rfl (by decide) ?_
                refine ev_ldc2 (a := 1) (b := 0) 9999 rfl lcX7_134 ?_
                obtain ⟨v34, g32, e33, h⟩ := ic_b2E h
                refine ev_isI (a := 1) (b := 1) [ic_J (Int32.toInt64 x1), ic_J 0, ic_J 9999] rfl okX7_in rfl lmX7_42 rfl (Nat.le_of_ble_eq_true rfl) (eX7_in e33) (Nat.le_of_ble_eq_true rfl) rfl ?_
                obtain ⟨h35, h⟩ := ic_gdE h
                obtain ⟨rfl, rfl⟩ := ic_s2 h
                exact ev_ireturn (a := 1) (b := 2) rfl rfl (ic_nzn h35).1
              · have h := (if_neg c7).symm.trans h
                refine ev_tsw0 (a := 0) (b := 1) [0, 1, 2, 3, 4, 5, 6] 97 rfl (List.forall_mem_cons.mpr ⟨c1, List.forall_mem_cons.mpr ⟨c2, List.forall_mem_cons.mpr ⟨c3, List.forall_mem_cons.mpr ⟨c4, List.forall_mem_cons.mpr ⟨c5, List.forall_mem_cons.mpr ⟨c6, List.forall_mem_cons.mpr ⟨c7, fun _ hh => absurd hh List.not_mem_nil⟩⟩⟩⟩⟩⟩⟩) (by decide) (by decide) rfl ?_
                refine ev_iconst (a := 1) (b := 3) 0 rfl (by decide) ?_
                obtain ⟨rfl, rfl⟩ := ic_s2 h
                exact ev_ireturn (a := 1) (b := 4) rfl rfl rfl
set_option maxRecDepth 20000 in
theorem eX7_change {x1 : Int32} {x2 : Int32} {x3 : Int32} {g g' : ic_S} {v : Int32} (h : fX7_change x1 x2 x3 g = some (v, g')) : ic_Ev mX7_change 0 (ic_ag 0 [ic_R 16 0 0, ic_I x1, ic_I x2, ic_I x3]) [] g (some (ic_I v)) g' := by
  unfold fX7_change at h
  change ic_Ev mX7_change 0 [(0, ic_R 16 0 0), (1, ic_I x1), (2, ic_I x2), (3, ic_I x3)] [] g _ _
  refine ev_aload_n (a := 0) (b := 0) rfl rfl ?_
  refine ev_iload_n (a := 0) (b := 1) rfl rfl ?_
  obtain ⟨v3, g1, e2, h⟩ := ic_b2E h
  refine ev_ivI (a := 0) (b := 2) [ic_I x1] rfl okX7_isThing rfl lmX7_125 rfl (rc16) (Nat.le_of_ble_eq_true rfl) (eX7_isThing e2) (Nat.le_of_ble_eq_true rfl) rfl ?_
  refine ev_ifeq (a := 0) (b := 3) 33 rfl rfl (fun c4 => ?_) (fun c4 => ?_)
  · have h := (if_pos c4).symm.trans h
    refine ev_aload_n (a := 0) (b := 19) rfl rfl ?_
    refine ev_iconst (a := 0) (b := 20) 0 rfl (by decide) ?_
    obtain ⟨v7, g5, e6, h⟩ := ic_b2E h
    refine ev_ivI (a := 0) (b := 21) [ic_I 0] rfl okX7_finds rfl lmX7_117 rfl (rc16) (Nat.le_of_ble_eq_true rfl) (eX7_finds e6) (Nat.le_of_ble_eq_true rfl) rfl ?_
    obtain ⟨rfl, rfl⟩ := ic_s2 h
    exact ev_ireturn (a := 0) (b := 22) rfl rfl rfl
  · have h := (if_neg c4).symm.trans h
    refine ev_iload_n (a := 0) (b := 4) rfl rfl ?_
    refine ev_iload_n (a := 0) (b := 5) rfl rfl ?_
    obtain ⟨v10, g8, e9, h⟩ := ic_b2E h
    refine ev_isI (a := 0) (b := 6) [ic_I x2, ic_I x3] rfl okX7_isIts rfl lmX7_136 rfl (Nat.le_of_ble_eq_true rfl) (eX7_isIts e9) (Nat.le_of_ble_eq_true rfl) rfl ?_
    refine ev_ifeq (a := 0) (b := 7) 33 rfl rfl (fun c11 => ?_) (fun c11 => ?_)
    · have h := (if_pos c11).symm.trans h
      refine ev_aload_n (a := 0) (b := 19) rfl rfl ?_
      refine ev_iconst (a := 0) (b := 20) 0 rfl (by decide) ?_
      obtain ⟨v14, g12, e13, h⟩ := ic_b2E h
      refine ev_ivI (a := 0) (b := 21) [ic_I 0] rfl okX7_finds rfl lmX7_117 rfl (rc16) (Nat.le_of_ble_eq_true rfl) (eX7_finds e13) (Nat.le_of_ble_eq_true rfl) rfl ?_
      obtain ⟨rfl, rfl⟩ := ic_s2 h
      exact ev_ireturn (a := 0) (b := 22) rfl rfl rfl
    · have h := (if_neg c11).symm.trans h
      refine ev_aload_n (a := 0) (b := 8) rfl rfl ?_
      refine ev_bipush (a := 0) (b := 9) 7 rfl (by decide) ?_
      refine ev_bipush (a := 0) (b := 10) 8 rfl (by decide) ?_
      refine ev_iload_n (a := 0) (b := 11) rfl rfl ?_
      refine ev_imul (a := 0) (b := 12) rfl ?_
      refine ev_iadd (a := 0) (b := 13) rfl ?_
      refine ev_iload_n (a := 0) (b := 14) rfl rfl ?_
      refine ev_iadd (a := 0) (b := 15) rfl ?_
      refine ev_iload_n (a := 0) (b := 16) rfl rfl ?_
      obtain ⟨v17, g15, e16, h⟩ := ic_b2E h
      refine ev_ivI (a := 0) (b := 17) [ic_I ((7 + (8 * x2)) + x1), ic_I x3] rfl okX7_becomes rfl lmX7_114 rfl (rc16) (Nat.le_of_ble_eq_true rfl) (eX7_becomes e16) (Nat.le_of_ble_eq_true rfl) rfl ?_
      refine ev_goto (a := 0) (b := 18) 38 rfl rfl ?_
      obtain ⟨rfl, rfl⟩ := ic_s2 h
      exact ev_ireturn (a := 0) (b := 22) rfl rfl rfl
set_option maxRecDepth 20000 in
theorem eX7_who {x1 : Int32} {g g' : ic_S} {v : Int32} (h : fX7_who x1 g = some (v, g')) : ic_Ev mX7_who 0 (ic_ag 0 [ic_R 16 0 0, ic_I x1]) [] g (some (ic_I v)) g' := by
  unfold fX7_who at h
  change ic_Ev mX7_who 0 [(0, ic_R 16 0 0), (1, ic_I x1)] [] g _ _
  refine ev_iload_n (a := 0) (b := 0) rfl rfl ?_
  obtain ⟨v3, g1, e2, h⟩ := ic_b2E h
  refine ev_isI (a := 0) (b := 1) [ic_I x1] rfl okX7_isCell rfl lmX7_103 rfl (Nat.le_of_ble_eq_true rfl) (eX7_isCell e2) (Nat.le_of_ble_eq_true rfl) rfl ?_
  refine ev_ifeq (a := 0) (b := 2) 15 rfl rfl (fun c4 => ?_) (fun c4 => ?_)
  · have h := (if_pos c4).symm.trans h
    refine ev_aload_n (a := 0) (b := 7) rfl rfl ?_
    refine ev_iconst (a := 0) (b := 8) 0 rfl (by decide) ?_
    obtain ⟨v7, g5, e6, h⟩ := ic_b2E h
    refine ev_ivI (a := 0) (b := 9) [ic_I 0] rfl okX7_finds rfl lmX7_117 rfl (rc16) (Nat.le_of_ble_eq_true rfl) (eX7_finds e6) (Nat.le_of_ble_eq_true rfl) rfl ?_
    obtain ⟨rfl, rfl⟩ := ic_s2 h
    exact ev_ireturn (a := 0) (b := 10) rfl rfl rfl
  · have h := (if_neg c4).symm.trans h
    refine ev_aload_n (a := 0) (b := 3) rfl rfl ?_
    refine ev_iload_n (a := 0) (b := 4) rfl rfl ?_
    obtain ⟨v10, g8, e9, h⟩ := ic_b2E h
    refine ev_ivI (a := 0) (b := 5) [ic_I x1] rfl okX7_lying rfl lmX7_67 rfl (rc16) (Nat.le_of_ble_eq_true rfl) (eX7_lying e9) (Nat.le_of_ble_eq_true rfl) rfl ?_
    refine ev_goto (a := 0) (b := 6) 20 rfl rfl ?_
    obtain ⟨rfl, rfl⟩ := ic_s2 h
    exact ev_ireturn (a := 0) (b := 10) rfl rfl rfl
set_option maxRecDepth 20000 in
theorem eX7_go {x1 : Int32} {g g' : ic_S} {v : Int32} (h : fX7_go x1 g = some (v, g')) : ic_Ev mX7_go 0 (ic_ag 0 [ic_R 16 0 0, ic_I x1]) [] g (some (ic_I v)) g' := by
  unfold fX7_go at h
  change ic_Ev mX7_go 0 [(0, ic_R 16 0 0), (1, ic_I x1)] [] g _ _
  refine ev_iload_n (a := 0) (b := 0) rfl rfl ?_
  refine ev_i2l (a := 0) (b := 1) rfl ?_
  refine ev_lconst (a := 0) (b := 2) 1 rfl (by decide) ?_
  refine ev_ldc2 (a := 0) (b := 3) 60 rfl lcX7_139 ?_
  obtain ⟨v3, g1, e2, h⟩ := ic_b2E h
  refine ev_isI (a := 0) (b := 4) [ic_J (Int32.toInt64 x1), ic_J 1, ic_J 60] rfl okX7_in rfl lmX7_42 rfl (Nat.le_of_ble_eq_true rfl) (eX7_in e2) (Nat.le_of_ble_eq_true rfl) rfl ?_
  refine ev_ifne (a := 0) (b := 5) 18 rfl rfl (fun c4 => ?_) (fun c4 => ?_)
  · have h := (if_neg c4).symm.trans h
    refine ev_aload_n (a := 0) (b := 10) rfl rfl ?_
    refine ev_get (a := 0) (b := 11) 7 0 rfl rfl (Nat.le_of_ble_eq_true rfl) lfX7_7 (gX7_d) ?_
    refine ev_iconst (a := 0) (b := 12) 1 rfl (by decide) ?_
    refine ev_ialdk (a := 0) (b := 13) 1 (by decide) rfl (a17 (by decide)) (by decide) ?_
    refine ev_iload_n (a := 0) (b := 14) rfl rfl ?_
    refine ev_iadd (a := 0) (b := 15) rfl ?_
    refine ev_ldc (a := 0) (b := 16) 99999 rfl lcX7_99 ?_
    refine ev_icle (a := 0) (b := 17) 37 rfl rfl (fun c5 => ?_) (fun c5 => ?_)
    · have h := (if_pos c5).symm.trans h
      refine ev_aload_n (a := 0) (b := 22) rfl rfl ?_
      refine ev_iload_n (a := 0) (b := 23) rfl rfl ?_
      obtain ⟨g6, e7, h⟩ := ic_b1E h
      refine ev_ivV (a := 0) (b := 24) [ic_I x1] rfl okX7_callsGo rfl lmX7_141 rfl (rc16) (Nat.le_of_ble_eq_true rfl) (eX7_callsGo e7) (Nat.le_of_ble_eq_true rfl) rfl ?_
      refine ev_aload_n (a := 0) (b := 25) rfl rfl ?_
      refine ev_iconst (a := 0) (b := 26) 5 rfl (by decide) ?_
      obtain ⟨v10, g8, e9, h⟩ := ic_b2E h
      refine ev_ivI (a := 0) (b := 27) [ic_I 5] rfl okX7_setOf rfl lmX7_144 rfl (rc16) (Nat.le_of_ble_eq_true rfl) (eX7_setOf e9) (Nat.le_of_ble_eq_true rfl) rfl ?_
      obtain ⟨rfl, rfl⟩ := ic_s2 h
      exact ev_ireturn (a := 0) (b := 28) rfl rfl rfl
    · have h := (if_neg c5).symm.trans h
      refine ev_aload_n (a := 0) (b := 18) rfl rfl ?_
      refine ev_iconst (a := 0) (b := 19) 4 rfl (by decide) ?_
      obtain ⟨v13, g11, e12, h⟩ := ic_b2E h
      refine ev_ivI (a := 0) (b := 20) [ic_I 4] rfl okX7_finds rfl lmX7_117 rfl (rc16) (Nat.le_of_ble_eq_true rfl) (eX7_finds e12) (Nat.le_of_ble_eq_true rfl) rfl ?_
      obtain ⟨rfl, rfl⟩ := ic_s2 h
      exact ev_ireturn (a := 0) (b := 21) rfl rfl rfl
  · have h := (if_pos c4).symm.trans h
    refine ev_aload_n (a := 0) (b := 6) rfl rfl ?_
    refine ev_iconst (a := 0) (b := 7) 0 rfl (by decide) ?_
    obtain ⟨v16, g14, e15, h⟩ := ic_b2E h
    refine ev_ivI (a := 0) (b := 8) [ic_I 0] rfl okX7_finds rfl lmX7_117 rfl (rc16) (Nat.le_of_ble_eq_true rfl) (eX7_finds e15) (Nat.le_of_ble_eq_true rfl) rfl ?_
    obtain ⟨rfl, rfl⟩ := ic_s2 h
    exact ev_ireturn (a := 0) (b := 9) rfl rfl rfl
set_option maxRecDepth 20000 in
theorem tX7_strongest_4 : ∀ (n : Nat) (x1 : Int32) (x2 : Int32) (g : ic_S) (q : (Int32) × ic_S), lX7_strongest_4 n x1 x2 g = some q → ∀ (r : Option ic_V) (g' : ic_S), ic_Ev mX7_strongest 51 [(1, ic_I q.1)] [] q.2 r g' → ic_Ev mX7_strongest 4 [(0, ic_R 16 0 0), (1, ic_I x1), (2, ic_I x2)] [] g r g' := by
  intro n
  induction n with
  | zero => intro x1 x2 g q h; cases h
  | succ n ih =>
    intro x1 x2 g q h r g' hq
    rw [lX7_strongest_4] at h
    refine ev_iload_n (a := 0) (b := 4) rfl rfl ?_
    refine ev_aload_n (a := 0) (b := 5) rfl rfl ?_
    refine ev_get (a := 0) (b := 6) 7 0 rfl rfl (Nat.le_of_ble_eq_true rfl) lfX7_7 (gX7_d) ?_
    refine ev_iconst (a := 0) (b := 7) 0 rfl (by decide) ?_
    refine ev_ialdk (a := 0) (b := 8) 0 (by decide) rfl (a17 (by decide)) (by decide) ?_
    refine ev_icge (a := 0) (b := 9) 51 rfl rfl (fun c1001 => ?_) (fun c1001 => ?_)
    · have h := (if_pos c1001).symm.trans h
      obtain rfl := ic_s1 h
      exact ev_fw (lv' := [(1, ic_I x1)]) hq (And.intro rfl trivial)
    · have h := (if_neg c1001).symm.trans h
      refine ev_aload_n (a := 0) (b := 10) rfl rfl ?_
      refine ev_iload_n (a := 0) (b := 11) rfl rfl ?_
      obtain ⟨v1004, g1002, e1003, h⟩ := ic_b2E h
      refine ev_ivI (a := 0) (b := 12) [ic_I x2] rfl okX7_isTaken rfl lmX7_56 rfl (rc16) (Nat.le_of_ble_eq_true rfl) (eX7_isTaken e1003) (Nat.le_of_ble_eq_true rfl) rfl ?_
      refine ev_ifne (a := 0) (b := 13) 45 rfl rfl (fun c1005 => ?_) (fun c1005 => ?_)
      · have h := (if_neg c1005).symm.trans h
        refine ev_iinc (a := 0) (b := 27) (x2 + 1) [(0, ic_R 16 0 0), (1, ic_I x1), (2, ic_I (x2 + 1))] rfl rfl (by first | rfl | decide) (by decide) (And.intro (Or.inr (And.intro rfl rfl)) (And.intro (Or.inr (And.intro rfl rfl)) (And.intro (Or.inl rfl) trivial))) ?_
        refine ev_goto (a := 0) (b := 28) 4 rfl rfl ?_
        refine ev_fw (lv' := [(0, ic_R 16 0 0), (1, ic_I x1), (2, ic_I (x2 + 1))]) ?_ (And.intro rfl (And.intro rfl (And.intro rfl trivial)))
        exact ih x1 (x2 + 1) g1002 _ h _ _ hq
      · have h := (if_pos c1005).symm.trans h
        refine ev_iload_n (a := 0) (b := 14) rfl rfl ?_
        refine ev_iflt (a := 0) (b := 15) 39 rfl rfl (fun c1006 => ?_) (fun c1006 => ?_)
        · have h := (if_pos c1006).symm.trans h
          refine ev_iload_n (a := 0) (b := 23) rfl rfl ?_
          refine ev_goto (a := 0) (b := 24) 44 rfl rfl ?_
          refine ev_istore_n (a := 0) (b := 26) [(0, ic_R 16 0 0), (1, ic_I x2), (2, ic_I x2)] rfl (by decide) (And.intro (Or.inr (And.intro rfl rfl)) (And.intro (Or.inl rfl) (And.intro (Or.inr (And.intro rfl rfl)) trivial))) ?_
          refine ev_iinc (a := 0) (b := 27) (x2 + 1) [(0, ic_R 16 0 0), (1, ic_I x2), (2, ic_I (x2 + 1))] rfl rfl (by first | rfl | decide) (by decide) (And.intro (Or.inr (And.intro rfl rfl)) (And.intro (Or.inr (And.intro rfl rfl)) (And.intro (Or.inl rfl) trivial))) ?_
          refine ev_goto (a := 0) (b := 28) 4 rfl rfl ?_
          refine ev_fw (lv' := [(0, ic_R 16 0 0), (1, ic_I x2), (2, ic_I (x2 + 1))]) ?_ (And.intro rfl (And.intro rfl (And.intro rfl trivial)))
          exact ih x2 (x2 + 1) g1002 _ h _ _ hq
        · have h := (if_neg c1006).symm.trans h
          refine ev_aload_n (a := 0) (b := 16) rfl rfl ?_
          refine ev_iload_n (a := 0) (b := 17) rfl rfl ?_
          obtain ⟨v1009, g1007, e1008, h⟩ := ic_b2E h
          refine ev_ivI (a := 0) (b := 18) [ic_I x2] rfl okX7_feels rfl lmX7_76 rfl (rc16) (Nat.le_of_ble_eq_true rfl) (eX7_feels e1008) (Nat.le_of_ble_eq_true rfl) rfl ?_
          refine ev_aload_n (a := 0) (b := 19) rfl rfl ?_
          refine ev_iload_n (a := 0) (b := 20) rfl rfl ?_
          obtain ⟨v1012, g1010, e1011, h⟩ := ic_b2E h
          refine ev_ivI (a := 0) (b := 21) [ic_I x1] rfl okX7_feels rfl lmX7_76 rfl (rc16) (Nat.le_of_ble_eq_true rfl) (eX7_feels e1011) (Nat.le_of_ble_eq_true rfl) rfl ?_
          refine ev_icle (a := 0) (b := 22) 43 rfl rfl (fun c1013 => ?_) (fun c1013 => ?_)
          · have h := (if_pos c1013).symm.trans h
            refine ev_iload_n (a := 0) (b := 25) rfl rfl ?_
            refine ev_istore_n (a := 0) (b := 26) [(0, ic_R 16 0 0), (1, ic_I x1), (2, ic_I x2)] rfl (by decide) (And.intro (Or.inr (And.intro rfl rfl)) (And.intro (Or.inl rfl) (And.intro (Or.inr (And.intro rfl rfl)) trivial))) ?_
            refine ev_iinc (a := 0) (b := 27) (x2 + 1) [(0, ic_R 16 0 0), (1, ic_I x1), (2, ic_I (x2 + 1))] rfl rfl (by first | rfl | decide) (by decide) (And.intro (Or.inr (And.intro rfl rfl)) (And.intro (Or.inr (And.intro rfl rfl)) (And.intro (Or.inl rfl) trivial))) ?_
            refine ev_goto (a := 0) (b := 28) 4 rfl rfl ?_
            refine ev_fw (lv' := [(0, ic_R 16 0 0), (1, ic_I x1), (2, ic_I (x2 + 1))]) ?_ (And.intro rfl (And.intro rfl (And.intro rfl trivial)))
            exact ih x1 (x2 + 1) g1010 _ h _ _ hq
          · have h := (if_neg c1013).symm.trans h
            refine ev_iload_n (a := 0) (b := 23) rfl rfl ?_
            refine ev_goto (a := 0) (b := 24) 44 rfl rfl ?_
            refine ev_istore_n (a := 0) (b := 26) [(0, ic_R 16 0 0), (1, ic_I x2), (2, ic_I x2)] rfl (by decide) (And.intro (Or.inr (And.intro rfl rfl)) (And.intro (Or.inl rfl) (And.intro (Or.inr (And.intro rfl rfl)) trivial))) ?_
            refine ev_iinc (a := 0) (b := 27) (x2 + 1) [(0, ic_R 16 0 0), (1, ic_I x2), (2, ic_I (x2 + 1))] rfl rfl (by first | rfl | decide) (by decide) (And.intro (Or.inr (And.intro rfl rfl)) (And.intro (Or.inr (And.intro rfl rfl)) (And.intro (Or.inl rfl) trivial))) ?_
            refine ev_goto (a := 0) (b := 28) 4 rfl rfl ?_
            refine ev_fw (lv' := [(0, ic_R 16 0 0), (1, ic_I x2), (2, ic_I (x2 + 1))]) ?_ (And.intro rfl (And.intro rfl (And.intro rfl trivial)))
            exact ih x2 (x2 + 1) g1010 _ h _ _ hq
set_option maxRecDepth 20000 in
theorem eX7_strongest {g g' : ic_S} {v : Int32} (h : fX7_strongest  g = some (v, g')) : ic_Ev mX7_strongest 0 (ic_ag 0 [ic_R 16 0 0]) [] g (some (ic_I v)) g' := by
  unfold fX7_strongest at h
  change ic_Ev mX7_strongest 0 [(0, ic_R 16 0 0)] [] g _ _
  refine ev_iconst (a := 0) (b := 0) (-1) rfl (by decide) ?_
  refine ev_istore_n (a := 0) (b := 1) [(0, ic_R 16 0 0), (1, ic_I (-1))] rfl (by decide) (And.intro (Or.inr (And.intro rfl rfl)) (And.intro (Or.inl rfl) trivial)) ?_
  refine ev_iconst (a := 0) (b := 2) 0 rfl (by decide) ?_
  refine ev_istore_n (a := 0) (b := 3) [(0, ic_R 16 0 0), (1, ic_I (-1)), (2, ic_I 0)] rfl (by decide) (And.intro (Or.inr (And.intro rfl rfl)) (And.intro (Or.inr (And.intro rfl rfl)) (And.intro (Or.inl rfl) trivial))) ?_
  refine ev_fw (lv' := [(0, ic_R 16 0 0), (1, ic_I (-1)), (2, ic_I 0)]) ?_ (And.intro rfl (And.intro rfl (And.intro rfl trivial)))
  obtain ⟨y1, g2, e3, h⟩ := ic_b2E h
  refine tX7_strongest_4  1000 (-1) 0 g _ e3 _ _ ?_
  change ic_Ev mX7_strongest 51 [(1, ic_I y1)] [] g2 _ _
  refine ev_iload_n (a := 0) (b := 29) rfl rfl ?_
  obtain ⟨rfl, rfl⟩ := ic_s2 h
  exact ev_ireturn (a := 0) (b := 30) rfl rfl rfl
set_option maxRecDepth 20000 in
theorem tX7_cells_4 : ∀ (n : Nat) (x1 : Int32) (x2 : Int32) (g : ic_S) (q : (Int32) × ic_S), lX7_cells_4 n x1 x2 g = some q → ∀ (r : Option ic_V) (g' : ic_S), ic_Ev mX7_cells 34 [(1, ic_I q.1)] [] q.2 r g' → ic_Ev mX7_cells 4 [(0, ic_R 16 0 0), (1, ic_I x1), (2, ic_I x2)] [] g r g' := by
  intro n
  induction n with
  | zero => intro x1 x2 g q h; cases h
  | succ n ih =>
    intro x1 x2 g q h r g' hq
    rw [lX7_cells_4] at h
    refine ev_iload_n (a := 0) (b := 4) rfl rfl ?_
    refine ev_bipush (a := 0) (b := 5) 16 rfl (by decide) ?_
    refine ev_icge (a := 0) (b := 6) 34 rfl rfl (fun c1001 => ?_) (fun c1001 => ?_)
    · have h := (if_pos c1001).symm.trans h
      obtain rfl := ic_s1 h
      exact ev_fw (lv' := [(1, ic_I x1)]) hq (And.intro rfl trivial)
    · have h := (if_neg c1001).symm.trans h
      refine ev_iload_n (a := 0) (b := 7) rfl rfl ?_
      refine ev_aload_n (a := 0) (b := 8) rfl rfl ?_
      refine ev_iload_n (a := 0) (b := 9) rfl rfl ?_
      obtain ⟨v1004, g1002, e1003, h⟩ := ic_b2E h
      refine ev_ivI (a := 0) (b := 10) [ic_I x2] rfl okX7_lying rfl lmX7_67 rfl (rc16) (Nat.le_of_ble_eq_true rfl) (eX7_lying e1003) (Nat.le_of_ble_eq_true rfl) rfl ?_
      refine ev_ifeq (a := 0) (b := 11) 25 rfl rfl (fun c1005 => ?_) (fun c1005 => ?_)
      · have h := (if_pos c1005).symm.trans h
        refine ev_iconst (a := 0) (b := 16) 0 rfl (by decide) ?_
        refine ev_ior (a := 0) (b := 17) rfl ?_
        refine ev_istore_n (a := 0) (b := 18) [(0, ic_R 16 0 0), (1, ic_I (x1 ||| 0)), (2, ic_I x2)] rfl (by decide) (And.intro (Or.inr (And.intro rfl rfl)) (And.intro (Or.inl rfl) (And.intro (Or.inr (And.intro rfl rfl)) trivial))) ?_
        refine ev_iinc (a := 0) (b := 19) (x2 + 1) [(0, ic_R 16 0 0), (1, ic_I (x1 ||| 0)), (2, ic_I (x2 + 1))] rfl rfl (by first | rfl | decide) (by decide) (And.intro (Or.inr (And.intro rfl rfl)) (And.intro (Or.inr (And.intro rfl rfl)) (And.intro (Or.inl rfl) trivial))) ?_
        refine ev_goto (a := 0) (b := 20) 4 rfl rfl ?_
        refine ev_fw (lv' := [(0, ic_R 16 0 0), (1, ic_I (x1 ||| 0)), (2, ic_I (x2 + 1))]) ?_ (And.intro rfl (And.intro rfl (And.intro rfl trivial)))
        exact ih (x1 ||| 0) (x2 + 1) g1002 _ h _ _ hq
      · have h := (if_neg c1005).symm.trans h
        refine ev_iconst (a := 0) (b := 12) 1 rfl (by decide) ?_
        refine ev_iload_n (a := 0) (b := 13) rfl rfl ?_
        refine ev_ishl (a := 0) (b := 14) rfl ?_
        refine ev_goto (a := 0) (b := 15) 26 rfl rfl ?_
        refine ev_ior (a := 0) (b := 17) rfl ?_
        obtain ⟨y1006, ey1006, h⟩ := ic_letE h
        refine ev_topI ey1006 ?_
        refine ev_istore_n (a := 0) (b := 18) [(0, ic_R 16 0 0), (1, ic_I y1006), (2, ic_I x2)] rfl (by decide) (And.intro (Or.inr (And.intro rfl rfl)) (And.intro (Or.inl rfl) (And.intro (Or.inr (And.intro rfl rfl)) trivial))) ?_
        refine ev_iinc (a := 0) (b := 19) (x2 + 1) [(0, ic_R 16 0 0), (1, ic_I y1006), (2, ic_I (x2 + 1))] rfl rfl (by first | rfl | decide) (by decide) (And.intro (Or.inr (And.intro rfl rfl)) (And.intro (Or.inr (And.intro rfl rfl)) (And.intro (Or.inl rfl) trivial))) ?_
        refine ev_goto (a := 0) (b := 20) 4 rfl rfl ?_
        refine ev_fw (lv' := [(0, ic_R 16 0 0), (1, ic_I y1006), (2, ic_I (x2 + 1))]) ?_ (And.intro rfl (And.intro rfl (And.intro rfl trivial)))
        exact ih y1006 (x2 + 1) g1002 _ h _ _ hq
set_option maxRecDepth 20000 in
theorem eX7_cells {g g' : ic_S} {v : Int32} (h : fX7_cells  g = some (v, g')) : ic_Ev mX7_cells 0 (ic_ag 0 [ic_R 16 0 0]) [] g (some (ic_I v)) g' := by
  unfold fX7_cells at h
  change ic_Ev mX7_cells 0 [(0, ic_R 16 0 0)] [] g _ _
  refine ev_iconst (a := 0) (b := 0) 0 rfl (by decide) ?_
  refine ev_istore_n (a := 0) (b := 1) [(0, ic_R 16 0 0), (1, ic_I 0)] rfl (by decide) (And.intro (Or.inr (And.intro rfl rfl)) (And.intro (Or.inl rfl) trivial)) ?_
  refine ev_iconst (a := 0) (b := 2) 0 rfl (by decide) ?_
  refine ev_istore_n (a := 0) (b := 3) [(0, ic_R 16 0 0), (1, ic_I 0), (2, ic_I 0)] rfl (by decide) (And.intro (Or.inr (And.intro rfl rfl)) (And.intro (Or.inr (And.intro rfl rfl)) (And.intro (Or.inl rfl) trivial))) ?_
  refine ev_fw (lv' := [(0, ic_R 16 0 0), (1, ic_I 0), (2, ic_I 0)]) ?_ (And.intro rfl (And.intro rfl (And.intro rfl trivial)))
  obtain ⟨y1, g2, e3, h⟩ := ic_b2E h
  refine tX7_cells_4  1000 0 0 g _ e3 _ _ ?_
  change ic_Ev mX7_cells 34 [(1, ic_I y1)] [] g2 _ _
  refine ev_iload_n (a := 0) (b := 21) rfl rfl ?_
  obtain ⟨rfl, rfl⟩ := ic_s2 h
  exact ev_ireturn (a := 0) (b := 22) rfl rfl rfl
set_option maxRecDepth 20000 in
theorem eX7_now {x1 : Int32} {g g' : ic_S} {v : Int32} (h : fX7_now x1 g = some (v, g')) : ic_Ev mX7_now 0 (ic_ag 0 [ic_R 16 0 0, ic_I x1]) [] g (some (ic_I v)) g' := by
  unfold fX7_now at h
  change ic_Ev mX7_now 0 [(0, ic_R 16 0 0), (1, ic_I x1)] [] g _ _
  refine ev_iload_n (a := 0) (b := 0) rfl rfl ?_
  rcases Decidable.em (x1 = 0) with c1 | c1
  · have h := (if_pos c1).symm.trans h
    refine ev_tsw1 (a := 0) (b := 1) 0 (47) 48 rfl c1 (by decide) (by decide) rfl rfl ?_
    refine ev_aload_n (a := 0) (b := 2) rfl rfl ?_
    refine ev_get (a := 0) (b := 3) 7 0 rfl rfl (Nat.le_of_ble_eq_true rfl) lfX7_7 (gX7_d) ?_
    refine ev_iconst (a := 0) (b := 4) 1 rfl (by decide) ?_
    refine ev_ialdk (a := 0) (b := 5) 1 (by decide) rfl (a17 (by decide)) (by decide) ?_
    obtain ⟨rfl, rfl⟩ := ic_s2 h
    exact ev_ireturn (a := 0) (b := 6) rfl rfl rfl
  · have h := (if_neg c1).symm.trans h
    rcases Decidable.em (x1 = 1) with c2 | c2
    · have h := (if_pos c2).symm.trans h
      refine ev_tsw1 (a := 0) (b := 1) 1 (54) 55 rfl c2 (by decide) (by decide) rfl rfl ?_
      refine ev_aload_n (a := 0) (b := 7) rfl rfl ?_
      refine ev_iconst (a := 0) (b := 8) 5 rfl (by decide) ?_
      obtain ⟨v11, g9, e10, h⟩ := ic_b2E h
      refine ev_ivI (a := 0) (b := 9) [ic_I 5] rfl okX7_setOf rfl lmX7_144 rfl (rc16) (Nat.le_of_ble_eq_true rfl) (eX7_setOf e10) (Nat.le_of_ble_eq_true rfl) rfl ?_
      obtain ⟨rfl, rfl⟩ := ic_s2 h
      exact ev_ireturn (a := 0) (b := 10) rfl rfl rfl
    · have h := (if_neg c2).symm.trans h
      rcases Decidable.em (x1 = 2) with c3 | c3
      · have h := (if_pos c3).symm.trans h
        refine ev_tsw1 (a := 0) (b := 1) 2 (60) 61 rfl c3 (by decide) (by decide) rfl rfl ?_
        refine ev_aload_n (a := 0) (b := 11) rfl rfl ?_
        refine ev_iconst (a := 0) (b := 12) 3 rfl (by decide) ?_
        obtain ⟨v14, g12, e13, h⟩ := ic_b2E h
        refine ev_ivI (a := 0) (b := 13) [ic_I 3] rfl okX7_sumOf rfl lmX7_147 rfl (rc16) (Nat.le_of_ble_eq_true rfl) (eX7_sumOf e13) (Nat.le_of_ble_eq_true rfl) rfl ?_
        obtain ⟨rfl, rfl⟩ := ic_s2 h
        exact ev_ireturn (a := 0) (b := 14) rfl rfl rfl
      · have h := (if_neg c3).symm.trans h
        rcases Decidable.em (x1 = 3) with c4 | c4
        · have h := (if_pos c4).symm.trans h
          refine ev_tsw1 (a := 0) (b := 1) 3 (66) 67 rfl c4 (by decide) (by decide) rfl rfl ?_
          refine ev_aload_n (a := 0) (b := 15) rfl rfl ?_
          refine ev_bipush (a := 0) (b := 16) 6 rfl (by decide) ?_
          obtain ⟨v17, g15, e16, h⟩ := ic_b2E h
          refine ev_ivI (a := 0) (b := 17) [ic_I 6] rfl okX7_sumOf rfl lmX7_147 rfl (rc16) (Nat.le_of_ble_eq_true rfl) (eX7_sumOf e16) (Nat.le_of_ble_eq_true rfl) rfl ?_
          obtain ⟨rfl, rfl⟩ := ic_s2 h
          exact ev_ireturn (a := 0) (b := 18) rfl rfl rfl
        · have h := (if_neg c4).symm.trans h
          rcases Decidable.em (x1 = 4) with c5 | c5
          · have h := (if_pos c5).symm.trans h
            refine ev_tsw1 (a := 0) (b := 1) 4 (73) 74 rfl c5 (by decide) (by decide) rfl rfl ?_
            refine ev_aload_n (a := 0) (b := 19) rfl rfl ?_
            obtain ⟨v20, g18, e19, h⟩ := ic_b2E h
            refine ev_ivI (a := 0) (b := 20) [] rfl okX7_heavyTaken rfl lmX7_150 rfl (rc16) (Nat.le_of_ble_eq_true rfl) (eX7_heavyTaken e19) (Nat.le_of_ble_eq_true rfl) rfl ?_
            obtain ⟨rfl, rfl⟩ := ic_s2 h
            exact ev_ireturn (a := 0) (b := 21) rfl rfl rfl
          · have h := (if_neg c5).symm.trans h
            rcases Decidable.em (x1 = 5) with c6 | c6
            · have h := (if_pos c6).symm.trans h
              refine ev_tsw1 (a := 0) (b := 1) 5 (78) 79 rfl c6 (by decide) (by decide) rfl rfl ?_
              refine ev_aload_n (a := 0) (b := 22) rfl rfl ?_
              obtain ⟨v23, g21, e22, h⟩ := ic_b2E h
              refine ev_ivI (a := 0) (b := 23) [] rfl okX7_strongest rfl lmX7_154 rfl (rc16) (Nat.le_of_ble_eq_true rfl) (eX7_strongest e22) (Nat.le_of_ble_eq_true rfl) rfl ?_
              obtain ⟨rfl, rfl⟩ := ic_s2 h
              exact ev_ireturn (a := 0) (b := 24) rfl rfl rfl
            · have h := (if_neg c6).symm.trans h
              rcases Decidable.em (x1 = 6) with c7 | c7
              · have h := (if_pos c7).symm.trans h
                refine ev_tsw1 (a := 0) (b := 1) 6 (83) 84 rfl c7 (by decide) (by decide) rfl rfl ?_
                refine ev_aload_n (a := 0) (b := 25) rfl rfl ?_
                obtain ⟨v26, g24, e25, h⟩ := ic_b2E h
                refine ev_ivI (a := 0) (b := 26) [] rfl okX7_cells rfl lmX7_157 rfl (rc16) (Nat.le_of_ble_eq_true rfl) (eX7_cells e25) (Nat.le_of_ble_eq_true rfl) rfl ?_
                obtain ⟨rfl, rfl⟩ := ic_s2 h
                exact ev_ireturn (a := 0) (b := 27) rfl rfl rfl
              · have h := (if_neg c7).symm.trans h
                rcases Decidable.em (x1 = 7) with c8 | c8
                · have h := (if_pos c8).symm.trans h
                  refine ev_tsw1 (a := 0) (b := 1) 7 (88) 89 rfl c8 (by decide) (by decide) rfl rfl ?_
                  refine ev_aload_n (a := 0) (b := 28) rfl rfl ?_
                  refine ev_iconst (a := 0) (b := 29) 4 rfl (by decide) ?_
                  obtain ⟨v29, g27, e28, h⟩ := ic_b2E h
                  refine ev_ivI (a := 0) (b := 30) [ic_I 4] rfl okX7_setOf rfl lmX7_144 rfl (rc16) (Nat.le_of_ble_eq_true rfl) (eX7_setOf e28) (Nat.le_of_ble_eq_true rfl) rfl ?_
                  obtain ⟨rfl, rfl⟩ := ic_s2 h
                  exact ev_ireturn (a := 0) (b := 31) rfl rfl rfl
                · have h := (if_neg c8).symm.trans h
                  refine ev_tsw0 (a := 0) (b := 1) [0, 1, 2, 3, 4, 5, 6, 7] 95 rfl (List.forall_mem_cons.mpr ⟨c1, List.forall_mem_cons.mpr ⟨c2, List.forall_mem_cons.mpr ⟨c3, List.forall_mem_cons.mpr ⟨c4, List.forall_mem_cons.mpr ⟨c5, List.forall_mem_cons.mpr ⟨c6, List.forall_mem_cons.mpr ⟨c7, List.forall_mem_cons.mpr ⟨c8, fun _ hh => absurd hh List.not_mem_nil⟩⟩⟩⟩⟩⟩⟩⟩) (by decide) (by decide) rfl ?_
                  refine ev_aload_n (a := 1) (b := 0) rfl rfl ?_
                  refine ev_iconst (a := 1) (b := 1) 0 rfl (by decide) ?_
                  obtain ⟨v32, g30, e31, h⟩ := ic_b2E h
                  refine ev_ivI (a := 1) (b := 2) [ic_I 0] rfl okX7_finds rfl lmX7_117 rfl (rc16) (Nat.le_of_ble_eq_true rfl) (eX7_finds e31) (Nat.le_of_ble_eq_true rfl) rfl ?_
                  obtain ⟨rfl, rfl⟩ := ic_s2 h
                  exact ev_ireturn (a := 1) (b := 3) rfl rfl rfl
set_option maxRecDepth 20000 in
theorem eX7_behind {x1 : Int32} {x2 : Int32} {g g' : ic_S} {v : Int32} (h : fX7_behind x1 x2 g = some (v, g')) : ic_Ev mX7_behind 0 (ic_ag 0 [ic_R 16 0 0, ic_I x1, ic_I x2]) [] g (some (ic_I v)) g' := by
  unfold fX7_behind at h
  change ic_Ev mX7_behind 0 [(0, ic_R 16 0 0), (1, ic_I x1), (2, ic_I x2)] [] g _ _
  refine ev_aload_n (a := 0) (b := 0) rfl rfl ?_
  refine ev_iload_n (a := 0) (b := 1) rfl rfl ?_
  obtain ⟨g1, e2, h⟩ := ic_b1E h
  refine ev_ivV (a := 0) (b := 2) [ic_I x1] rfl okX7_callsGo rfl lmX7_141 rfl (rc16) (Nat.le_of_ble_eq_true rfl) (eX7_callsGo e2) (Nat.le_of_ble_eq_true rfl) rfl ?_
  refine ev_aload_n (a := 0) (b := 3) rfl rfl ?_
  refine ev_get (a := 0) (b := 4) 7 0 rfl rfl (Nat.le_of_ble_eq_true rfl) lfX7_7 (gX7_d) ?_
  refine ev_iload_n (a := 0) (b := 5) rfl rfl ?_
  obtain ⟨h3, h⟩ := ic_gdE h
  refine ev_iald (a := 0) (b := 6) rfl (a17 (by decide)) h3 ?_
  obtain ⟨y4, ey4, h⟩ := ic_letE h
  refine ev_topI ey4 ?_
  refine ev_istore_n (a := 0) (b := 7) [(0, ic_R 16 0 0), (3, ic_I y4)] rfl (by decide) (And.intro (Or.inr (And.intro rfl rfl)) (And.intro (Or.inl rfl) trivial)) ?_
  refine ev_aload_n (a := 0) (b := 8) rfl rfl ?_
  refine ev_get (a := 0) (b := 9) 7 2 rfl rfl (Nat.le_of_ble_eq_true rfl) lfX7_16 (gX7_aside) ?_
  refine ev_aload_n (a := 0) (b := 10) rfl rfl ?_
  refine ev_get (a := 0) (b := 11) 7 0 rfl rfl (Nat.le_of_ble_eq_true rfl) lfX7_7 (gX7_d) ?_
  obtain ⟨g5, e6, h⟩ := ic_b1E h
  refine ev_isV (a := 0) (b := 12) [ic_R 17 2 0, ic_R 17 0 0] rfl okX7_copies rfl lmX7_160 rfl (Nat.le_of_ble_eq_true rfl) (eX7_copies e6) (Nat.le_of_ble_eq_true rfl) rfl ?_
  refine ev_iload_n (a := 0) (b := 13) rfl rfl ?_
  obtain ⟨rfl, rfl⟩ := ic_s2 h
  exact ev_ireturn (a := 0) (b := 14) rfl rfl rfl
