set_option maxRecDepth 20000 in
theorem tX7_sheet_83 {x1 : Int32} : ∀ (n : Nat) (x4 : Int32) (g : ic_S) (q : Unit × ic_S), lX7_sheet_83 x1 n x4 g = some q → ∀ (r : Option ic_V) (g' : ic_S), ic_Ev mX7_sheet 109 [(0, ic_R 16 0 0), (1, ic_I x1)] [] q.2 r g' → ic_Ev mX7_sheet 83 [(0, ic_R 16 0 0), (1, ic_I x1), (4, ic_I x4)] [] g r g' := by
  intro n
  induction n with
  | zero => intro x4 g q h; cases h
  | succ n ih =>
    intro x4 g q h r g' hq
    rw [lX7_sheet_83] at h
    refine ev_iload (a := 1) (b := 15) rfl rfl ?_
    refine ev_bipush (a := 1) (b := 16) 40 rfl (by decide) ?_
    refine ev_icge (a := 1) (b := 17) 109 rfl rfl (fun c1001 => ?_) (fun c1001 => ?_)
    · have h := (if_pos c1001).symm.trans h
      obtain rfl := ic_s1 h
      exact ev_fw (lv' := [(0, ic_R 16 0 0), (1, ic_I x1)]) hq (And.intro rfl (And.intro rfl trivial))
    · have h := (if_neg c1001).symm.trans h
      refine ev_aload_n (a := 1) (b := 18) rfl rfl ?_
      refine ev_get (a := 1) (b := 19) 7 15 rfl rfl (Nat.le_of_ble_eq_true rfl) lfX7_35 (gX7_number) ?_
      refine ev_bipush (a := 1) (b := 20) 40 rfl (by decide) ?_
      refine ev_iload_n (a := 1) (b := 21) rfl rfl ?_
      refine ev_imul (a := 1) (b := 22) rfl ?_
      refine ev_iload (a := 1) (b := 23) rfl rfl ?_
      refine ev_iadd (a := 1) (b := 24) rfl ?_
      refine ev_iconst (a := 1) (b := 25) 0 rfl (by decide) ?_
      obtain ⟨h1002, h⟩ := ic_gdE h
      obtain ⟨g1003, eg1003, h⟩ := ic_letE h
      refine ev_iast (a := 1) (b := 26) rfl h1002 (w22 eg1003) ?_
      refine ev_iinc (a := 1) (b := 27) (x4 + 1) [(0, ic_R 16 0 0), (1, ic_I x1), (4, ic_I (x4 + 1))] rfl rfl (by first | rfl | decide) (by decide) (And.intro (Or.inr (And.intro rfl rfl)) (And.intro (Or.inr (And.intro rfl rfl)) (And.intro (Or.inl rfl) trivial))) ?_
      refine ev_goto (a := 1) (b := 28) 83 rfl rfl ?_
      refine ev_fw (lv' := [(0, ic_R 16 0 0), (1, ic_I x1), (4, ic_I (x4 + 1))]) ?_ (And.intro rfl (And.intro rfl (And.intro rfl trivial)))
      exact ih (x4 + 1) g1003 _ h _ _ hq
set_option maxRecDepth 20000 in
theorem eX7_sheet {x1 : Int32} {x2 : Int32} {x3 : Int32} {g g' : ic_S} {v : Int32} (h : fX7_sheet x1 x2 x3 g = some (v, g')) : ic_Ev mX7_sheet 0 (ic_ag 0 [ic_R 16 0 0, ic_I x1, ic_I x2, ic_I x3]) [] g (some (ic_I v)) g' := by
  unfold fX7_sheet at h
  change ic_Ev mX7_sheet 0 [(0, ic_R 16 0 0), (1, ic_I x1), (2, ic_I x2), (3, ic_I x3)] [] g _ _
  refine ev_iload_n (a := 0) (b := 0) rfl rfl ?_
  obtain ⟨v3, g1, e2, h⟩ := ic_b2E h
  refine ev_isI (a := 0) (b := 1) [ic_I x1] rfl okX7_isSheet rfl lmX7_301 rfl (Nat.le_of_ble_eq_true rfl) (eX7_isSheet e2) (Nat.le_of_ble_eq_true rfl) rfl ?_
  refine ev_ifeq (a := 0) (b := 2) 29 rfl rfl (fun c4 => ?_) (fun c4 => ?_)
  · have h := (if_pos c4).symm.trans h
    refine ev_aload_n (a := 0) (b := 14) rfl rfl ?_
    refine ev_iconst (a := 0) (b := 15) 0 rfl (by decide) ?_
    obtain ⟨v7, g5, e6, h⟩ := ic_b2E h
    refine ev_ivI (a := 0) (b := 16) [ic_I 0] rfl okX7_finds rfl lmX7_117 rfl (rc16) (Nat.le_of_ble_eq_true rfl) (eX7_finds e6) (Nat.le_of_ble_eq_true rfl) rfl ?_
    obtain ⟨rfl, rfl⟩ := ic_s2 h
    exact ev_ireturn (a := 0) (b := 17) rfl rfl rfl
  · have h := (if_neg c4).symm.trans h
    refine ev_iload_n (a := 0) (b := 3) rfl rfl ?_
    refine ev_ifeq (a := 0) (b := 4) 35 rfl rfl (fun c8 => ?_) (fun c8 => ?_)
    · have h := (if_pos c8).symm.trans h
      refine ev_iload_n (a := 0) (b := 18) rfl rfl ?_
      refine ev_ifge (a := 0) (b := 19) 46 rfl rfl (fun c9 => ?_) (fun c9 => ?_)
      · have h := (if_pos c9).symm.trans h
        refine ev_iload_n (a := 0) (b := 24) rfl rfl ?_
        refine ev_bipush (a := 0) (b := 25) 40 rfl (by decide) ?_
        refine ev_icle (a := 0) (b := 26) 58 rfl rfl (fun c10 => ?_) (fun c10 => ?_)
        · have h := (if_pos c10).symm.trans h
          refine ev_aload_n (a := 0) (b := 31) rfl rfl ?_
          refine ev_get (a := 1) (b := 0) 7 13 rfl rfl (Nat.le_of_ble_eq_true rfl) lfX7_29 (gX7_bitsOf) ?_
          refine ev_iload_n (a := 1) (b := 1) rfl rfl ?_
          refine ev_iload_n (a := 1) (b := 2) rfl rfl ?_
          obtain ⟨h11, h⟩ := ic_gdE h
          obtain ⟨g12, eg12, h⟩ := ic_letE h
          refine ev_iast (a := 1) (b := 3) rfl h11 (w20 eg12) ?_
          refine ev_aload_n (a := 1) (b := 4) rfl rfl ?_
          refine ev_get (a := 1) (b := 5) 7 14 rfl rfl (Nat.le_of_ble_eq_true rfl) lfX7_32 (gX7_sizeOf) ?_
          refine ev_iload_n (a := 1) (b := 6) rfl rfl ?_
          refine ev_iload_n (a := 1) (b := 7) rfl rfl ?_
          refine ev_ifne (a := 1) (b := 8) 78 rfl rfl (fun c13 => ?_) (fun c13 => ?_)
          · have h := (if_neg c13).symm.trans h
            refine ev_iload_n (a := 1) (b := 11) rfl rfl ?_
            obtain ⟨h14, h⟩ := ic_gdE h
            obtain ⟨g15, eg15, h⟩ := ic_letE h
            refine ev_iast (a := 1) (b := 12) rfl h14 (w21 eg15) ?_
            refine ev_iconst (a := 1) (b := 13) 0 rfl (by decide) ?_
            refine ev_istore (a := 1) (b := 14) [(0, ic_R 16 0 0), (1, ic_I x1), (4, ic_I 0)] rfl (by decide) (And.intro (Or.inr (And.intro rfl rfl)) (And.intro (Or.inr (And.intro rfl rfl)) (And.intro (Or.inl rfl) trivial))) ?_
            refine ev_fw (lv' := [(0, ic_R 16 0 0), (1, ic_I x1), (4, ic_I 0)]) ?_ (And.intro rfl (And.intro rfl (And.intro rfl trivial)))
            obtain ⟨y16, g17, e18, h⟩ := ic_b2E h
            refine tX7_sheet_83 (x1 := x1)  1000 0 g15 _ e18 _ _ ?_
            change ic_Ev mX7_sheet 109 [(0, ic_R 16 0 0), (1, ic_I x1)] [] g17 _ _
            refine ev_aload_n (a := 1) (b := 29) rfl rfl ?_
            refine ev_get (a := 1) (b := 30) 7 14 rfl rfl (Nat.le_of_ble_eq_true rfl) lfX7_32 (gX7_sizeOf) ?_
            refine ev_iload_n (a := 1) (b := 31) rfl rfl ?_
            obtain ⟨h19, h⟩ := ic_gdE h
            refine ev_iald (a := 2) (b := 0) rfl (a21) h19 ?_
            obtain ⟨rfl, rfl⟩ := ic_s2 h
            exact ev_ireturn (a := 2) (b := 1) rfl rfl rfl
          · have h := (if_pos c13).symm.trans h
            refine ev_iconst (a := 1) (b := 9) 0 rfl (by decide) ?_
            refine ev_goto (a := 1) (b := 10) 79 rfl rfl ?_
            obtain ⟨h20, h⟩ := ic_gdE h
            obtain ⟨g21, eg21, h⟩ := ic_letE h
            refine ev_iast (a := 1) (b := 12) rfl h20 (w21 eg21) ?_
            refine ev_iconst (a := 1) (b := 13) 0 rfl (by decide) ?_
            refine ev_istore (a := 1) (b := 14) [(0, ic_R 16 0 0), (1, ic_I x1), (4, ic_I 0)] rfl (by decide) (And.intro (Or.inr (And.intro rfl rfl)) (And.intro (Or.inr (And.intro rfl rfl)) (And.intro (Or.inl rfl) trivial))) ?_
            refine ev_fw (lv' := [(0, ic_R 16 0 0), (1, ic_I x1), (4, ic_I 0)]) ?_ (And.intro rfl (And.intro rfl (And.intro rfl trivial)))
            obtain ⟨y22, g23, e24, h⟩ := ic_b2E h
            refine tX7_sheet_83 (x1 := x1)  1000 0 g21 _ e24 _ _ ?_
            change ic_Ev mX7_sheet 109 [(0, ic_R 16 0 0), (1, ic_I x1)] [] g23 _ _
            refine ev_aload_n (a := 1) (b := 29) rfl rfl ?_
            refine ev_get (a := 1) (b := 30) 7 14 rfl rfl (Nat.le_of_ble_eq_true rfl) lfX7_32 (gX7_sizeOf) ?_
            refine ev_iload_n (a := 1) (b := 31) rfl rfl ?_
            obtain ⟨h25, h⟩ := ic_gdE h
            refine ev_iald (a := 2) (b := 0) rfl (a21) h25 ?_
            obtain ⟨rfl, rfl⟩ := ic_s2 h
            exact ev_ireturn (a := 2) (b := 1) rfl rfl rfl
        · have h := (if_neg c10).symm.trans h
          refine ev_aload_n (a := 0) (b := 27) rfl rfl ?_
          refine ev_iconst (a := 0) (b := 28) 0 rfl (by decide) ?_
          obtain ⟨v28, g26, e27, h⟩ := ic_b2E h
          refine ev_ivI (a := 0) (b := 29) [ic_I 0] rfl okX7_finds rfl lmX7_117 rfl (rc16) (Nat.le_of_ble_eq_true rfl) (eX7_finds e27) (Nat.le_of_ble_eq_true rfl) rfl ?_
          obtain ⟨rfl, rfl⟩ := ic_s2 h
          exact ev_ireturn (a := 0) (b := 30) rfl rfl rfl
      · have h := (if_neg c9).symm.trans h
        refine ev_aload_n (a := 0) (b := 20) rfl rfl ?_
        refine ev_bipush (a := 0) (b := 21) 6 rfl (by decide) ?_
        obtain ⟨v31, g29, e30, h⟩ := ic_b2E h
        refine ev_ivI (a := 0) (b := 22) [ic_I 6] rfl okX7_finds rfl lmX7_117 rfl (rc16) (Nat.le_of_ble_eq_true rfl) (eX7_finds e30) (Nat.le_of_ble_eq_true rfl) rfl ?_
        obtain ⟨rfl, rfl⟩ := ic_s2 h
        exact ev_ireturn (a := 0) (b := 23) rfl rfl rfl
    · have h := (if_neg c8).symm.trans h
      refine ev_iload_n (a := 0) (b := 5) rfl rfl ?_
      refine ev_bipush (a := 0) (b := 6) 8 rfl (by decide) ?_
      refine ev_iceq (a := 0) (b := 7) 35 rfl rfl (fun c32 => ?_) (fun c32 => ?_)
      · have h := (if_pos c32).symm.trans h
        refine ev_iload_n (a := 0) (b := 18) rfl rfl ?_
        refine ev_ifge (a := 0) (b := 19) 46 rfl rfl (fun c33 => ?_) (fun c33 => ?_)
        · have h := (if_pos c33).symm.trans h
          refine ev_iload_n (a := 0) (b := 24) rfl rfl ?_
          refine ev_bipush (a := 0) (b := 25) 40 rfl (by decide) ?_
          refine ev_icle (a := 0) (b := 26) 58 rfl rfl (fun c34 => ?_) (fun c34 => ?_)
          · have h := (if_pos c34).symm.trans h
            refine ev_aload_n (a := 0) (b := 31) rfl rfl ?_
            refine ev_get (a := 1) (b := 0) 7 13 rfl rfl (Nat.le_of_ble_eq_true rfl) lfX7_29 (gX7_bitsOf) ?_
            refine ev_iload_n (a := 1) (b := 1) rfl rfl ?_
            refine ev_iload_n (a := 1) (b := 2) rfl rfl ?_
            obtain ⟨h35, h⟩ := ic_gdE h
            obtain ⟨g36, eg36, h⟩ := ic_letE h
            refine ev_iast (a := 1) (b := 3) rfl h35 (w20 eg36) ?_
            refine ev_aload_n (a := 1) (b := 4) rfl rfl ?_
            refine ev_get (a := 1) (b := 5) 7 14 rfl rfl (Nat.le_of_ble_eq_true rfl) lfX7_32 (gX7_sizeOf) ?_
            refine ev_iload_n (a := 1) (b := 6) rfl rfl ?_
            refine ev_iload_n (a := 1) (b := 7) rfl rfl ?_
            refine ev_ifne (a := 1) (b := 8) 78 rfl rfl (fun c37 => ?_) (fun c37 => ?_)
            · have h := (if_neg c37).symm.trans h
              refine ev_iload_n (a := 1) (b := 11) rfl rfl ?_
              obtain ⟨h38, h⟩ := ic_gdE h
              obtain ⟨g39, eg39, h⟩ := ic_letE h
              refine ev_iast (a := 1) (b := 12) rfl h38 (w21 eg39) ?_
              refine ev_iconst (a := 1) (b := 13) 0 rfl (by decide) ?_
              refine ev_istore (a := 1) (b := 14) [(0, ic_R 16 0 0), (1, ic_I x1), (4, ic_I 0)] rfl (by decide) (And.intro (Or.inr (And.intro rfl rfl)) (And.intro (Or.inr (And.intro rfl rfl)) (And.intro (Or.inl rfl) trivial))) ?_
              refine ev_fw (lv' := [(0, ic_R 16 0 0), (1, ic_I x1), (4, ic_I 0)]) ?_ (And.intro rfl (And.intro rfl (And.intro rfl trivial)))
              obtain ⟨y40, g41, e42, h⟩ := ic_b2E h
              refine tX7_sheet_83 (x1 := x1)  1000 0 g39 _ e42 _ _ ?_
              change ic_Ev mX7_sheet 109 [(0, ic_R 16 0 0), (1, ic_I x1)] [] g41 _ _
              refine ev_aload_n (a := 1) (b := 29) rfl rfl ?_
              refine ev_get (a := 1) (b := 30) 7 14 rfl rfl (Nat.le_of_ble_eq_true rfl) lfX7_32 (gX7_sizeOf) ?_
              refine ev_iload_n (a := 1) (b := 31) rfl rfl ?_
              obtain ⟨h43, h⟩ := ic_gdE h
              refine ev_iald (a := 2) (b := 0) rfl (a21) h43 ?_
              obtain ⟨rfl, rfl⟩ := ic_s2 h
              exact ev_ireturn (a := 2) (b := 1) rfl rfl rfl
            · have h := (if_pos c37).symm.trans h
              refine ev_iconst (a := 1) (b := 9) 0 rfl (by decide) ?_
              refine ev_goto (a := 1) (b := 10) 79 rfl rfl ?_
              obtain ⟨h44, h⟩ := ic_gdE h
              obtain ⟨g45, eg45, h⟩ := ic_letE h
              refine ev_iast (a := 1) (b := 12) rfl h44 (w21 eg45) ?_
              refine ev_iconst (a := 1) (b := 13) 0 rfl (by decide) ?_
              refine ev_istore (a := 1) (b := 14) [(0, ic_R 16 0 0), (1, ic_I x1), (4, ic_I 0)] rfl (by decide) (And.intro (Or.inr (And.intro rfl rfl)) (And.intro (Or.inr (And.intro rfl rfl)) (And.intro (Or.inl rfl) trivial))) ?_
              refine ev_fw (lv' := [(0, ic_R 16 0 0), (1, ic_I x1), (4, ic_I 0)]) ?_ (And.intro rfl (And.intro rfl (And.intro rfl trivial)))
              obtain ⟨y46, g47, e48, h⟩ := ic_b2E h
              refine tX7_sheet_83 (x1 := x1)  1000 0 g45 _ e48 _ _ ?_
              change ic_Ev mX7_sheet 109 [(0, ic_R 16 0 0), (1, ic_I x1)] [] g47 _ _
              refine ev_aload_n (a := 1) (b := 29) rfl rfl ?_
              refine ev_get (a := 1) (b := 30) 7 14 rfl rfl (Nat.le_of_ble_eq_true rfl) lfX7_32 (gX7_sizeOf) ?_
              refine ev_iload_n (a := 1) (b := 31) rfl rfl ?_
              obtain ⟨h49, h⟩ := ic_gdE h
              refine ev_iald (a := 2) (b := 0) rfl (a21) h49 ?_
              obtain ⟨rfl, rfl⟩ := ic_s2 h
              exact ev_ireturn (a := 2) (b := 1) rfl rfl rfl
          · have h := (if_neg c34).symm.trans h
            refine ev_aload_n (a := 0) (b := 27) rfl rfl ?_
            refine ev_iconst (a := 0) (b := 28) 0 rfl (by decide) ?_
            obtain ⟨v52, g50, e51, h⟩ := ic_b2E h
            refine ev_ivI (a := 0) (b := 29) [ic_I 0] rfl okX7_finds rfl lmX7_117 rfl (rc16) (Nat.le_of_ble_eq_true rfl) (eX7_finds e51) (Nat.le_of_ble_eq_true rfl) rfl ?_
            obtain ⟨rfl, rfl⟩ := ic_s2 h
            exact ev_ireturn (a := 0) (b := 30) rfl rfl rfl
        · have h := (if_neg c33).symm.trans h
          refine ev_aload_n (a := 0) (b := 20) rfl rfl ?_
          refine ev_bipush (a := 0) (b := 21) 6 rfl (by decide) ?_
          obtain ⟨v55, g53, e54, h⟩ := ic_b2E h
          refine ev_ivI (a := 0) (b := 22) [ic_I 6] rfl okX7_finds rfl lmX7_117 rfl (rc16) (Nat.le_of_ble_eq_true rfl) (eX7_finds e54) (Nat.le_of_ble_eq_true rfl) rfl ?_
          obtain ⟨rfl, rfl⟩ := ic_s2 h
          exact ev_ireturn (a := 0) (b := 23) rfl rfl rfl
      · have h := (if_neg c32).symm.trans h
        refine ev_iload_n (a := 0) (b := 8) rfl rfl ?_
        refine ev_bipush (a := 0) (b := 9) 16 rfl (by decide) ?_
        refine ev_iceq (a := 0) (b := 10) 35 rfl rfl (fun c56 => ?_) (fun c56 => ?_)
        · have h := (if_pos c56).symm.trans h
          refine ev_iload_n (a := 0) (b := 18) rfl rfl ?_
          refine ev_ifge (a := 0) (b := 19) 46 rfl rfl (fun c57 => ?_) (fun c57 => ?_)
          · have h := (if_pos c57).symm.trans h
            refine ev_iload_n (a := 0) (b := 24) rfl rfl ?_
            refine ev_bipush (a := 0) (b := 25) 40 rfl (by decide) ?_
            refine ev_icle (a := 0) (b := 26) 58 rfl rfl (fun c58 => ?_) (fun c58 => ?_)
            · have h := (if_pos c58).symm.trans h
              refine ev_aload_n (a := 0) (b := 31) rfl rfl ?_
              refine ev_get (a := 1) (b := 0) 7 13 rfl rfl (Nat.le_of_ble_eq_true rfl) lfX7_29 (gX7_bitsOf) ?_
              refine ev_iload_n (a := 1) (b := 1) rfl rfl ?_
              refine ev_iload_n (a := 1) (b := 2) rfl rfl ?_
              obtain ⟨h59, h⟩ := ic_gdE h
              obtain ⟨g60, eg60, h⟩ := ic_letE h
              refine ev_iast (a := 1) (b := 3) rfl h59 (w20 eg60) ?_
              refine ev_aload_n (a := 1) (b := 4) rfl rfl ?_
              refine ev_get (a := 1) (b := 5) 7 14 rfl rfl (Nat.le_of_ble_eq_true rfl) lfX7_32 (gX7_sizeOf) ?_
              refine ev_iload_n (a := 1) (b := 6) rfl rfl ?_
              refine ev_iload_n (a := 1) (b := 7) rfl rfl ?_
              refine ev_ifne (a := 1) (b := 8) 78 rfl rfl (fun c61 => ?_) (fun c61 => ?_)
              · have h := (if_neg c61).symm.trans h
                refine ev_iload_n (a := 1) (b := 11) rfl rfl ?_
                obtain ⟨h62, h⟩ := ic_gdE h
                obtain ⟨g63, eg63, h⟩ := ic_letE h
                refine ev_iast (a := 1) (b := 12) rfl h62 (w21 eg63) ?_
                refine ev_iconst (a := 1) (b := 13) 0 rfl (by decide) ?_
                refine ev_istore (a := 1) (b := 14) [(0, ic_R 16 0 0), (1, ic_I x1), (4, ic_I 0)] rfl (by decide) (And.intro (Or.inr (And.intro rfl rfl)) (And.intro (Or.inr (And.intro rfl rfl)) (And.intro (Or.inl rfl) trivial))) ?_
                refine ev_fw (lv' := [(0, ic_R 16 0 0), (1, ic_I x1), (4, ic_I 0)]) ?_ (And.intro rfl (And.intro rfl (And.intro rfl trivial)))
                obtain ⟨y64, g65, e66, h⟩ := ic_b2E h
                refine tX7_sheet_83 (x1 := x1)  1000 0 g63 _ e66 _ _ ?_
                change ic_Ev mX7_sheet 109 [(0, ic_R 16 0 0), (1, ic_I x1)] [] g65 _ _
                refine ev_aload_n (a := 1) (b := 29) rfl rfl ?_
                refine ev_get (a := 1) (b := 30) 7 14 rfl rfl (Nat.le_of_ble_eq_true rfl) lfX7_32 (gX7_sizeOf) ?_
                refine ev_iload_n (a := 1) (b := 31) rfl rfl ?_
                obtain ⟨h67, h⟩ := ic_gdE h
                refine ev_iald (a := 2) (b := 0) rfl (a21) h67 ?_
                obtain ⟨rfl, rfl⟩ := ic_s2 h
                exact ev_ireturn (a := 2) (b := 1) rfl rfl rfl
              · have h := (if_pos c61).symm.trans h
                refine ev_iconst (a := 1) (b := 9) 0 rfl (by decide) ?_
                refine ev_goto (a := 1) (b := 10) 79 rfl rfl ?_
                obtain ⟨h68, h⟩ := ic_gdE h
                obtain ⟨g69, eg69, h⟩ := ic_letE h
                refine ev_iast (a := 1) (b := 12) rfl h68 (w21 eg69) ?_
                refine ev_iconst (a := 1) (b := 13) 0 rfl (by decide) ?_
                refine ev_istore (a := 1) (b := 14) [(0, ic_R 16 0 0), (1, ic_I x1), (4, ic_I 0)] rfl (by decide) (And.intro (Or.inr (And.intro rfl rfl)) (And.intro (Or.inr (And.intro rfl rfl)) (And.intro (Or.inl rfl) trivial))) ?_
                refine ev_fw (lv' := [(0, ic_R 16 0 0), (1, ic_I x1), (4, ic_I 0)]) ?_ (And.intro rfl (And.intro rfl (And.intro rfl trivial)))
                obtain ⟨y70, g71, e72, h⟩ := ic_b2E h
                refine tX7_sheet_83 (x1 := x1)  1000 0 g69 _ e72 _ _ ?_
                change ic_Ev mX7_sheet 109 [(0, ic_R 16 0 0), (1, ic_I x1)] [] g71 _ _
                refine ev_aload_n (a := 1) (b := 29) rfl rfl ?_
                refine ev_get (a := 1) (b := 30) 7 14 rfl rfl (Nat.le_of_ble_eq_true rfl) lfX7_32 (gX7_sizeOf) ?_
                refine ev_iload_n (a := 1) (b := 31) rfl rfl ?_
                obtain ⟨h73, h⟩ := ic_gdE h
                refine ev_iald (a := 2) (b := 0) rfl (a21) h73 ?_
                obtain ⟨rfl, rfl⟩ := ic_s2 h
                exact ev_ireturn (a := 2) (b := 1) rfl rfl rfl
            · have h := (if_neg c58).symm.trans h
              refine ev_aload_n (a := 0) (b := 27) rfl rfl ?_
              refine ev_iconst (a := 0) (b := 28) 0 rfl (by decide) ?_
              obtain ⟨v76, g74, e75, h⟩ := ic_b2E h
              refine ev_ivI (a := 0) (b := 29) [ic_I 0] rfl okX7_finds rfl lmX7_117 rfl (rc16) (Nat.le_of_ble_eq_true rfl) (eX7_finds e75) (Nat.le_of_ble_eq_true rfl) rfl ?_
              obtain ⟨rfl, rfl⟩ := ic_s2 h
              exact ev_ireturn (a := 0) (b := 30) rfl rfl rfl
          · have h := (if_neg c57).symm.trans h
            refine ev_aload_n (a := 0) (b := 20) rfl rfl ?_
            refine ev_bipush (a := 0) (b := 21) 6 rfl (by decide) ?_
            obtain ⟨v79, g77, e78, h⟩ := ic_b2E h
            refine ev_ivI (a := 0) (b := 22) [ic_I 6] rfl okX7_finds rfl lmX7_117 rfl (rc16) (Nat.le_of_ble_eq_true rfl) (eX7_finds e78) (Nat.le_of_ble_eq_true rfl) rfl ?_
            obtain ⟨rfl, rfl⟩ := ic_s2 h
            exact ev_ireturn (a := 0) (b := 23) rfl rfl rfl
        · have h := (if_neg c56).symm.trans h
          refine ev_iload_n (a := 0) (b := 11) rfl rfl ?_
          refine ev_bipush (a := 0) (b := 12) 32 rfl (by decide) ?_
          refine ev_iceq (a := 0) (b := 13) 35 rfl rfl (fun c80 => ?_) (fun c80 => ?_)
          · have h := (if_pos c80).symm.trans h
            refine ev_iload_n (a := 0) (b := 18) rfl rfl ?_
            refine ev_ifge (a := 0) (b := 19) 46 rfl rfl (fun c81 => ?_) (fun c81 => ?_)
            · have h := (if_pos c81).symm.trans h
              refine ev_iload_n (a := 0) (b := 24) rfl rfl ?_
              refine ev_bipush (a := 0) (b := 25) 40 rfl (by decide) ?_
              refine ev_icle (a := 0) (b := 26) 58 rfl rfl (fun c82 => ?_) (fun c82 => ?_)
              · have h := (if_pos c82).symm.trans h
                refine ev_aload_n (a := 0) (b := 31) rfl rfl ?_
                refine ev_get (a := 1) (b := 0) 7 13 rfl rfl (Nat.le_of_ble_eq_true rfl) lfX7_29 (gX7_bitsOf) ?_
                refine ev_iload_n (a := 1) (b := 1) rfl rfl ?_
                refine ev_iload_n (a := 1) (b := 2) rfl rfl ?_
                obtain ⟨h83, h⟩ := ic_gdE h
                obtain ⟨g84, eg84, h⟩ := ic_letE h
                refine ev_iast (a := 1) (b := 3) rfl h83 (w20 eg84) ?_
                refine ev_aload_n (a := 1) (b := 4) rfl rfl ?_
                refine ev_get (a := 1) (b := 5) 7 14 rfl rfl (Nat.le_of_ble_eq_true rfl) lfX7_32 (gX7_sizeOf) ?_
                refine ev_iload_n (a := 1) (b := 6) rfl rfl ?_
                refine ev_iload_n (a := 1) (b := 7) rfl rfl ?_
                refine ev_ifne (a := 1) (b := 8) 78 rfl rfl (fun c85 => ?_) (fun c85 => ?_)
                · have h := (if_neg c85).symm.trans h
                  refine ev_iload_n (a := 1) (b := 11) rfl rfl ?_
                  obtain ⟨h86, h⟩ := ic_gdE h
                  obtain ⟨g87, eg87, h⟩ := ic_letE h
                  refine ev_iast (a := 1) (b := 12) rfl h86 (w21 eg87) ?_
                  refine ev_iconst (a := 1) (b := 13) 0 rfl (by decide) ?_
                  refine ev_istore (a := 1) (b := 14) [(0, ic_R 16 0 0), (1, ic_I x1), (4, ic_I 0)] rfl (by decide) (And.intro (Or.inr (And.intro rfl rfl)) (And.intro (Or.inr (And.intro rfl rfl)) (And.intro (Or.inl rfl) trivial))) ?_
                  refine ev_fw (lv' := [(0, ic_R 16 0 0), (1, ic_I x1), (4, ic_I 0)]) ?_ (And.intro rfl (And.intro rfl (And.intro rfl trivial)))
                  obtain ⟨y88, g89, e90, h⟩ := ic_b2E h
                  refine tX7_sheet_83 (x1 := x1)  1000 0 g87 _ e90 _ _ ?_
                  change ic_Ev mX7_sheet 109 [(0, ic_R 16 0 0), (1, ic_I x1)] [] g89 _ _
                  refine ev_aload_n (a := 1) (b := 29) rfl rfl ?_
                  refine ev_get (a := 1) (b := 30) 7 14 rfl rfl (Nat.le_of_ble_eq_true rfl) lfX7_32 (gX7_sizeOf) ?_
                  refine ev_iload_n (a := 1) (b := 31) rfl rfl ?_
                  obtain ⟨h91, h⟩ := ic_gdE h
                  refine ev_iald (a := 2) (b := 0) rfl (a21) h91 ?_
                  obtain ⟨rfl, rfl⟩ := ic_s2 h
                  exact ev_ireturn (a := 2) (b := 1) rfl rfl rfl
                · have h := (if_pos c85).symm.trans h
                  refine ev_iconst (a := 1) (b := 9) 0 rfl (by decide) ?_
                  refine ev_goto (a := 1) (b := 10) 79 rfl rfl ?_
                  obtain ⟨h92, h⟩ := ic_gdE h
                  obtain ⟨g93, eg93, h⟩ := ic_letE h
                  refine ev_iast (a := 1) (b := 12) rfl h92 (w21 eg93) ?_
                  refine ev_iconst (a := 1) (b := 13) 0 rfl (by decide) ?_
                  refine ev_istore (a := 1) (b := 14) [(0, ic_R 16 0 0), (1, ic_I x1), (4, ic_I 0)] rfl (by decide) (And.intro (Or.inr (And.intro rfl rfl)) (And.intro (Or.inr (And.intro rfl rfl)) (And.intro (Or.inl rfl) trivial))) ?_
                  refine ev_fw (lv' := [(0, ic_R 16 0 0), (1, ic_I x1), (4, ic_I 0)]) ?_ (And.intro rfl (And.intro rfl (And.intro rfl trivial)))
                  obtain ⟨y94, g95, e96, h⟩ := ic_b2E h
                  refine tX7_sheet_83 (x1 := x1)  1000 0 g93 _ e96 _ _ ?_
                  change ic_Ev mX7_sheet 109 [(0, ic_R 16 0 0), (1, ic_I x1)] [] g95 _ _
                  refine ev_aload_n (a := 1) (b := 29) rfl rfl ?_
                  refine ev_get (a := 1) (b := 30) 7 14 rfl rfl (Nat.le_of_ble_eq_true rfl) lfX7_32 (gX7_sizeOf) ?_
                  refine ev_iload_n (a := 1) (b := 31) rfl rfl ?_
                  obtain ⟨h97, h⟩ := ic_gdE h
                  refine ev_iald (a := 2) (b := 0) rfl (a21) h97 ?_
                  obtain ⟨rfl, rfl⟩ := ic_s2 h
                  exact ev_ireturn (a := 2) (b := 1) rfl rfl rfl
              · have h := (if_neg c82).symm.trans h
                refine ev_aload_n (a := 0) (b := 27) rfl rfl ?_
                refine ev_iconst (a := 0) (b := 28) 0 rfl (by decide) ?_
                obtain ⟨v100, g98, e99, h⟩ := ic_b2E h
                refine ev_ivI (a := 0) (b := 29) [ic_I 0] rfl okX7_finds rfl lmX7_117 rfl (rc16) (Nat.le_of_ble_eq_true rfl) (eX7_finds e99) (Nat.le_of_ble_eq_true rfl) rfl ?_
                obtain ⟨rfl, rfl⟩ := ic_s2 h
                exact ev_ireturn (a := 0) (b := 30) rfl rfl rfl
            · have h := (if_neg c81).symm.trans h
              refine ev_aload_n (a := 0) (b := 20) rfl rfl ?_
              refine ev_bipush (a := 0) (b := 21) 6 rfl (by decide) ?_
              obtain ⟨v103, g101, e102, h⟩ := ic_b2E h
              refine ev_ivI (a := 0) (b := 22) [ic_I 6] rfl okX7_finds rfl lmX7_117 rfl (rc16) (Nat.le_of_ble_eq_true rfl) (eX7_finds e102) (Nat.le_of_ble_eq_true rfl) rfl ?_
              obtain ⟨rfl, rfl⟩ := ic_s2 h
              exact ev_ireturn (a := 0) (b := 23) rfl rfl rfl
          · have h := (if_neg c80).symm.trans h
            refine ev_aload_n (a := 0) (b := 14) rfl rfl ?_
            refine ev_iconst (a := 0) (b := 15) 0 rfl (by decide) ?_
            obtain ⟨v106, g104, e105, h⟩ := ic_b2E h
            refine ev_ivI (a := 0) (b := 16) [ic_I 0] rfl okX7_finds rfl lmX7_117 rfl (rc16) (Nat.le_of_ble_eq_true rfl) (eX7_finds e105) (Nat.le_of_ble_eq_true rfl) rfl ?_
            obtain ⟨rfl, rfl⟩ := ic_s2 h
            exact ev_ireturn (a := 0) (b := 17) rfl rfl rfl
set_option maxRecDepth 20000 in
theorem eX7_write {x1 : Int32} {x2 : Int32} {x3 : Int32} {g g' : ic_S} {v : Int32} (h : fX7_write x1 x2 x3 g = some (v, g')) : ic_Ev mX7_write 0 (ic_ag 0 [ic_R 16 0 0, ic_I x1, ic_I x2, ic_I x3]) [] g (some (ic_I v)) g' := by
  unfold fX7_write at h
  change ic_Ev mX7_write 0 [(0, ic_R 16 0 0), (1, ic_I x1), (2, ic_I x2), (3, ic_I x3)] [] g _ _
  refine ev_aload_n (a := 0) (b := 0) rfl rfl ?_
  refine ev_iload_n (a := 0) (b := 1) rfl rfl ?_
  obtain ⟨v3, g1, e2, h⟩ := ic_b2E h
  refine ev_ivI (a := 0) (b := 2) [ic_I x1] rfl okX7_whyNone rfl lmX7_179 rfl (rc16) (Nat.le_of_ble_eq_true rfl) (eX7_whyNone e2) (Nat.le_of_ble_eq_true rfl) rfl ?_
  refine ev_istore (a := 0) (b := 3) [(0, ic_R 16 0 0), (1, ic_I x1), (2, ic_I x2), (3, ic_I x3), (4, ic_I v3)] rfl (by decide) (And.intro (Or.inr (And.intro rfl rfl)) (And.intro (Or.inr (And.intro rfl rfl)) (And.intro (Or.inr (And.intro rfl rfl)) (And.intro (Or.inr (And.intro rfl rfl)) (And.intro (Or.inl rfl) trivial))))) ?_
  refine ev_iload (a := 0) (b := 4) rfl rfl ?_
  refine ev_ifge (a := 0) (b := 5) 34 rfl rfl (fun c4 => ?_) (fun c4 => ?_)
  · have h := (if_pos c4).symm.trans h
    refine ev_iload (a := 0) (b := 20) rfl rfl ?_
    refine ev_istore (a := 0) (b := 21) [(0, ic_R 16 0 0), (1, ic_I x1), (2, ic_I x2), (3, ic_I x3), (4, ic_I v3)] rfl (by decide) (And.intro (Or.inr (And.intro rfl rfl)) (And.intro (Or.inr (And.intro rfl rfl)) (And.intro (Or.inr (And.intro rfl rfl)) (And.intro (Or.inr (And.intro rfl rfl)) (And.intro (Or.inl rfl) trivial))))) ?_
    refine ev_iload (a := 0) (b := 22) rfl rfl ?_
    refine ev_iflt (a := 0) (b := 23) 50 rfl rfl (fun c5 => ?_) (fun c5 => ?_)
    · have h := (if_pos c5).symm.trans h
      refine ev_aload_n (a := 0) (b := 28) rfl rfl ?_
      refine ev_get (a := 0) (b := 29) 7 15 rfl rfl (Nat.le_of_ble_eq_true rfl) lfX7_35 (gX7_number) ?_
      refine ev_bipush (a := 0) (b := 30) 40 rfl (by decide) ?_
      refine ev_iload_n (a := 0) (b := 31) rfl rfl ?_
      refine ev_imul (a := 1) (b := 0) rfl ?_
      refine ev_iload_n (a := 1) (b := 1) rfl rfl ?_
      refine ev_iadd (a := 1) (b := 2) rfl ?_
      refine ev_aload_n (a := 1) (b := 3) rfl rfl ?_
      refine ev_get (a := 1) (b := 4) 7 13 rfl rfl (Nat.le_of_ble_eq_true rfl) lfX7_29 (gX7_bitsOf) ?_
      refine ev_iload_n (a := 1) (b := 5) rfl rfl ?_
      obtain ⟨h6, h⟩ := ic_gdE h
      refine ev_iald (a := 1) (b := 6) rfl (a20) h6 ?_
      refine ev_bipush (a := 1) (b := 7) 8 rfl (by decide) ?_
      refine ev_icne (a := 1) (b := 8) 76 rfl rfl (fun c7 => ?_) (fun c7 => ?_)
      · have h := (if_neg c7).symm.trans h
        refine ev_aload_n (a := 1) (b := 12) rfl rfl ?_
        refine ev_get (a := 1) (b := 13) 7 13 rfl rfl (Nat.le_of_ble_eq_true rfl) lfX7_29 (gX7_bitsOf) ?_
        refine ev_iload_n (a := 1) (b := 14) rfl rfl ?_
        obtain ⟨h8, h⟩ := ic_gdE h
        refine ev_iald (a := 1) (b := 15) rfl (a20) h8 ?_
        refine ev_bipush (a := 1) (b := 16) 16 rfl (by decide) ?_
        refine ev_icne (a := 1) (b := 17) 92 rfl rfl (fun c9 => ?_) (fun c9 => ?_)
        · have h := (if_neg c9).symm.trans h
          refine ev_iload_n (a := 1) (b := 21) rfl rfl ?_
          obtain ⟨h10, h⟩ := ic_gdE h
          obtain ⟨g11, eg11, h⟩ := ic_letE h
          refine ev_iast (a := 1) (b := 22) rfl h10 (w22 eg11) ?_
          refine ev_iconst (a := 1) (b := 23) 1 rfl (by decide) ?_
          obtain ⟨rfl, rfl⟩ := ic_s2 h
          exact ev_ireturn (a := 1) (b := 24) rfl rfl rfl
        · have h := (if_pos c9).symm.trans h
          refine ev_iload_n (a := 1) (b := 18) rfl rfl ?_
          refine ev_i2s (a := 1) (b := 19) rfl ?_
          refine ev_goto (a := 1) (b := 20) 93 rfl rfl ?_
          obtain ⟨h12, h⟩ := ic_gdE h
          obtain ⟨g13, eg13, h⟩ := ic_letE h
          refine ev_iast (a := 1) (b := 22) rfl h12 (w22 eg13) ?_
          refine ev_iconst (a := 1) (b := 23) 1 rfl (by decide) ?_
          obtain ⟨rfl, rfl⟩ := ic_s2 h
          exact ev_ireturn (a := 1) (b := 24) rfl rfl rfl
      · have h := (if_pos c7).symm.trans h
        refine ev_iload_n (a := 1) (b := 9) rfl rfl ?_
        refine ev_i2b (a := 1) (b := 10) rfl ?_
        refine ev_goto (a := 1) (b := 11) 93 rfl rfl ?_
        obtain ⟨h14, h⟩ := ic_gdE h
        obtain ⟨g15, eg15, h⟩ := ic_letE h
        refine ev_iast (a := 1) (b := 22) rfl h14 (w22 eg15) ?_
        refine ev_iconst (a := 1) (b := 23) 1 rfl (by decide) ?_
        obtain ⟨rfl, rfl⟩ := ic_s2 h
        exact ev_ireturn (a := 1) (b := 24) rfl rfl rfl
    · have h := (if_neg c5).symm.trans h
      refine ev_aload_n (a := 0) (b := 24) rfl rfl ?_
      refine ev_iload (a := 0) (b := 25) rfl rfl ?_
      obtain ⟨v18, g16, e17, h⟩ := ic_b2E h
      refine ev_ivI (a := 0) (b := 26) [ic_I v3] rfl okX7_finds rfl lmX7_117 rfl (rc16) (Nat.le_of_ble_eq_true rfl) (eX7_finds e17) (Nat.le_of_ble_eq_true rfl) rfl ?_
      obtain ⟨rfl, rfl⟩ := ic_s2 h
      exact ev_ireturn (a := 0) (b := 27) rfl rfl rfl
  · have h := (if_neg c4).symm.trans h
    refine ev_iload_n (a := 0) (b := 6) rfl rfl ?_
    refine ev_i2l (a := 0) (b := 7) rfl ?_
    refine ev_lconst (a := 0) (b := 8) 0 rfl (by decide) ?_
    refine ev_aload_n (a := 0) (b := 9) rfl rfl ?_
    refine ev_get (a := 0) (b := 10) 7 14 rfl rfl (Nat.le_of_ble_eq_true rfl) lfX7_32 (gX7_sizeOf) ?_
    refine ev_iload_n (a := 0) (b := 11) rfl rfl ?_
    obtain ⟨h19, h⟩ := ic_gdE h
    refine ev_iald (a := 0) (b := 12) rfl (a21) h19 ?_
    refine ev_iconst (a := 0) (b := 13) 1 rfl (by decide) ?_
    refine ev_isub (a := 0) (b := 14) rfl ?_
    refine ev_i2l (a := 0) (b := 15) rfl ?_
    obtain ⟨v22, g20, e21, h⟩ := ic_b2E h
    refine ev_isI (a := 0) (b := 16) [ic_J (Int32.toInt64 x2), ic_J 0, ic_J (Int32.toInt64 ((g1.1 28 (0 + (Int32.toNatClampNeg x1))) - 1))] rfl okX7_in rfl lmX7_42 rfl (Nat.le_of_ble_eq_true rfl) (eX7_in e21) (Nat.le_of_ble_eq_true rfl) rfl ?_
    refine ev_ifne (a := 0) (b := 17) 34 rfl rfl (fun c23 => ?_) (fun c23 => ?_)
    · have h := (if_neg c23).symm.trans h
      refine ev_iload (a := 0) (b := 20) rfl rfl ?_
      refine ev_istore (a := 0) (b := 21) [(0, ic_R 16 0 0), (1, ic_I x1), (2, ic_I x2), (3, ic_I x3), (4, ic_I v3)] rfl (by decide) (And.intro (Or.inr (And.intro rfl rfl)) (And.intro (Or.inr (And.intro rfl rfl)) (And.intro (Or.inr (And.intro rfl rfl)) (And.intro (Or.inr (And.intro rfl rfl)) (And.intro (Or.inl rfl) trivial))))) ?_
      refine ev_iload (a := 0) (b := 22) rfl rfl ?_
      refine ev_iflt (a := 0) (b := 23) 50 rfl rfl (fun c24 => ?_) (fun c24 => ?_)
      · have h := (if_pos c24).symm.trans h
        refine ev_aload_n (a := 0) (b := 28) rfl rfl ?_
        refine ev_get (a := 0) (b := 29) 7 15 rfl rfl (Nat.le_of_ble_eq_true rfl) lfX7_35 (gX7_number) ?_
        refine ev_bipush (a := 0) (b := 30) 40 rfl (by decide) ?_
        refine ev_iload_n (a := 0) (b := 31) rfl rfl ?_
        refine ev_imul (a := 1) (b := 0) rfl ?_
        refine ev_iload_n (a := 1) (b := 1) rfl rfl ?_
        refine ev_iadd (a := 1) (b := 2) rfl ?_
        refine ev_aload_n (a := 1) (b := 3) rfl rfl ?_
        refine ev_get (a := 1) (b := 4) 7 13 rfl rfl (Nat.le_of_ble_eq_true rfl) lfX7_29 (gX7_bitsOf) ?_
        refine ev_iload_n (a := 1) (b := 5) rfl rfl ?_
        obtain ⟨h25, h⟩ := ic_gdE h
        refine ev_iald (a := 1) (b := 6) rfl (a20) h25 ?_
        refine ev_bipush (a := 1) (b := 7) 8 rfl (by decide) ?_
        refine ev_icne (a := 1) (b := 8) 76 rfl rfl (fun c26 => ?_) (fun c26 => ?_)
        · have h := (if_neg c26).symm.trans h
          refine ev_aload_n (a := 1) (b := 12) rfl rfl ?_
          refine ev_get (a := 1) (b := 13) 7 13 rfl rfl (Nat.le_of_ble_eq_true rfl) lfX7_29 (gX7_bitsOf) ?_
          refine ev_iload_n (a := 1) (b := 14) rfl rfl ?_
          obtain ⟨h27, h⟩ := ic_gdE h
          refine ev_iald (a := 1) (b := 15) rfl (a20) h27 ?_
          refine ev_bipush (a := 1) (b := 16) 16 rfl (by decide) ?_
          refine ev_icne (a := 1) (b := 17) 92 rfl rfl (fun c28 => ?_) (fun c28 => ?_)
          · have h := (if_neg c28).symm.trans h
            refine ev_iload_n (a := 1) (b := 21) rfl rfl ?_
            obtain ⟨h29, h⟩ := ic_gdE h
            obtain ⟨g30, eg30, h⟩ := ic_letE h
            refine ev_iast (a := 1) (b := 22) rfl h29 (w22 eg30) ?_
            refine ev_iconst (a := 1) (b := 23) 1 rfl (by decide) ?_
            obtain ⟨rfl, rfl⟩ := ic_s2 h
            exact ev_ireturn (a := 1) (b := 24) rfl rfl rfl
          · have h := (if_pos c28).symm.trans h
            refine ev_iload_n (a := 1) (b := 18) rfl rfl ?_
            refine ev_i2s (a := 1) (b := 19) rfl ?_
            refine ev_goto (a := 1) (b := 20) 93 rfl rfl ?_
            obtain ⟨h31, h⟩ := ic_gdE h
            obtain ⟨g32, eg32, h⟩ := ic_letE h
            refine ev_iast (a := 1) (b := 22) rfl h31 (w22 eg32) ?_
            refine ev_iconst (a := 1) (b := 23) 1 rfl (by decide) ?_
            obtain ⟨rfl, rfl⟩ := ic_s2 h
            exact ev_ireturn (a := 1) (b := 24) rfl rfl rfl
        · have h := (if_pos c26).symm.trans h
          refine ev_iload_n (a := 1) (b := 9) rfl rfl ?_
          refine ev_i2b (a := 1) (b := 10) rfl ?_
          refine ev_goto (a := 1) (b := 11) 93 rfl rfl ?_
          obtain ⟨h33, h⟩ := ic_gdE h
          obtain ⟨g34, eg34, h⟩ := ic_letE h
          refine ev_iast (a := 1) (b := 22) rfl h33 (w22 eg34) ?_
          refine ev_iconst (a := 1) (b := 23) 1 rfl (by decide) ?_
          obtain ⟨rfl, rfl⟩ := ic_s2 h
          exact ev_ireturn (a := 1) (b := 24) rfl rfl rfl
      · have h := (if_neg c24).symm.trans h
        refine ev_aload_n (a := 0) (b := 24) rfl rfl ?_
        refine ev_iload (a := 0) (b := 25) rfl rfl ?_
        obtain ⟨v37, g35, e36, h⟩ := ic_b2E h
        refine ev_ivI (a := 0) (b := 26) [ic_I v3] rfl okX7_finds rfl lmX7_117 rfl (rc16) (Nat.le_of_ble_eq_true rfl) (eX7_finds e36) (Nat.le_of_ble_eq_true rfl) rfl ?_
        obtain ⟨rfl, rfl⟩ := ic_s2 h
        exact ev_ireturn (a := 0) (b := 27) rfl rfl rfl
    · have h := (if_pos c23).symm.trans h
      refine ev_iconst (a := 0) (b := 18) 0 rfl (by decide) ?_
      refine ev_goto (a := 0) (b := 19) 36 rfl rfl ?_
      refine ev_istore (a := 0) (b := 21) [(0, ic_R 16 0 0), (1, ic_I x1), (2, ic_I x2), (3, ic_I x3), (4, ic_I 0)] rfl (by decide) (And.intro (Or.inr (And.intro rfl rfl)) (And.intro (Or.inr (And.intro rfl rfl)) (And.intro (Or.inr (And.intro rfl rfl)) (And.intro (Or.inr (And.intro rfl rfl)) (And.intro (Or.inl rfl) trivial))))) ?_
      refine ev_iload (a := 0) (b := 22) rfl rfl ?_
      refine ev_iflt (a := 0) (b := 23) 50 rfl rfl (fun c => absurd c (by decide)) (fun _ => ?_)
      refine ev_aload_n (a := 0) (b := 24) rfl rfl ?_
      refine ev_iload (a := 0) (b := 25) rfl rfl ?_
      obtain ⟨v40, g38, e39, h⟩ := ic_b2E h
      refine ev_ivI (a := 0) (b := 26) [ic_I 0] rfl okX7_finds rfl lmX7_117 rfl (rc16) (Nat.le_of_ble_eq_true rfl) (eX7_finds e39) (Nat.le_of_ble_eq_true rfl) rfl ?_
      obtain ⟨rfl, rfl⟩ := ic_s2 h
      exact ev_ireturn (a := 0) (b := 27) rfl rfl rfl
set_option maxRecDepth 20000 in
theorem tX7_copy_123 {x1 : Int32} {x2 : Int32} {x3 : Int32} {x4 : Int32} {x5 : Int32} : ∀ (n : Nat) (x6 : Int32) (g : ic_S) (q : Unit × ic_S), lX7_copy_123 x1 x2 x3 x4 x5 n x6 g = some q → ∀ (r : Option ic_V) (g' : ic_S), ic_Ev mX7_copy 157 [(0, ic_R 16 0 0), (3, ic_I x3), (4, ic_I x4), (5, ic_I x5)] [] q.2 r g' → ic_Ev mX7_copy 123 [(0, ic_R 16 0 0), (1, ic_I x1), (2, ic_I x2), (3, ic_I x3), (4, ic_I x4), (5, ic_I x5), (6, ic_I x6)] [] g r g' := by
  intro n
  induction n with
  | zero => intro x6 g q h; cases h
  | succ n ih =>
    intro x6 g q h r g' hq
    rw [lX7_copy_123] at h
    refine ev_iload (a := 2) (b := 9) rfl rfl ?_
    refine ev_iload (a := 2) (b := 10) rfl rfl ?_
    refine ev_icge (a := 2) (b := 11) 157 rfl rfl (fun c1001 => ?_) (fun c1001 => ?_)
    · have h := (if_pos c1001).symm.trans h
      obtain rfl := ic_s1 h
      exact ev_fw (lv' := [(0, ic_R 16 0 0), (3, ic_I x3), (4, ic_I x4), (5, ic_I x5)]) hq (And.intro rfl (And.intro rfl (And.intro rfl (And.intro rfl trivial))))
    · have h := (if_neg c1001).symm.trans h
      refine ev_aload_n (a := 2) (b := 12) rfl rfl ?_
      refine ev_get (a := 2) (b := 13) 7 16 rfl rfl (Nat.le_of_ble_eq_true rfl) lfX7_38 (gX7_passing) ?_
      refine ev_iload (a := 2) (b := 14) rfl rfl ?_
      refine ev_aload_n (a := 2) (b := 15) rfl rfl ?_
      refine ev_get (a := 2) (b := 16) 7 15 rfl rfl (Nat.le_of_ble_eq_true rfl) lfX7_35 (gX7_number) ?_
      refine ev_bipush (a := 2) (b := 17) 40 rfl (by decide) ?_
      refine ev_iload_n (a := 2) (b := 18) rfl rfl ?_
      refine ev_imul (a := 2) (b := 19) rfl ?_
      refine ev_iload_n (a := 2) (b := 20) rfl rfl ?_
      refine ev_iadd (a := 2) (b := 21) rfl ?_
      refine ev_iload (a := 2) (b := 22) rfl rfl ?_
      refine ev_iadd (a := 2) (b := 23) rfl ?_
      obtain ⟨h1002, h⟩ := ic_gdE h
      refine ev_iald (a := 2) (b := 24) rfl (a22) h1002 ?_
      obtain ⟨h1003, h⟩ := ic_gdE h
      obtain ⟨g1004, eg1004, h⟩ := ic_letE h
      refine ev_iast (a := 2) (b := 25) rfl h1003 (w23 eg1004) ?_
      refine ev_iinc (a := 2) (b := 26) (x6 + 1) [(0, ic_R 16 0 0), (1, ic_I x1), (2, ic_I x2), (3, ic_I x3), (4, ic_I x4), (5, ic_I x5), (6, ic_I (x6 + 1))] rfl rfl (by first | rfl | decide) (by decide) (And.intro (Or.inr (And.intro rfl rfl)) (And.intro (Or.inr (And.intro rfl rfl)) (And.intro (Or.inr (And.intro rfl rfl)) (And.intro (Or.inr (And.intro rfl rfl)) (And.intro (Or.inr (And.intro rfl rfl)) (And.intro (Or.inr (And.intro rfl rfl)) (And.intro (Or.inl rfl) trivial))))))) ?_
      refine ev_goto (a := 2) (b := 27) 123 rfl rfl ?_
      refine ev_fw (lv' := [(0, ic_R 16 0 0), (1, ic_I x1), (2, ic_I x2), (3, ic_I x3), (4, ic_I x4), (5, ic_I x5), (6, ic_I (x6 + 1))]) ?_ (And.intro rfl (And.intro rfl (And.intro rfl (And.intro rfl (And.intro rfl (And.intro rfl (And.intro rfl trivial)))))))
      exact ih (x6 + 1) g1004 _ h _ _ hq
set_option maxRecDepth 20000 in
theorem tX7_copy_160 {x3 : Int32} {x4 : Int32} {x5 : Int32} : ∀ (n : Nat) (x6 : Int32) (g : ic_S) (q : Unit × ic_S), lX7_copy_160 x3 x4 x5 n x6 g = some q → ∀ (r : Option ic_V) (g' : ic_S), ic_Ev mX7_copy 195 [(5, ic_I x5)] [] q.2 r g' → ic_Ev mX7_copy 160 [(0, ic_R 16 0 0), (3, ic_I x3), (4, ic_I x4), (5, ic_I x5), (6, ic_I x6)] [] g r g' := by
  intro n
  induction n with
  | zero => intro x6 g q h; cases h
  | succ n ih =>
    intro x6 g q h r g' hq
    rw [lX7_copy_160] at h
    refine ev_iload (a := 2) (b := 30) rfl rfl ?_
    refine ev_iload (a := 2) (b := 31) rfl rfl ?_
    refine ev_icge (a := 3) (b := 0) 195 rfl rfl (fun c1001 => ?_) (fun c1001 => ?_)
    · have h := (if_pos c1001).symm.trans h
      obtain rfl := ic_s1 h
      exact ev_fw (lv' := [(5, ic_I x5)]) hq (And.intro rfl trivial)
    · have h := (if_neg c1001).symm.trans h
      refine ev_aload_n (a := 3) (b := 1) rfl rfl ?_
      refine ev_get (a := 3) (b := 2) 7 15 rfl rfl (Nat.le_of_ble_eq_true rfl) lfX7_35 (gX7_number) ?_
      refine ev_bipush (a := 3) (b := 3) 40 rfl (by decide) ?_
      refine ev_iload_n (a := 3) (b := 4) rfl rfl ?_
      refine ev_imul (a := 3) (b := 5) rfl ?_
      refine ev_iload (a := 3) (b := 6) rfl rfl ?_
      refine ev_iadd (a := 3) (b := 7) rfl ?_
      refine ev_iload (a := 3) (b := 8) rfl rfl ?_
      refine ev_iadd (a := 3) (b := 9) rfl ?_
      refine ev_aload_n (a := 3) (b := 10) rfl rfl ?_
      refine ev_get (a := 3) (b := 11) 7 16 rfl rfl (Nat.le_of_ble_eq_true rfl) lfX7_38 (gX7_passing) ?_
      refine ev_iload (a := 3) (b := 12) rfl rfl ?_
      obtain ⟨h1002, h⟩ := ic_gdE h
      refine ev_iald (a := 3) (b := 13) rfl (a23) h1002 ?_
      obtain ⟨h1003, h⟩ := ic_gdE h
      obtain ⟨g1004, eg1004, h⟩ := ic_letE h
      refine ev_iast (a := 3) (b := 14) rfl h1003 (w22 eg1004) ?_
      refine ev_iinc (a := 3) (b := 15) (x6 + 1) [(0, ic_R 16 0 0), (3, ic_I x3), (4, ic_I x4), (5, ic_I x5), (6, ic_I (x6 + 1))] rfl rfl (by first | rfl | decide) (by decide) (And.intro (Or.inr (And.intro rfl rfl)) (And.intro (Or.inr (And.intro rfl rfl)) (And.intro (Or.inr (And.intro rfl rfl)) (And.intro (Or.inr (And.intro rfl rfl)) (And.intro (Or.inl rfl) trivial))))) ?_
      refine ev_goto (a := 3) (b := 16) 160 rfl rfl ?_
      refine ev_fw (lv' := [(0, ic_R 16 0 0), (3, ic_I x3), (4, ic_I x4), (5, ic_I x5), (6, ic_I (x6 + 1))]) ?_ (And.intro rfl (And.intro rfl (And.intro rfl (And.intro rfl (And.intro rfl trivial)))))
      exact ih (x6 + 1) g1004 _ h _ _ hq
set_option maxRecDepth 20000 in
theorem eX7_copy {x1 : Int32} {x2 : Int32} {x3 : Int32} {x4 : Int32} {x5 : Int32} {g g' : ic_S} {v : Int32} (h : fX7_copy x1 x2 x3 x4 x5 g = some (v, g')) : ic_Ev mX7_copy 0 (ic_ag 0 [ic_R 16 0 0, ic_I x1, ic_I x2, ic_I x3, ic_I x4, ic_I x5]) [] g (some (ic_I v)) g' := by
  unfold fX7_copy at h
  change ic_Ev mX7_copy 0 [(0, ic_R 16 0 0), (1, ic_I x1), (2, ic_I x2), (3, ic_I x3), (4, ic_I x4), (5, ic_I x5)] [] g _ _
  refine ev_iload_n (a := 0) (b := 0) rfl rfl ?_
  obtain ⟨v3, g1, e2, h⟩ := ic_b2E h
  refine ev_isI (a := 0) (b := 1) [ic_I x1] rfl okX7_isSheet rfl lmX7_301 rfl (Nat.le_of_ble_eq_true rfl) (eX7_isSheet e2) (Nat.le_of_ble_eq_true rfl) rfl ?_
  refine ev_ifeq (a := 0) (b := 2) 14 rfl rfl (fun c4 => ?_) (fun c4 => ?_)
  · have h := (if_pos c4).symm.trans h
    refine ev_aload_n (a := 0) (b := 6) rfl rfl ?_
    refine ev_iconst (a := 0) (b := 7) 0 rfl (by decide) ?_
    obtain ⟨v7, g5, e6, h⟩ := ic_b2E h
    refine ev_ivI (a := 0) (b := 8) [ic_I 0] rfl okX7_finds rfl lmX7_117 rfl (rc16) (Nat.le_of_ble_eq_true rfl) (eX7_finds e6) (Nat.le_of_ble_eq_true rfl) rfl ?_
    obtain ⟨rfl, rfl⟩ := ic_s2 h
    exact ev_ireturn (a := 0) (b := 9) rfl rfl rfl
  · have h := (if_neg c4).symm.trans h
    refine ev_iload_n (a := 0) (b := 3) rfl rfl ?_
    obtain ⟨v10, g8, e9, h⟩ := ic_b2E h
    refine ev_isI (a := 0) (b := 4) [ic_I x3] rfl okX7_isSheet rfl lmX7_301 rfl (Nat.le_of_ble_eq_true rfl) (eX7_isSheet e9) (Nat.le_of_ble_eq_true rfl) rfl ?_
    refine ev_ifne (a := 0) (b := 5) 20 rfl rfl (fun c11 => ?_) (fun c11 => ?_)
    · have h := (if_neg c11).symm.trans h
      refine ev_aload_n (a := 0) (b := 10) rfl rfl ?_
      refine ev_get (a := 0) (b := 11) 7 13 rfl rfl (Nat.le_of_ble_eq_true rfl) lfX7_29 (gX7_bitsOf) ?_
      refine ev_iload_n (a := 0) (b := 12) rfl rfl ?_
      obtain ⟨h12, h⟩ := ic_gdE h
      refine ev_iald (a := 0) (b := 13) rfl (a20) h12 ?_
      refine ev_ifeq (a := 0) (b := 14) 38 rfl rfl (fun c13 => ?_) (fun c13 => ?_)
      · have h := (if_pos c13).symm.trans h
        refine ev_aload_n (a := 0) (b := 20) rfl rfl ?_
        refine ev_iconst (a := 0) (b := 21) 5 rfl (by decide) ?_
        obtain ⟨v16, g14, e15, h⟩ := ic_b2E h
        refine ev_ivI (a := 0) (b := 22) [ic_I 5] rfl okX7_finds rfl lmX7_117 rfl (rc16) (Nat.le_of_ble_eq_true rfl) (eX7_finds e15) (Nat.le_of_ble_eq_true rfl) rfl ?_
        obtain ⟨rfl, rfl⟩ := ic_s2 h
        exact ev_ireturn (a := 0) (b := 23) rfl rfl rfl
      · have h := (if_neg c13).symm.trans h
        refine ev_aload_n (a := 0) (b := 15) rfl rfl ?_
        refine ev_get (a := 0) (b := 16) 7 13 rfl rfl (Nat.le_of_ble_eq_true rfl) lfX7_29 (gX7_bitsOf) ?_
        refine ev_iload_n (a := 0) (b := 17) rfl rfl ?_
        obtain ⟨h17, h⟩ := ic_gdE h
        refine ev_iald (a := 0) (b := 18) rfl (a20) h17 ?_
        refine ev_ifne (a := 0) (b := 19) 44 rfl rfl (fun c18 => ?_) (fun c18 => ?_)
        · have h := (if_neg c18).symm.trans h
          refine ev_aload_n (a := 0) (b := 24) rfl rfl ?_
          refine ev_get (a := 0) (b := 25) 7 13 rfl rfl (Nat.le_of_ble_eq_true rfl) lfX7_29 (gX7_bitsOf) ?_
          refine ev_iload_n (a := 0) (b := 26) rfl rfl ?_
          obtain ⟨h19, h⟩ := ic_gdE h
          refine ev_iald (a := 0) (b := 27) rfl (a20) h19 ?_
          refine ev_aload_n (a := 0) (b := 28) rfl rfl ?_
          refine ev_get (a := 0) (b := 29) 7 13 rfl rfl (Nat.le_of_ble_eq_true rfl) lfX7_29 (gX7_bitsOf) ?_
          refine ev_iload_n (a := 0) (b := 30) rfl rfl ?_
          obtain ⟨h20, h⟩ := ic_gdE h
          refine ev_iald (a := 0) (b := 31) rfl (a20) h20 ?_
          refine ev_iceq (a := 1) (b := 0) 65 rfl rfl (fun c21 => ?_) (fun c21 => ?_)
          · have h := (if_pos c21).symm.trans h
            refine ev_iload_n (a := 1) (b := 5) rfl rfl ?_
            refine ev_iflt (a := 1) (b := 6) 114 rfl rfl (fun c22 => ?_) (fun c22 => ?_)
            · have h := (if_pos c22).symm.trans h
              refine ev_aload_n (a := 2) (b := 3) rfl rfl ?_
              refine ev_iconst (a := 2) (b := 4) 0 rfl (by decide) ?_
              obtain ⟨v25, g23, e24, h⟩ := ic_b2E h
              refine ev_ivI (a := 2) (b := 5) [ic_I 0] rfl okX7_finds rfl lmX7_117 rfl (rc16) (Nat.le_of_ble_eq_true rfl) (eX7_finds e24) (Nat.le_of_ble_eq_true rfl) rfl ?_
              obtain ⟨rfl, rfl⟩ := ic_s2 h
              exact ev_ireturn (a := 2) (b := 6) rfl rfl rfl
            · have h := (if_neg c22).symm.trans h
              refine ev_iload (a := 1) (b := 7) rfl rfl ?_
              refine ev_iflt (a := 1) (b := 8) 114 rfl rfl (fun c26 => ?_) (fun c26 => ?_)
              · have h := (if_pos c26).symm.trans h
                refine ev_aload_n (a := 2) (b := 3) rfl rfl ?_
                refine ev_iconst (a := 2) (b := 4) 0 rfl (by decide) ?_
                obtain ⟨v29, g27, e28, h⟩ := ic_b2E h
                refine ev_ivI (a := 2) (b := 5) [ic_I 0] rfl okX7_finds rfl lmX7_117 rfl (rc16) (Nat.le_of_ble_eq_true rfl) (eX7_finds e28) (Nat.le_of_ble_eq_true rfl) rfl ?_
                obtain ⟨rfl, rfl⟩ := ic_s2 h
                exact ev_ireturn (a := 2) (b := 6) rfl rfl rfl
              · have h := (if_neg c26).symm.trans h
                refine ev_iload (a := 1) (b := 9) rfl rfl ?_
                refine ev_iflt (a := 1) (b := 10) 114 rfl rfl (fun c30 => ?_) (fun c30 => ?_)
                · have h := (if_pos c30).symm.trans h
                  refine ev_aload_n (a := 2) (b := 3) rfl rfl ?_
                  refine ev_iconst (a := 2) (b := 4) 0 rfl (by decide) ?_
                  obtain ⟨v33, g31, e32, h⟩ := ic_b2E h
                  refine ev_ivI (a := 2) (b := 5) [ic_I 0] rfl okX7_finds rfl lmX7_117 rfl (rc16) (Nat.le_of_ble_eq_true rfl) (eX7_finds e32) (Nat.le_of_ble_eq_true rfl) rfl ?_
                  obtain ⟨rfl, rfl⟩ := ic_s2 h
                  exact ev_ireturn (a := 2) (b := 6) rfl rfl rfl
                · have h := (if_neg c30).symm.trans h
                  refine ev_iload_n (a := 1) (b := 11) rfl rfl ?_
                  refine ev_i2l (a := 1) (b := 12) rfl ?_
                  refine ev_iload (a := 1) (b := 13) rfl rfl ?_
                  refine ev_i2l (a := 1) (b := 14) rfl ?_
                  refine ev_ladd (a := 1) (b := 15) rfl ?_
                  refine ev_aload_n (a := 1) (b := 16) rfl rfl ?_
                  refine ev_get (a := 1) (b := 17) 7 14 rfl rfl (Nat.le_of_ble_eq_true rfl) lfX7_32 (gX7_sizeOf) ?_
                  refine ev_iload_n (a := 1) (b := 18) rfl rfl ?_
                  obtain ⟨h34, h⟩ := ic_gdE h
                  refine ev_iald (a := 1) (b := 19) rfl (a21) h34 ?_
                  refine ev_i2l (a := 1) (b := 20) rfl ?_
                  refine ev_lcmp (a := 1) (b := 21) rfl ?_
                  refine ev_ifgt (a := 1) (b := 22) 114 rfl rfl (fun c35 => ?_) (fun c35 => ?_)
                  · have h := (if_pos c35).symm.trans h
                    refine ev_aload_n (a := 2) (b := 3) rfl rfl ?_
                    refine ev_iconst (a := 2) (b := 4) 0 rfl (by decide) ?_
                    obtain ⟨v38, g36, e37, h⟩ := ic_b2E h
                    refine ev_ivI (a := 2) (b := 5) [ic_I 0] rfl okX7_finds rfl lmX7_117 rfl (rc16) (Nat.le_of_ble_eq_true rfl) (eX7_finds e37) (Nat.le_of_ble_eq_true rfl) rfl ?_
                    obtain ⟨rfl, rfl⟩ := ic_s2 h
                    exact ev_ireturn (a := 2) (b := 6) rfl rfl rfl
                  · have h := (if_neg c35).symm.trans h
                    refine ev_iload (a := 1) (b := 23) rfl rfl ?_
                    refine ev_i2l (a := 1) (b := 24) rfl ?_
                    refine ev_iload (a := 1) (b := 25) rfl rfl ?_
                    refine ev_i2l (a := 1) (b := 26) rfl ?_
                    refine ev_ladd (a := 1) (b := 27) rfl ?_
                    refine ev_aload_n (a := 1) (b := 28) rfl rfl ?_
                    refine ev_get (a := 1) (b := 29) 7 14 rfl rfl (Nat.le_of_ble_eq_true rfl) lfX7_32 (gX7_sizeOf) ?_
                    refine ev_iload_n (a := 1) (b := 30) rfl rfl ?_
                    obtain ⟨h39, h⟩ := ic_gdE h
                    refine ev_iald (a := 1) (b := 31) rfl (a21) h39 ?_
                    refine ev_i2l (a := 2) (b := 0) rfl ?_
                    refine ev_lcmp (a := 2) (b := 1) rfl ?_
                    refine ev_ifle (a := 2) (b := 2) 120 rfl rfl (fun c40 => ?_) (fun c40 => ?_)
                    · have h := (if_pos c40).symm.trans h
                      refine ev_iconst (a := 2) (b := 7) 0 rfl (by decide) ?_
                      refine ev_istore (a := 2) (b := 8) [(0, ic_R 16 0 0), (1, ic_I x1), (2, ic_I x2), (3, ic_I x3), (4, ic_I x4), (5, ic_I x5), (6, ic_I 0)] rfl (by decide) (And.intro (Or.inr (And.intro rfl rfl)) (And.intro (Or.inr (And.intro rfl rfl)) (And.intro (Or.inr (And.intro rfl rfl)) (And.intro (Or.inr (And.intro rfl rfl)) (And.intro (Or.inr (And.intro rfl rfl)) (And.intro (Or.inr (And.intro rfl rfl)) (And.intro (Or.inl rfl) trivial))))))) ?_
                      refine ev_fw (lv' := [(0, ic_R 16 0 0), (1, ic_I x1), (2, ic_I x2), (3, ic_I x3), (4, ic_I x4), (5, ic_I x5), (6, ic_I 0)]) ?_ (And.intro rfl (And.intro rfl (And.intro rfl (And.intro rfl (And.intro rfl (And.intro rfl (And.intro rfl trivial)))))))
                      obtain ⟨y41, g42, e43, h⟩ := ic_b2E h
                      refine tX7_copy_123 (x1 := x1) (x2 := x2) (x3 := x3) (x4 := x4) (x5 := x5)  1000 0 g8 _ e43 _ _ ?_
                      change ic_Ev mX7_copy 157 [(0, ic_R 16 0 0), (3, ic_I x3), (4, ic_I x4), (5, ic_I x5)] [] g42 _ _
                      refine ev_iconst (a := 2) (b := 28) 0 rfl (by decide) ?_
                      refine ev_istore (a := 2) (b := 29) [(0, ic_R 16 0 0), (3, ic_I x3), (4, ic_I x4), (5, ic_I x5), (6, ic_I 0)] rfl (by decide) (And.intro (Or.inr (And.intro rfl rfl)) (And.intro (Or.inr (And.intro rfl rfl)) (And.intro (Or.inr (And.intro rfl rfl)) (And.intro (Or.inr (And.intro rfl rfl)) (And.intro (Or.inl rfl) trivial))))) ?_
                      refine ev_fw (lv' := [(0, ic_R 16 0 0), (3, ic_I x3), (4, ic_I x4), (5, ic_I x5), (6, ic_I 0)]) ?_ (And.intro rfl (And.intro rfl (And.intro rfl (And.intro rfl (And.intro rfl trivial)))))
                      obtain ⟨y44, g45, e46, h⟩ := ic_b2E h
                      refine tX7_copy_160 (x3 := x3) (x4 := x4) (x5 := x5)  1000 0 g42 _ e46 _ _ ?_
                      change ic_Ev mX7_copy 195 [(5, ic_I x5)] [] g45 _ _
                      refine ev_iload (a := 3) (b := 17) rfl rfl ?_
                      obtain ⟨rfl, rfl⟩ := ic_s2 h
                      exact ev_ireturn (a := 3) (b := 18) rfl rfl rfl
                    · have h := (if_neg c40).symm.trans h
                      refine ev_aload_n (a := 2) (b := 3) rfl rfl ?_
                      refine ev_iconst (a := 2) (b := 4) 0 rfl (by decide) ?_
                      obtain ⟨v49, g47, e48, h⟩ := ic_b2E h
                      refine ev_ivI (a := 2) (b := 5) [ic_I 0] rfl okX7_finds rfl lmX7_117 rfl (rc16) (Nat.le_of_ble_eq_true rfl) (eX7_finds e48) (Nat.le_of_ble_eq_true rfl) rfl ?_
                      obtain ⟨rfl, rfl⟩ := ic_s2 h
                      exact ev_ireturn (a := 2) (b := 6) rfl rfl rfl
          · have h := (if_neg c21).symm.trans h
            refine ev_aload_n (a := 1) (b := 1) rfl rfl ?_
            refine ev_iconst (a := 1) (b := 2) 2 rfl (by decide) ?_
            obtain ⟨v52, g50, e51, h⟩ := ic_b2E h
            refine ev_ivI (a := 1) (b := 3) [ic_I 2] rfl okX7_finds rfl lmX7_117 rfl (rc16) (Nat.le_of_ble_eq_true rfl) (eX7_finds e51) (Nat.le_of_ble_eq_true rfl) rfl ?_
            obtain ⟨rfl, rfl⟩ := ic_s2 h
            exact ev_ireturn (a := 1) (b := 4) rfl rfl rfl
        · have h := (if_pos c18).symm.trans h
          refine ev_aload_n (a := 0) (b := 20) rfl rfl ?_
          refine ev_iconst (a := 0) (b := 21) 5 rfl (by decide) ?_
          obtain ⟨v55, g53, e54, h⟩ := ic_b2E h
          refine ev_ivI (a := 0) (b := 22) [ic_I 5] rfl okX7_finds rfl lmX7_117 rfl (rc16) (Nat.le_of_ble_eq_true rfl) (eX7_finds e54) (Nat.le_of_ble_eq_true rfl) rfl ?_
          obtain ⟨rfl, rfl⟩ := ic_s2 h
          exact ev_ireturn (a := 0) (b := 23) rfl rfl rfl
    · have h := (if_pos c11).symm.trans h
      refine ev_aload_n (a := 0) (b := 6) rfl rfl ?_
      refine ev_iconst (a := 0) (b := 7) 0 rfl (by decide) ?_
      obtain ⟨v58, g56, e57, h⟩ := ic_b2E h
      refine ev_ivI (a := 0) (b := 8) [ic_I 0] rfl okX7_finds rfl lmX7_117 rfl (rc16) (Nat.le_of_ble_eq_true rfl) (eX7_finds e57) (Nat.le_of_ble_eq_true rfl) rfl ?_
      obtain ⟨rfl, rfl⟩ := ic_s2 h
      exact ev_ireturn (a := 0) (b := 9) rfl rfl rfl
set_option maxRecDepth 20000 in
theorem tX7_load_18 {x1 : Int32} : ∀ (n : Nat) (x3 : Int32) (g : ic_S) (q : (Int32) × ic_S), lX7_load_18 x1 n x3 g = some q → ∀ (r : Option ic_V) (g' : ic_S), ic_Ev mX7_load 83 [(3, ic_I q.1)] [] q.2 r g' → ic_Ev mX7_load 18 [(0, ic_R 16 0 0), (1, ic_I x1), (3, ic_I x3)] [] g r g' := by
  intro n
  induction n with
  | zero => intro x3 g q h; cases h
  | succ n ih =>
    intro x3 g q h r g' hq
    rw [lX7_load_18] at h
    refine ev_iload_n (a := 0) (b := 12) rfl rfl ?_
    refine ev_aload_n (a := 0) (b := 13) rfl rfl ?_
    refine ev_get (a := 0) (b := 14) 7 14 rfl rfl (Nat.le_of_ble_eq_true rfl) lfX7_32 (gX7_sizeOf) ?_
    refine ev_iload_n (a := 0) (b := 15) rfl rfl ?_
    obtain ⟨h1001, h⟩ := ic_gdE h
    refine ev_iald (a := 0) (b := 16) rfl (a21) h1001 ?_
    refine ev_icge (a := 0) (b := 17) 83 rfl rfl (fun c1002 => ?_) (fun c1002 => ?_)
    · have h := (if_pos c1002).symm.trans h
      obtain rfl := ic_s1 h
      exact ev_fw (lv' := [(3, ic_I x3)]) hq (And.intro rfl trivial)
    · have h := (if_neg c1002).symm.trans h
      refine ev_iload_n (a := 0) (b := 18) rfl rfl ?_
      refine ev_aload_n (a := 0) (b := 19) rfl rfl ?_
      refine ev_get (a := 0) (b := 20) 7 0 rfl rfl (Nat.le_of_ble_eq_true rfl) lfX7_7 (gX7_d) ?_
      refine ev_iconst (a := 0) (b := 21) 0 rfl (by decide) ?_
      refine ev_ialdk (a := 0) (b := 22) 0 (by decide) rfl (a17 (by decide)) (by decide) ?_
      refine ev_icge (a := 0) (b := 23) 83 rfl rfl (fun c1003 => ?_) (fun c1003 => ?_)
      · have h := (if_pos c1003).symm.trans h
        obtain rfl := ic_s1 h
        exact ev_fw (lv' := [(3, ic_I x3)]) hq (And.intro rfl trivial)
      · have h := (if_neg c1003).symm.trans h
        refine ev_aload_n (a := 0) (b := 24) rfl rfl ?_
        refine ev_get (a := 0) (b := 25) 7 15 rfl rfl (Nat.le_of_ble_eq_true rfl) lfX7_35 (gX7_number) ?_
        refine ev_bipush (a := 0) (b := 26) 40 rfl (by decide) ?_
        refine ev_iload_n (a := 0) (b := 27) rfl rfl ?_
        refine ev_imul (a := 0) (b := 28) rfl ?_
        refine ev_iload_n (a := 0) (b := 29) rfl rfl ?_
        refine ev_iadd (a := 0) (b := 30) rfl ?_
        obtain ⟨h1004, h⟩ := ic_gdE h
        refine ev_iald (a := 0) (b := 31) rfl (a22) h1004 ?_
        refine ev_i2l (a := 1) (b := 0) rfl ?_
        refine ev_lconst (a := 1) (b := 1) 1 rfl (by decide) ?_
        refine ev_ldc2 (a := 1) (b := 2) 99 rfl lcX7_130 ?_
        obtain ⟨v1007, g1005, e1006, h⟩ := ic_b2E h
        refine ev_isI (a := 1) (b := 3) [ic_J (Int32.toInt64 (g.1 29 (0 + (Int32.toNatClampNeg ((40 * x1) + x3))))), ic_J 1, ic_J 99] rfl okX7_in rfl lmX7_42 rfl (Nat.le_of_ble_eq_true rfl) (eX7_in e1006) (Nat.le_of_ble_eq_true rfl) rfl ?_
        refine ev_ifeq (a := 1) (b := 4) 83 rfl rfl (fun c1008 => ?_) (fun c1008 => ?_)
        · have h := (if_pos c1008).symm.trans h
          obtain rfl := ic_s1 h
          exact ev_fw (lv' := [(3, ic_I x3)]) hq (And.intro rfl trivial)
        · have h := (if_neg c1008).symm.trans h
          refine ev_aload_n (a := 1) (b := 5) rfl rfl ?_
          refine ev_iload_n (a := 1) (b := 6) rfl rfl ?_
          refine ev_iconst (a := 1) (b := 7) 2 rfl (by decide) ?_
          refine ev_aload_n (a := 1) (b := 8) rfl rfl ?_
          refine ev_get (a := 1) (b := 9) 7 15 rfl rfl (Nat.le_of_ble_eq_true rfl) lfX7_35 (gX7_number) ?_
          refine ev_bipush (a := 1) (b := 10) 40 rfl (by decide) ?_
          refine ev_iload_n (a := 1) (b := 11) rfl rfl ?_
          refine ev_imul (a := 1) (b := 12) rfl ?_
          refine ev_iload_n (a := 1) (b := 13) rfl rfl ?_
          refine ev_iadd (a := 1) (b := 14) rfl ?_
          obtain ⟨h1009, h⟩ := ic_gdE h
          refine ev_iald (a := 1) (b := 15) rfl (a22) h1009 ?_
          obtain ⟨g1010, e1011, h⟩ := ic_b1E h
          refine ev_ivV (a := 1) (b := 16) [ic_I x3, ic_I 2, ic_I (g1005.1 29 (0 + (Int32.toNatClampNeg ((40 * x1) + x3))))] rfl okX7_sets rfl lmX7_79 rfl (rc16) (Nat.le_of_ble_eq_true rfl) (eX7_sets e1011) (Nat.le_of_ble_eq_true rfl) rfl ?_
          refine ev_iinc (a := 1) (b := 17) (x3 + 1) [(0, ic_R 16 0 0), (1, ic_I x1), (3, ic_I (x3 + 1))] rfl rfl (by first | rfl | decide) (by decide) (And.intro (Or.inr (And.intro rfl rfl)) (And.intro (Or.inr (And.intro rfl rfl)) (And.intro (Or.inl rfl) trivial))) ?_
          refine ev_goto (a := 1) (b := 18) 18 rfl rfl ?_
          refine ev_fw (lv' := [(0, ic_R 16 0 0), (1, ic_I x1), (3, ic_I (x3 + 1))]) ?_ (And.intro rfl (And.intro rfl (And.intro rfl trivial)))
          exact ih (x3 + 1) g1010 _ h _ _ hq
set_option maxRecDepth 20000 in
theorem eX7_load {x1 : Int32} {g g' : ic_S} {v : Int32} (h : fX7_load x1 g = some (v, g')) : ic_Ev mX7_load 0 (ic_ag 0 [ic_R 16 0 0, ic_I x1]) [] g (some (ic_I v)) g' := by
  unfold fX7_load at h
  change ic_Ev mX7_load 0 [(0, ic_R 16 0 0), (1, ic_I x1)] [] g _ _
  refine ev_aload_n (a := 0) (b := 0) rfl rfl ?_
  refine ev_iload_n (a := 0) (b := 1) rfl rfl ?_
  obtain ⟨v3, g1, e2, h⟩ := ic_b2E h
  refine ev_ivI (a := 0) (b := 2) [ic_I x1] rfl okX7_whyNone rfl lmX7_179 rfl (rc16) (Nat.le_of_ble_eq_true rfl) (eX7_whyNone e2) (Nat.le_of_ble_eq_true rfl) rfl ?_
  refine ev_istore_n (a := 0) (b := 3) [(0, ic_R 16 0 0), (1, ic_I x1), (2, ic_I v3)] rfl (by decide) (And.intro (Or.inr (And.intro rfl rfl)) (And.intro (Or.inr (And.intro rfl rfl)) (And.intro (Or.inl rfl) trivial))) ?_
  refine ev_iload_n (a := 0) (b := 4) rfl rfl ?_
  refine ev_iflt (a := 0) (b := 5) 16 rfl rfl (fun c4 => ?_) (fun c4 => ?_)
  · have h := (if_pos c4).symm.trans h
    refine ev_iconst (a := 0) (b := 10) 0 rfl (by decide) ?_
    refine ev_istore_n (a := 0) (b := 11) [(0, ic_R 16 0 0), (1, ic_I x1), (3, ic_I 0)] rfl (by decide) (And.intro (Or.inr (And.intro rfl rfl)) (And.intro (Or.inr (And.intro rfl rfl)) (And.intro (Or.inl rfl) trivial))) ?_
    refine ev_fw (lv' := [(0, ic_R 16 0 0), (1, ic_I x1), (3, ic_I 0)]) ?_ (And.intro rfl (And.intro rfl (And.intro rfl trivial)))
    obtain ⟨y5, g6, e7, h⟩ := ic_b2E h
    refine tX7_load_18 (x1 := x1)  1000 0 g1 _ e7 _ _ ?_
    change ic_Ev mX7_load 83 [(3, ic_I y5)] [] g6 _ _
    refine ev_iload_n (a := 1) (b := 19) rfl rfl ?_
    obtain ⟨rfl, rfl⟩ := ic_s2 h
    exact ev_ireturn (a := 1) (b := 20) rfl rfl rfl
  · have h := (if_neg c4).symm.trans h
    refine ev_aload_n (a := 0) (b := 6) rfl rfl ?_
    refine ev_iload_n (a := 0) (b := 7) rfl rfl ?_
    obtain ⟨v10, g8, e9, h⟩ := ic_b2E h
    refine ev_ivI (a := 0) (b := 8) [ic_I v3] rfl okX7_finds rfl lmX7_117 rfl (rc16) (Nat.le_of_ble_eq_true rfl) (eX7_finds e9) (Nat.le_of_ble_eq_true rfl) rfl ?_
    obtain ⟨rfl, rfl⟩ := ic_s2 h
    exact ev_ireturn (a := 0) (b := 9) rfl rfl rfl
set_option maxRecDepth 20000 in
theorem tX7_judge_18 {x1 : Int32} : ∀ (n : Nat) (x3 : Int32) (g : ic_S) (q : (Int32 × ic_S) ⊕ (Unit × ic_S)), lX7_judge_18 x1 n x3 g = some q → ∀ (r : Option ic_V) (g' : ic_S), ic_lq q r g' (fun y z => ic_Ev mX7_judge 66 [] [] z r g') → ic_Ev mX7_judge 18 [(0, ic_R 16 0 0), (1, ic_I x1), (3, ic_I x3)] [] g r g' := by
  intro n
  induction n with
  | zero => intro x3 g q h; cases h
  | succ n ih =>
    intro x3 g q h r g' hq
    rw [lX7_judge_18] at h
    refine ev_iload_n (a := 0) (b := 12) rfl rfl ?_
    refine ev_aload_n (a := 0) (b := 13) rfl rfl ?_
    refine ev_get (a := 0) (b := 14) 7 14 rfl rfl (Nat.le_of_ble_eq_true rfl) lfX7_32 (gX7_sizeOf) ?_
    refine ev_iload_n (a := 0) (b := 15) rfl rfl ?_
    obtain ⟨h1001, h⟩ := ic_gdE h
    refine ev_iald (a := 0) (b := 16) rfl (a21) h1001 ?_
    refine ev_icge (a := 0) (b := 17) 66 rfl rfl (fun c1002 => ?_) (fun c1002 => ?_)
    · have h := (if_pos c1002).symm.trans h
      obtain rfl := ic_s1 h
      exact ev_fw (lv' := []) hq trivial
    · have h := (if_neg c1002).symm.trans h
      refine ev_aload_n (a := 0) (b := 18) rfl rfl ?_
      refine ev_iload_n (a := 0) (b := 19) rfl rfl ?_
      obtain ⟨v1005, g1003, e1004, h⟩ := ic_b2E h
      refine ev_ivI (a := 0) (b := 20) [ic_I x3] rfl okX7_isThing rfl lmX7_125 rfl (rc16) (Nat.le_of_ble_eq_true rfl) (eX7_isThing e1004) (Nat.le_of_ble_eq_true rfl) rfl ?_
      refine ev_ifeq (a := 0) (b := 21) 56 rfl rfl (fun c1006 => ?_) (fun c1006 => ?_)
      · have h := (if_pos c1006).symm.trans h
        refine ev_iconst (a := 1) (b := 3) 1 rfl (by decide) ?_
        refine ev_iload_n (a := 1) (b := 4) rfl rfl ?_
        refine ev_iadd (a := 1) (b := 5) rfl ?_
        obtain rfl := ic_s1 h
        obtain ⟨rfl, rfl⟩ := hq
        exact ev_ireturn (a := 1) (b := 6) rfl rfl rfl
      · have h := (if_neg c1006).symm.trans h
        refine ev_aload_n (a := 0) (b := 22) rfl rfl ?_
        refine ev_get (a := 0) (b := 23) 7 15 rfl rfl (Nat.le_of_ble_eq_true rfl) lfX7_35 (gX7_number) ?_
        refine ev_bipush (a := 0) (b := 24) 40 rfl (by decide) ?_
        refine ev_iload_n (a := 0) (b := 25) rfl rfl ?_
        refine ev_imul (a := 0) (b := 26) rfl ?_
        refine ev_iload_n (a := 0) (b := 27) rfl rfl ?_
        refine ev_iadd (a := 0) (b := 28) rfl ?_
        obtain ⟨h1007, h⟩ := ic_gdE h
        refine ev_iald (a := 0) (b := 29) rfl (a22) h1007 ?_
        refine ev_aload_n (a := 0) (b := 30) rfl rfl ?_
        refine ev_iload_n (a := 0) (b := 31) rfl rfl ?_
        refine ev_iconst (a := 1) (b := 0) 1 rfl (by decide) ?_
        obtain ⟨v1010, g1008, e1009, h⟩ := ic_b2E h
        refine ev_ivI (a := 1) (b := 1) [ic_I x3, ic_I 1] rfl okX7_its rfl lmX7_48 rfl (rc16) (Nat.le_of_ble_eq_true rfl) (eX7_its e1009) (Nat.le_of_ble_eq_true rfl) rfl ?_
        refine ev_iceq (a := 1) (b := 2) 60 rfl rfl (fun c1011 => ?_) (fun c1011 => ?_)
        · have h := (if_pos c1011).symm.trans h
          refine ev_iinc (a := 1) (b := 7) (x3 + 1) [(0, ic_R 16 0 0), (1, ic_I x1), (3, ic_I (x3 + 1))] rfl rfl (by first | rfl | decide) (by decide) (And.intro (Or.inr (And.intro rfl rfl)) (And.intro (Or.inr (And.intro rfl rfl)) (And.intro (Or.inl rfl) trivial))) ?_
          refine ev_goto (a := 1) (b := 8) 18 rfl rfl ?_
          refine ev_fw (lv' := [(0, ic_R 16 0 0), (1, ic_I x1), (3, ic_I (x3 + 1))]) ?_ (And.intro rfl (And.intro rfl (And.intro rfl trivial)))
          exact ih (x3 + 1) g1008 _ h _ _ hq
        · have h := (if_neg c1011).symm.trans h
          refine ev_iconst (a := 1) (b := 3) 1 rfl (by decide) ?_
          refine ev_iload_n (a := 1) (b := 4) rfl rfl ?_
          refine ev_iadd (a := 1) (b := 5) rfl ?_
          obtain rfl := ic_s1 h
          obtain ⟨rfl, rfl⟩ := hq
          exact ev_ireturn (a := 1) (b := 6) rfl rfl rfl
set_option maxRecDepth 20000 in
theorem eX7_judge {x1 : Int32} {g g' : ic_S} {v : Int32} (h : fX7_judge x1 g = some (v, g')) : ic_Ev mX7_judge 0 (ic_ag 0 [ic_R 16 0 0, ic_I x1]) [] g (some (ic_I v)) g' := by
  unfold fX7_judge at h
  change ic_Ev mX7_judge 0 [(0, ic_R 16 0 0), (1, ic_I x1)] [] g _ _
  refine ev_aload_n (a := 0) (b := 0) rfl rfl ?_
  refine ev_iload_n (a := 0) (b := 1) rfl rfl ?_
  obtain ⟨v3, g1, e2, h⟩ := ic_b2E h
  refine ev_ivI (a := 0) (b := 2) [ic_I x1] rfl okX7_whyNone rfl lmX7_179 rfl (rc16) (Nat.le_of_ble_eq_true rfl) (eX7_whyNone e2) (Nat.le_of_ble_eq_true rfl) rfl ?_
  refine ev_istore_n (a := 0) (b := 3) [(0, ic_R 16 0 0), (1, ic_I x1), (2, ic_I v3)] rfl (by decide) (And.intro (Or.inr (And.intro rfl rfl)) (And.intro (Or.inr (And.intro rfl rfl)) (And.intro (Or.inl rfl) trivial))) ?_
  refine ev_iload_n (a := 0) (b := 4) rfl rfl ?_
  refine ev_iflt (a := 0) (b := 5) 16 rfl rfl (fun c4 => ?_) (fun c4 => ?_)
  · have h := (if_pos c4).symm.trans h
    refine ev_iconst (a := 0) (b := 10) 0 rfl (by decide) ?_
    refine ev_istore_n (a := 0) (b := 11) [(0, ic_R 16 0 0), (1, ic_I x1), (3, ic_I 0)] rfl (by decide) (And.intro (Or.inr (And.intro rfl rfl)) (And.intro (Or.inr (And.intro rfl rfl)) (And.intro (Or.inl rfl) trivial))) ?_
    refine ev_fw (lv' := [(0, ic_R 16 0 0), (1, ic_I x1), (3, ic_I 0)]) ?_ (And.intro rfl (And.intro rfl (And.intro rfl trivial)))
    rcases ic_bsE h with e7 | ⟨y5, g6, e7, h⟩
    · exact tX7_judge_18 (x1 := x1)  1000 0 g1 _ e7 _ _ ⟨rfl, rfl⟩
    · refine tX7_judge_18 (x1 := x1)  1000 0 g1 _ e7 _ _ ?_
      change ic_Ev mX7_judge 66 [] [] g6 _ _
      refine ev_iconst (a := 1) (b := 9) 0 rfl (by decide) ?_
      obtain ⟨rfl, rfl⟩ := ic_s2 h
      exact ev_ireturn (a := 1) (b := 10) rfl rfl rfl
  · have h := (if_neg c4).symm.trans h
    refine ev_aload_n (a := 0) (b := 6) rfl rfl ?_
    refine ev_iload_n (a := 0) (b := 7) rfl rfl ?_
    obtain ⟨v10, g8, e9, h⟩ := ic_b2E h
    refine ev_ivI (a := 0) (b := 8) [ic_I v3] rfl okX7_finds rfl lmX7_117 rfl (rc16) (Nat.le_of_ble_eq_true rfl) (eX7_finds e9) (Nat.le_of_ble_eq_true rfl) rfl ?_
    obtain ⟨rfl, rfl⟩ := ic_s2 h
    exact ev_ireturn (a := 0) (b := 9) rfl rfl rfl
set_option maxRecDepth 20000 in
theorem eX7_image {g g' : ic_S} {v : Int32} (h : fX7_image  g = some (v, g')) : ic_Ev mX7_image 0 (ic_ag 0 [ic_R 16 0 0]) [] g (some (ic_I v)) g' := by
  unfold fX7_image at h
  change ic_Ev mX7_image 0 [(0, ic_R 16 0 0)] [] g _ _
  refine ev_aload_n (a := 0) (b := 0) rfl rfl ?_
  refine ev_get (a := 0) (b := 1) 7 0 rfl rfl (Nat.le_of_ble_eq_true rfl) lfX7_7 (gX7_d) ?_
  refine ev_aload_n (a := 0) (b := 2) rfl rfl ?_
  refine ev_get (a := 0) (b := 3) 7 3 rfl rfl (Nat.le_of_ble_eq_true rfl) lfX7_19 (gX7_kept) ?_
  obtain ⟨g1, e2, h⟩ := ic_b1E h
  refine ev_isV (a := 0) (b := 4) [ic_R 17 0 0, ic_R 17 3 0] rfl okX7_copies rfl lmX7_160 rfl (Nat.le_of_ble_eq_true rfl) (eX7_copies e2) (Nat.le_of_ble_eq_true rfl) rfl ?_
  refine ev_aload_n (a := 0) (b := 5) rfl rfl ?_
  refine ev_iconst (a := 0) (b := 6) 1 rfl (by decide) ?_
  obtain ⟨g3, eg3, h⟩ := ic_letE h
  refine ev_put (a := 0) (b := 7) 7 4 rfl rfl (Nat.le_of_ble_eq_true rfl) lfX7_304 rfl (pX7_isKept rfl eg3) ?_
  refine ev_iconst (a := 0) (b := 8) 1 rfl (by decide) ?_
  obtain ⟨rfl, rfl⟩ := ic_s2 h
  exact ev_ireturn (a := 0) (b := 9) rfl rfl rfl
set_option maxRecDepth 20000 in
theorem eX7_undo {g g' : ic_S} {v : Int32} (h : fX7_undo  g = some (v, g')) : ic_Ev mX7_undo 0 (ic_ag 0 [ic_R 16 0 0]) [] g (some (ic_I v)) g' := by
  unfold fX7_undo at h
  change ic_Ev mX7_undo 0 [(0, ic_R 16 0 0)] [] g _ _
  refine ev_aload_n (a := 0) (b := 0) rfl rfl ?_
  refine ev_get (a := 0) (b := 1) 7 4 rfl rfl (Nat.le_of_ble_eq_true rfl) lfX7_304 (gX7_isKept) ?_
  refine ev_ifne (a := 0) (b := 2) 13 rfl rfl (fun c1 => ?_) (fun c1 => ?_)
  · have h := (if_neg c1).symm.trans h
    refine ev_aload_n (a := 0) (b := 7) rfl rfl ?_
    refine ev_get (a := 0) (b := 8) 7 3 rfl rfl (Nat.le_of_ble_eq_true rfl) lfX7_19 (gX7_kept) ?_
    refine ev_aload_n (a := 0) (b := 9) rfl rfl ?_
    refine ev_get (a := 0) (b := 10) 7 0 rfl rfl (Nat.le_of_ble_eq_true rfl) lfX7_7 (gX7_d) ?_
    obtain ⟨g2, e3, h⟩ := ic_b1E h
    refine ev_isV (a := 0) (b := 11) [ic_R 17 3 0, ic_R 17 0 0] rfl okX7_copies rfl lmX7_160 rfl (Nat.le_of_ble_eq_true rfl) (eX7_copies e3) (Nat.le_of_ble_eq_true rfl) rfl ?_
    refine ev_aload_n (a := 0) (b := 12) rfl rfl ?_
    refine ev_get (a := 0) (b := 13) 7 0 rfl rfl (Nat.le_of_ble_eq_true rfl) lfX7_7 (gX7_d) ?_
    refine ev_iconst (a := 0) (b := 14) 1 rfl (by decide) ?_
    refine ev_ialdk (a := 0) (b := 15) 1 (by decide) rfl (a17 (by decide)) (by decide) ?_
    obtain ⟨rfl, rfl⟩ := ic_s2 h
    exact ev_ireturn (a := 0) (b := 16) rfl rfl rfl
  · have h := (if_pos c1).symm.trans h
    refine ev_aload_n (a := 0) (b := 3) rfl rfl ?_
    refine ev_iconst (a := 0) (b := 4) 3 rfl (by decide) ?_
    obtain ⟨v6, g4, e5, h⟩ := ic_b2E h
    refine ev_ivI (a := 0) (b := 5) [ic_I 3] rfl okX7_finds rfl lmX7_117 rfl (rc16) (Nat.le_of_ble_eq_true rfl) (eX7_finds e5) (Nat.le_of_ble_eq_true rfl) rfl ?_
    obtain ⟨rfl, rfl⟩ := ic_s2 h
    exact ev_ireturn (a := 0) (b := 6) rfl rfl rfl
set_option maxRecDepth 20000 in
theorem eX7_tear {g g' : ic_S} {v : Int32} (h : fX7_tear  g = some (v, g')) : ic_Ev mX7_tear 0 (ic_ag 0 [ic_R 16 0 0]) [] g (some (ic_I v)) g' := by
  unfold fX7_tear at h
  change ic_Ev mX7_tear 0 [(0, ic_R 16 0 0)] [] g _ _
  refine ev_aload_n (a := 0) (b := 0) rfl rfl ?_
  refine ev_get (a := 0) (b := 1) 7 4 rfl rfl (Nat.le_of_ble_eq_true rfl) lfX7_304 (gX7_isKept) ?_
  refine ev_ifeq (a := 0) (b := 2) 11 rfl rfl (fun c1 => ?_) (fun c1 => ?_)
  · have h := (if_pos c1).symm.trans h
    refine ev_iconst (a := 0) (b := 5) 0 rfl (by decide) ?_
    refine ev_istore_n (a := 0) (b := 6) [(0, ic_R 16 0 0), (1, ic_I 0)] rfl (by decide) (And.intro (Or.inr (And.intro rfl rfl)) (And.intro (Or.inl rfl) trivial)) ?_
    refine ev_aload_n (a := 0) (b := 7) rfl rfl ?_
    refine ev_iconst (a := 0) (b := 8) 0 rfl (by decide) ?_
    obtain ⟨g2, eg2, h⟩ := ic_letE h
    refine ev_put (a := 0) (b := 9) 7 4 rfl rfl (Nat.le_of_ble_eq_true rfl) lfX7_304 rfl (pX7_isKept rfl eg2) ?_
    refine ev_iload_n (a := 0) (b := 10) rfl rfl ?_
    obtain ⟨rfl, rfl⟩ := ic_s2 h
    exact ev_ireturn (a := 0) (b := 11) rfl rfl rfl
  · have h := (if_neg c1).symm.trans h
    refine ev_iconst (a := 0) (b := 3) 1 rfl (by decide) ?_
    refine ev_goto (a := 0) (b := 4) 12 rfl rfl ?_
    refine ev_istore_n (a := 0) (b := 6) [(0, ic_R 16 0 0), (1, ic_I 1)] rfl (by decide) (And.intro (Or.inr (And.intro rfl rfl)) (And.intro (Or.inl rfl) trivial)) ?_
    refine ev_aload_n (a := 0) (b := 7) rfl rfl ?_
    refine ev_iconst (a := 0) (b := 8) 0 rfl (by decide) ?_
    obtain ⟨g3, eg3, h⟩ := ic_letE h
    refine ev_put (a := 0) (b := 9) 7 4 rfl rfl (Nat.le_of_ble_eq_true rfl) lfX7_304 rfl (pX7_isKept rfl eg3) ?_
    refine ev_iload_n (a := 0) (b := 10) rfl rfl ?_
    obtain ⟨rfl, rfl⟩ := ic_s2 h
    exact ev_ireturn (a := 0) (b := 11) rfl rfl rfl
set_option maxRecDepth 20000 in
theorem tX7_holding_4 : ∀ (n : Nat) (x1 : Int32) (x2 : Int32) (g : ic_S) (q : (Int32) × ic_S), lX7_holding_4 n x1 x2 g = some q → ∀ (r : Option ic_V) (g' : ic_S), ic_Ev mX7_holding 36 [(1, ic_I q.1)] [] q.2 r g' → ic_Ev mX7_holding 4 [(0, ic_R 16 0 0), (1, ic_I x1), (2, ic_I x2)] [] g r g' := by
  intro n
  induction n with
  | zero => intro x1 x2 g q h; cases h
  | succ n ih =>
    intro x1 x2 g q h r g' hq
    rw [lX7_holding_4] at h
    refine ev_iload_n (a := 0) (b := 4) rfl rfl ?_
    refine ev_bipush (a := 0) (b := 5) 10 rfl (by decide) ?_
    refine ev_icge (a := 0) (b := 6) 36 rfl rfl (fun c1001 => ?_) (fun c1001 => ?_)
    · have h := (if_pos c1001).symm.trans h
      obtain rfl := ic_s1 h
      exact ev_fw (lv' := [(1, ic_I x1)]) hq (And.intro rfl trivial)
    · have h := (if_neg c1001).symm.trans h
      refine ev_iload_n (a := 0) (b := 7) rfl rfl ?_
      refine ev_aload_n (a := 0) (b := 8) rfl rfl ?_
      refine ev_get (a := 0) (b := 9) 7 0 rfl rfl (Nat.le_of_ble_eq_true rfl) lfX7_7 (gX7_d) ?_
      refine ev_bipush (a := 0) (b := 10) 63 rfl (by decide) ?_
      refine ev_iload_n (a := 0) (b := 11) rfl rfl ?_
      refine ev_iadd (a := 0) (b := 12) rfl ?_
      obtain ⟨h1002, h⟩ := ic_gdE h
      refine ev_iald (a := 0) (b := 13) rfl (a17 (by decide)) h1002 ?_
      refine ev_ifle (a := 0) (b := 14) 27 rfl rfl (fun c1003 => ?_) (fun c1003 => ?_)
      · have h := (if_pos c1003).symm.trans h
        refine ev_iconst (a := 0) (b := 17) 0 rfl (by decide) ?_
        refine ev_iadd (a := 0) (b := 18) rfl ?_
        refine ev_istore_n (a := 0) (b := 19) [(0, ic_R 16 0 0), (1, ic_I (x1 + 0)), (2, ic_I x2)] rfl (by decide) (And.intro (Or.inr (And.intro rfl rfl)) (And.intro (Or.inl rfl) (And.intro (Or.inr (And.intro rfl rfl)) trivial))) ?_
        refine ev_iinc (a := 0) (b := 20) (x2 + 1) [(0, ic_R 16 0 0), (1, ic_I (x1 + 0)), (2, ic_I (x2 + 1))] rfl rfl (by first | rfl | decide) (by decide) (And.intro (Or.inr (And.intro rfl rfl)) (And.intro (Or.inr (And.intro rfl rfl)) (And.intro (Or.inl rfl) trivial))) ?_
        refine ev_goto (a := 0) (b := 21) 4 rfl rfl ?_
        refine ev_fw (lv' := [(0, ic_R 16 0 0), (1, ic_I (x1 + 0)), (2, ic_I (x2 + 1))]) ?_ (And.intro rfl (And.intro rfl (And.intro rfl trivial)))
        exact ih (x1 + 0) (x2 + 1) g _ h _ _ hq
      · have h := (if_neg c1003).symm.trans h
        refine ev_iconst (a := 0) (b := 15) 1 rfl (by decide) ?_
        refine ev_goto (a := 0) (b := 16) 28 rfl rfl ?_
        refine ev_iadd (a := 0) (b := 18) rfl ?_
        refine ev_istore_n (a := 0) (b := 19) [(0, ic_R 16 0 0), (1, ic_I (x1 + 1)), (2, ic_I x2)] rfl (by decide) (And.intro (Or.inr (And.intro rfl rfl)) (And.intro (Or.inl rfl) (And.intro (Or.inr (And.intro rfl rfl)) trivial))) ?_
        refine ev_iinc (a := 0) (b := 20) (x2 + 1) [(0, ic_R 16 0 0), (1, ic_I (x1 + 1)), (2, ic_I (x2 + 1))] rfl rfl (by first | rfl | decide) (by decide) (And.intro (Or.inr (And.intro rfl rfl)) (And.intro (Or.inr (And.intro rfl rfl)) (And.intro (Or.inl rfl) trivial))) ?_
        refine ev_goto (a := 0) (b := 21) 4 rfl rfl ?_
        refine ev_fw (lv' := [(0, ic_R 16 0 0), (1, ic_I (x1 + 1)), (2, ic_I (x2 + 1))]) ?_ (And.intro rfl (And.intro rfl (And.intro rfl trivial)))
        exact ih (x1 + 1) (x2 + 1) g _ h _ _ hq
set_option maxRecDepth 20000 in
theorem eX7_holding {g g' : ic_S} {v : Int32} (h : fX7_holding  g = some (v, g')) : ic_Ev mX7_holding 0 (ic_ag 0 [ic_R 16 0 0]) [] g (some (ic_I v)) g' := by
  unfold fX7_holding at h
  change ic_Ev mX7_holding 0 [(0, ic_R 16 0 0)] [] g _ _
  refine ev_iconst (a := 0) (b := 0) 0 rfl (by decide) ?_
  refine ev_istore_n (a := 0) (b := 1) [(0, ic_R 16 0 0), (1, ic_I 0)] rfl (by decide) (And.intro (Or.inr (And.intro rfl rfl)) (And.intro (Or.inl rfl) trivial)) ?_
  refine ev_iconst (a := 0) (b := 2) 0 rfl (by decide) ?_
  refine ev_istore_n (a := 0) (b := 3) [(0, ic_R 16 0 0), (1, ic_I 0), (2, ic_I 0)] rfl (by decide) (And.intro (Or.inr (And.intro rfl rfl)) (And.intro (Or.inr (And.intro rfl rfl)) (And.intro (Or.inl rfl) trivial))) ?_
  refine ev_fw (lv' := [(0, ic_R 16 0 0), (1, ic_I 0), (2, ic_I 0)]) ?_ (And.intro rfl (And.intro rfl (And.intro rfl trivial)))
  obtain ⟨y1, g2, e3, h⟩ := ic_b2E h
  refine tX7_holding_4  1000 0 0 g _ e3 _ _ ?_
  change ic_Ev mX7_holding 36 [(1, ic_I y1)] [] g2 _ _
  refine ev_iload_n (a := 0) (b := 22) rfl rfl ?_
  obtain ⟨rfl, rfl⟩ := ic_s2 h
  exact ev_ireturn (a := 0) (b := 23) rfl rfl rfl
set_option maxRecDepth 20000 in
theorem eX7_count {x1 : Int32} {g g' : ic_S} {v : Int32} (h : fX7_count x1 g = some (v, g')) : ic_Ev mX7_count 0 (ic_ag 0 [ic_R 16 0 0, ic_I x1]) [] g (some (ic_I v)) g' := by
  unfold fX7_count at h
  change ic_Ev mX7_count 0 [(0, ic_R 16 0 0), (1, ic_I x1)] [] g _ _
  refine ev_iload_n (a := 0) (b := 0) rfl rfl ?_
  rcases Decidable.em (x1 = 0) with c1 | c1
  · have h := (if_pos c1).symm.trans h
    refine ev_tsw1 (a := 0) (b := 1) 0 (47) 48 rfl c1 (by decide) (by decide) rfl rfl ?_
    refine ev_aload_n (a := 0) (b := 2) rfl rfl ?_
    refine ev_get (a := 0) (b := 3) 7 0 rfl rfl (Nat.le_of_ble_eq_true rfl) lfX7_7 (gX7_d) ?_
    refine ev_iconst (a := 0) (b := 4) 1 rfl (by decide) ?_
    refine ev_ialdk (a := 0) (b := 5) 1 (by decide) rfl (a17 (by decide)) (by decide) ?_
    obtain ⟨rfl, rfl⟩ := ic_s2 h
    exact ev_ireturn (a := 0) (b := 6) rfl rfl rfl
  · have h := (if_neg c1).symm.trans h
    rcases Decidable.em (x1 = 1) with c2 | c2
    · have h := (if_pos c2).symm.trans h
      refine ev_tsw1 (a := 0) (b := 1) 1 (54) 55 rfl c2 (by decide) (by decide) rfl rfl ?_
      refine ev_aload_n (a := 0) (b := 7) rfl rfl ?_
      refine ev_get (a := 0) (b := 8) 7 0 rfl rfl (Nat.le_of_ble_eq_true rfl) lfX7_7 (gX7_d) ?_
      refine ev_iconst (a := 0) (b := 9) 0 rfl (by decide) ?_
      refine ev_ialdk (a := 0) (b := 10) 0 (by decide) rfl (a17 (by decide)) (by decide) ?_
      obtain ⟨rfl, rfl⟩ := ic_s2 h
      exact ev_ireturn (a := 0) (b := 11) rfl rfl rfl
    · have h := (if_neg c2).symm.trans h
      rcases Decidable.em (x1 = 2) with c3 | c3
      · have h := (if_pos c3).symm.trans h
        refine ev_tsw1 (a := 0) (b := 1) 2 (61) 62 rfl c3 (by decide) (by decide) rfl rfl ?_
        refine ev_aload_n (a := 0) (b := 12) rfl rfl ?_
        refine ev_iconst (a := 0) (b := 13) 5 rfl (by decide) ?_
        obtain ⟨v11, g9, e10, h⟩ := ic_b2E h
        refine ev_ivI (a := 0) (b := 14) [ic_I 5] rfl okX7_setOf rfl lmX7_144 rfl (rc16) (Nat.le_of_ble_eq_true rfl) (eX7_setOf e10) (Nat.le_of_ble_eq_true rfl) rfl ?_
        obtain ⟨v14, g12, e13, h⟩ := ic_b2E h
        refine ev_isI (a := 0) (b := 15) [ic_I v11] rfl okX7_ones rfl lmX7_70 rfl (Nat.le_of_ble_eq_true rfl) (eX7_ones e13) (Nat.le_of_ble_eq_true rfl) rfl ?_
        obtain ⟨rfl, rfl⟩ := ic_s2 h
        exact ev_ireturn (a := 0) (b := 16) rfl rfl rfl
      · have h := (if_neg c3).symm.trans h
        rcases Decidable.em (x1 = 3) with c4 | c4
        · have h := (if_pos c4).symm.trans h
          refine ev_tsw1 (a := 0) (b := 1) 3 (70) 71 rfl c4 (by decide) (by decide) rfl rfl ?_
          refine ev_aload_n (a := 0) (b := 17) rfl rfl ?_
          refine ev_iconst (a := 0) (b := 18) 3 rfl (by decide) ?_
          obtain ⟨v17, g15, e16, h⟩ := ic_b2E h
          refine ev_ivI (a := 0) (b := 19) [ic_I 3] rfl okX7_sumOf rfl lmX7_147 rfl (rc16) (Nat.le_of_ble_eq_true rfl) (eX7_sumOf e16) (Nat.le_of_ble_eq_true rfl) rfl ?_
          obtain ⟨rfl, rfl⟩ := ic_s2 h
          exact ev_ireturn (a := 0) (b := 20) rfl rfl rfl
        · have h := (if_neg c4).symm.trans h
          rcases Decidable.em (x1 = 4) with c5 | c5
          · have h := (if_pos c5).symm.trans h
            refine ev_tsw1 (a := 0) (b := 1) 4 (76) 77 rfl c5 (by decide) (by decide) rfl rfl ?_
            refine ev_aload_n (a := 0) (b := 21) rfl rfl ?_
            refine ev_bipush (a := 0) (b := 22) 6 rfl (by decide) ?_
            obtain ⟨v20, g18, e19, h⟩ := ic_b2E h
            refine ev_ivI (a := 0) (b := 23) [ic_I 6] rfl okX7_sumOf rfl lmX7_147 rfl (rc16) (Nat.le_of_ble_eq_true rfl) (eX7_sumOf e19) (Nat.le_of_ble_eq_true rfl) rfl ?_
            obtain ⟨rfl, rfl⟩ := ic_s2 h
            exact ev_ireturn (a := 0) (b := 24) rfl rfl rfl
          · have h := (if_neg c5).symm.trans h
            rcases Decidable.em (x1 = 5) with c6 | c6
            · have h := (if_pos c6).symm.trans h
              refine ev_tsw1 (a := 0) (b := 1) 5 (83) 84 rfl c6 (by decide) (by decide) rfl rfl ?_
              refine ev_aload_n (a := 0) (b := 25) rfl rfl ?_
              refine ev_get (a := 0) (b := 26) 7 7 rfl rfl (Nat.le_of_ble_eq_true rfl) lfX7_195 (gX7_taped) ?_
              obtain ⟨rfl, rfl⟩ := ic_s2 h
              exact ev_ireturn (a := 0) (b := 27) rfl rfl rfl
            · have h := (if_neg c6).symm.trans h
              rcases Decidable.em (x1 = 6) with c7 | c7
              · have h := (if_pos c7).symm.trans h
                refine ev_tsw1 (a := 0) (b := 1) 6 (88) 89 rfl c7 (by decide) (by decide) rfl rfl ?_
                refine ev_aload_n (a := 0) (b := 28) rfl rfl ?_
                refine ev_get (a := 0) (b := 29) 7 0 rfl rfl (Nat.le_of_ble_eq_true rfl) lfX7_7 (gX7_d) ?_
                refine ev_iconst (a := 0) (b := 30) 2 rfl (by decide) ?_
                refine ev_ialdk (a := 0) (b := 31) 2 (by decide) rfl (a17 (by decide)) (by decide) ?_
                obtain ⟨rfl, rfl⟩ := ic_s2 h
                exact ev_ireturn (a := 1) (b := 0) rfl rfl rfl
              · have h := (if_neg c7).symm.trans h
                rcases Decidable.em (x1 = 7) with c8 | c8
                · have h := (if_pos c8).symm.trans h
                  refine ev_tsw1 (a := 0) (b := 1) 7 (95) 96 rfl c8 (by decide) (by decide) rfl rfl ?_
                  refine ev_aload_n (a := 1) (b := 1) rfl rfl ?_
                  obtain ⟨v23, g21, e22, h⟩ := ic_b2E h
                  refine ev_ivI (a := 1) (b := 2) [] rfl okX7_holding rfl lmX7_308 rfl (rc16) (Nat.le_of_ble_eq_true rfl) (eX7_holding e22) (Nat.le_of_ble_eq_true rfl) rfl ?_
                  obtain ⟨rfl, rfl⟩ := ic_s2 h
                  exact ev_ireturn (a := 1) (b := 3) rfl rfl rfl
                · have h := (if_neg c8).symm.trans h
                  refine ev_tsw0 (a := 0) (b := 1) [0, 1, 2, 3, 4, 5, 6, 7] 101 rfl (List.forall_mem_cons.mpr ⟨c1, List.forall_mem_cons.mpr ⟨c2, List.forall_mem_cons.mpr ⟨c3, List.forall_mem_cons.mpr ⟨c4, List.forall_mem_cons.mpr ⟨c5, List.forall_mem_cons.mpr ⟨c6, List.forall_mem_cons.mpr ⟨c7, List.forall_mem_cons.mpr ⟨c8, fun _ hh => absurd hh List.not_mem_nil⟩⟩⟩⟩⟩⟩⟩⟩) (by decide) (by decide) rfl ?_
                  refine ev_aload_n (a := 1) (b := 4) rfl rfl ?_
                  refine ev_iconst (a := 1) (b := 5) 0 rfl (by decide) ?_
                  obtain ⟨v26, g24, e25, h⟩ := ic_b2E h
                  refine ev_ivI (a := 1) (b := 6) [ic_I 0] rfl okX7_finds rfl lmX7_117 rfl (rc16) (Nat.le_of_ble_eq_true rfl) (eX7_finds e25) (Nat.le_of_ble_eq_true rfl) rfl ?_
                  obtain ⟨rfl, rfl⟩ := ic_s2 h
                  exact ev_ireturn (a := 1) (b := 7) rfl rfl rfl
set_option maxRecDepth 20000 in
theorem tX7_status_24 {x1 : Int32} : ∀ (n : Nat) (x2 : Int32) (x3 : Int32) (g : ic_S) (q : (Int32) × ic_S), lX7_status_24 x1 n x2 x3 g = some q → ∀ (r : Option ic_V) (g' : ic_S), ic_Ev mX7_status 45 [(0, ic_R 16 0 0), (1, ic_I x1), (2, ic_I q.1)] [] q.2 r g' → ic_Ev mX7_status 24 [(0, ic_R 16 0 0), (1, ic_I x1), (2, ic_I x2), (3, ic_I x3)] [] g r g' := by
  intro n
  induction n with
  | zero => intro x2 x3 g q h; cases h
  | succ n ih =>
    intro x2 x3 g q h r g' hq
    rw [lX7_status_24] at h
    refine ev_iload_n (a := 0) (b := 14) rfl rfl ?_
    refine ev_bipush (a := 0) (b := 15) 7 rfl (by decide) ?_
    refine ev_icge (a := 0) (b := 16) 45 rfl rfl (fun c1001 => ?_) (fun c1001 => ?_)
    · have h := (if_pos c1001).symm.trans h
      obtain rfl := ic_s1 h
      exact ev_fw (lv' := [(0, ic_R 16 0 0), (1, ic_I x1), (2, ic_I x2)]) hq (And.intro rfl (And.intro rfl (And.intro rfl trivial)))
    · have h := (if_neg c1001).symm.trans h
      refine ev_iload_n (a := 0) (b := 17) rfl rfl ?_
      refine ev_aload_n (a := 0) (b := 18) rfl rfl ?_
      refine ev_get (a := 0) (b := 19) 7 5 rfl rfl (Nat.le_of_ble_eq_true rfl) lfX7_22 (gX7_found) ?_
      refine ev_iload_n (a := 0) (b := 20) rfl rfl ?_
      obtain ⟨h1002, h⟩ := ic_gdE h
      refine ev_iald (a := 0) (b := 21) rfl (a18) h1002 ?_
      refine ev_iadd (a := 0) (b := 22) rfl ?_
      obtain ⟨y1003, ey1003, h⟩ := ic_letE h
      refine ev_topI ey1003 ?_
      refine ev_istore_n (a := 0) (b := 23) [(0, ic_R 16 0 0), (1, ic_I x1), (2, ic_I y1003), (3, ic_I x3)] rfl (by decide) (And.intro (Or.inr (And.intro rfl rfl)) (And.intro (Or.inr (And.intro rfl rfl)) (And.intro (Or.inl rfl) (And.intro (Or.inr (And.intro rfl rfl)) trivial)))) ?_
      refine ev_iinc (a := 0) (b := 24) (x3 + 1) [(0, ic_R 16 0 0), (1, ic_I x1), (2, ic_I y1003), (3, ic_I (x3 + 1))] rfl rfl (by first | rfl | decide) (by decide) (And.intro (Or.inr (And.intro rfl rfl)) (And.intro (Or.inr (And.intro rfl rfl)) (And.intro (Or.inr (And.intro rfl rfl)) (And.intro (Or.inl rfl) trivial)))) ?_
      refine ev_goto (a := 0) (b := 25) 24 rfl rfl ?_
      refine ev_fw (lv' := [(0, ic_R 16 0 0), (1, ic_I x1), (2, ic_I y1003), (3, ic_I (x3 + 1))]) ?_ (And.intro rfl (And.intro rfl (And.intro rfl (And.intro rfl trivial))))
      exact ih y1003 (x3 + 1) g _ h _ _ hq
set_option maxRecDepth 20000 in
theorem eX7_status {x1 : Int32} {g g' : ic_S} {v : Int32} (h : fX7_status x1 g = some (v, g')) : ic_Ev mX7_status 0 (ic_ag 0 [ic_R 16 0 0, ic_I x1]) [] g (some (ic_I v)) g' := by
  unfold fX7_status at h
  change ic_Ev mX7_status 0 [(0, ic_R 16 0 0), (1, ic_I x1)] [] g _ _
  refine ev_iload_n (a := 0) (b := 0) rfl rfl ?_
  refine ev_i2l (a := 0) (b := 1) rfl ?_
  refine ev_ldc2 (a := 0) (b := 2) (-1) rfl lcX7_296 ?_
  refine ev_ldc2 (a := 0) (b := 3) 6 rfl lcX7_120 ?_
  obtain ⟨v3, g1, e2, h⟩ := ic_b2E h
  refine ev_isI (a := 0) (b := 4) [ic_J (Int32.toInt64 x1), ic_J (-1), ic_J 6] rfl okX7_in rfl lmX7_42 rfl (Nat.le_of_ble_eq_true rfl) (eX7_in e2) (Nat.le_of_ble_eq_true rfl) rfl ?_
  refine ev_ifne (a := 0) (b := 5) 20 rfl rfl (fun c4 => ?_) (fun c4 => ?_)
  · have h := (if_neg c4).symm.trans h
    refine ev_iconst (a := 0) (b := 10) 0 rfl (by decide) ?_
    refine ev_istore_n (a := 0) (b := 11) [(0, ic_R 16 0 0), (1, ic_I x1), (2, ic_I 0)] rfl (by decide) (And.intro (Or.inr (And.intro rfl rfl)) (And.intro (Or.inr (And.intro rfl rfl)) (And.intro (Or.inl rfl) trivial))) ?_
    refine ev_iconst (a := 0) (b := 12) 0 rfl (by decide) ?_
    refine ev_istore_n (a := 0) (b := 13) [(0, ic_R 16 0 0), (1, ic_I x1), (2, ic_I 0), (3, ic_I 0)] rfl (by decide) (And.intro (Or.inr (And.intro rfl rfl)) (And.intro (Or.inr (And.intro rfl rfl)) (And.intro (Or.inr (And.intro rfl rfl)) (And.intro (Or.inl rfl) trivial)))) ?_
    refine ev_fw (lv' := [(0, ic_R 16 0 0), (1, ic_I x1), (2, ic_I 0), (3, ic_I 0)]) ?_ (And.intro rfl (And.intro rfl (And.intro rfl (And.intro rfl trivial))))
    obtain ⟨y5, g6, e7, h⟩ := ic_b2E h
    refine tX7_status_24 (x1 := x1)  1000 0 0 g1 _ e7 _ _ ?_
    change ic_Ev mX7_status 45 [(0, ic_R 16 0 0), (1, ic_I x1), (2, ic_I y5)] [] g6 _ _
    refine ev_iload_n (a := 0) (b := 26) rfl rfl ?_
    refine ev_ifge (a := 0) (b := 27) 53 rfl rfl (fun c8 => ?_) (fun c8 => ?_)
    · have h := (if_pos c8).symm.trans h
      refine ev_aload_n (a := 0) (b := 30) rfl rfl ?_
      refine ev_get (a := 0) (b := 31) 7 5 rfl rfl (Nat.le_of_ble_eq_true rfl) lfX7_22 (gX7_found) ?_
      refine ev_iload_n (a := 1) (b := 0) rfl rfl ?_
      obtain ⟨h9, h⟩ := ic_gdE h
      refine ev_iald (a := 1) (b := 1) rfl (a18) h9 ?_
      obtain ⟨rfl, rfl⟩ := ic_s2 h
      exact ev_ireturn (a := 1) (b := 2) rfl rfl rfl
    · have h := (if_neg c8).symm.trans h
      refine ev_iload_n (a := 0) (b := 28) rfl rfl ?_
      refine ev_goto (a := 0) (b := 29) 59 rfl rfl ?_
      obtain ⟨rfl, rfl⟩ := ic_s2 h
      exact ev_ireturn (a := 1) (b := 2) rfl rfl rfl
  · have h := (if_pos c4).symm.trans h
    refine ev_aload_n (a := 0) (b := 6) rfl rfl ?_
    refine ev_iconst (a := 0) (b := 7) 0 rfl (by decide) ?_
    obtain ⟨v12, g10, e11, h⟩ := ic_b2E h
    refine ev_ivI (a := 0) (b := 8) [ic_I 0] rfl okX7_finds rfl lmX7_117 rfl (rc16) (Nat.le_of_ble_eq_true rfl) (eX7_finds e11) (Nat.le_of_ble_eq_true rfl) rfl ?_
    obtain ⟨rfl, rfl⟩ := ic_s2 h
    exact ev_ireturn (a := 0) (b := 9) rfl rfl rfl
