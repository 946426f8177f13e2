set_option maxRecDepth 20000 in
theorem eX7_ahead {x1 : Int32} {x2 : Int32} {x3 : Int32} {g g' : ic_S} {v : Int32} (h : fX7_ahead x1 x2 x3 g = some (v, g')) : ic_Ev mX7_ahead 0 (ic_ag 0 [ic_R 16 0 0, ic_I x1, ic_I x2, ic_I x3]) [] g (some (ic_I v)) g' := by
  unfold fX7_ahead at h
  change ic_Ev mX7_ahead 0 [(0, ic_R 16 0 0), (1, ic_I x1), (2, ic_I x2), (3, ic_I x3)] [] g _ _
  refine ev_aload_n (a := 0) (b := 0) rfl rfl ?_
  refine ev_iload_n (a := 0) (b := 1) rfl rfl ?_
  obtain ⟨v3, g1, e2, h⟩ := ic_b2E h
  refine ev_ivI (a := 0) (b := 2) [ic_I x1] rfl okX7_isThing rfl lmX7_125 rfl (rc16) (Nat.le_of_ble_eq_true rfl) (eX7_isThing e2) (Nat.le_of_ble_eq_true rfl) rfl ?_
  refine ev_ifeq (a := 0) (b := 3) 41 rfl rfl (fun c4 => ?_) (fun c4 => ?_)
  · have h := (if_pos c4).symm.trans h
    refine ev_aload_n (a := 0) (b := 22) rfl rfl ?_
    refine ev_iconst (a := 0) (b := 23) 0 rfl (by decide) ?_
    obtain ⟨v7, g5, e6, h⟩ := ic_b2E h
    refine ev_ivI (a := 0) (b := 24) [ic_I 0] rfl okX7_finds rfl lmX7_117 rfl (rc16) (Nat.le_of_ble_eq_true rfl) (eX7_finds e6) (Nat.le_of_ble_eq_true rfl) rfl ?_
    obtain ⟨rfl, rfl⟩ := ic_s2 h
    exact ev_ireturn (a := 0) (b := 25) rfl rfl rfl
  · have h := (if_neg c4).symm.trans h
    refine ev_iload_n (a := 0) (b := 4) rfl rfl ?_
    refine ev_iconst (a := 0) (b := 5) 1 rfl (by decide) ?_
    refine ev_iceq (a := 0) (b := 6) 29 rfl rfl (fun c8 => ?_) (fun c8 => ?_)
    · have h := (if_pos c8).symm.trans h
      refine ev_iload_n (a := 0) (b := 16) rfl rfl ?_
      refine ev_i2l (a := 0) (b := 17) rfl ?_
      refine ev_lconst (a := 0) (b := 18) 0 rfl (by decide) ?_
      refine ev_ldc2 (a := 0) (b := 19) 100 rfl lcX7_164 ?_
      obtain ⟨v11, g9, e10, h⟩ := ic_b2E h
      refine ev_isI (a := 0) (b := 20) [ic_J (Int32.toInt64 x3), ic_J 0, ic_J 100] rfl okX7_in rfl lmX7_42 rfl (Nat.le_of_ble_eq_true rfl) (eX7_in e10) (Nat.le_of_ble_eq_true rfl) rfl ?_
      refine ev_ifne (a := 0) (b := 21) 47 rfl rfl (fun c12 => ?_) (fun c12 => ?_)
      · have h := (if_neg c12).symm.trans h
        refine ev_aload_n (a := 0) (b := 26) rfl rfl ?_
        refine ev_get (a := 0) (b := 27) 7 0 rfl rfl (Nat.le_of_ble_eq_true rfl) lfX7_7 (gX7_d) ?_
        refine ev_aload_n (a := 0) (b := 28) rfl rfl ?_
        refine ev_get (a := 0) (b := 29) 7 2 rfl rfl (Nat.le_of_ble_eq_true rfl) lfX7_16 (gX7_aside) ?_
        obtain ⟨g13, e14, h⟩ := ic_b1E h
        refine ev_isV (a := 0) (b := 30) [ic_R 17 0 0, ic_R 17 2 0] rfl okX7_copies rfl lmX7_160 rfl (Nat.le_of_ble_eq_true rfl) (eX7_copies e14) (Nat.le_of_ble_eq_true rfl) rfl ?_
        refine ev_aload_n (a := 0) (b := 31) rfl rfl ?_
        refine ev_iload_n (a := 1) (b := 0) rfl rfl ?_
        refine ev_bipush (a := 1) (b := 1) 7 rfl (by decide) ?_
        refine ev_bipush (a := 1) (b := 2) 8 rfl (by decide) ?_
        refine ev_iload_n (a := 1) (b := 3) rfl rfl ?_
        refine ev_imul (a := 1) (b := 4) rfl ?_
        refine ev_iadd (a := 1) (b := 5) rfl ?_
        refine ev_iload_n (a := 1) (b := 6) rfl rfl ?_
        refine ev_iadd (a := 1) (b := 7) rfl ?_
        obtain ⟨v17, g15, e16, h⟩ := ic_b2E h
        refine ev_ivI (a := 1) (b := 8) [ic_I x3, ic_I ((7 + (8 * x2)) + x1)] rfl okX7_behind rfl lmX7_166 rfl (rc16) (Nat.le_of_ble_eq_true rfl) (eX7_behind e16) (Nat.le_of_ble_eq_true rfl) rfl ?_
        obtain ⟨rfl, rfl⟩ := ic_s2 h
        exact ev_ireturn (a := 1) (b := 9) rfl rfl rfl
      · have h := (if_pos c12).symm.trans h
        refine ev_aload_n (a := 0) (b := 22) rfl rfl ?_
        refine ev_iconst (a := 0) (b := 23) 0 rfl (by decide) ?_
        obtain ⟨v20, g18, e19, h⟩ := ic_b2E h
        refine ev_ivI (a := 0) (b := 24) [ic_I 0] rfl okX7_finds rfl lmX7_117 rfl (rc16) (Nat.le_of_ble_eq_true rfl) (eX7_finds e19) (Nat.le_of_ble_eq_true rfl) rfl ?_
        obtain ⟨rfl, rfl⟩ := ic_s2 h
        exact ev_ireturn (a := 0) (b := 25) rfl rfl rfl
    · have h := (if_neg c8).symm.trans h
      refine ev_iload_n (a := 0) (b := 7) rfl rfl ?_
      refine ev_iconst (a := 0) (b := 8) 3 rfl (by decide) ?_
      refine ev_iceq (a := 0) (b := 9) 29 rfl rfl (fun c21 => ?_) (fun c21 => ?_)
      · have h := (if_pos c21).symm.trans h
        refine ev_iload_n (a := 0) (b := 16) rfl rfl ?_
        refine ev_i2l (a := 0) (b := 17) rfl ?_
        refine ev_lconst (a := 0) (b := 18) 0 rfl (by decide) ?_
        refine ev_ldc2 (a := 0) (b := 19) 100 rfl lcX7_164 ?_
        obtain ⟨v24, g22, e23, h⟩ := ic_b2E h
        refine ev_isI (a := 0) (b := 20) [ic_J (Int32.toInt64 x3), ic_J 0, ic_J 100] rfl okX7_in rfl lmX7_42 rfl (Nat.le_of_ble_eq_true rfl) (eX7_in e23) (Nat.le_of_ble_eq_true rfl) rfl ?_
        refine ev_ifne (a := 0) (b := 21) 47 rfl rfl (fun c25 => ?_) (fun c25 => ?_)
        · have h := (if_neg c25).symm.trans h
          refine ev_aload_n (a := 0) (b := 26) rfl rfl ?_
          refine ev_get (a := 0) (b := 27) 7 0 rfl rfl (Nat.le_of_ble_eq_true rfl) lfX7_7 (gX7_d) ?_
          refine ev_aload_n (a := 0) (b := 28) rfl rfl ?_
          refine ev_get (a := 0) (b := 29) 7 2 rfl rfl (Nat.le_of_ble_eq_true rfl) lfX7_16 (gX7_aside) ?_
          obtain ⟨g26, e27, h⟩ := ic_b1E h
          refine ev_isV (a := 0) (b := 30) [ic_R 17 0 0, ic_R 17 2 0] rfl okX7_copies rfl lmX7_160 rfl (Nat.le_of_ble_eq_true rfl) (eX7_copies e27) (Nat.le_of_ble_eq_true rfl) rfl ?_
          refine ev_aload_n (a := 0) (b := 31) rfl rfl ?_
          refine ev_iload_n (a := 1) (b := 0) rfl rfl ?_
          refine ev_bipush (a := 1) (b := 1) 7 rfl (by decide) ?_
          refine ev_bipush (a := 1) (b := 2) 8 rfl (by decide) ?_
          refine ev_iload_n (a := 1) (b := 3) rfl rfl ?_
          refine ev_imul (a := 1) (b := 4) rfl ?_
          refine ev_iadd (a := 1) (b := 5) rfl ?_
          refine ev_iload_n (a := 1) (b := 6) rfl rfl ?_
          refine ev_iadd (a := 1) (b := 7) rfl ?_
          obtain ⟨v30, g28, e29, h⟩ := ic_b2E h
          refine ev_ivI (a := 1) (b := 8) [ic_I x3, ic_I ((7 + (8 * x2)) + x1)] rfl okX7_behind rfl lmX7_166 rfl (rc16) (Nat.le_of_ble_eq_true rfl) (eX7_behind e29) (Nat.le_of_ble_eq_true rfl) rfl ?_
          obtain ⟨rfl, rfl⟩ := ic_s2 h
          exact ev_ireturn (a := 1) (b := 9) rfl rfl rfl
        · have h := (if_pos c25).symm.trans h
          refine ev_aload_n (a := 0) (b := 22) rfl rfl ?_
          refine ev_iconst (a := 0) (b := 23) 0 rfl (by decide) ?_
          obtain ⟨v33, g31, e32, h⟩ := ic_b2E h
          refine ev_ivI (a := 0) (b := 24) [ic_I 0] rfl okX7_finds rfl lmX7_117 rfl (rc16) (Nat.le_of_ble_eq_true rfl) (eX7_finds e32) (Nat.le_of_ble_eq_true rfl) rfl ?_
          obtain ⟨rfl, rfl⟩ := ic_s2 h
          exact ev_ireturn (a := 0) (b := 25) rfl rfl rfl
      · have h := (if_neg c21).symm.trans h
        refine ev_iload_n (a := 0) (b := 10) rfl rfl ?_
        refine ev_iconst (a := 0) (b := 11) 5 rfl (by decide) ?_
        refine ev_iceq (a := 0) (b := 12) 29 rfl rfl (fun c34 => ?_) (fun c34 => ?_)
        · have h := (if_pos c34).symm.trans h
          refine ev_iload_n (a := 0) (b := 16) rfl rfl ?_
          refine ev_i2l (a := 0) (b := 17) rfl ?_
          refine ev_lconst (a := 0) (b := 18) 0 rfl (by decide) ?_
          refine ev_ldc2 (a := 0) (b := 19) 100 rfl lcX7_164 ?_
          obtain ⟨v37, g35, e36, h⟩ := ic_b2E h
          refine ev_isI (a := 0) (b := 20) [ic_J (Int32.toInt64 x3), ic_J 0, ic_J 100] rfl okX7_in rfl lmX7_42 rfl (Nat.le_of_ble_eq_true rfl) (eX7_in e36) (Nat.le_of_ble_eq_true rfl) rfl ?_
          refine ev_ifne (a := 0) (b := 21) 47 rfl rfl (fun c38 => ?_) (fun c38 => ?_)
          · have h := (if_neg c38).symm.trans h
            refine ev_aload_n (a := 0) (b := 26) rfl rfl ?_
            refine ev_get (a := 0) (b := 27) 7 0 rfl rfl (Nat.le_of_ble_eq_true rfl) lfX7_7 (gX7_d) ?_
            refine ev_aload_n (a := 0) (b := 28) rfl rfl ?_
            refine ev_get (a := 0) (b := 29) 7 2 rfl rfl (Nat.le_of_ble_eq_true rfl) lfX7_16 (gX7_aside) ?_
            obtain ⟨g39, e40, h⟩ := ic_b1E h
            refine ev_isV (a := 0) (b := 30) [ic_R 17 0 0, ic_R 17 2 0] rfl okX7_copies rfl lmX7_160 rfl (Nat.le_of_ble_eq_true rfl) (eX7_copies e40) (Nat.le_of_ble_eq_true rfl) rfl ?_
            refine ev_aload_n (a := 0) (b := 31) rfl rfl ?_
            refine ev_iload_n (a := 1) (b := 0) rfl rfl ?_
            refine ev_bipush (a := 1) (b := 1) 7 rfl (by decide) ?_
            refine ev_bipush (a := 1) (b := 2) 8 rfl (by decide) ?_
            refine ev_iload_n (a := 1) (b := 3) rfl rfl ?_
            refine ev_imul (a := 1) (b := 4) rfl ?_
            refine ev_iadd (a := 1) (b := 5) rfl ?_
            refine ev_iload_n (a := 1) (b := 6) rfl rfl ?_
            refine ev_iadd (a := 1) (b := 7) rfl ?_
            obtain ⟨v43, g41, e42, h⟩ := ic_b2E h
            refine ev_ivI (a := 1) (b := 8) [ic_I x3, ic_I ((7 + (8 * x2)) + x1)] rfl okX7_behind rfl lmX7_166 rfl (rc16) (Nat.le_of_ble_eq_true rfl) (eX7_behind e42) (Nat.le_of_ble_eq_true rfl) rfl ?_
            obtain ⟨rfl, rfl⟩ := ic_s2 h
            exact ev_ireturn (a := 1) (b := 9) rfl rfl rfl
          · have h := (if_pos c38).symm.trans h
            refine ev_aload_n (a := 0) (b := 22) rfl rfl ?_
            refine ev_iconst (a := 0) (b := 23) 0 rfl (by decide) ?_
            obtain ⟨v46, g44, e45, h⟩ := ic_b2E h
            refine ev_ivI (a := 0) (b := 24) [ic_I 0] rfl okX7_finds rfl lmX7_117 rfl (rc16) (Nat.le_of_ble_eq_true rfl) (eX7_finds e45) (Nat.le_of_ble_eq_true rfl) rfl ?_
            obtain ⟨rfl, rfl⟩ := ic_s2 h
            exact ev_ireturn (a := 0) (b := 25) rfl rfl rfl
        · have h := (if_neg c34).symm.trans h
          refine ev_iload_n (a := 0) (b := 13) rfl rfl ?_
          refine ev_bipush (a := 0) (b := 14) 6 rfl (by decide) ?_
          refine ev_icne (a := 0) (b := 15) 41 rfl rfl (fun c47 => ?_) (fun c47 => ?_)
          · have h := (if_neg c47).symm.trans h
            refine ev_aload_n (a := 0) (b := 22) rfl rfl ?_
            refine ev_iconst (a := 0) (b := 23) 0 rfl (by decide) ?_
            obtain ⟨v50, g48, e49, h⟩ := ic_b2E h
            refine ev_ivI (a := 0) (b := 24) [ic_I 0] rfl okX7_finds rfl lmX7_117 rfl (rc16) (Nat.le_of_ble_eq_true rfl) (eX7_finds e49) (Nat.le_of_ble_eq_true rfl) rfl ?_
            obtain ⟨rfl, rfl⟩ := ic_s2 h
            exact ev_ireturn (a := 0) (b := 25) rfl rfl rfl
          · have h := (if_pos c47).symm.trans h
            refine ev_iload_n (a := 0) (b := 16) rfl rfl ?_
            refine ev_i2l (a := 0) (b := 17) rfl ?_
            refine ev_lconst (a := 0) (b := 18) 0 rfl (by decide) ?_
            refine ev_ldc2 (a := 0) (b := 19) 100 rfl lcX7_164 ?_
            obtain ⟨v53, g51, e52, h⟩ := ic_b2E h
            refine ev_isI (a := 0) (b := 20) [ic_J (Int32.toInt64 x3), ic_J 0, ic_J 100] rfl okX7_in rfl lmX7_42 rfl (Nat.le_of_ble_eq_true rfl) (eX7_in e52) (Nat.le_of_ble_eq_true rfl) rfl ?_
            refine ev_ifne (a := 0) (b := 21) 47 rfl rfl (fun c54 => ?_) (fun c54 => ?_)
            · have h := (if_neg c54).symm.trans h
              refine ev_aload_n (a := 0) (b := 26) rfl rfl ?_
              refine ev_get (a := 0) (b := 27) 7 0 rfl rfl (Nat.le_of_ble_eq_true rfl) lfX7_7 (gX7_d) ?_
              refine ev_aload_n (a := 0) (b := 28) rfl rfl ?_
              refine ev_get (a := 0) (b := 29) 7 2 rfl rfl (Nat.le_of_ble_eq_true rfl) lfX7_16 (gX7_aside) ?_
              obtain ⟨g55, e56, h⟩ := ic_b1E h
              refine ev_isV (a := 0) (b := 30) [ic_R 17 0 0, ic_R 17 2 0] rfl okX7_copies rfl lmX7_160 rfl (Nat.le_of_ble_eq_true rfl) (eX7_copies e56) (Nat.le_of_ble_eq_true rfl) rfl ?_
              refine ev_aload_n (a := 0) (b := 31) rfl rfl ?_
              refine ev_iload_n (a := 1) (b := 0) rfl rfl ?_
              refine ev_bipush (a := 1) (b := 1) 7 rfl (by decide) ?_
              refine ev_bipush (a := 1) (b := 2) 8 rfl (by decide) ?_
              refine ev_iload_n (a := 1) (b := 3) rfl rfl ?_
              refine ev_imul (a := 1) (b := 4) rfl ?_
              refine ev_iadd (a := 1) (b := 5) rfl ?_
              refine ev_iload_n (a := 1) (b := 6) rfl rfl ?_
              refine ev_iadd (a := 1) (b := 7) rfl ?_
              obtain ⟨v59, g57, e58, h⟩ := ic_b2E h
              refine ev_ivI (a := 1) (b := 8) [ic_I x3, ic_I ((7 + (8 * x2)) + x1)] rfl okX7_behind rfl lmX7_166 rfl (rc16) (Nat.le_of_ble_eq_true rfl) (eX7_behind e58) (Nat.le_of_ble_eq_true rfl) rfl ?_
              obtain ⟨rfl, rfl⟩ := ic_s2 h
              exact ev_ireturn (a := 1) (b := 9) rfl rfl rfl
            · have h := (if_pos c54).symm.trans h
              refine ev_aload_n (a := 0) (b := 22) rfl rfl ?_
              refine ev_iconst (a := 0) (b := 23) 0 rfl (by decide) ?_
              obtain ⟨v62, g60, e61, h⟩ := ic_b2E h
              refine ev_ivI (a := 0) (b := 24) [ic_I 0] rfl okX7_finds rfl lmX7_117 rfl (rc16) (Nat.le_of_ble_eq_true rfl) (eX7_finds e61) (Nat.le_of_ble_eq_true rfl) rfl ?_
              obtain ⟨rfl, rfl⟩ := ic_s2 h
              exact ev_ireturn (a := 0) (b := 25) rfl rfl rfl
set_option maxRecDepth 20000 in
theorem eX7_where {x1 : Int32} {g g' : ic_S} {v : Int32} (h : fX7_where x1 g = some (v, g')) : ic_Ev mX7_where 0 (ic_ag 0 [ic_R 16 0 0, ic_I x1]) [] g (some (ic_I v)) g' := by
  unfold fX7_where at h
  change ic_Ev mX7_where 0 [(0, ic_R 16 0 0), (1, ic_I x1)] [] g _ _
  refine ev_iload_n (a := 0) (b := 0) rfl rfl ?_
  refine ev_i2l (a := 0) (b := 1) rfl ?_
  refine ev_lconst (a := 0) (b := 2) 0 rfl (by decide) ?_
  refine ev_ldc2 (a := 0) (b := 3) 100 rfl lcX7_164 ?_
  obtain ⟨v3, g1, e2, h⟩ := ic_b2E h
  refine ev_isI (a := 0) (b := 4) [ic_J (Int32.toInt64 x1), ic_J 0, ic_J 100] rfl okX7_in rfl lmX7_42 rfl (Nat.le_of_ble_eq_true rfl) (eX7_in e2) (Nat.le_of_ble_eq_true rfl) rfl ?_
  refine ev_ifne (a := 0) (b := 5) 18 rfl rfl (fun c4 => ?_) (fun c4 => ?_)
  · have h := (if_neg c4).symm.trans h
    refine ev_aload_n (a := 0) (b := 10) rfl rfl ?_
    refine ev_get (a := 0) (b := 11) 7 0 rfl rfl (Nat.le_of_ble_eq_true rfl) lfX7_7 (gX7_d) ?_
    refine ev_aload_n (a := 0) (b := 12) rfl rfl ?_
    refine ev_get (a := 0) (b := 13) 7 2 rfl rfl (Nat.le_of_ble_eq_true rfl) lfX7_16 (gX7_aside) ?_
    obtain ⟨g5, e6, h⟩ := ic_b1E h
    refine ev_isV (a := 0) (b := 14) [ic_R 17 0 0, ic_R 17 2 0] rfl okX7_copies rfl lmX7_160 rfl (Nat.le_of_ble_eq_true rfl) (eX7_copies e6) (Nat.le_of_ble_eq_true rfl) rfl ?_
    refine ev_aload_n (a := 0) (b := 15) rfl rfl ?_
    refine ev_iload_n (a := 0) (b := 16) rfl rfl ?_
    refine ev_iconst (a := 0) (b := 17) 3 rfl (by decide) ?_
    obtain ⟨v9, g7, e8, h⟩ := ic_b2E h
    refine ev_ivI (a := 0) (b := 18) [ic_I x1, ic_I 3] rfl okX7_behind rfl lmX7_166 rfl (rc16) (Nat.le_of_ble_eq_true rfl) (eX7_behind e8) (Nat.le_of_ble_eq_true rfl) rfl ?_
    obtain ⟨rfl, rfl⟩ := ic_s2 h
    exact ev_ireturn (a := 0) (b := 19) rfl rfl rfl
  · have h := (if_pos c4).symm.trans h
    refine ev_aload_n (a := 0) (b := 6) rfl rfl ?_
    refine ev_iconst (a := 0) (b := 7) 0 rfl (by decide) ?_
    obtain ⟨v12, g10, e11, h⟩ := ic_b2E h
    refine ev_ivI (a := 0) (b := 8) [ic_I 0] rfl okX7_finds rfl lmX7_117 rfl (rc16) (Nat.le_of_ble_eq_true rfl) (eX7_finds e11) (Nat.le_of_ble_eq_true rfl) rfl ?_
    obtain ⟨rfl, rfl⟩ := ic_s2 h
    exact ev_ireturn (a := 0) (b := 9) rfl rfl rfl
set_option maxRecDepth 20000 in
theorem tX7_firstOf_14 {x1 : Int32} {x2 : Int32} {x3 : Int32} : ∀ (n : Nat) (x4 : Int32) (g : ic_S) (q : (Int32) × ic_S), lX7_firstOf_14 x1 x2 x3 n x4 g = some q → ∀ (r : Option ic_V) (g' : ic_S), ic_Ev mX7_firstOf 49 [(0, ic_R 16 0 0), (1, ic_I x1), (2, ic_I x2), (3, ic_I x3), (4, ic_I q.1)] [] q.2 r g' → ic_Ev mX7_firstOf 14 [(0, ic_R 16 0 0), (1, ic_I x1), (2, ic_I x2), (3, ic_I x3), (4, ic_I x4)] [] g r g' := by
  intro n
  induction n with
  | zero => intro x4 g q h; cases h
  | succ n ih =>
    intro x4 g q h r g' hq
    rw [lX7_firstOf_14] at h
    refine ev_iload (a := 0) (b := 7) rfl rfl ?_
    refine ev_sipush (a := 0) (b := 8) 200 rfl (by decide) ?_
    refine ev_icge (a := 0) (b := 9) 49 rfl rfl (fun c1001 => ?_) (fun c1001 => ?_)
    · have h := (if_pos c1001).symm.trans h
      obtain rfl := ic_s1 h
      exact ev_fw (lv' := [(0, ic_R 16 0 0), (1, ic_I x1), (2, ic_I x2), (3, ic_I x3), (4, ic_I x4)]) hq (And.intro rfl (And.intro rfl (And.intro rfl (And.intro rfl (And.intro rfl trivial)))))
    · have h := (if_neg c1001).symm.trans h
      refine ev_aload_n (a := 0) (b := 10) rfl rfl ?_
      refine ev_get (a := 0) (b := 11) 7 0 rfl rfl (Nat.le_of_ble_eq_true rfl) lfX7_7 (gX7_d) ?_
      refine ev_iload_n (a := 0) (b := 12) rfl rfl ?_
      obtain ⟨h1002, h⟩ := ic_gdE h
      refine ev_iald (a := 0) (b := 13) rfl (a17 (by decide)) h1002 ?_
      refine ev_i2l (a := 0) (b := 14) rfl ?_
      refine ev_iload_n (a := 0) (b := 15) rfl rfl ?_
      refine ev_i2l (a := 0) (b := 16) rfl ?_
      refine ev_iload_n (a := 0) (b := 17) rfl rfl ?_
      refine ev_i2l (a := 0) (b := 18) rfl ?_
      obtain ⟨v1005, g1003, e1004, h⟩ := ic_b2E h
      refine ev_isI (a := 0) (b := 19) [ic_J (Int32.toInt64 (g.1 (3 + 0) (0 + (Int32.toNatClampNeg x1)))), ic_J (Int32.toInt64 x2), ic_J (Int32.toInt64 x3)] rfl okX7_in rfl lmX7_42 rfl (Nat.le_of_ble_eq_true rfl) (eX7_in e1004) (Nat.le_of_ble_eq_true rfl) rfl ?_
      refine ev_ifne (a := 0) (b := 20) 49 rfl rfl (fun c1006 => ?_) (fun c1006 => ?_)
      · have h := (if_neg c1006).symm.trans h
        obtain rfl := ic_s1 h
        exact ev_fw (lv' := [(0, ic_R 16 0 0), (1, ic_I x1), (2, ic_I x2), (3, ic_I x3), (4, ic_I x4)]) hq (And.intro rfl (And.intro rfl (And.intro rfl (And.intro rfl (And.intro rfl trivial)))))
      · have h := (if_pos c1006).symm.trans h
        refine ev_aload_n (a := 0) (b := 21) rfl rfl ?_
        obtain ⟨g1007, e1008, h⟩ := ic_b1E h
        refine ev_ivV (a := 0) (b := 22) [] rfl okX7_callGoes rfl lmX7_100 rfl (rc16) (Nat.le_of_ble_eq_true rfl) (eX7_callGoes e1008) (Nat.le_of_ble_eq_true rfl) rfl ?_
        refine ev_iinc (a := 0) (b := 23) (x4 + 1) [(0, ic_R 16 0 0), (1, ic_I x1), (2, ic_I x2), (3, ic_I x3), (4, ic_I (x4 + 1))] rfl rfl (by first | rfl | decide) (by decide) (And.intro (Or.inr (And.intro rfl rfl)) (And.intro (Or.inr (And.intro rfl rfl)) (And.intro (Or.inr (And.intro rfl rfl)) (And.intro (Or.inr (And.intro rfl rfl)) (And.intro (Or.inl rfl) trivial))))) ?_
        refine ev_goto (a := 0) (b := 24) 14 rfl rfl ?_
        refine ev_fw (lv' := [(0, ic_R 16 0 0), (1, ic_I x1), (2, ic_I x2), (3, ic_I x3), (4, ic_I (x4 + 1))]) ?_ (And.intro rfl (And.intro rfl (And.intro rfl (And.intro rfl (And.intro rfl trivial)))))
        exact ih (x4 + 1) g1007 _ h _ _ hq
set_option maxRecDepth 20000 in
theorem eX7_firstOf {x1 : Int32} {x2 : Int32} {x3 : Int32} {g g' : ic_S} {v : Int32} (h : fX7_firstOf x1 x2 x3 g = some (v, g')) : ic_Ev mX7_firstOf 0 (ic_ag 0 [ic_R 16 0 0, ic_I x1, ic_I x2, ic_I x3]) [] g (some (ic_I v)) g' := by
  unfold fX7_firstOf at h
  change ic_Ev mX7_firstOf 0 [(0, ic_R 16 0 0), (1, ic_I x1), (2, ic_I x2), (3, ic_I x3)] [] g _ _
  refine ev_aload_n (a := 0) (b := 0) rfl rfl ?_
  refine ev_get (a := 0) (b := 1) 7 0 rfl rfl (Nat.le_of_ble_eq_true rfl) lfX7_7 (gX7_d) ?_
  refine ev_aload_n (a := 0) (b := 2) rfl rfl ?_
  refine ev_get (a := 0) (b := 3) 7 2 rfl rfl (Nat.le_of_ble_eq_true rfl) lfX7_16 (gX7_aside) ?_
  obtain ⟨g1, e2, h⟩ := ic_b1E h
  refine ev_isV (a := 0) (b := 4) [ic_R 17 0 0, ic_R 17 2 0] rfl okX7_copies rfl lmX7_160 rfl (Nat.le_of_ble_eq_true rfl) (eX7_copies e2) (Nat.le_of_ble_eq_true rfl) rfl ?_
  refine ev_iconst (a := 0) (b := 5) 0 rfl (by decide) ?_
  refine ev_istore (a := 0) (b := 6) [(0, ic_R 16 0 0), (1, ic_I x1), (2, ic_I x2), (3, ic_I x3), (4, ic_I 0)] rfl (by decide) (And.intro (Or.inr (And.intro rfl rfl)) (And.intro (Or.inr (And.intro rfl rfl)) (And.intro (Or.inr (And.intro rfl rfl)) (And.intro (Or.inr (And.intro rfl rfl)) (And.intro (Or.inl rfl) trivial))))) ?_
  refine ev_fw (lv' := [(0, ic_R 16 0 0), (1, ic_I x1), (2, ic_I x2), (3, ic_I x3), (4, ic_I 0)]) ?_ (And.intro rfl (And.intro rfl (And.intro rfl (And.intro rfl (And.intro rfl trivial)))))
  obtain ⟨y3, g4, e5, h⟩ := ic_b2E h
  refine tX7_firstOf_14 (x1 := x1) (x2 := x2) (x3 := x3)  1000 0 g1 _ e5 _ _ ?_
  change ic_Ev mX7_firstOf 49 [(0, ic_R 16 0 0), (1, ic_I x1), (2, ic_I x2), (3, ic_I x3), (4, ic_I y3)] [] g4 _ _
  refine ev_aload_n (a := 0) (b := 25) rfl rfl ?_
  refine ev_get (a := 0) (b := 26) 7 0 rfl rfl (Nat.le_of_ble_eq_true rfl) lfX7_7 (gX7_d) ?_
  refine ev_iload_n (a := 0) (b := 27) rfl rfl ?_
  obtain ⟨h6, h⟩ := ic_gdE h
  refine ev_iald (a := 0) (b := 28) rfl (a17 (by decide)) h6 ?_
  refine ev_i2l (a := 0) (b := 29) rfl ?_
  refine ev_iload_n (a := 0) (b := 30) rfl rfl ?_
  refine ev_i2l (a := 0) (b := 31) rfl ?_
  refine ev_iload_n (a := 1) (b := 0) rfl rfl ?_
  refine ev_i2l (a := 1) (b := 1) rfl ?_
  obtain ⟨v9, g7, e8, h⟩ := ic_b2E h
  refine ev_isI (a := 1) (b := 2) [ic_J (Int32.toInt64 (g4.1 (3 + 0) (0 + (Int32.toNatClampNeg x1)))), ic_J (Int32.toInt64 x2), ic_J (Int32.toInt64 x3)] rfl okX7_in rfl lmX7_42 rfl (Nat.le_of_ble_eq_true rfl) (eX7_in e8) (Nat.le_of_ble_eq_true rfl) rfl ?_
  refine ev_istore (a := 1) (b := 3) [(0, ic_R 16 0 0), (4, ic_I y3), (5, ic_I v9)] rfl (by decide) (And.intro (Or.inr (And.intro rfl rfl)) (And.intro (Or.inr (And.intro rfl rfl)) (And.intro (Or.inl rfl) trivial))) ?_
  refine ev_aload_n (a := 1) (b := 4) rfl rfl ?_
  refine ev_get (a := 1) (b := 5) 7 2 rfl rfl (Nat.le_of_ble_eq_true rfl) lfX7_16 (gX7_aside) ?_
  refine ev_aload_n (a := 1) (b := 6) rfl rfl ?_
  refine ev_get (a := 1) (b := 7) 7 0 rfl rfl (Nat.le_of_ble_eq_true rfl) lfX7_7 (gX7_d) ?_
  obtain ⟨g10, e11, h⟩ := ic_b1E h
  refine ev_isV (a := 1) (b := 8) [ic_R 17 2 0, ic_R 17 0 0] rfl okX7_copies rfl lmX7_160 rfl (Nat.le_of_ble_eq_true rfl) (eX7_copies e11) (Nat.le_of_ble_eq_true rfl) rfl ?_
  refine ev_iload (a := 1) (b := 9) rfl rfl ?_
  refine ev_ifeq (a := 1) (b := 10) 86 rfl rfl (fun c12 => ?_) (fun c12 => ?_)
  · have h := (if_pos c12).symm.trans h
    refine ev_aload_n (a := 1) (b := 13) rfl rfl ?_
    refine ev_iconst (a := 1) (b := 14) 3 rfl (by decide) ?_
    obtain ⟨v15, g13, e14, h⟩ := ic_b2E h
    refine ev_ivI (a := 1) (b := 15) [ic_I 3] rfl okX7_finds rfl lmX7_117 rfl (rc16) (Nat.le_of_ble_eq_true rfl) (eX7_finds e14) (Nat.le_of_ble_eq_true rfl) rfl ?_
    obtain ⟨rfl, rfl⟩ := ic_s2 h
    exact ev_ireturn (a := 1) (b := 16) rfl rfl rfl
  · have h := (if_neg c12).symm.trans h
    refine ev_iload (a := 1) (b := 11) rfl rfl ?_
    refine ev_goto (a := 1) (b := 12) 91 rfl rfl ?_
    obtain ⟨rfl, rfl⟩ := ic_s2 h
    exact ev_ireturn (a := 1) (b := 16) rfl rfl rfl
set_option maxRecDepth 20000 in
theorem eX7_taken {x1 : Int32} {g g' : ic_S} {v : Int32} (h : fX7_taken x1 g = some (v, g')) : ic_Ev mX7_taken 0 (ic_ag 0 [ic_R 16 0 0, ic_I x1]) [] g (some (ic_I v)) g' := by
  unfold fX7_taken at h
  change ic_Ev mX7_taken 0 [(0, ic_R 16 0 0), (1, ic_I x1)] [] g _ _
  refine ev_aload_n (a := 0) (b := 0) rfl rfl ?_
  refine ev_iload_n (a := 0) (b := 1) rfl rfl ?_
  obtain ⟨v3, g1, e2, h⟩ := ic_b2E h
  refine ev_ivI (a := 0) (b := 2) [ic_I x1] rfl okX7_isThing rfl lmX7_125 rfl (rc16) (Nat.le_of_ble_eq_true rfl) (eX7_isThing e2) (Nat.le_of_ble_eq_true rfl) rfl ?_
  refine ev_ifeq (a := 0) (b := 3) 21 rfl rfl (fun c4 => ?_) (fun c4 => ?_)
  · have h := (if_pos c4).symm.trans h
    refine ev_aload_n (a := 0) (b := 12) rfl rfl ?_
    refine ev_iconst (a := 0) (b := 13) 0 rfl (by decide) ?_
    obtain ⟨v7, g5, e6, h⟩ := ic_b2E h
    refine ev_ivI (a := 0) (b := 14) [ic_I 0] rfl okX7_finds rfl lmX7_117 rfl (rc16) (Nat.le_of_ble_eq_true rfl) (eX7_finds e6) (Nat.le_of_ble_eq_true rfl) rfl ?_
    obtain ⟨rfl, rfl⟩ := ic_s2 h
    exact ev_ireturn (a := 0) (b := 15) rfl rfl rfl
  · have h := (if_neg c4).symm.trans h
    refine ev_aload_n (a := 0) (b := 4) rfl rfl ?_
    refine ev_bipush (a := 0) (b := 5) 47 rfl (by decide) ?_
    refine ev_iload_n (a := 0) (b := 6) rfl rfl ?_
    refine ev_iadd (a := 0) (b := 7) rfl ?_
    refine ev_iconst (a := 0) (b := 8) 1 rfl (by decide) ?_
    refine ev_iconst (a := 0) (b := 9) 1 rfl (by decide) ?_
    obtain ⟨v10, g8, e9, h⟩ := ic_b2E h
    refine ev_ivI (a := 0) (b := 10) [ic_I (47 + x1), ic_I 1, ic_I 1] rfl okX7_firstOf rfl lmX7_169 rfl (rc16) (Nat.le_of_ble_eq_true rfl) (eX7_firstOf e9) (Nat.le_of_ble_eq_true rfl) rfl ?_
    refine ev_goto (a := 0) (b := 11) 26 rfl rfl ?_
    obtain ⟨rfl, rfl⟩ := ic_s2 h
    exact ev_ireturn (a := 0) (b := 15) rfl rfl rfl
set_option maxRecDepth 20000 in
theorem eX7_when {x1 : Int32} {x2 : Int32} {g g' : ic_S} {v : Int32} (h : fX7_when x1 x2 g = some (v, g')) : ic_Ev mX7_when 0 (ic_ag 0 [ic_R 16 0 0, ic_I x1, ic_I x2]) [] g (some (ic_I v)) g' := by
  unfold fX7_when at h
  change ic_Ev mX7_when 0 [(0, ic_R 16 0 0), (1, ic_I x1), (2, ic_I x2)] [] g _ _
  refine ev_aload_n (a := 0) (b := 0) rfl rfl ?_
  refine ev_iload_n (a := 0) (b := 1) rfl rfl ?_
  obtain ⟨v3, g1, e2, h⟩ := ic_b2E h
  refine ev_ivI (a := 0) (b := 2) [ic_I x1] rfl okX7_isThing rfl lmX7_125 rfl (rc16) (Nat.le_of_ble_eq_true rfl) (eX7_isThing e2) (Nat.le_of_ble_eq_true rfl) rfl ?_
  refine ev_ifeq (a := 0) (b := 3) 28 rfl rfl (fun c4 => ?_) (fun c4 => ?_)
  · have h := (if_pos c4).symm.trans h
    refine ev_aload_n (a := 0) (b := 15) rfl rfl ?_
    refine ev_iconst (a := 0) (b := 16) 0 rfl (by decide) ?_
    obtain ⟨v7, g5, e6, h⟩ := ic_b2E h
    refine ev_ivI (a := 0) (b := 17) [ic_I 0] rfl okX7_finds rfl lmX7_117 rfl (rc16) (Nat.le_of_ble_eq_true rfl) (eX7_finds e6) (Nat.le_of_ble_eq_true rfl) rfl ?_
    obtain ⟨rfl, rfl⟩ := ic_s2 h
    exact ev_ireturn (a := 0) (b := 18) rfl rfl rfl
  · have h := (if_neg c4).symm.trans h
    refine ev_iload_n (a := 0) (b := 4) rfl rfl ?_
    obtain ⟨v10, g8, e9, h⟩ := ic_b2E h
    refine ev_isI (a := 0) (b := 5) [ic_I x2] rfl okX7_isCell rfl lmX7_103 rfl (Nat.le_of_ble_eq_true rfl) (eX7_isCell e9) (Nat.le_of_ble_eq_true rfl) rfl ?_
    refine ev_ifeq (a := 0) (b := 6) 28 rfl rfl (fun c11 => ?_) (fun c11 => ?_)
    · have h := (if_pos c11).symm.trans h
      refine ev_aload_n (a := 0) (b := 15) rfl rfl ?_
      refine ev_iconst (a := 0) (b := 16) 0 rfl (by decide) ?_
      obtain ⟨v14, g12, e13, h⟩ := ic_b2E h
      refine ev_ivI (a := 0) (b := 17) [ic_I 0] rfl okX7_finds rfl lmX7_117 rfl (rc16) (Nat.le_of_ble_eq_true rfl) (eX7_finds e13) (Nat.le_of_ble_eq_true rfl) rfl ?_
      obtain ⟨rfl, rfl⟩ := ic_s2 h
      exact ev_ireturn (a := 0) (b := 18) rfl rfl rfl
    · have h := (if_neg c11).symm.trans h
      refine ev_aload_n (a := 0) (b := 7) rfl rfl ?_
      refine ev_bipush (a := 0) (b := 8) 15 rfl (by decide) ?_
      refine ev_iload_n (a := 0) (b := 9) rfl rfl ?_
      refine ev_iadd (a := 0) (b := 10) rfl ?_
      refine ev_iload_n (a := 0) (b := 11) rfl rfl ?_
      refine ev_iload_n (a := 0) (b := 12) rfl rfl ?_
      obtain ⟨v17, g15, e16, h⟩ := ic_b2E h
      refine ev_ivI (a := 0) (b := 13) [ic_I (15 + x1), ic_I x2, ic_I x2] rfl okX7_firstOf rfl lmX7_169 rfl (rc16) (Nat.le_of_ble_eq_true rfl) (eX7_firstOf e16) (Nat.le_of_ble_eq_true rfl) rfl ?_
      refine ev_goto (a := 0) (b := 14) 33 rfl rfl ?_
      obtain ⟨rfl, rfl⟩ := ic_s2 h
      exact ev_ireturn (a := 0) (b := 18) rfl rfl rfl
set_option maxRecDepth 20000 in
theorem tX7_meet_40 {x1 : Int32} {x2 : Int32} : ∀ (n : Nat) (x3 : Int32) (g : ic_S) (q : (Int32) × ic_S), lX7_meet_40 x1 x2 n x3 g = some q → ∀ (r : Option ic_V) (g' : ic_S), ic_Ev mX7_meet 72 [(0, ic_R 16 0 0), (1, ic_I x1), (2, ic_I x2), (3, ic_I q.1)] [] q.2 r g' → ic_Ev mX7_meet 40 [(0, ic_R 16 0 0), (1, ic_I x1), (2, ic_I x2), (3, ic_I x3)] [] g r g' := by
  intro n
  induction n with
  | zero => intro x3 g q h; cases h
  | succ n ih =>
    intro x3 g q h r g' hq
    rw [lX7_meet_40] at h
    refine ev_iload_n (a := 0) (b := 22) rfl rfl ?_
    refine ev_sipush (a := 0) (b := 23) 200 rfl (by decide) ?_
    refine ev_icge (a := 0) (b := 24) 72 rfl rfl (fun c1001 => ?_) (fun c1001 => ?_)
    · have h := (if_pos c1001).symm.trans h
      obtain rfl := ic_s1 h
      exact ev_fw (lv' := [(0, ic_R 16 0 0), (1, ic_I x1), (2, ic_I x2), (3, ic_I x3)]) hq (And.intro rfl (And.intro rfl (And.intro rfl (And.intro rfl trivial))))
    · have h := (if_neg c1001).symm.trans h
      refine ev_aload_n (a := 0) (b := 25) rfl rfl ?_
      refine ev_iload_n (a := 0) (b := 26) rfl rfl ?_
      refine ev_iconst (a := 0) (b := 27) 1 rfl (by decide) ?_
      obtain ⟨v1004, g1002, e1003, h⟩ := ic_b2E h
      refine ev_ivI (a := 0) (b := 28) [ic_I x1, ic_I 1] rfl okX7_its rfl lmX7_48 rfl (rc16) (Nat.le_of_ble_eq_true rfl) (eX7_its e1003) (Nat.le_of_ble_eq_true rfl) rfl ?_
      refine ev_aload_n (a := 0) (b := 29) rfl rfl ?_
      refine ev_iload_n (a := 0) (b := 30) rfl rfl ?_
      refine ev_iconst (a := 0) (b := 31) 1 rfl (by decide) ?_
      obtain ⟨v1007, g1005, e1006, h⟩ := ic_b2E h
      refine ev_ivI (a := 1) (b := 0) [ic_I x2, ic_I 1] rfl okX7_its rfl lmX7_48 rfl (rc16) (Nat.le_of_ble_eq_true rfl) (eX7_its e1006) (Nat.le_of_ble_eq_true rfl) rfl ?_
      refine ev_iceq (a := 1) (b := 1) 72 rfl rfl (fun c1008 => ?_) (fun c1008 => ?_)
      · have h := (if_pos c1008).symm.trans h
        obtain rfl := ic_s1 h
        exact ev_fw (lv' := [(0, ic_R 16 0 0), (1, ic_I x1), (2, ic_I x2), (3, ic_I x3)]) hq (And.intro rfl (And.intro rfl (And.intro rfl (And.intro rfl trivial))))
      · have h := (if_neg c1008).symm.trans h
        refine ev_aload_n (a := 1) (b := 2) rfl rfl ?_
        obtain ⟨g1009, e1010, h⟩ := ic_b1E h
        refine ev_ivV (a := 1) (b := 3) [] rfl okX7_callGoes rfl lmX7_100 rfl (rc16) (Nat.le_of_ble_eq_true rfl) (eX7_callGoes e1010) (Nat.le_of_ble_eq_true rfl) rfl ?_
        refine ev_iinc (a := 1) (b := 4) (x3 + 1) [(0, ic_R 16 0 0), (1, ic_I x1), (2, ic_I x2), (3, ic_I (x3 + 1))] rfl rfl (by first | rfl | decide) (by decide) (And.intro (Or.inr (And.intro rfl rfl)) (And.intro (Or.inr (And.intro rfl rfl)) (And.intro (Or.inr (And.intro rfl rfl)) (And.intro (Or.inl rfl) trivial)))) ?_
        refine ev_goto (a := 1) (b := 5) 40 rfl rfl ?_
        refine ev_fw (lv' := [(0, ic_R 16 0 0), (1, ic_I x1), (2, ic_I x2), (3, ic_I (x3 + 1))]) ?_ (And.intro rfl (And.intro rfl (And.intro rfl (And.intro rfl trivial))))
        exact ih (x3 + 1) g1009 _ h _ _ hq
set_option maxRecDepth 20000 in
theorem eX7_meet {x1 : Int32} {x2 : Int32} {g g' : ic_S} {v : Int32} (h : fX7_meet x1 x2 g = some (v, g')) : ic_Ev mX7_meet 0 (ic_ag 0 [ic_R 16 0 0, ic_I x1, ic_I x2]) [] g (some (ic_I v)) g' := by
  unfold fX7_meet at h
  change ic_Ev mX7_meet 0 [(0, ic_R 16 0 0), (1, ic_I x1), (2, ic_I x2)] [] g _ _
  refine ev_aload_n (a := 0) (b := 0) rfl rfl ?_
  refine ev_iload_n (a := 0) (b := 1) rfl rfl ?_
  obtain ⟨v3, g1, e2, h⟩ := ic_b2E h
  refine ev_ivI (a := 0) (b := 2) [ic_I x1] rfl okX7_isThing rfl lmX7_125 rfl (rc16) (Nat.le_of_ble_eq_true rfl) (eX7_isThing e2) (Nat.le_of_ble_eq_true rfl) rfl ?_
  refine ev_ifeq (a := 0) (b := 3) 21 rfl rfl (fun c4 => ?_) (fun c4 => ?_)
  · have h := (if_pos c4).symm.trans h
    refine ev_aload_n (a := 0) (b := 11) rfl rfl ?_
    refine ev_iconst (a := 0) (b := 12) 0 rfl (by decide) ?_
    obtain ⟨v7, g5, e6, h⟩ := ic_b2E h
    refine ev_ivI (a := 0) (b := 13) [ic_I 0] rfl okX7_finds rfl lmX7_117 rfl (rc16) (Nat.le_of_ble_eq_true rfl) (eX7_finds e6) (Nat.le_of_ble_eq_true rfl) rfl ?_
    obtain ⟨rfl, rfl⟩ := ic_s2 h
    exact ev_ireturn (a := 0) (b := 14) rfl rfl rfl
  · have h := (if_neg c4).symm.trans h
    refine ev_aload_n (a := 0) (b := 4) rfl rfl ?_
    refine ev_iload_n (a := 0) (b := 5) rfl rfl ?_
    obtain ⟨v10, g8, e9, h⟩ := ic_b2E h
    refine ev_ivI (a := 0) (b := 6) [ic_I x2] rfl okX7_isThing rfl lmX7_125 rfl (rc16) (Nat.le_of_ble_eq_true rfl) (eX7_isThing e9) (Nat.le_of_ble_eq_true rfl) rfl ?_
    refine ev_ifeq (a := 0) (b := 7) 21 rfl rfl (fun c11 => ?_) (fun c11 => ?_)
    · have h := (if_pos c11).symm.trans h
      refine ev_aload_n (a := 0) (b := 11) rfl rfl ?_
      refine ev_iconst (a := 0) (b := 12) 0 rfl (by decide) ?_
      obtain ⟨v14, g12, e13, h⟩ := ic_b2E h
      refine ev_ivI (a := 0) (b := 13) [ic_I 0] rfl okX7_finds rfl lmX7_117 rfl (rc16) (Nat.le_of_ble_eq_true rfl) (eX7_finds e13) (Nat.le_of_ble_eq_true rfl) rfl ?_
      obtain ⟨rfl, rfl⟩ := ic_s2 h
      exact ev_ireturn (a := 0) (b := 14) rfl rfl rfl
    · have h := (if_neg c11).symm.trans h
      refine ev_iload_n (a := 0) (b := 8) rfl rfl ?_
      refine ev_iload_n (a := 0) (b := 9) rfl rfl ?_
      refine ev_icne (a := 0) (b := 10) 27 rfl rfl (fun c15 => ?_) (fun c15 => ?_)
      · have h := (if_neg c15).symm.trans h
        refine ev_aload_n (a := 0) (b := 15) rfl rfl ?_
        refine ev_get (a := 0) (b := 16) 7 0 rfl rfl (Nat.le_of_ble_eq_true rfl) lfX7_7 (gX7_d) ?_
        refine ev_aload_n (a := 0) (b := 17) rfl rfl ?_
        refine ev_get (a := 0) (b := 18) 7 2 rfl rfl (Nat.le_of_ble_eq_true rfl) lfX7_16 (gX7_aside) ?_
        obtain ⟨g16, e17, h⟩ := ic_b1E h
        refine ev_isV (a := 0) (b := 19) [ic_R 17 0 0, ic_R 17 2 0] rfl okX7_copies rfl lmX7_160 rfl (Nat.le_of_ble_eq_true rfl) (eX7_copies e17) (Nat.le_of_ble_eq_true rfl) rfl ?_
        refine ev_iconst (a := 0) (b := 20) 0 rfl (by decide) ?_
        refine ev_istore_n (a := 0) (b := 21) [(0, ic_R 16 0 0), (1, ic_I x1), (2, ic_I x2), (3, ic_I 0)] rfl (by decide) (And.intro (Or.inr (And.intro rfl rfl)) (And.intro (Or.inr (And.intro rfl rfl)) (And.intro (Or.inr (And.intro rfl rfl)) (And.intro (Or.inl rfl) trivial)))) ?_
        refine ev_fw (lv' := [(0, ic_R 16 0 0), (1, ic_I x1), (2, ic_I x2), (3, ic_I 0)]) ?_ (And.intro rfl (And.intro rfl (And.intro rfl (And.intro rfl trivial))))
        obtain ⟨y18, g19, e20, h⟩ := ic_b2E h
        refine tX7_meet_40 (x1 := x1) (x2 := x2)  1000 0 g16 _ e20 _ _ ?_
        change ic_Ev mX7_meet 72 [(0, ic_R 16 0 0), (1, ic_I x1), (2, ic_I x2), (3, ic_I y18)] [] g19 _ _
        refine ev_aload_n (a := 1) (b := 6) rfl rfl ?_
        refine ev_iload_n (a := 1) (b := 7) rfl rfl ?_
        refine ev_iconst (a := 1) (b := 8) 1 rfl (by decide) ?_
        obtain ⟨v23, g21, e22, h⟩ := ic_b2E h
        refine ev_ivI (a := 1) (b := 9) [ic_I x1, ic_I 1] rfl okX7_its rfl lmX7_48 rfl (rc16) (Nat.le_of_ble_eq_true rfl) (eX7_its e22) (Nat.le_of_ble_eq_true rfl) rfl ?_
        refine ev_aload_n (a := 1) (b := 10) rfl rfl ?_
        refine ev_iload_n (a := 1) (b := 11) rfl rfl ?_
        refine ev_iconst (a := 1) (b := 12) 1 rfl (by decide) ?_
        obtain ⟨v26, g24, e25, h⟩ := ic_b2E h
        refine ev_ivI (a := 1) (b := 13) [ic_I x2, ic_I 1] rfl okX7_its rfl lmX7_48 rfl (rc16) (Nat.le_of_ble_eq_true rfl) (eX7_its e25) (Nat.le_of_ble_eq_true rfl) rfl ?_
        refine ev_icne (a := 1) (b := 14) 91 rfl rfl (fun c27 => ?_) (fun c27 => ?_)
        · have h := (if_neg c27).symm.trans h
          refine ev_iconst (a := 1) (b := 17) 0 rfl (by decide) ?_
          refine ev_istore (a := 1) (b := 18) [(0, ic_R 16 0 0), (3, ic_I y18), (4, ic_I 0)] rfl (by decide) (And.intro (Or.inr (And.intro rfl rfl)) (And.intro (Or.inr (And.intro rfl rfl)) (And.intro (Or.inl rfl) trivial))) ?_
          refine ev_aload_n (a := 1) (b := 19) rfl rfl ?_
          refine ev_get (a := 1) (b := 20) 7 2 rfl rfl (Nat.le_of_ble_eq_true rfl) lfX7_16 (gX7_aside) ?_
          refine ev_aload_n (a := 1) (b := 21) rfl rfl ?_
          refine ev_get (a := 1) (b := 22) 7 0 rfl rfl (Nat.le_of_ble_eq_true rfl) lfX7_7 (gX7_d) ?_
          obtain ⟨g28, e29, h⟩ := ic_b1E h
          refine ev_isV (a := 1) (b := 23) [ic_R 17 2 0, ic_R 17 0 0] rfl okX7_copies rfl lmX7_160 rfl (Nat.le_of_ble_eq_true rfl) (eX7_copies e29) (Nat.le_of_ble_eq_true rfl) rfl ?_
          refine ev_iload (a := 1) (b := 24) rfl rfl ?_
          refine ev_ifeq (a := 1) (b := 25) 114 rfl rfl (fun _ => ?_) (fun c => absurd (by decide) c)
          refine ev_aload_n (a := 1) (b := 28) rfl rfl ?_
          refine ev_iconst (a := 1) (b := 29) 3 rfl (by decide) ?_
          obtain ⟨v32, g30, e31, h⟩ := ic_b2E h
          refine ev_ivI (a := 1) (b := 30) [ic_I 3] rfl okX7_finds rfl lmX7_117 rfl (rc16) (Nat.le_of_ble_eq_true rfl) (eX7_finds e31) (Nat.le_of_ble_eq_true rfl) rfl ?_
          obtain ⟨rfl, rfl⟩ := ic_s2 h
          exact ev_ireturn (a := 1) (b := 31) rfl rfl rfl
        · have h := (if_pos c27).symm.trans h
          refine ev_iconst (a := 1) (b := 15) 1 rfl (by decide) ?_
          refine ev_goto (a := 1) (b := 16) 92 rfl rfl ?_
          refine ev_istore (a := 1) (b := 18) [(0, ic_R 16 0 0), (3, ic_I y18), (4, ic_I 1)] rfl (by decide) (And.intro (Or.inr (And.intro rfl rfl)) (And.intro (Or.inr (And.intro rfl rfl)) (And.intro (Or.inl rfl) trivial))) ?_
          refine ev_aload_n (a := 1) (b := 19) rfl rfl ?_
          refine ev_get (a := 1) (b := 20) 7 2 rfl rfl (Nat.le_of_ble_eq_true rfl) lfX7_16 (gX7_aside) ?_
          refine ev_aload_n (a := 1) (b := 21) rfl rfl ?_
          refine ev_get (a := 1) (b := 22) 7 0 rfl rfl (Nat.le_of_ble_eq_true rfl) lfX7_7 (gX7_d) ?_
          obtain ⟨g33, e34, h⟩ := ic_b1E h
          refine ev_isV (a := 1) (b := 23) [ic_R 17 2 0, ic_R 17 0 0] rfl okX7_copies rfl lmX7_160 rfl (Nat.le_of_ble_eq_true rfl) (eX7_copies e34) (Nat.le_of_ble_eq_true rfl) rfl ?_
          refine ev_iload (a := 1) (b := 24) rfl rfl ?_
          refine ev_ifeq (a := 1) (b := 25) 114 rfl rfl (fun c => absurd c (by decide)) (fun _ => ?_)
          refine ev_iload_n (a := 1) (b := 26) rfl rfl ?_
          refine ev_goto (a := 1) (b := 27) 119 rfl rfl ?_
          obtain ⟨rfl, rfl⟩ := ic_s2 h
          exact ev_ireturn (a := 1) (b := 31) rfl rfl rfl
      · have h := (if_pos c15).symm.trans h
        refine ev_aload_n (a := 0) (b := 11) rfl rfl ?_
        refine ev_iconst (a := 0) (b := 12) 0 rfl (by decide) ?_
        obtain ⟨v37, g35, e36, h⟩ := ic_b2E h
        refine ev_ivI (a := 0) (b := 13) [ic_I 0] rfl okX7_finds rfl lmX7_117 rfl (rc16) (Nat.le_of_ble_eq_true rfl) (eX7_finds e36) (Nat.le_of_ble_eq_true rfl) rfl ?_
        obtain ⟨rfl, rfl⟩ := ic_s2 h
        exact ev_ireturn (a := 0) (b := 14) rfl rfl rfl
set_option maxRecDepth 20000 in
theorem eX7_strained {x1 : Int32} {x2 : Int32} {g g' : ic_S} {v : Int32} (h : fX7_strained x1 x2 g = some (v, g')) : ic_Ev mX7_strained 0 (ic_ag 0 [ic_R 16 0 0, ic_I x1, ic_I x2]) [] g (some (ic_I v)) g' := by
  unfold fX7_strained at h
  change ic_Ev mX7_strained 0 [(0, ic_R 16 0 0), (1, ic_I x1), (2, ic_I x2)] [] g _ _
  refine ev_aload_n (a := 0) (b := 0) rfl rfl ?_
  refine ev_iload_n (a := 0) (b := 1) rfl rfl ?_
  obtain ⟨v3, g1, e2, h⟩ := ic_b2E h
  refine ev_ivI (a := 0) (b := 2) [ic_I x1] rfl okX7_isThing rfl lmX7_125 rfl (rc16) (Nat.le_of_ble_eq_true rfl) (eX7_isThing e2) (Nat.le_of_ble_eq_true rfl) rfl ?_
  refine ev_ifeq (a := 0) (b := 3) 35 rfl rfl (fun c4 => ?_) (fun c4 => ?_)
  · have h := (if_pos c4).symm.trans h
    refine ev_aload_n (a := 0) (b := 18) rfl rfl ?_
    refine ev_iconst (a := 0) (b := 19) 0 rfl (by decide) ?_
    obtain ⟨v7, g5, e6, h⟩ := ic_b2E h
    refine ev_ivI (a := 0) (b := 20) [ic_I 0] rfl okX7_finds rfl lmX7_117 rfl (rc16) (Nat.le_of_ble_eq_true rfl) (eX7_finds e6) (Nat.le_of_ble_eq_true rfl) rfl ?_
    obtain ⟨rfl, rfl⟩ := ic_s2 h
    exact ev_ireturn (a := 0) (b := 21) rfl rfl rfl
  · have h := (if_neg c4).symm.trans h
    refine ev_iload_n (a := 0) (b := 4) rfl rfl ?_
    refine ev_i2l (a := 0) (b := 5) rfl ?_
    refine ev_lconst (a := 0) (b := 6) 0 rfl (by decide) ?_
    refine ev_ldc2 (a := 0) (b := 7) 999 rfl lcX7_132 ?_
    obtain ⟨v10, g8, e9, h⟩ := ic_b2E h
    refine ev_isI (a := 0) (b := 8) [ic_J (Int32.toInt64 x2), ic_J 0, ic_J 999] rfl okX7_in rfl lmX7_42 rfl (Nat.le_of_ble_eq_true rfl) (eX7_in e9) (Nat.le_of_ble_eq_true rfl) rfl ?_
    refine ev_ifeq (a := 0) (b := 9) 35 rfl rfl (fun c11 => ?_) (fun c11 => ?_)
    · have h := (if_pos c11).symm.trans h
      refine ev_aload_n (a := 0) (b := 18) rfl rfl ?_
      refine ev_iconst (a := 0) (b := 19) 0 rfl (by decide) ?_
      obtain ⟨v14, g12, e13, h⟩ := ic_b2E h
      refine ev_ivI (a := 0) (b := 20) [ic_I 0] rfl okX7_finds rfl lmX7_117 rfl (rc16) (Nat.le_of_ble_eq_true rfl) (eX7_finds e13) (Nat.le_of_ble_eq_true rfl) rfl ?_
      obtain ⟨rfl, rfl⟩ := ic_s2 h
      exact ev_ireturn (a := 0) (b := 21) rfl rfl rfl
    · have h := (if_neg c11).symm.trans h
      refine ev_aload_n (a := 0) (b := 10) rfl rfl ?_
      refine ev_bipush (a := 0) (b := 11) 31 rfl (by decide) ?_
      refine ev_iload_n (a := 0) (b := 12) rfl rfl ?_
      refine ev_iadd (a := 0) (b := 13) rfl ?_
      refine ev_iload_n (a := 0) (b := 14) rfl rfl ?_
      refine ev_sipush (a := 0) (b := 15) 999 rfl (by decide) ?_
      obtain ⟨v17, g15, e16, h⟩ := ic_b2E h
      refine ev_ivI (a := 0) (b := 16) [ic_I (31 + x1), ic_I x2, ic_I 999] rfl okX7_firstOf rfl lmX7_169 rfl (rc16) (Nat.le_of_ble_eq_true rfl) (eX7_firstOf e16) (Nat.le_of_ble_eq_true rfl) rfl ?_
      refine ev_goto (a := 0) (b := 17) 40 rfl rfl ?_
      obtain ⟨rfl, rfl⟩ := ic_s2 h
      exact ev_ireturn (a := 0) (b := 21) rfl rfl rfl
set_option maxRecDepth 20000 in
theorem eX7_isShort {x0 : Int32} {g g' : ic_S} {v : Int32} (h : fX7_isShort x0 g = some (v, g')) : ic_Ev mX7_isShort 0 (ic_ag 0 [ic_I x0]) [] g (some (ic_I v)) g' := by
  unfold fX7_isShort at h
  change ic_Ev mX7_isShort 0 [(0, ic_I x0)] [] g _ _
  refine ev_iload_n (a := 0) (b := 0) rfl rfl ?_
  refine ev_i2l (a := 0) (b := 1) rfl ?_
  refine ev_lconst (a := 0) (b := 2) 0 rfl (by decide) ?_
  refine ev_ldc2 (a := 0) (b := 3) 60 rfl lcX7_139 ?_
  obtain ⟨v3, g1, e2, h⟩ := ic_b2E h
  refine ev_isI (a := 0) (b := 4) [ic_J (Int32.toInt64 x0), ic_J 0, ic_J 60] rfl okX7_in rfl lmX7_42 rfl (Nat.le_of_ble_eq_true rfl) (eX7_in e2) (Nat.le_of_ble_eq_true rfl) rfl ?_
  obtain ⟨h4, h⟩ := ic_gdE h
  obtain ⟨rfl, rfl⟩ := ic_s2 h
  exact ev_ireturn (a := 0) (b := 5) rfl rfl (ic_nzn h4).1
set_option maxRecDepth 20000 in
theorem tX7_loudFor_34 {x1 : Int32} {x2 : Int32} : ∀ (n : Nat) (x3 : Int32) (g : ic_S) (q : (Int32 × ic_S) ⊕ (Unit × ic_S)), lX7_loudFor_34 x1 x2 n x3 g = some q → ∀ (r : Option ic_V) (g' : ic_S), ic_lq q r g' (fun y z => ic_Ev mX7_loudFor 69 [(0, ic_R 16 0 0)] [] z r g') → ic_Ev mX7_loudFor 34 [(0, ic_R 16 0 0), (1, ic_I x1), (2, ic_I x2), (3, ic_I x3)] [] g r g' := by
  intro n
  induction n with
  | zero => intro x3 g q h; cases h
  | succ n ih =>
    intro x3 g q h r g' hq
    rw [lX7_loudFor_34] at h
    refine ev_iload_n (a := 0) (b := 18) rfl rfl ?_
    refine ev_bipush (a := 0) (b := 19) 21 rfl (by decide) ?_
    refine ev_icge (a := 0) (b := 20) 69 rfl rfl (fun c1001 => ?_) (fun c1001 => ?_)
    · have h := (if_pos c1001).symm.trans h
      obtain rfl := ic_s1 h
      exact ev_fw (lv' := [(0, ic_R 16 0 0)]) hq (And.intro rfl trivial)
    · have h := (if_neg c1001).symm.trans h
      refine ev_aload_n (a := 0) (b := 21) rfl rfl ?_
      refine ev_get (a := 0) (b := 22) 7 0 rfl rfl (Nat.le_of_ble_eq_true rfl) lfX7_7 (gX7_d) ?_
      refine ev_bipush (a := 0) (b := 23) 6 rfl (by decide) ?_
      refine ev_iload_n (a := 0) (b := 24) rfl rfl ?_
      obtain ⟨g1002, eg1002, h⟩ := ic_letE h
      refine ev_iastk (a := 0) (b := 25) 6 (by decide) rfl (by decide) (w17 (by decide) eg1002) ?_
      refine ev_aload_n (a := 0) (b := 26) rfl rfl ?_
      refine ev_iload_n (a := 0) (b := 27) rfl rfl ?_
      refine ev_bipush (a := 0) (b := 28) 47 rfl (by decide) ?_
      refine ev_iload_n (a := 0) (b := 29) rfl rfl ?_
      refine ev_iadd (a := 0) (b := 30) rfl ?_
      obtain ⟨v1005, g1003, e1004, h⟩ := ic_b2E h
      refine ev_ivI (a := 0) (b := 31) [ic_I x2, ic_I (47 + x1)] rfl okX7_behind rfl lmX7_166 rfl (rc16) (Nat.le_of_ble_eq_true rfl) (eX7_behind e1004) (Nat.le_of_ble_eq_true rfl) rfl ?_
      refine ev_iconst (a := 1) (b := 0) 1 rfl (by decide) ?_
      refine ev_icne (a := 1) (b := 1) 63 rfl rfl (fun c1006 => ?_) (fun c1006 => ?_)
      · have h := (if_neg c1006).symm.trans h
        refine ev_iinc (a := 1) (b := 4) (x3 + 1) [(0, ic_R 16 0 0), (1, ic_I x1), (2, ic_I x2), (3, ic_I (x3 + 1))] rfl rfl (by first | rfl | decide) (by decide) (And.intro (Or.inr (And.intro rfl rfl)) (And.intro (Or.inr (And.intro rfl rfl)) (And.intro (Or.inr (And.intro rfl rfl)) (And.intro (Or.inl rfl) trivial)))) ?_
        refine ev_goto (a := 1) (b := 5) 34 rfl rfl ?_
        refine ev_fw (lv' := [(0, ic_R 16 0 0), (1, ic_I x1), (2, ic_I x2), (3, ic_I (x3 + 1))]) ?_ (And.intro rfl (And.intro rfl (And.intro rfl (And.intro rfl trivial))))
        exact ih (x3 + 1) g1003 _ h _ _ hq
      · have h := (if_pos c1006).symm.trans h
        refine ev_iload_n (a := 1) (b := 2) rfl rfl ?_
        obtain rfl := ic_s1 h
        obtain ⟨rfl, rfl⟩ := hq
        exact ev_ireturn (a := 1) (b := 3) rfl rfl rfl
set_option maxRecDepth 20000 in
theorem eX7_loudFor {x1 : Int32} {x2 : Int32} {g g' : ic_S} {v : Int32} (h : fX7_loudFor x1 x2 g = some (v, g')) : ic_Ev mX7_loudFor 0 (ic_ag 0 [ic_R 16 0 0, ic_I x1, ic_I x2]) [] g (some (ic_I v)) g' := by
  unfold fX7_loudFor at h
  change ic_Ev mX7_loudFor 0 [(0, ic_R 16 0 0), (1, ic_I x1), (2, ic_I x2)] [] g _ _
  refine ev_aload_n (a := 0) (b := 0) rfl rfl ?_
  refine ev_iload_n (a := 0) (b := 1) rfl rfl ?_
  obtain ⟨v3, g1, e2, h⟩ := ic_b2E h
  refine ev_ivI (a := 0) (b := 2) [ic_I x1] rfl okX7_isThing rfl lmX7_125 rfl (rc16) (Nat.le_of_ble_eq_true rfl) (eX7_isThing e2) (Nat.le_of_ble_eq_true rfl) rfl ?_
  refine ev_ifeq (a := 0) (b := 3) 15 rfl rfl (fun c4 => ?_) (fun c4 => ?_)
  · have h := (if_pos c4).symm.trans h
    refine ev_aload_n (a := 0) (b := 7) rfl rfl ?_
    refine ev_iconst (a := 0) (b := 8) 0 rfl (by decide) ?_
    obtain ⟨v7, g5, e6, h⟩ := ic_b2E h
    refine ev_ivI (a := 0) (b := 9) [ic_I 0] rfl okX7_finds rfl lmX7_117 rfl (rc16) (Nat.le_of_ble_eq_true rfl) (eX7_finds e6) (Nat.le_of_ble_eq_true rfl) rfl ?_
    obtain ⟨rfl, rfl⟩ := ic_s2 h
    exact ev_ireturn (a := 0) (b := 10) rfl rfl rfl
  · have h := (if_neg c4).symm.trans h
    refine ev_iload_n (a := 0) (b := 4) rfl rfl ?_
    obtain ⟨v10, g8, e9, h⟩ := ic_b2E h
    refine ev_isI (a := 0) (b := 5) [ic_I x2] rfl okX7_isShort rfl lmX7_172 rfl (Nat.le_of_ble_eq_true rfl) (eX7_isShort e9) (Nat.le_of_ble_eq_true rfl) rfl ?_
    refine ev_ifne (a := 0) (b := 6) 21 rfl rfl (fun c11 => ?_) (fun c11 => ?_)
    · have h := (if_neg c11).symm.trans h
      refine ev_aload_n (a := 0) (b := 11) rfl rfl ?_
      refine ev_get (a := 0) (b := 12) 7 0 rfl rfl (Nat.le_of_ble_eq_true rfl) lfX7_7 (gX7_d) ?_
      refine ev_aload_n (a := 0) (b := 13) rfl rfl ?_
      refine ev_get (a := 0) (b := 14) 7 2 rfl rfl (Nat.le_of_ble_eq_true rfl) lfX7_16 (gX7_aside) ?_
      obtain ⟨g12, e13, h⟩ := ic_b1E h
      refine ev_isV (a := 0) (b := 15) [ic_R 17 0 0, ic_R 17 2 0] rfl okX7_copies rfl lmX7_160 rfl (Nat.le_of_ble_eq_true rfl) (eX7_copies e13) (Nat.le_of_ble_eq_true rfl) rfl ?_
      refine ev_iconst (a := 0) (b := 16) 0 rfl (by decide) ?_
      refine ev_istore_n (a := 0) (b := 17) [(0, ic_R 16 0 0), (1, ic_I x1), (2, ic_I x2), (3, ic_I 0)] rfl (by decide) (And.intro (Or.inr (And.intro rfl rfl)) (And.intro (Or.inr (And.intro rfl rfl)) (And.intro (Or.inr (And.intro rfl rfl)) (And.intro (Or.inl rfl) trivial)))) ?_
      refine ev_fw (lv' := [(0, ic_R 16 0 0), (1, ic_I x1), (2, ic_I x2), (3, ic_I 0)]) ?_ (And.intro rfl (And.intro rfl (And.intro rfl (And.intro rfl trivial))))
      rcases ic_bsE h with e16 | ⟨y14, g15, e16, h⟩
      · exact tX7_loudFor_34 (x1 := x1) (x2 := x2)  1000 0 g12 _ e16 _ _ ⟨rfl, rfl⟩
      · refine tX7_loudFor_34 (x1 := x1) (x2 := x2)  1000 0 g12 _ e16 _ _ ?_
        change ic_Ev mX7_loudFor 69 [(0, ic_R 16 0 0)] [] g15 _ _
        refine ev_aload_n (a := 1) (b := 6) rfl rfl ?_
        refine ev_iconst (a := 1) (b := 7) 3 rfl (by decide) ?_
        obtain ⟨v19, g17, e18, h⟩ := ic_b2E h
        refine ev_ivI (a := 1) (b := 8) [ic_I 3] rfl okX7_finds rfl lmX7_117 rfl (rc16) (Nat.le_of_ble_eq_true rfl) (eX7_finds e18) (Nat.le_of_ble_eq_true rfl) rfl ?_
        obtain ⟨rfl, rfl⟩ := ic_s2 h
        exact ev_ireturn (a := 1) (b := 9) rfl rfl rfl
    · have h := (if_pos c11).symm.trans h
      refine ev_aload_n (a := 0) (b := 7) rfl rfl ?_
      refine ev_iconst (a := 0) (b := 8) 0 rfl (by decide) ?_
      obtain ⟨v22, g20, e21, h⟩ := ic_b2E h
      refine ev_ivI (a := 0) (b := 9) [ic_I 0] rfl okX7_finds rfl lmX7_117 rfl (rc16) (Nat.le_of_ble_eq_true rfl) (eX7_finds e21) (Nat.le_of_ble_eq_true rfl) rfl ?_
      obtain ⟨rfl, rfl⟩ := ic_s2 h
      exact ev_ireturn (a := 0) (b := 10) rfl rfl rfl
set_option maxRecDepth 20000 in
theorem tX7_startFor_31 {x1 : Int32} : ∀ (n : Nat) (x2 : Int32) (x3 : Int32) (x4 : Int32) (g : ic_S) (q : (Int32) × ic_S), lX7_startFor_31 x1 n x2 x3 x4 g = some q → ∀ (r : Option ic_V) (g' : ic_S), ic_Ev mX7_startFor 86 [(2, ic_I q.1)] [] q.2 r g' → ic_Ev mX7_startFor 31 [(0, ic_R 16 0 0), (1, ic_I x1), (2, ic_I x2), (3, ic_I x3), (4, ic_I x4)] [] g r g' := by
  intro n
  induction n with
  | zero => intro x2 x3 x4 g q h; cases h
  | succ n ih =>
    intro x2 x3 x4 g q h r g' hq
    rw [lX7_startFor_31] at h
    refine ev_iload (a := 0) (b := 18) rfl rfl ?_
    refine ev_bipush (a := 0) (b := 19) 16 rfl (by decide) ?_
    refine ev_icge (a := 0) (b := 20) 86 rfl rfl (fun c1001 => ?_) (fun c1001 => ?_)
    · have h := (if_pos c1001).symm.trans h
      obtain rfl := ic_s1 h
      exact ev_fw (lv' := [(2, ic_I x2)]) hq (And.intro rfl trivial)
    · have h := (if_neg c1001).symm.trans h
      refine ev_aload_n (a := 0) (b := 21) rfl rfl ?_
      refine ev_get (a := 0) (b := 22) 7 0 rfl rfl (Nat.le_of_ble_eq_true rfl) lfX7_7 (gX7_d) ?_
      refine ev_iconst (a := 0) (b := 23) 3 rfl (by decide) ?_
      refine ev_iload (a := 0) (b := 24) rfl rfl ?_
      obtain ⟨g1002, eg1002, h⟩ := ic_letE h
      refine ev_iastk (a := 0) (b := 25) 3 (by decide) rfl (by decide) (w17 (by decide) eg1002) ?_
      refine ev_aload_n (a := 0) (b := 26) rfl rfl ?_
      refine ev_iload_n (a := 0) (b := 27) rfl rfl ?_
      obtain ⟨g1003, e1004, h⟩ := ic_b1E h
      refine ev_ivV (a := 0) (b := 28) [ic_I x1] rfl okX7_callsGo rfl lmX7_141 rfl (rc16) (Nat.le_of_ble_eq_true rfl) (eX7_callsGo e1004) (Nat.le_of_ble_eq_true rfl) rfl ?_
      refine ev_aload_n (a := 0) (b := 29) rfl rfl ?_
      obtain ⟨v1007, g1005, e1006, h⟩ := ic_b2E h
      refine ev_ivI (a := 0) (b := 30) [] rfl okX7_heavyTaken rfl lmX7_150 rfl (rc16) (Nat.le_of_ble_eq_true rfl) (eX7_heavyTaken e1006) (Nat.le_of_ble_eq_true rfl) rfl ?_
      refine ev_istore (a := 0) (b := 31) [(0, ic_R 16 0 0), (1, ic_I x1), (2, ic_I x2), (3, ic_I x3), (4, ic_I x4), (5, ic_I v1007)] rfl (by decide) (And.intro (Or.inr (And.intro rfl rfl)) (And.intro (Or.inr (And.intro rfl rfl)) (And.intro (Or.inr (And.intro rfl rfl)) (And.intro (Or.inr (And.intro rfl rfl)) (And.intro (Or.inr (And.intro rfl rfl)) (And.intro (Or.inl rfl) trivial)))))) ?_
      refine ev_aload_n (a := 1) (b := 0) rfl rfl ?_
      refine ev_get (a := 1) (b := 1) 7 2 rfl rfl (Nat.le_of_ble_eq_true rfl) lfX7_16 (gX7_aside) ?_
      refine ev_aload_n (a := 1) (b := 2) rfl rfl ?_
      refine ev_get (a := 1) (b := 3) 7 0 rfl rfl (Nat.le_of_ble_eq_true rfl) lfX7_7 (gX7_d) ?_
      obtain ⟨g1008, e1009, h⟩ := ic_b1E h
      refine ev_isV (a := 1) (b := 4) [ic_R 17 2 0, ic_R 17 0 0] rfl okX7_copies rfl lmX7_160 rfl (Nat.le_of_ble_eq_true rfl) (eX7_copies e1009) (Nat.le_of_ble_eq_true rfl) rfl ?_
      refine ev_iload (a := 1) (b := 5) rfl rfl ?_
      refine ev_iload_n (a := 1) (b := 6) rfl rfl ?_
      refine ev_icle (a := 1) (b := 7) 80 rfl rfl (fun c1010 => ?_) (fun c1010 => ?_)
      · have h := (if_pos c1010).symm.trans h
        refine ev_iinc (a := 1) (b := 12) (x4 + 1) [(0, ic_R 16 0 0), (1, ic_I x1), (2, ic_I x2), (3, ic_I x3), (4, ic_I (x4 + 1))] rfl rfl (by first | rfl | decide) (by decide) (And.intro (Or.inr (And.intro rfl rfl)) (And.intro (Or.inr (And.intro rfl rfl)) (And.intro (Or.inr (And.intro rfl rfl)) (And.intro (Or.inr (And.intro rfl rfl)) (And.intro (Or.inl rfl) trivial))))) ?_
        refine ev_goto (a := 1) (b := 13) 31 rfl rfl ?_
        refine ev_fw (lv' := [(0, ic_R 16 0 0), (1, ic_I x1), (2, ic_I x2), (3, ic_I x3), (4, ic_I (x4 + 1))]) ?_ (And.intro rfl (And.intro rfl (And.intro rfl (And.intro rfl (And.intro rfl trivial)))))
        exact ih x2 x3 (x4 + 1) g1008 _ h _ _ hq
      · have h := (if_neg c1010).symm.trans h
        refine ev_iload (a := 1) (b := 8) rfl rfl ?_
        refine ev_istore_n (a := 1) (b := 9) [(0, ic_R 16 0 0), (1, ic_I x1), (2, ic_I x4), (4, ic_I x4), (5, ic_I v1007)] rfl (by decide) (And.intro (Or.inr (And.intro rfl rfl)) (And.intro (Or.inr (And.intro rfl rfl)) (And.intro (Or.inl rfl) (And.intro (Or.inr (And.intro rfl rfl)) (And.intro (Or.inr (And.intro rfl rfl)) trivial))))) ?_
        refine ev_iload (a := 1) (b := 10) rfl rfl ?_
        refine ev_istore_n (a := 1) (b := 11) [(0, ic_R 16 0 0), (1, ic_I x1), (2, ic_I x4), (3, ic_I v1007), (4, ic_I x4)] rfl (by decide) (And.intro (Or.inr (And.intro rfl rfl)) (And.intro (Or.inr (And.intro rfl rfl)) (And.intro (Or.inr (And.intro rfl rfl)) (And.intro (Or.inl rfl) (And.intro (Or.inr (And.intro rfl rfl)) trivial))))) ?_
        refine ev_iinc (a := 1) (b := 12) (x4 + 1) [(0, ic_R 16 0 0), (1, ic_I x1), (2, ic_I x4), (3, ic_I v1007), (4, ic_I (x4 + 1))] rfl rfl (by first | rfl | decide) (by decide) (And.intro (Or.inr (And.intro rfl rfl)) (And.intro (Or.inr (And.intro rfl rfl)) (And.intro (Or.inr (And.intro rfl rfl)) (And.intro (Or.inr (And.intro rfl rfl)) (And.intro (Or.inl rfl) trivial))))) ?_
        refine ev_goto (a := 1) (b := 13) 31 rfl rfl ?_
        refine ev_fw (lv' := [(0, ic_R 16 0 0), (1, ic_I x1), (2, ic_I x4), (3, ic_I v1007), (4, ic_I (x4 + 1))]) ?_ (And.intro rfl (And.intro rfl (And.intro rfl (And.intro rfl (And.intro rfl trivial)))))
        exact ih x4 v1007 (x4 + 1) g1008 _ h _ _ hq
set_option maxRecDepth 20000 in
theorem eX7_startFor {x1 : Int32} {g g' : ic_S} {v : Int32} (h : fX7_startFor x1 g = some (v, g')) : ic_Ev mX7_startFor 0 (ic_ag 0 [ic_R 16 0 0, ic_I x1]) [] g (some (ic_I v)) g' := by
  unfold fX7_startFor at h
  change ic_Ev mX7_startFor 0 [(0, ic_R 16 0 0), (1, ic_I x1)] [] g _ _
  refine ev_iload_n (a := 0) (b := 0) rfl rfl ?_
  obtain ⟨v3, g1, e2, h⟩ := ic_b2E h
  refine ev_isI (a := 0) (b := 1) [ic_I x1] rfl okX7_isShort rfl lmX7_172 rfl (Nat.le_of_ble_eq_true rfl) (eX7_isShort e2) (Nat.le_of_ble_eq_true rfl) rfl ?_
  refine ev_ifne (a := 0) (b := 2) 13 rfl rfl (fun c4 => ?_) (fun c4 => ?_)
  · have h := (if_neg c4).symm.trans h
    refine ev_aload_n (a := 0) (b := 7) rfl rfl ?_
    refine ev_get (a := 0) (b := 8) 7 0 rfl rfl (Nat.le_of_ble_eq_true rfl) lfX7_7 (gX7_d) ?_
    refine ev_aload_n (a := 0) (b := 9) rfl rfl ?_
    refine ev_get (a := 0) (b := 10) 7 2 rfl rfl (Nat.le_of_ble_eq_true rfl) lfX7_16 (gX7_aside) ?_
    obtain ⟨g5, e6, h⟩ := ic_b1E h
    refine ev_isV (a := 0) (b := 11) [ic_R 17 0 0, ic_R 17 2 0] rfl okX7_copies rfl lmX7_160 rfl (Nat.le_of_ble_eq_true rfl) (eX7_copies e6) (Nat.le_of_ble_eq_true rfl) rfl ?_
    refine ev_iconst (a := 0) (b := 12) 0 rfl (by decide) ?_
    refine ev_istore_n (a := 0) (b := 13) [(0, ic_R 16 0 0), (1, ic_I x1), (2, ic_I 0)] rfl (by decide) (And.intro (Or.inr (And.intro rfl rfl)) (And.intro (Or.inr (And.intro rfl rfl)) (And.intro (Or.inl rfl) trivial))) ?_
    refine ev_iconst (a := 0) (b := 14) (-1) rfl (by decide) ?_
    refine ev_istore_n (a := 0) (b := 15) [(0, ic_R 16 0 0), (1, ic_I x1), (2, ic_I 0), (3, ic_I (-1))] rfl (by decide) (And.intro (Or.inr (And.intro rfl rfl)) (And.intro (Or.inr (And.intro rfl rfl)) (And.intro (Or.inr (And.intro rfl rfl)) (And.intro (Or.inl rfl) trivial)))) ?_
    refine ev_iconst (a := 0) (b := 16) 0 rfl (by decide) ?_
    refine ev_istore (a := 0) (b := 17) [(0, ic_R 16 0 0), (1, ic_I x1), (2, ic_I 0), (3, ic_I (-1)), (4, ic_I 0)] rfl (by decide) (And.intro (Or.inr (And.intro rfl rfl)) (And.intro (Or.inr (And.intro rfl rfl)) (And.intro (Or.inr (And.intro rfl rfl)) (And.intro (Or.inr (And.intro rfl rfl)) (And.intro (Or.inl rfl) trivial))))) ?_
    refine ev_fw (lv' := [(0, ic_R 16 0 0), (1, ic_I x1), (2, ic_I 0), (3, ic_I (-1)), (4, ic_I 0)]) ?_ (And.intro rfl (And.intro rfl (And.intro rfl (And.intro rfl (And.intro rfl trivial)))))
    obtain ⟨y7, g8, e9, h⟩ := ic_b2E h
    refine tX7_startFor_31 (x1 := x1)  1000 0 (-1) 0 g5 _ e9 _ _ ?_
    change ic_Ev mX7_startFor 86 [(2, ic_I y7)] [] g8 _ _
    refine ev_iload_n (a := 1) (b := 14) rfl rfl ?_
    obtain ⟨rfl, rfl⟩ := ic_s2 h
    exact ev_ireturn (a := 1) (b := 15) rfl rfl rfl
  · have h := (if_pos c4).symm.trans h
    refine ev_aload_n (a := 0) (b := 3) rfl rfl ?_
    refine ev_iconst (a := 0) (b := 4) 0 rfl (by decide) ?_
    obtain ⟨v12, g10, e11, h⟩ := ic_b2E h
    refine ev_ivI (a := 0) (b := 5) [ic_I 0] rfl okX7_finds rfl lmX7_117 rfl (rc16) (Nat.le_of_ble_eq_true rfl) (eX7_finds e11) (Nat.le_of_ble_eq_true rfl) rfl ?_
    obtain ⟨rfl, rfl⟩ := ic_s2 h
    exact ev_ireturn (a := 0) (b := 6) rfl rfl rfl
set_option maxRecDepth 20000 in
theorem tX7_bestOf_20 {x1 : Int32} {x2 : Int32} {x3 : Int32} {x4 : Int32} : ∀ (n : Nat) (x5 : Int32) (x6 : Int32) (x7 : Int32) (g : ic_S) (q : (Int32) × ic_S), lX7_bestOf_20 x1 x2 x3 x4 n x5 x6 x7 g = some q → ∀ (r : Option ic_V) (g' : ic_S), ic_Ev mX7_bestOf 67 [(5, ic_I q.1)] [] q.2 r g' → ic_Ev mX7_bestOf 20 [(0, ic_R 16 0 0), (1, ic_I x1), (2, ic_I x2), (3, ic_I x3), (4, ic_I x4), (5, ic_I x5), (6, ic_I x6), (7, ic_I x7)] [] g r g' := by
  intro n
  induction n with
  | zero => intro x5 x6 x7 g q h; cases h
  | succ n ih =>
    intro x5 x6 x7 g q h r g' hq
    rw [lX7_bestOf_20] at h
    refine ev_iload (a := 0) (b := 11) rfl rfl ?_
    refine ev_iload_n (a := 0) (b := 12) rfl rfl ?_
    refine ev_icgt (a := 0) (b := 13) 67 rfl rfl (fun c1001 => ?_) (fun c1001 => ?_)
    · have h := (if_pos c1001).symm.trans h
      obtain rfl := ic_s1 h
      exact ev_fw (lv' := [(5, ic_I x5)]) hq (And.intro rfl trivial)
    · have h := (if_neg c1001).symm.trans h
      refine ev_aload_n (a := 0) (b := 14) rfl rfl ?_
      refine ev_iload_n (a := 0) (b := 15) rfl rfl ?_
      refine ev_iload_n (a := 0) (b := 16) rfl rfl ?_
      refine ev_iload (a := 0) (b := 17) rfl rfl ?_
      obtain ⟨g1002, e1003, h⟩ := ic_b1E h
      refine ev_ivV (a := 0) (b := 18) [ic_I x1, ic_I x2, ic_I x7] rfl okX7_sets rfl lmX7_79 rfl (rc16) (Nat.le_of_ble_eq_true rfl) (eX7_sets e1003) (Nat.le_of_ble_eq_true rfl) rfl ?_
      refine ev_aload_n (a := 0) (b := 19) rfl rfl ?_
      refine ev_iload (a := 0) (b := 20) rfl rfl ?_
      refine ev_bipush (a := 0) (b := 21) 55 rfl (by decide) ?_
      refine ev_iload_n (a := 0) (b := 22) rfl rfl ?_
      refine ev_iadd (a := 0) (b := 23) rfl ?_
      obtain ⟨v1006, g1004, e1005, h⟩ := ic_b2E h
      refine ev_ivI (a := 0) (b := 24) [ic_I x4, ic_I (55 + x1)] rfl okX7_behind rfl lmX7_166 rfl (rc16) (Nat.le_of_ble_eq_true rfl) (eX7_behind e1005) (Nat.le_of_ble_eq_true rfl) rfl ?_
      refine ev_istore (a := 0) (b := 25) [(0, ic_R 16 0 0), (1, ic_I x1), (2, ic_I x2), (3, ic_I x3), (4, ic_I x4), (5, ic_I x5), (6, ic_I x6), (7, ic_I x7), (8, ic_I v1006)] rfl (by decide) (And.intro (Or.inr (And.intro rfl rfl)) (And.intro (Or.inr (And.intro rfl rfl)) (And.intro (Or.inr (And.intro rfl rfl)) (And.intro (Or.inr (And.intro rfl rfl)) (And.intro (Or.inr (And.intro rfl rfl)) (And.intro (Or.inr (And.intro rfl rfl)) (And.intro (Or.inr (And.intro rfl rfl)) (And.intro (Or.inr (And.intro rfl rfl)) (And.intro (Or.inl rfl) trivial))))))))) ?_
      refine ev_iload (a := 0) (b := 26) rfl rfl ?_
      refine ev_iload (a := 0) (b := 27) rfl rfl ?_
      refine ev_icle (a := 0) (b := 28) 61 rfl rfl (fun c1007 => ?_) (fun c1007 => ?_)
      · have h := (if_pos c1007).symm.trans h
        refine ev_iinc (a := 1) (b := 1) (x7 + 1) [(0, ic_R 16 0 0), (1, ic_I x1), (2, ic_I x2), (3, ic_I x3), (4, ic_I x4), (5, ic_I x5), (6, ic_I x6), (7, ic_I (x7 + 1))] rfl rfl (by first | rfl | decide) (by decide) (And.intro (Or.inr (And.intro rfl rfl)) (And.intro (Or.inr (And.intro rfl rfl)) (And.intro (Or.inr (And.intro rfl rfl)) (And.intro (Or.inr (And.intro rfl rfl)) (And.intro (Or.inr (And.intro rfl rfl)) (And.intro (Or.inr (And.intro rfl rfl)) (And.intro (Or.inr (And.intro rfl rfl)) (And.intro (Or.inl rfl) trivial)))))))) ?_
        refine ev_goto (a := 1) (b := 2) 20 rfl rfl ?_
        refine ev_fw (lv' := [(0, ic_R 16 0 0), (1, ic_I x1), (2, ic_I x2), (3, ic_I x3), (4, ic_I x4), (5, ic_I x5), (6, ic_I x6), (7, ic_I (x7 + 1))]) ?_ (And.intro rfl (And.intro rfl (And.intro rfl (And.intro rfl (And.intro rfl (And.intro rfl (And.intro rfl (And.intro rfl trivial))))))))
        exact ih x5 x6 (x7 + 1) g1004 _ h _ _ hq
      · have h := (if_neg c1007).symm.trans h
        refine ev_iload (a := 0) (b := 29) rfl rfl ?_
        refine ev_istore (a := 0) (b := 30) [(0, ic_R 16 0 0), (1, ic_I x1), (2, ic_I x2), (3, ic_I x3), (4, ic_I x4), (5, ic_I x7), (7, ic_I x7), (8, ic_I v1006)] rfl (by decide) (And.intro (Or.inr (And.intro rfl rfl)) (And.intro (Or.inr (And.intro rfl rfl)) (And.intro (Or.inr (And.intro rfl rfl)) (And.intro (Or.inr (And.intro rfl rfl)) (And.intro (Or.inr (And.intro rfl rfl)) (And.intro (Or.inl rfl) (And.intro (Or.inr (And.intro rfl rfl)) (And.intro (Or.inr (And.intro rfl rfl)) trivial)))))))) ?_
        refine ev_iload (a := 0) (b := 31) rfl rfl ?_
        refine ev_istore (a := 1) (b := 0) [(0, ic_R 16 0 0), (1, ic_I x1), (2, ic_I x2), (3, ic_I x3), (4, ic_I x4), (5, ic_I x7), (6, ic_I v1006), (7, ic_I x7)] rfl (by decide) (And.intro (Or.inr (And.intro rfl rfl)) (And.intro (Or.inr (And.intro rfl rfl)) (And.intro (Or.inr (And.intro rfl rfl)) (And.intro (Or.inr (And.intro rfl rfl)) (And.intro (Or.inr (And.intro rfl rfl)) (And.intro (Or.inr (And.intro rfl rfl)) (And.intro (Or.inl rfl) (And.intro (Or.inr (And.intro rfl rfl)) trivial)))))))) ?_
        refine ev_iinc (a := 1) (b := 1) (x7 + 1) [(0, ic_R 16 0 0), (1, ic_I x1), (2, ic_I x2), (3, ic_I x3), (4, ic_I x4), (5, ic_I x7), (6, ic_I v1006), (7, ic_I (x7 + 1))] rfl rfl (by first | rfl | decide) (by decide) (And.intro (Or.inr (And.intro rfl rfl)) (And.intro (Or.inr (And.intro rfl rfl)) (And.intro (Or.inr (And.intro rfl rfl)) (And.intro (Or.inr (And.intro rfl rfl)) (And.intro (Or.inr (And.intro rfl rfl)) (And.intro (Or.inr (And.intro rfl rfl)) (And.intro (Or.inr (And.intro rfl rfl)) (And.intro (Or.inl rfl) trivial)))))))) ?_
        refine ev_goto (a := 1) (b := 2) 20 rfl rfl ?_
        refine ev_fw (lv' := [(0, ic_R 16 0 0), (1, ic_I x1), (2, ic_I x2), (3, ic_I x3), (4, ic_I x4), (5, ic_I x7), (6, ic_I v1006), (7, ic_I (x7 + 1))]) ?_ (And.intro rfl (And.intro rfl (And.intro rfl (And.intro rfl (And.intro rfl (And.intro rfl (And.intro rfl (And.intro rfl trivial))))))))
        exact ih x7 v1006 (x7 + 1) g1004 _ h _ _ hq
set_option maxRecDepth 20000 in
theorem eX7_bestOf {x1 : Int32} {x2 : Int32} {x3 : Int32} {x4 : Int32} {g g' : ic_S} {v : Int32} (h : fX7_bestOf x1 x2 x3 x4 g = some (v, g')) : ic_Ev mX7_bestOf 0 (ic_ag 0 [ic_R 16 0 0, ic_I x1, ic_I x2, ic_I x3, ic_I x4]) [] g (some (ic_I v)) g' := by
  unfold fX7_bestOf at h
  change ic_Ev mX7_bestOf 0 [(0, ic_R 16 0 0), (1, ic_I x1), (2, ic_I x2), (3, ic_I x3), (4, ic_I x4)] [] g _ _
  refine ev_aload_n (a := 0) (b := 0) rfl rfl ?_
  refine ev_get (a := 0) (b := 1) 7 0 rfl rfl (Nat.le_of_ble_eq_true rfl) lfX7_7 (gX7_d) ?_
  refine ev_aload_n (a := 0) (b := 2) rfl rfl ?_
  refine ev_get (a := 0) (b := 3) 7 2 rfl rfl (Nat.le_of_ble_eq_true rfl) lfX7_16 (gX7_aside) ?_
  obtain ⟨g1, e2, h⟩ := ic_b1E h
  refine ev_isV (a := 0) (b := 4) [ic_R 17 0 0, ic_R 17 2 0] rfl okX7_copies rfl lmX7_160 rfl (Nat.le_of_ble_eq_true rfl) (eX7_copies e2) (Nat.le_of_ble_eq_true rfl) rfl ?_
  refine ev_iconst (a := 0) (b := 5) 0 rfl (by decide) ?_
  refine ev_istore (a := 0) (b := 6) [(0, ic_R 16 0 0), (1, ic_I x1), (2, ic_I x2), (3, ic_I x3), (4, ic_I x4), (5, ic_I 0)] rfl (by decide) (And.intro (Or.inr (And.intro rfl rfl)) (And.intro (Or.inr (And.intro rfl rfl)) (And.intro (Or.inr (And.intro rfl rfl)) (And.intro (Or.inr (And.intro rfl rfl)) (And.intro (Or.inr (And.intro rfl rfl)) (And.intro (Or.inl rfl) trivial)))))) ?_
  refine ev_iconst (a := 0) (b := 7) (-1) rfl (by decide) ?_
  refine ev_istore (a := 0) (b := 8) [(0, ic_R 16 0 0), (1, ic_I x1), (2, ic_I x2), (3, ic_I x3), (4, ic_I x4), (5, ic_I 0), (6, ic_I (-1))] rfl (by decide) (And.intro (Or.inr (And.intro rfl rfl)) (And.intro (Or.inr (And.intro rfl rfl)) (And.intro (Or.inr (And.intro rfl rfl)) (And.intro (Or.inr (And.intro rfl rfl)) (And.intro (Or.inr (And.intro rfl rfl)) (And.intro (Or.inr (And.intro rfl rfl)) (And.intro (Or.inl rfl) trivial))))))) ?_
  refine ev_iconst (a := 0) (b := 9) 0 rfl (by decide) ?_
  refine ev_istore (a := 0) (b := 10) [(0, ic_R 16 0 0), (1, ic_I x1), (2, ic_I x2), (3, ic_I x3), (4, ic_I x4), (5, ic_I 0), (6, ic_I (-1)), (7, ic_I 0)] rfl (by decide) (And.intro (Or.inr (And.intro rfl rfl)) (And.intro (Or.inr (And.intro rfl rfl)) (And.intro (Or.inr (And.intro rfl rfl)) (And.intro (Or.inr (And.intro rfl rfl)) (And.intro (Or.inr (And.intro rfl rfl)) (And.intro (Or.inr (And.intro rfl rfl)) (And.intro (Or.inr (And.intro rfl rfl)) (And.intro (Or.inl rfl) trivial)))))))) ?_
  refine ev_fw (lv' := [(0, ic_R 16 0 0), (1, ic_I x1), (2, ic_I x2), (3, ic_I x3), (4, ic_I x4), (5, ic_I 0), (6, ic_I (-1)), (7, ic_I 0)]) ?_ (And.intro rfl (And.intro rfl (And.intro rfl (And.intro rfl (And.intro rfl (And.intro rfl (And.intro rfl (And.intro rfl trivial))))))))
  obtain ⟨y3, g4, e5, h⟩ := ic_b2E h
  refine tX7_bestOf_20 (x1 := x1) (x2 := x2) (x3 := x3) (x4 := x4)  1000 0 (-1) 0 g1 _ e5 _ _ ?_
  change ic_Ev mX7_bestOf 67 [(5, ic_I y3)] [] g4 _ _
  refine ev_iload (a := 1) (b := 3) rfl rfl ?_
  obtain ⟨rfl, rfl⟩ := ic_s2 h
  exact ev_ireturn (a := 1) (b := 4) rfl rfl rfl
set_option maxRecDepth 20000 in
theorem eX7_layFor {x1 : Int32} {x2 : Int32} {g g' : ic_S} {v : Int32} (h : fX7_layFor x1 x2 g = some (v, g')) : ic_Ev mX7_layFor 0 (ic_ag 0 [ic_R 16 0 0, ic_I x1, ic_I x2]) [] g (some (ic_I v)) g' := by
  unfold fX7_layFor at h
  change ic_Ev mX7_layFor 0 [(0, ic_R 16 0 0), (1, ic_I x1), (2, ic_I x2)] [] g _ _
  refine ev_aload_n (a := 0) (b := 0) rfl rfl ?_
  refine ev_iload_n (a := 0) (b := 1) rfl rfl ?_
  obtain ⟨v3, g1, e2, h⟩ := ic_b2E h
  refine ev_ivI (a := 0) (b := 2) [ic_I x1] rfl okX7_isThing rfl lmX7_125 rfl (rc16) (Nat.le_of_ble_eq_true rfl) (eX7_isThing e2) (Nat.le_of_ble_eq_true rfl) rfl ?_
  refine ev_ifeq (a := 0) (b := 3) 27 rfl rfl (fun c4 => ?_) (fun c4 => ?_)
  · have h := (if_pos c4).symm.trans h
    refine ev_aload_n (a := 0) (b := 14) rfl rfl ?_
    refine ev_iconst (a := 0) (b := 15) 0 rfl (by decide) ?_
    obtain ⟨v7, g5, e6, h⟩ := ic_b2E h
    refine ev_ivI (a := 0) (b := 16) [ic_I 0] rfl okX7_finds rfl lmX7_117 rfl (rc16) (Nat.le_of_ble_eq_true rfl) (eX7_finds e6) (Nat.le_of_ble_eq_true rfl) rfl ?_
    obtain ⟨rfl, rfl⟩ := ic_s2 h
    exact ev_ireturn (a := 0) (b := 17) rfl rfl rfl
  · have h := (if_neg c4).symm.trans h
    refine ev_iload_n (a := 0) (b := 4) rfl rfl ?_
    obtain ⟨v10, g8, e9, h⟩ := ic_b2E h
    refine ev_isI (a := 0) (b := 5) [ic_I x2] rfl okX7_isShort rfl lmX7_172 rfl (Nat.le_of_ble_eq_true rfl) (eX7_isShort e9) (Nat.le_of_ble_eq_true rfl) rfl ?_
    refine ev_ifeq (a := 0) (b := 6) 27 rfl rfl (fun c11 => ?_) (fun c11 => ?_)
    · have h := (if_pos c11).symm.trans h
      refine ev_aload_n (a := 0) (b := 14) rfl rfl ?_
      refine ev_iconst (a := 0) (b := 15) 0 rfl (by decide) ?_
      obtain ⟨v14, g12, e13, h⟩ := ic_b2E h
      refine ev_ivI (a := 0) (b := 16) [ic_I 0] rfl okX7_finds rfl lmX7_117 rfl (rc16) (Nat.le_of_ble_eq_true rfl) (eX7_finds e13) (Nat.le_of_ble_eq_true rfl) rfl ?_
      obtain ⟨rfl, rfl⟩ := ic_s2 h
      exact ev_ireturn (a := 0) (b := 17) rfl rfl rfl
    · have h := (if_neg c11).symm.trans h
      refine ev_aload_n (a := 0) (b := 7) rfl rfl ?_
      refine ev_iload_n (a := 0) (b := 8) rfl rfl ?_
      refine ev_iconst (a := 0) (b := 9) 1 rfl (by decide) ?_
      refine ev_bipush (a := 0) (b := 10) 15 rfl (by decide) ?_
      refine ev_iload_n (a := 0) (b := 11) rfl rfl ?_
      obtain ⟨v17, g15, e16, h⟩ := ic_b2E h
      refine ev_ivI (a := 0) (b := 12) [ic_I x1, ic_I 1, ic_I 15, ic_I x2] rfl okX7_bestOf rfl lmX7_175 rfl (rc16) (Nat.le_of_ble_eq_true rfl) (eX7_bestOf e16) (Nat.le_of_ble_eq_true rfl) rfl ?_
      refine ev_goto (a := 0) (b := 13) 32 rfl rfl ?_
      obtain ⟨rfl, rfl⟩ := ic_s2 h
      exact ev_ireturn (a := 0) (b := 17) rfl rfl rfl
set_option maxRecDepth 20000 in
theorem eX7_kindFor {x1 : Int32} {x2 : Int32} {g g' : ic_S} {v : Int32} (h : fX7_kindFor x1 x2 g = some (v, g')) : ic_Ev mX7_kindFor 0 (ic_ag 0 [ic_R 16 0 0, ic_I x1, ic_I x2]) [] g (some (ic_I v)) g' := by
  unfold fX7_kindFor at h
  change ic_Ev mX7_kindFor 0 [(0, ic_R 16 0 0), (1, ic_I x1), (2, ic_I x2)] [] g _ _
  refine ev_aload_n (a := 0) (b := 0) rfl rfl ?_
  refine ev_iload_n (a := 0) (b := 1) rfl rfl ?_
  obtain ⟨v3, g1, e2, h⟩ := ic_b2E h
  refine ev_ivI (a := 0) (b := 2) [ic_I x1] rfl okX7_isThing rfl lmX7_125 rfl (rc16) (Nat.le_of_ble_eq_true rfl) (eX7_isThing e2) (Nat.le_of_ble_eq_true rfl) rfl ?_
  refine ev_ifeq (a := 0) (b := 3) 27 rfl rfl (fun c4 => ?_) (fun c4 => ?_)
  · have h := (if_pos c4).symm.trans h
    refine ev_aload_n (a := 0) (b := 14) rfl rfl ?_
    refine ev_iconst (a := 0) (b := 15) 0 rfl (by decide) ?_
    obtain ⟨v7, g5, e6, h⟩ := ic_b2E h
    refine ev_ivI (a := 0) (b := 16) [ic_I 0] rfl okX7_finds rfl lmX7_117 rfl (rc16) (Nat.le_of_ble_eq_true rfl) (eX7_finds e6) (Nat.le_of_ble_eq_true rfl) rfl ?_
    obtain ⟨rfl, rfl⟩ := ic_s2 h
    exact ev_ireturn (a := 0) (b := 17) rfl rfl rfl
  · have h := (if_neg c4).symm.trans h
    refine ev_iload_n (a := 0) (b := 4) rfl rfl ?_
    obtain ⟨v10, g8, e9, h⟩ := ic_b2E h
    refine ev_isI (a := 0) (b := 5) [ic_I x2] rfl okX7_isShort rfl lmX7_172 rfl (Nat.le_of_ble_eq_true rfl) (eX7_isShort e9) (Nat.le_of_ble_eq_true rfl) rfl ?_
    refine ev_ifeq (a := 0) (b := 6) 27 rfl rfl (fun c11 => ?_) (fun c11 => ?_)
    · have h := (if_pos c11).symm.trans h
      refine ev_aload_n (a := 0) (b := 14) rfl rfl ?_
      refine ev_iconst (a := 0) (b := 15) 0 rfl (by decide) ?_
      obtain ⟨v14, g12, e13, h⟩ := ic_b2E h
      refine ev_ivI (a := 0) (b := 16) [ic_I 0] rfl okX7_finds rfl lmX7_117 rfl (rc16) (Nat.le_of_ble_eq_true rfl) (eX7_finds e13) (Nat.le_of_ble_eq_true rfl) rfl ?_
      obtain ⟨rfl, rfl⟩ := ic_s2 h
      exact ev_ireturn (a := 0) (b := 17) rfl rfl rfl
    · have h := (if_neg c11).symm.trans h
      refine ev_aload_n (a := 0) (b := 7) rfl rfl ?_
      refine ev_iload_n (a := 0) (b := 8) rfl rfl ?_
      refine ev_iconst (a := 0) (b := 9) 0 rfl (by decide) ?_
      refine ev_bipush (a := 0) (b := 10) 6 rfl (by decide) ?_
      refine ev_iload_n (a := 0) (b := 11) rfl rfl ?_
      obtain ⟨v17, g15, e16, h⟩ := ic_b2E h
      refine ev_ivI (a := 0) (b := 12) [ic_I x1, ic_I 0, ic_I 6, ic_I x2] rfl okX7_bestOf rfl lmX7_175 rfl (rc16) (Nat.le_of_ble_eq_true rfl) (eX7_bestOf e16) (Nat.le_of_ble_eq_true rfl) rfl ?_
      refine ev_goto (a := 0) (b := 13) 32 rfl rfl ?_
      obtain ⟨rfl, rfl⟩ := ic_s2 h
      exact ev_ireturn (a := 0) (b := 17) rfl rfl rfl
set_option maxRecDepth 20000 in
theorem tX7_heavyFor_34 {x1 : Int32} {x2 : Int32} : ∀ (n : Nat) (x3 : Int32) (g : ic_S) (q : (Int32 × ic_S) ⊕ (Unit × ic_S)), lX7_heavyFor_34 x1 x2 n x3 g = some q → ∀ (r : Option ic_V) (g' : ic_S), ic_lq q r g' (fun y z => ic_Ev mX7_heavyFor 67 [(0, ic_R 16 0 0)] [] z r g') → ic_Ev mX7_heavyFor 34 [(0, ic_R 16 0 0), (1, ic_I x1), (2, ic_I x2), (3, ic_I x3)] [] g r g' := by
  intro n
  induction n with
  | zero => intro x3 g q h; cases h
  | succ n ih =>
    intro x3 g q h r g' hq
    rw [lX7_heavyFor_34] at h
    refine ev_iload_n (a := 0) (b := 18) rfl rfl ?_
    refine ev_bipush (a := 0) (b := 19) 99 rfl (by decide) ?_
    refine ev_icgt (a := 0) (b := 20) 67 rfl rfl (fun c1001 => ?_) (fun c1001 => ?_)
    · have h := (if_pos c1001).symm.trans h
      obtain rfl := ic_s1 h
      exact ev_fw (lv' := [(0, ic_R 16 0 0)]) hq (And.intro rfl trivial)
    · have h := (if_neg c1001).symm.trans h
      refine ev_aload_n (a := 0) (b := 21) rfl rfl ?_
      refine ev_iload_n (a := 0) (b := 22) rfl rfl ?_
      refine ev_iconst (a := 0) (b := 23) 2 rfl (by decide) ?_
      refine ev_iload_n (a := 0) (b := 24) rfl rfl ?_
      obtain ⟨g1002, e1003, h⟩ := ic_b1E h
      refine ev_ivV (a := 0) (b := 25) [ic_I x1, ic_I 2, ic_I x3] rfl okX7_sets rfl lmX7_79 rfl (rc16) (Nat.le_of_ble_eq_true rfl) (eX7_sets e1003) (Nat.le_of_ble_eq_true rfl) rfl ?_
      refine ev_aload_n (a := 0) (b := 26) rfl rfl ?_
      refine ev_iload_n (a := 0) (b := 27) rfl rfl ?_
      refine ev_bipush (a := 0) (b := 28) 47 rfl (by decide) ?_
      refine ev_iload_n (a := 0) (b := 29) rfl rfl ?_
      refine ev_iadd (a := 0) (b := 30) rfl ?_
      obtain ⟨v1006, g1004, e1005, h⟩ := ic_b2E h
      refine ev_ivI (a := 0) (b := 31) [ic_I x2, ic_I (47 + x1)] rfl okX7_behind rfl lmX7_166 rfl (rc16) (Nat.le_of_ble_eq_true rfl) (eX7_behind e1005) (Nat.le_of_ble_eq_true rfl) rfl ?_
      refine ev_ifne (a := 1) (b := 0) 61 rfl rfl (fun c1007 => ?_) (fun c1007 => ?_)
      · have h := (if_neg c1007).symm.trans h
        refine ev_iinc (a := 1) (b := 3) (x3 + 1) [(0, ic_R 16 0 0), (1, ic_I x1), (2, ic_I x2), (3, ic_I (x3 + 1))] rfl rfl (by first | rfl | decide) (by decide) (And.intro (Or.inr (And.intro rfl rfl)) (And.intro (Or.inr (And.intro rfl rfl)) (And.intro (Or.inr (And.intro rfl rfl)) (And.intro (Or.inl rfl) trivial)))) ?_
        refine ev_goto (a := 1) (b := 4) 34 rfl rfl ?_
        refine ev_fw (lv' := [(0, ic_R 16 0 0), (1, ic_I x1), (2, ic_I x2), (3, ic_I (x3 + 1))]) ?_ (And.intro rfl (And.intro rfl (And.intro rfl (And.intro rfl trivial))))
        exact ih (x3 + 1) g1004 _ h _ _ hq
      · have h := (if_pos c1007).symm.trans h
        refine ev_iload_n (a := 1) (b := 1) rfl rfl ?_
        obtain rfl := ic_s1 h
        obtain ⟨rfl, rfl⟩ := hq
        exact ev_ireturn (a := 1) (b := 2) rfl rfl rfl
set_option maxRecDepth 20000 in
theorem eX7_heavyFor {x1 : Int32} {x2 : Int32} {g g' : ic_S} {v : Int32} (h : fX7_heavyFor x1 x2 g = some (v, g')) : ic_Ev mX7_heavyFor 0 (ic_ag 0 [ic_R 16 0 0, ic_I x1, ic_I x2]) [] g (some (ic_I v)) g' := by
  unfold fX7_heavyFor at h
  change ic_Ev mX7_heavyFor 0 [(0, ic_R 16 0 0), (1, ic_I x1), (2, ic_I x2)] [] g _ _
  refine ev_aload_n (a := 0) (b := 0) rfl rfl ?_
  refine ev_iload_n (a := 0) (b := 1) rfl rfl ?_
  obtain ⟨v3, g1, e2, h⟩ := ic_b2E h
  refine ev_ivI (a := 0) (b := 2) [ic_I x1] rfl okX7_isThing rfl lmX7_125 rfl (rc16) (Nat.le_of_ble_eq_true rfl) (eX7_isThing e2) (Nat.le_of_ble_eq_true rfl) rfl ?_
  refine ev_ifeq (a := 0) (b := 3) 15 rfl rfl (fun c4 => ?_) (fun c4 => ?_)
  · have h := (if_pos c4).symm.trans h
    refine ev_aload_n (a := 0) (b := 7) rfl rfl ?_
    refine ev_iconst (a := 0) (b := 8) 0 rfl (by decide) ?_
    obtain ⟨v7, g5, e6, h⟩ := ic_b2E h
    refine ev_ivI (a := 0) (b := 9) [ic_I 0] rfl okX7_finds rfl lmX7_117 rfl (rc16) (Nat.le_of_ble_eq_true rfl) (eX7_finds e6) (Nat.le_of_ble_eq_true rfl) rfl ?_
    obtain ⟨rfl, rfl⟩ := ic_s2 h
    exact ev_ireturn (a := 0) (b := 10) rfl rfl rfl
  · have h := (if_neg c4).symm.trans h
    refine ev_iload_n (a := 0) (b := 4) rfl rfl ?_
    obtain ⟨v10, g8, e9, h⟩ := ic_b2E h
    refine ev_isI (a := 0) (b := 5) [ic_I x2] rfl okX7_isShort rfl lmX7_172 rfl (Nat.le_of_ble_eq_true rfl) (eX7_isShort e9) (Nat.le_of_ble_eq_true rfl) rfl ?_
    refine ev_ifne (a := 0) (b := 6) 21 rfl rfl (fun c11 => ?_) (fun c11 => ?_)
    · have h := (if_neg c11).symm.trans h
      refine ev_aload_n (a := 0) (b := 11) rfl rfl ?_
      refine ev_get (a := 0) (b := 12) 7 0 rfl rfl (Nat.le_of_ble_eq_true rfl) lfX7_7 (gX7_d) ?_
      refine ev_aload_n (a := 0) (b := 13) rfl rfl ?_
      refine ev_get (a := 0) (b := 14) 7 2 rfl rfl (Nat.le_of_ble_eq_true rfl) lfX7_16 (gX7_aside) ?_
      obtain ⟨g12, e13, h⟩ := ic_b1E h
      refine ev_isV (a := 0) (b := 15) [ic_R 17 0 0, ic_R 17 2 0] rfl okX7_copies rfl lmX7_160 rfl (Nat.le_of_ble_eq_true rfl) (eX7_copies e13) (Nat.le_of_ble_eq_true rfl) rfl ?_
      refine ev_iconst (a := 0) (b := 16) 1 rfl (by decide) ?_
      refine ev_istore_n (a := 0) (b := 17) [(0, ic_R 16 0 0), (1, ic_I x1), (2, ic_I x2), (3, ic_I 1)] rfl (by decide) (And.intro (Or.inr (And.intro rfl rfl)) (And.intro (Or.inr (And.intro rfl rfl)) (And.intro (Or.inr (And.intro rfl rfl)) (And.intro (Or.inl rfl) trivial)))) ?_
      refine ev_fw (lv' := [(0, ic_R 16 0 0), (1, ic_I x1), (2, ic_I x2), (3, ic_I 1)]) ?_ (And.intro rfl (And.intro rfl (And.intro rfl (And.intro rfl trivial))))
      rcases ic_bsE h with e16 | ⟨y14, g15, e16, h⟩
      · exact tX7_heavyFor_34 (x1 := x1) (x2 := x2)  1000 1 g12 _ e16 _ _ ⟨rfl, rfl⟩
      · refine tX7_heavyFor_34 (x1 := x1) (x2 := x2)  1000 1 g12 _ e16 _ _ ?_
        change ic_Ev mX7_heavyFor 67 [(0, ic_R 16 0 0)] [] g15 _ _
        refine ev_aload_n (a := 1) (b := 5) rfl rfl ?_
        refine ev_iconst (a := 1) (b := 6) 3 rfl (by decide) ?_
        obtain ⟨v19, g17, e18, h⟩ := ic_b2E h
        refine ev_ivI (a := 1) (b := 7) [ic_I 3] rfl okX7_finds rfl lmX7_117 rfl (rc16) (Nat.le_of_ble_eq_true rfl) (eX7_finds e18) (Nat.le_of_ble_eq_true rfl) rfl ?_
        obtain ⟨rfl, rfl⟩ := ic_s2 h
        exact ev_ireturn (a := 1) (b := 8) rfl rfl rfl
    · have h := (if_pos c11).symm.trans h
      refine ev_aload_n (a := 0) (b := 7) rfl rfl ?_
      refine ev_iconst (a := 0) (b := 8) 0 rfl (by decide) ?_
      obtain ⟨v22, g20, e21, h⟩ := ic_b2E h
      refine ev_ivI (a := 0) (b := 9) [ic_I 0] rfl okX7_finds rfl lmX7_117 rfl (rc16) (Nat.le_of_ble_eq_true rfl) (eX7_finds e21) (Nat.le_of_ble_eq_true rfl) rfl ?_
      obtain ⟨rfl, rfl⟩ := ic_s2 h
      exact ev_ireturn (a := 0) (b := 10) rfl rfl rfl
set_option maxRecDepth 20000 in
theorem tX7_holdFast_66 {x1 : Int32} {x2 : Int32} {x3 : Int32} : ∀ (n : Nat) (x4 : Int32) (g : ic_S) (q : Unit × ic_S), lX7_holdFast_66 x1 x2 x3 n x4 g = some q → ∀ (r : Option ic_V) (g' : ic_S), ic_Ev mX7_holdFast 104 [(0, ic_R 16 0 0), (1, ic_I x1), (2, ic_I x2), (3, ic_I x3)] [] q.2 r g' → ic_Ev mX7_holdFast 66 [(0, ic_R 16 0 0), (1, ic_I x1), (2, ic_I x2), (3, ic_I x3), (4, ic_I x4)] [] g r g' := by
  intro n
  induction n with
  | zero => intro x4 g q h; cases h
  | succ n ih =>
    intro x4 g q h r g' hq
    rw [lX7_holdFast_66] at h
    refine ev_iload (a := 1) (b := 5) rfl rfl ?_
    refine ev_aload_n (a := 1) (b := 6) rfl rfl ?_
    refine ev_get (a := 1) (b := 7) 7 0 rfl rfl (Nat.le_of_ble_eq_true rfl) lfX7_7 (gX7_d) ?_
    refine ev_iconst (a := 1) (b := 8) 0 rfl (by decide) ?_
    refine ev_ialdk (a := 1) (b := 9) 0 (by decide) rfl (a17 (by decide)) (by decide) ?_
    refine ev_icge (a := 1) (b := 10) 104 rfl rfl (fun c2001 => ?_) (fun c2001 => ?_)
    · have h := (if_pos c2001).symm.trans h
      obtain rfl := ic_s1 h
      exact ev_fw (lv' := [(0, ic_R 16 0 0), (1, ic_I x1), (2, ic_I x2), (3, ic_I x3)]) hq (And.intro rfl (And.intro rfl (And.intro rfl (And.intro rfl trivial))))
    · have h := (if_neg c2001).symm.trans h
      refine ev_aload_n (a := 1) (b := 11) rfl rfl ?_
      refine ev_iload (a := 1) (b := 12) rfl rfl ?_
      refine ev_iconst (a := 1) (b := 13) 4 rfl (by decide) ?_
      refine ev_aload_n (a := 1) (b := 14) rfl rfl ?_
      refine ev_iload (a := 1) (b := 15) rfl rfl ?_
      refine ev_iconst (a := 1) (b := 16) 4 rfl (by decide) ?_
      obtain ⟨v2004, g2002, e2003, h⟩ := ic_b2E h
      refine ev_ivI (a := 1) (b := 17) [ic_I x4, ic_I 4] rfl okX7_its rfl lmX7_48 rfl (rc16) (Nat.le_of_ble_eq_true rfl) (eX7_its e2003) (Nat.le_of_ble_eq_true rfl) rfl ?_
      refine ev_iload_n (a := 1) (b := 18) rfl rfl ?_
      refine ev_iload (a := 1) (b := 19) rfl rfl ?_
      refine ev_ishr (a := 1) (b := 20) rfl ?_
      refine ev_iconst (a := 1) (b := 21) 1 rfl (by decide) ?_
      refine ev_iand (a := 1) (b := 22) rfl ?_
      refine ev_ior (a := 1) (b := 23) rfl ?_
      obtain ⟨g2005, e2006, h⟩ := ic_b1E h
      refine ev_ivV (a := 1) (b := 24) [ic_I x4, ic_I 4, ic_I (v2004 ||| ((x3 >>> (x4 &&& 31)) &&& 1))] rfl okX7_sets rfl lmX7_79 rfl (rc16) (Nat.le_of_ble_eq_true rfl) (eX7_sets e2006) (Nat.le_of_ble_eq_true rfl) rfl ?_
      refine ev_iinc (a := 1) (b := 25) (x4 + 1) [(0, ic_R 16 0 0), (1, ic_I x1), (2, ic_I x2), (3, ic_I x3), (4, ic_I (x4 + 1))] rfl rfl (by first | rfl | decide) (by decide) (And.intro (Or.inr (And.intro rfl rfl)) (And.intro (Or.inr (And.intro rfl rfl)) (And.intro (Or.inr (And.intro rfl rfl)) (And.intro (Or.inr (And.intro rfl rfl)) (And.intro (Or.inl rfl) trivial))))) ?_
      refine ev_goto (a := 1) (b := 26) 66 rfl rfl ?_
      refine ev_fw (lv' := [(0, ic_R 16 0 0), (1, ic_I x1), (2, ic_I x2), (3, ic_I x3), (4, ic_I (x4 + 1))]) ?_ (And.intro rfl (And.intro rfl (And.intro rfl (And.intro rfl (And.intro rfl trivial)))))
      exact ih (x4 + 1) g2005 _ h _ _ hq
set_option maxRecDepth 20000 in
theorem tX7_holdFast_33 {x1 : Int32} : ∀ (n : Nat) (x2 : Int32) (x3 : Int32) (g : ic_S) (q : (Int32) × ic_S), lX7_holdFast_33 x1 n x2 x3 g = some q → ∀ (r : Option ic_V) (g' : ic_S), ic_Ev mX7_holdFast 149 [(0, ic_R 16 0 0), (2, ic_I q.1)] [] q.2 r g' → ic_Ev mX7_holdFast 33 [(0, ic_R 16 0 0), (1, ic_I x1), (2, ic_I x2), (3, ic_I x3)] [] g r g' := by
  intro n
  induction n with
  | zero => intro x2 x3 g q h; cases h
  | succ n ih =>
    intro x2 x3 g q h r g' hq
    rw [lX7_holdFast_33] at h
    refine ev_iload_n (a := 0) (b := 19) rfl rfl ?_
    refine ev_iconst (a := 0) (b := 20) 1 rfl (by decide) ?_
    refine ev_aload_n (a := 0) (b := 21) rfl rfl ?_
    refine ev_get (a := 0) (b := 22) 7 0 rfl rfl (Nat.le_of_ble_eq_true rfl) lfX7_7 (gX7_d) ?_
    refine ev_iconst (a := 0) (b := 23) 0 rfl (by decide) ?_
    refine ev_ialdk (a := 0) (b := 24) 0 (by decide) rfl (a17 (by decide)) (by decide) ?_
    refine ev_ishl (a := 0) (b := 25) rfl ?_
    refine ev_icge (a := 0) (b := 26) 149 rfl rfl (fun c1001 => ?_) (fun c1001 => ?_)
    · have h := (if_pos c1001).symm.trans h
      obtain rfl := ic_s1 h
      exact ev_fw (lv' := [(0, ic_R 16 0 0), (2, ic_I x2)]) hq (And.intro rfl (And.intro rfl trivial))
    · have h := (if_neg c1001).symm.trans h
      refine ev_iload_n (a := 0) (b := 27) rfl rfl ?_
      refine ev_iflt (a := 0) (b := 28) 63 rfl rfl (fun c1002 => ?_) (fun c1002 => ?_)
      · have h := (if_pos c1002).symm.trans h
        refine ev_iconst (a := 1) (b := 3) 0 rfl (by decide) ?_
        refine ev_istore (a := 1) (b := 4) [(0, ic_R 16 0 0), (1, ic_I x1), (2, ic_I x2), (3, ic_I x3), (4, ic_I 0)] rfl (by decide) (And.intro (Or.inr (And.intro rfl rfl)) (And.intro (Or.inr (And.intro rfl rfl)) (And.intro (Or.inr (And.intro rfl rfl)) (And.intro (Or.inr (And.intro rfl rfl)) (And.intro (Or.inl rfl) trivial))))) ?_
        refine ev_fw (lv' := [(0, ic_R 16 0 0), (1, ic_I x1), (2, ic_I x2), (3, ic_I x3), (4, ic_I 0)]) ?_ (And.intro rfl (And.intro rfl (And.intro rfl (And.intro rfl (And.intro rfl trivial)))))
        obtain ⟨y1003, g1004, e1005, h⟩ := ic_b2E h
        refine tX7_holdFast_66 (x1 := x1) (x2 := x2) (x3 := x3)  1000 0 g _ e1005 _ _ ?_
        change ic_Ev mX7_holdFast 104 [(0, ic_R 16 0 0), (1, ic_I x1), (2, ic_I x2), (3, ic_I x3)] [] g1004 _ _
        refine ev_aload_n (a := 1) (b := 27) rfl rfl ?_
        refine ev_iload_n (a := 1) (b := 28) rfl rfl ?_
        obtain ⟨g1006, e1007, h⟩ := ic_b1E h
        refine ev_ivV (a := 1) (b := 29) [ic_I x1] rfl okX7_callsGo rfl lmX7_141 rfl (rc16) (Nat.le_of_ble_eq_true rfl) (eX7_callsGo e1007) (Nat.le_of_ble_eq_true rfl) rfl ?_
        refine ev_aload_n (a := 1) (b := 30) rfl rfl ?_
        refine ev_iconst (a := 1) (b := 31) 5 rfl (by decide) ?_
        obtain ⟨v1010, g1008, e1009, h⟩ := ic_b2E h
        refine ev_ivI (a := 2) (b := 0) [ic_I 5] rfl okX7_setOf rfl lmX7_144 rfl (rc16) (Nat.le_of_ble_eq_true rfl) (eX7_setOf e1009) (Nat.le_of_ble_eq_true rfl) rfl ?_
        refine ev_istore (a := 2) (b := 1) [(0, ic_R 16 0 0), (1, ic_I x1), (2, ic_I x2), (3, ic_I x3), (4, ic_I v1010)] rfl (by decide) (And.intro (Or.inr (And.intro rfl rfl)) (And.intro (Or.inr (And.intro rfl rfl)) (And.intro (Or.inr (And.intro rfl rfl)) (And.intro (Or.inr (And.intro rfl rfl)) (And.intro (Or.inl rfl) trivial))))) ?_
        refine ev_aload_n (a := 2) (b := 2) rfl rfl ?_
        refine ev_get (a := 2) (b := 3) 7 2 rfl rfl (Nat.le_of_ble_eq_true rfl) lfX7_16 (gX7_aside) ?_
        refine ev_aload_n (a := 2) (b := 4) rfl rfl ?_
        refine ev_get (a := 2) (b := 5) 7 0 rfl rfl (Nat.le_of_ble_eq_true rfl) lfX7_7 (gX7_d) ?_
        obtain ⟨g1011, e1012, h⟩ := ic_b1E h
        refine ev_isV (a := 2) (b := 6) [ic_R 17 2 0, ic_R 17 0 0] rfl okX7_copies rfl lmX7_160 rfl (Nat.le_of_ble_eq_true rfl) (eX7_copies e1012) (Nat.le_of_ble_eq_true rfl) rfl ?_
        refine ev_iload (a := 2) (b := 7) rfl rfl ?_
        refine ev_aload_n (a := 2) (b := 8) rfl rfl ?_
        refine ev_iconst (a := 2) (b := 9) 5 rfl (by decide) ?_
        obtain ⟨v1015, g1013, e1014, h⟩ := ic_b2E h
        refine ev_ivI (a := 2) (b := 10) [ic_I 5] rfl okX7_setOf rfl lmX7_144 rfl (rc16) (Nat.le_of_ble_eq_true rfl) (eX7_setOf e1014) (Nat.le_of_ble_eq_true rfl) rfl ?_
        refine ev_icne (a := 2) (b := 11) 141 rfl rfl (fun c1016 => ?_) (fun c1016 => ?_)
        · have h := (if_neg c1016).symm.trans h
          refine ev_iload_n (a := 2) (b := 14) rfl rfl ?_
          refine ev_istore_n (a := 2) (b := 15) [(0, ic_R 16 0 0), (1, ic_I x1), (2, ic_I x2), (3, ic_I x3)] rfl (by decide) (And.intro (Or.inr (And.intro rfl rfl)) (And.intro (Or.inr (And.intro rfl rfl)) (And.intro (Or.inl rfl) (And.intro (Or.inr (And.intro rfl rfl)) trivial)))) ?_
          refine ev_iinc (a := 2) (b := 16) (x3 + 1) [(0, ic_R 16 0 0), (1, ic_I x1), (2, ic_I x2), (3, ic_I (x3 + 1))] rfl rfl (by first | rfl | decide) (by decide) (And.intro (Or.inr (And.intro rfl rfl)) (And.intro (Or.inr (And.intro rfl rfl)) (And.intro (Or.inr (And.intro rfl rfl)) (And.intro (Or.inl rfl) trivial)))) ?_
          refine ev_goto (a := 2) (b := 17) 33 rfl rfl ?_
          refine ev_fw (lv' := [(0, ic_R 16 0 0), (1, ic_I x1), (2, ic_I x2), (3, ic_I (x3 + 1))]) ?_ (And.intro rfl (And.intro rfl (And.intro rfl (And.intro rfl trivial))))
          exact ih x2 (x3 + 1) g1013 _ h _ _ hq
        · have h := (if_pos c1016).symm.trans h
          refine ev_iload_n (a := 2) (b := 12) rfl rfl ?_
          refine ev_goto (a := 2) (b := 13) 142 rfl rfl ?_
          refine ev_istore_n (a := 2) (b := 15) [(0, ic_R 16 0 0), (1, ic_I x1), (2, ic_I x3), (3, ic_I x3)] rfl (by decide) (And.intro (Or.inr (And.intro rfl rfl)) (And.intro (Or.inr (And.intro rfl rfl)) (And.intro (Or.inl rfl) (And.intro (Or.inr (And.intro rfl rfl)) trivial)))) ?_
          refine ev_iinc (a := 2) (b := 16) (x3 + 1) [(0, ic_R 16 0 0), (1, ic_I x1), (2, ic_I x3), (3, ic_I (x3 + 1))] rfl rfl (by first | rfl | decide) (by decide) (And.intro (Or.inr (And.intro rfl rfl)) (And.intro (Or.inr (And.intro rfl rfl)) (And.intro (Or.inr (And.intro rfl rfl)) (And.intro (Or.inl rfl) trivial)))) ?_
          refine ev_goto (a := 2) (b := 17) 33 rfl rfl ?_
          refine ev_fw (lv' := [(0, ic_R 16 0 0), (1, ic_I x1), (2, ic_I x3), (3, ic_I (x3 + 1))]) ?_ (And.intro rfl (And.intro rfl (And.intro rfl (And.intro rfl trivial))))
          exact ih x3 (x3 + 1) g1013 _ h _ _ hq
      · have h := (if_neg c1002).symm.trans h
        refine ev_iload_n (a := 0) (b := 29) rfl rfl ?_
        obtain ⟨v1019, g1017, e1018, h⟩ := ic_b2E h
        refine ev_isI (a := 0) (b := 30) [ic_I x3] rfl okX7_ones rfl lmX7_70 rfl (Nat.le_of_ble_eq_true rfl) (eX7_ones e1018) (Nat.le_of_ble_eq_true rfl) rfl ?_
        refine ev_iload_n (a := 0) (b := 31) rfl rfl ?_
        obtain ⟨v1022, g1020, e1021, h⟩ := ic_b2E h
        refine ev_isI (a := 1) (b := 0) [ic_I x2] rfl okX7_ones rfl lmX7_70 rfl (Nat.le_of_ble_eq_true rfl) (eX7_ones e1021) (Nat.le_of_ble_eq_true rfl) rfl ?_
        refine ev_iclt (a := 1) (b := 1) 63 rfl rfl (fun c1023 => ?_) (fun c1023 => ?_)
        · have h := (if_pos c1023).symm.trans h
          refine ev_iconst (a := 1) (b := 3) 0 rfl (by decide) ?_
          refine ev_istore (a := 1) (b := 4) [(0, ic_R 16 0 0), (1, ic_I x1), (2, ic_I x2), (3, ic_I x3), (4, ic_I 0)] rfl (by decide) (And.intro (Or.inr (And.intro rfl rfl)) (And.intro (Or.inr (And.intro rfl rfl)) (And.intro (Or.inr (And.intro rfl rfl)) (And.intro (Or.inr (And.intro rfl rfl)) (And.intro (Or.inl rfl) trivial))))) ?_
          refine ev_fw (lv' := [(0, ic_R 16 0 0), (1, ic_I x1), (2, ic_I x2), (3, ic_I x3), (4, ic_I 0)]) ?_ (And.intro rfl (And.intro rfl (And.intro rfl (And.intro rfl (And.intro rfl trivial)))))
          obtain ⟨y1024, g1025, e1026, h⟩ := ic_b2E h
          refine tX7_holdFast_66 (x1 := x1) (x2 := x2) (x3 := x3)  1000 0 g1020 _ e1026 _ _ ?_
          change ic_Ev mX7_holdFast 104 [(0, ic_R 16 0 0), (1, ic_I x1), (2, ic_I x2), (3, ic_I x3)] [] g1025 _ _
          refine ev_aload_n (a := 1) (b := 27) rfl rfl ?_
          refine ev_iload_n (a := 1) (b := 28) rfl rfl ?_
          obtain ⟨g1027, e1028, h⟩ := ic_b1E h
          refine ev_ivV (a := 1) (b := 29) [ic_I x1] rfl okX7_callsGo rfl lmX7_141 rfl (rc16) (Nat.le_of_ble_eq_true rfl) (eX7_callsGo e1028) (Nat.le_of_ble_eq_true rfl) rfl ?_
          refine ev_aload_n (a := 1) (b := 30) rfl rfl ?_
          refine ev_iconst (a := 1) (b := 31) 5 rfl (by decide) ?_
          obtain ⟨v1031, g1029, e1030, h⟩ := ic_b2E h
          refine ev_ivI (a := 2) (b := 0) [ic_I 5] rfl okX7_setOf rfl lmX7_144 rfl (rc16) (Nat.le_of_ble_eq_true rfl) (eX7_setOf e1030) (Nat.le_of_ble_eq_true rfl) rfl ?_
          refine ev_istore (a := 2) (b := 1) [(0, ic_R 16 0 0), (1, ic_I x1), (2, ic_I x2), (3, ic_I x3), (4, ic_I v1031)] rfl (by decide) (And.intro (Or.inr (And.intro rfl rfl)) (And.intro (Or.inr (And.intro rfl rfl)) (And.intro (Or.inr (And.intro rfl rfl)) (And.intro (Or.inr (And.intro rfl rfl)) (And.intro (Or.inl rfl) trivial))))) ?_
          refine ev_aload_n (a := 2) (b := 2) rfl rfl ?_
          refine ev_get (a := 2) (b := 3) 7 2 rfl rfl (Nat.le_of_ble_eq_true rfl) lfX7_16 (gX7_aside) ?_
          refine ev_aload_n (a := 2) (b := 4) rfl rfl ?_
          refine ev_get (a := 2) (b := 5) 7 0 rfl rfl (Nat.le_of_ble_eq_true rfl) lfX7_7 (gX7_d) ?_
          obtain ⟨g1032, e1033, h⟩ := ic_b1E h
          refine ev_isV (a := 2) (b := 6) [ic_R 17 2 0, ic_R 17 0 0] rfl okX7_copies rfl lmX7_160 rfl (Nat.le_of_ble_eq_true rfl) (eX7_copies e1033) (Nat.le_of_ble_eq_true rfl) rfl ?_
          refine ev_iload (a := 2) (b := 7) rfl rfl ?_
          refine ev_aload_n (a := 2) (b := 8) rfl rfl ?_
          refine ev_iconst (a := 2) (b := 9) 5 rfl (by decide) ?_
          obtain ⟨v1036, g1034, e1035, h⟩ := ic_b2E h
          refine ev_ivI (a := 2) (b := 10) [ic_I 5] rfl okX7_setOf rfl lmX7_144 rfl (rc16) (Nat.le_of_ble_eq_true rfl) (eX7_setOf e1035) (Nat.le_of_ble_eq_true rfl) rfl ?_
          refine ev_icne (a := 2) (b := 11) 141 rfl rfl (fun c1037 => ?_) (fun c1037 => ?_)
          · have h := (if_neg c1037).symm.trans h
            refine ev_iload_n (a := 2) (b := 14) rfl rfl ?_
            refine ev_istore_n (a := 2) (b := 15) [(0, ic_R 16 0 0), (1, ic_I x1), (2, ic_I x2), (3, ic_I x3)] rfl (by decide) (And.intro (Or.inr (And.intro rfl rfl)) (And.intro (Or.inr (And.intro rfl rfl)) (And.intro (Or.inl rfl) (And.intro (Or.inr (And.intro rfl rfl)) trivial)))) ?_
            refine ev_iinc (a := 2) (b := 16) (x3 + 1) [(0, ic_R 16 0 0), (1, ic_I x1), (2, ic_I x2), (3, ic_I (x3 + 1))] rfl rfl (by first | rfl | decide) (by decide) (And.intro (Or.inr (And.intro rfl rfl)) (And.intro (Or.inr (And.intro rfl rfl)) (And.intro (Or.inr (And.intro rfl rfl)) (And.intro (Or.inl rfl) trivial)))) ?_
            refine ev_goto (a := 2) (b := 17) 33 rfl rfl ?_
            refine ev_fw (lv' := [(0, ic_R 16 0 0), (1, ic_I x1), (2, ic_I x2), (3, ic_I (x3 + 1))]) ?_ (And.intro rfl (And.intro rfl (And.intro rfl (And.intro rfl trivial))))
            exact ih x2 (x3 + 1) g1034 _ h _ _ hq
          · have h := (if_pos c1037).symm.trans h
            refine ev_iload_n (a := 2) (b := 12) rfl rfl ?_
            refine ev_goto (a := 2) (b := 13) 142 rfl rfl ?_
            refine ev_istore_n (a := 2) (b := 15) [(0, ic_R 16 0 0), (1, ic_I x1), (2, ic_I x3), (3, ic_I x3)] rfl (by decide) (And.intro (Or.inr (And.intro rfl rfl)) (And.intro (Or.inr (And.intro rfl rfl)) (And.intro (Or.inl rfl) (And.intro (Or.inr (And.intro rfl rfl)) trivial)))) ?_
            refine ev_iinc (a := 2) (b := 16) (x3 + 1) [(0, ic_R 16 0 0), (1, ic_I x1), (2, ic_I x3), (3, ic_I (x3 + 1))] rfl rfl (by first | rfl | decide) (by decide) (And.intro (Or.inr (And.intro rfl rfl)) (And.intro (Or.inr (And.intro rfl rfl)) (And.intro (Or.inr (And.intro rfl rfl)) (And.intro (Or.inl rfl) trivial)))) ?_
            refine ev_goto (a := 2) (b := 17) 33 rfl rfl ?_
            refine ev_fw (lv' := [(0, ic_R 16 0 0), (1, ic_I x1), (2, ic_I x3), (3, ic_I (x3 + 1))]) ?_ (And.intro rfl (And.intro rfl (And.intro rfl (And.intro rfl trivial))))
            exact ih x3 (x3 + 1) g1034 _ h _ _ hq
        · have h := (if_neg c1023).symm.trans h
          refine ev_goto (a := 1) (b := 2) 143 rfl rfl ?_
          refine ev_iinc (a := 2) (b := 16) (x3 + 1) [(0, ic_R 16 0 0), (1, ic_I x1), (2, ic_I x2), (3, ic_I (x3 + 1))] rfl rfl (by first | rfl | decide) (by decide) (And.intro (Or.inr (And.intro rfl rfl)) (And.intro (Or.inr (And.intro rfl rfl)) (And.intro (Or.inr (And.intro rfl rfl)) (And.intro (Or.inl rfl) trivial)))) ?_
          refine ev_goto (a := 2) (b := 17) 33 rfl rfl ?_
          refine ev_fw (lv' := [(0, ic_R 16 0 0), (1, ic_I x1), (2, ic_I x2), (3, ic_I (x3 + 1))]) ?_ (And.intro rfl (And.intro rfl (And.intro rfl (And.intro rfl trivial))))
          exact ih x2 (x3 + 1) g1020 _ h _ _ hq
set_option maxRecDepth 20000 in
theorem eX7_holdFast {x1 : Int32} {g g' : ic_S} {v : Int32} (h : fX7_holdFast x1 g = some (v, g')) : ic_Ev mX7_holdFast 0 (ic_ag 0 [ic_R 16 0 0, ic_I x1]) [] g (some (ic_I v)) g' := by
  unfold fX7_holdFast at h
  change ic_Ev mX7_holdFast 0 [(0, ic_R 16 0 0), (1, ic_I x1)] [] g _ _
  refine ev_iload_n (a := 0) (b := 0) rfl rfl ?_
  refine ev_i2l (a := 0) (b := 1) rfl ?_
  refine ev_lconst (a := 0) (b := 2) 0 rfl (by decide) ?_
  refine ev_ldc2 (a := 0) (b := 3) 20 rfl lcX7_108 ?_
  obtain ⟨v3, g1, e2, h⟩ := ic_b2E h
  refine ev_isI (a := 0) (b := 4) [ic_J (Int32.toInt64 x1), ic_J 0, ic_J 20] rfl okX7_in rfl lmX7_42 rfl (Nat.le_of_ble_eq_true rfl) (eX7_in e2) (Nat.le_of_ble_eq_true rfl) rfl ?_
  refine ev_ifne (a := 0) (b := 5) 18 rfl rfl (fun c4 => ?_) (fun c4 => ?_)
  · have h := (if_neg c4).symm.trans h
    refine ev_aload_n (a := 0) (b := 10) rfl rfl ?_
    refine ev_get (a := 0) (b := 11) 7 0 rfl rfl (Nat.le_of_ble_eq_true rfl) lfX7_7 (gX7_d) ?_
    refine ev_aload_n (a := 0) (b := 12) rfl rfl ?_
    refine ev_get (a := 0) (b := 13) 7 2 rfl rfl (Nat.le_of_ble_eq_true rfl) lfX7_16 (gX7_aside) ?_
    obtain ⟨g5, e6, h⟩ := ic_b1E h
    refine ev_isV (a := 0) (b := 14) [ic_R 17 0 0, ic_R 17 2 0] rfl okX7_copies rfl lmX7_160 rfl (Nat.le_of_ble_eq_true rfl) (eX7_copies e6) (Nat.le_of_ble_eq_true rfl) rfl ?_
    refine ev_iconst (a := 0) (b := 15) (-1) rfl (by decide) ?_
    refine ev_istore_n (a := 0) (b := 16) [(0, ic_R 16 0 0), (1, ic_I x1), (2, ic_I (-1))] rfl (by decide) (And.intro (Or.inr (And.intro rfl rfl)) (And.intro (Or.inr (And.intro rfl rfl)) (And.intro (Or.inl rfl) trivial))) ?_
    refine ev_iconst (a := 0) (b := 17) 0 rfl (by decide) ?_
    refine ev_istore_n (a := 0) (b := 18) [(0, ic_R 16 0 0), (1, ic_I x1), (2, ic_I (-1)), (3, ic_I 0)] rfl (by decide) (And.intro (Or.inr (And.intro rfl rfl)) (And.intro (Or.inr (And.intro rfl rfl)) (And.intro (Or.inr (And.intro rfl rfl)) (And.intro (Or.inl rfl) trivial)))) ?_
    refine ev_fw (lv' := [(0, ic_R 16 0 0), (1, ic_I x1), (2, ic_I (-1)), (3, ic_I 0)]) ?_ (And.intro rfl (And.intro rfl (And.intro rfl (And.intro rfl trivial))))
    obtain ⟨y7, g8, e9, h⟩ := ic_b2E h
    refine tX7_holdFast_33 (x1 := x1)  1000 (-1) 0 g5 _ e9 _ _ ?_
    change ic_Ev mX7_holdFast 149 [(0, ic_R 16 0 0), (2, ic_I y7)] [] g8 _ _
    refine ev_iload_n (a := 2) (b := 18) rfl rfl ?_
    refine ev_ifge (a := 2) (b := 19) 161 rfl rfl (fun c10 => ?_) (fun c10 => ?_)
    · have h := (if_pos c10).symm.trans h
      refine ev_iload_n (a := 2) (b := 24) rfl rfl ?_
      obtain ⟨rfl, rfl⟩ := ic_s2 h
      exact ev_ireturn (a := 2) (b := 25) rfl rfl rfl
    · have h := (if_neg c10).symm.trans h
      refine ev_aload_n (a := 2) (b := 20) rfl rfl ?_
      refine ev_iconst (a := 2) (b := 21) 3 rfl (by decide) ?_
      obtain ⟨v13, g11, e12, h⟩ := ic_b2E h
      refine ev_ivI (a := 2) (b := 22) [ic_I 3] rfl okX7_finds rfl lmX7_117 rfl (rc16) (Nat.le_of_ble_eq_true rfl) (eX7_finds e12) (Nat.le_of_ble_eq_true rfl) rfl ?_
      refine ev_goto (a := 2) (b := 23) 162 rfl rfl ?_
      obtain ⟨rfl, rfl⟩ := ic_s2 h
      exact ev_ireturn (a := 2) (b := 25) rfl rfl rfl
  · have h := (if_pos c4).symm.trans h
    refine ev_aload_n (a := 0) (b := 6) rfl rfl ?_
    refine ev_iconst (a := 0) (b := 7) 0 rfl (by decide) ?_
    obtain ⟨v16, g14, e15, h⟩ := ic_b2E h
    refine ev_ivI (a := 0) (b := 8) [ic_I 0] rfl okX7_finds rfl lmX7_117 rfl (rc16) (Nat.le_of_ble_eq_true rfl) (eX7_finds e15) (Nat.le_of_ble_eq_true rfl) rfl ?_
    obtain ⟨rfl, rfl⟩ := ic_s2 h
    exact ev_ireturn (a := 0) (b := 9) rfl rfl rfl
set_option maxRecDepth 20000 in
theorem eX7_isSheet {x0 : Int32} {g g' : ic_S} {v : Int32} (h : fX7_isSheet x0 g = some (v, g')) : ic_Ev mX7_isSheet 0 (ic_ag 0 [ic_I x0]) [] g (some (ic_I v)) g' := by
  unfold fX7_isSheet at h
  change ic_Ev mX7_isSheet 0 [(0, ic_I x0)] [] g _ _
  refine ev_iload_n (a := 0) (b := 0) rfl rfl ?_
  refine ev_i2l (a := 0) (b := 1) rfl ?_
  refine ev_lconst (a := 0) (b := 2) 0 rfl (by decide) ?_
  refine ev_ldc2 (a := 0) (b := 3) 3 rfl lcX7_106 ?_
  obtain ⟨v3, g1, e2, h⟩ := ic_b2E h
  refine ev_isI (a := 0) (b := 4) [ic_J (Int32.toInt64 x0), ic_J 0, ic_J 3] rfl okX7_in rfl lmX7_42 rfl (Nat.le_of_ble_eq_true rfl) (eX7_in e2) (Nat.le_of_ble_eq_true rfl) rfl ?_
  obtain ⟨h4, h⟩ := ic_gdE h
  obtain ⟨rfl, rfl⟩ := ic_s2 h
  exact ev_ireturn (a := 0) (b := 5) rfl rfl (ic_nzn h4).1
set_option maxRecDepth 20000 in
theorem eX7_whyNone {x1 : Int32} {g g' : ic_S} {v : Int32} (h : fX7_whyNone x1 g = some (v, g')) : ic_Ev mX7_whyNone 0 (ic_ag 0 [ic_R 16 0 0, ic_I x1]) [] g (some (ic_I v)) g' := by
  unfold fX7_whyNone at h
  change ic_Ev mX7_whyNone 0 [(0, ic_R 16 0 0), (1, ic_I x1)] [] g _ _
  refine ev_iload_n (a := 0) (b := 0) rfl rfl ?_
  obtain ⟨v3, g1, e2, h⟩ := ic_b2E h
  refine ev_isI (a := 0) (b := 1) [ic_I x1] rfl okX7_isSheet rfl lmX7_301 rfl (Nat.le_of_ble_eq_true rfl) (eX7_isSheet e2) (Nat.le_of_ble_eq_true rfl) rfl ?_
  refine ev_ifne (a := 0) (b := 2) 11 rfl rfl (fun c4 => ?_) (fun c4 => ?_)
  · have h := (if_neg c4).symm.trans h
    refine ev_aload_n (a := 0) (b := 5) rfl rfl ?_
    refine ev_get (a := 0) (b := 6) 7 13 rfl rfl (Nat.le_of_ble_eq_true rfl) lfX7_29 (gX7_bitsOf) ?_
    refine ev_iload_n (a := 0) (b := 7) rfl rfl ?_
    obtain ⟨h5, h⟩ := ic_gdE h
    refine ev_iald (a := 0) (b := 8) rfl (a20) h5 ?_
    refine ev_ifne (a := 0) (b := 9) 24 rfl rfl (fun c6 => ?_) (fun c6 => ?_)
    · have h := (if_neg c6).symm.trans h
      refine ev_iconst (a := 0) (b := 12) (-1) rfl (by decide) ?_
      obtain ⟨rfl, rfl⟩ := ic_s2 h
      exact ev_ireturn (a := 0) (b := 13) rfl rfl rfl
    · have h := (if_pos c6).symm.trans h
      refine ev_iconst (a := 0) (b := 10) 5 rfl (by decide) ?_
      refine ev_goto (a := 0) (b := 11) 25 rfl rfl ?_
      obtain ⟨rfl, rfl⟩ := ic_s2 h
      exact ev_ireturn (a := 0) (b := 13) rfl rfl rfl
  · have h := (if_pos c4).symm.trans h
    refine ev_iconst (a := 0) (b := 3) 0 rfl (by decide) ?_
    refine ev_goto (a := 0) (b := 4) 25 rfl rfl ?_
    obtain ⟨rfl, rfl⟩ := ic_s2 h
    exact ev_ireturn (a := 0) (b := 13) rfl rfl rfl
set_option maxRecDepth 20000 in
theorem eX7_whyNot {x1 : Int32} {x2 : Int32} {g g' : ic_S} {v : Int32} (h : fX7_whyNot x1 x2 g = some (v, g')) : ic_Ev mX7_whyNot 0 (ic_ag 0 [ic_R 16 0 0, ic_I x1, ic_I x2]) [] g (some (ic_I v)) g' := by
  unfold fX7_whyNot at h
  change ic_Ev mX7_whyNot 0 [(0, ic_R 16 0 0), (1, ic_I x1), (2, ic_I x2)] [] g _ _
  refine ev_aload_n (a := 0) (b := 0) rfl rfl ?_
  refine ev_iload_n (a := 0) (b := 1) rfl rfl ?_
  obtain ⟨v3, g1, e2, h⟩ := ic_b2E h
  refine ev_ivI (a := 0) (b := 2) [ic_I x1] rfl okX7_whyNone rfl lmX7_179 rfl (rc16) (Nat.le_of_ble_eq_true rfl) (eX7_whyNone e2) (Nat.le_of_ble_eq_true rfl) rfl ?_
  refine ev_istore_n (a := 0) (b := 3) [(0, ic_R 16 0 0), (2, ic_I x2), (3, ic_I v3)] rfl (by decide) (And.intro (Or.inr (And.intro rfl rfl)) (And.intro (Or.inr (And.intro rfl rfl)) (And.intro (Or.inl rfl) trivial))) ?_
  refine ev_iload_n (a := 0) (b := 4) rfl rfl ?_
  refine ev_iflt (a := 0) (b := 5) 14 rfl rfl (fun c4 => ?_) (fun c4 => ?_)
  · have h := (if_pos c4).symm.trans h
    refine ev_aload_n (a := 0) (b := 8) rfl rfl ?_
    refine ev_iload_n (a := 0) (b := 9) rfl rfl ?_
    obtain ⟨v7, g5, e6, h⟩ := ic_b2E h
    refine ev_ivI (a := 0) (b := 10) [ic_I x2] rfl okX7_isThing rfl lmX7_125 rfl (rc16) (Nat.le_of_ble_eq_true rfl) (eX7_isThing e6) (Nat.le_of_ble_eq_true rfl) rfl ?_
    refine ev_ifeq (a := 0) (b := 11) 26 rfl rfl (fun c8 => ?_) (fun c8 => ?_)
    · have h := (if_pos c8).symm.trans h
      refine ev_iconst (a := 0) (b := 14) 0 rfl (by decide) ?_
      obtain ⟨rfl, rfl⟩ := ic_s2 h
      exact ev_ireturn (a := 0) (b := 15) rfl rfl rfl
    · have h := (if_neg c8).symm.trans h
      refine ev_iconst (a := 0) (b := 12) (-1) rfl (by decide) ?_
      refine ev_goto (a := 0) (b := 13) 27 rfl rfl ?_
      obtain ⟨rfl, rfl⟩ := ic_s2 h
      exact ev_ireturn (a := 0) (b := 15) rfl rfl rfl
  · have h := (if_neg c4).symm.trans h
    refine ev_iload_n (a := 0) (b := 6) rfl rfl ?_
    refine ev_goto (a := 0) (b := 7) 27 rfl rfl ?_
    obtain ⟨rfl, rfl⟩ := ic_s2 h
    exact ev_ireturn (a := 0) (b := 15) rfl rfl rfl
set_option maxRecDepth 20000 in
theorem tX7_fitting_38 {x1 : Int32} {x2 : Int32} {x3 : Int32} {x4 : Int32} {x5 : Int32} {x6 : Int32} {x7 : Int32} : ∀ (n : Nat) (x8 : Int32) (x9 : Int32) (g : ic_S) (q : (Int32) × ic_S), lX7_fitting_38 x1 x2 x3 x4 x5 x6 x7 n x8 x9 g = some q → ∀ (r : Option ic_V) (g' : ic_S), ic_Ev mX7_fitting 103 [(0, ic_R 16 0 0), (1, ic_I x1), (2, ic_I x2), (3, ic_I x3), (4, ic_I x4), (5, ic_I x5), (6, ic_I x6), (7, ic_I x7), (8, ic_I q.1)] [] q.2 r g' → ic_Ev mX7_fitting 38 [(0, ic_R 16 0 0), (1, ic_I x1), (2, ic_I x2), (3, ic_I x3), (4, ic_I x4), (5, ic_I x5), (6, ic_I x6), (7, ic_I x7), (8, ic_I x8), (9, ic_I x9)] [] g r g' := by
  intro n
  induction n with
  | zero => intro x8 x9 g q h; cases h
  | succ n ih =>
    intro x8 x9 g q h r g' hq
    rw [lX7_fitting_38] at h
    refine ev_iload (a := 0) (b := 21) rfl rfl ?_
    refine ev_aload_n (a := 0) (b := 22) rfl rfl ?_
    refine ev_get (a := 0) (b := 23) 7 14 rfl rfl (Nat.le_of_ble_eq_true rfl) lfX7_32 (gX7_sizeOf) ?_
    refine ev_iload_n (a := 0) (b := 24) rfl rfl ?_
    obtain ⟨h2001, h⟩ := ic_gdE h
    refine ev_iald (a := 0) (b := 25) rfl (a21) h2001 ?_
    refine ev_icge (a := 0) (b := 26) 103 rfl rfl (fun c2002 => ?_) (fun c2002 => ?_)
    · have h := (if_pos c2002).symm.trans h
      obtain rfl := ic_s1 h
      exact ev_fw (lv' := [(0, ic_R 16 0 0), (1, ic_I x1), (2, ic_I x2), (3, ic_I x3), (4, ic_I x4), (5, ic_I x5), (6, ic_I x6), (7, ic_I x7), (8, ic_I x8)]) hq (And.intro rfl (And.intro rfl (And.intro rfl (And.intro rfl (And.intro rfl (And.intro rfl (And.intro rfl (And.intro rfl (And.intro rfl trivial)))))))))
    · have h := (if_neg c2002).symm.trans h
      refine ev_iload (a := 0) (b := 27) rfl rfl ?_
      refine ev_ifeq (a := 0) (b := 28) 103 rfl rfl (fun c2003 => ?_) (fun c2003 => ?_)
      · have h := (if_pos c2003).symm.trans h
        obtain rfl := ic_s1 h
        exact ev_fw (lv' := [(0, ic_R 16 0 0), (1, ic_I x1), (2, ic_I x2), (3, ic_I x3), (4, ic_I x4), (5, ic_I x5), (6, ic_I x6), (7, ic_I x7), (8, ic_I x8)]) hq (And.intro rfl (And.intro rfl (And.intro rfl (And.intro rfl (And.intro rfl (And.intro rfl (And.intro rfl (And.intro rfl (And.intro rfl trivial)))))))))
      · have h := (if_neg c2003).symm.trans h
        refine ev_aload_n (a := 0) (b := 29) rfl rfl ?_
        refine ev_get (a := 0) (b := 30) 7 15 rfl rfl (Nat.le_of_ble_eq_true rfl) lfX7_35 (gX7_number) ?_
        refine ev_bipush (a := 0) (b := 31) 40 rfl (by decide) ?_
        refine ev_iload_n (a := 1) (b := 0) rfl rfl ?_
        refine ev_imul (a := 1) (b := 1) rfl ?_
        refine ev_iload (a := 1) (b := 2) rfl rfl ?_
        refine ev_iadd (a := 1) (b := 3) rfl ?_
        obtain ⟨h2004, h⟩ := ic_gdE h
        refine ev_iald (a := 1) (b := 4) rfl (a22) h2004 ?_
        obtain ⟨y2005, ey2005, h⟩ := ic_letE h
        refine ev_topI ey2005 ?_
        refine ev_istore (a := 1) (b := 5) [(0, ic_R 16 0 0), (1, ic_I x1), (2, ic_I x2), (3, ic_I x3), (4, ic_I x4), (5, ic_I x5), (6, ic_I x6), (7, ic_I x7), (9, ic_I x9), (10, ic_I y2005)] rfl (by decide) (And.intro (Or.inr (And.intro rfl rfl)) (And.intro (Or.inr (And.intro rfl rfl)) (And.intro (Or.inr (And.intro rfl rfl)) (And.intro (Or.inr (And.intro rfl rfl)) (And.intro (Or.inr (And.intro rfl rfl)) (And.intro (Or.inr (And.intro rfl rfl)) (And.intro (Or.inr (And.intro rfl rfl)) (And.intro (Or.inr (And.intro rfl rfl)) (And.intro (Or.inr (And.intro rfl rfl)) (And.intro (Or.inl rfl) trivial)))))))))) ?_
        refine ev_iload (a := 1) (b := 6) rfl rfl ?_
        refine ev_iconst (a := 1) (b := 7) (-1) rfl (by decide) ?_
        refine ev_iceq (a := 1) (b := 8) 86 rfl rfl (fun c2006 => ?_) (fun c2006 => ?_)
        · have h := (if_pos c2006).symm.trans h
          refine ev_iconst (a := 1) (b := 15) 1 rfl (by decide) ?_
          refine ev_goto (a := 1) (b := 16) 91 rfl rfl ?_
          refine ev_istore (a := 1) (b := 18) [(0, ic_R 16 0 0), (1, ic_I x1), (2, ic_I x2), (3, ic_I x3), (4, ic_I x4), (5, ic_I x5), (6, ic_I x6), (7, ic_I x7), (8, ic_I 1), (9, ic_I x9)] rfl (by decide) (And.intro (Or.inr (And.intro rfl rfl)) (And.intro (Or.inr (And.intro rfl rfl)) (And.intro (Or.inr (And.intro rfl rfl)) (And.intro (Or.inr (And.intro rfl rfl)) (And.intro (Or.inr (And.intro rfl rfl)) (And.intro (Or.inr (And.intro rfl rfl)) (And.intro (Or.inr (And.intro rfl rfl)) (And.intro (Or.inr (And.intro rfl rfl)) (And.intro (Or.inl rfl) (And.intro (Or.inr (And.intro rfl rfl)) trivial)))))))))) ?_
          refine ev_aload_n (a := 1) (b := 19) rfl rfl ?_
          obtain ⟨g2007, e2008, h⟩ := ic_b1E h
          refine ev_ivV (a := 1) (b := 20) [] rfl okX7_callGoes rfl lmX7_100 rfl (rc16) (Nat.le_of_ble_eq_true rfl) (eX7_callGoes e2008) (Nat.le_of_ble_eq_true rfl) rfl ?_
          refine ev_iinc (a := 1) (b := 21) (x9 + 1) [(0, ic_R 16 0 0), (1, ic_I x1), (2, ic_I x2), (3, ic_I x3), (4, ic_I x4), (5, ic_I x5), (6, ic_I x6), (7, ic_I x7), (8, ic_I 1), (9, ic_I (x9 + 1))] rfl rfl (by first | rfl | decide) (by decide) (And.intro (Or.inr (And.intro rfl rfl)) (And.intro (Or.inr (And.intro rfl rfl)) (And.intro (Or.inr (And.intro rfl rfl)) (And.intro (Or.inr (And.intro rfl rfl)) (And.intro (Or.inr (And.intro rfl rfl)) (And.intro (Or.inr (And.intro rfl rfl)) (And.intro (Or.inr (And.intro rfl rfl)) (And.intro (Or.inr (And.intro rfl rfl)) (And.intro (Or.inr (And.intro rfl rfl)) (And.intro (Or.inl rfl) trivial)))))))))) ?_
          refine ev_goto (a := 1) (b := 22) 38 rfl rfl ?_
          refine ev_fw (lv' := [(0, ic_R 16 0 0), (1, ic_I x1), (2, ic_I x2), (3, ic_I x3), (4, ic_I x4), (5, ic_I x5), (6, ic_I x6), (7, ic_I x7), (8, ic_I 1), (9, ic_I (x9 + 1))]) ?_ (And.intro rfl (And.intro rfl (And.intro rfl (And.intro rfl (And.intro rfl (And.intro rfl (And.intro rfl (And.intro rfl (And.intro rfl (And.intro rfl trivial))))))))))
          exact ih 1 (x9 + 1) g2007 _ h _ _ hq
        · have h := (if_neg c2006).symm.trans h
          refine ev_iload (a := 1) (b := 9) rfl rfl ?_
          refine ev_aload_n (a := 1) (b := 10) rfl rfl ?_
          refine ev_iload_n (a := 1) (b := 11) rfl rfl ?_
          refine ev_iload (a := 1) (b := 12) rfl rfl ?_
          obtain ⟨v2011, g2009, e2010, h⟩ := ic_b2E h
          refine ev_ivI (a := 1) (b := 13) [ic_I x2, ic_I x5] rfl okX7_its rfl lmX7_48 rfl (rc16) (Nat.le_of_ble_eq_true rfl) (eX7_its e2010) (Nat.le_of_ble_eq_true rfl) rfl ?_
          refine ev_icne (a := 1) (b := 14) 90 rfl rfl (fun c2012 => ?_) (fun c2012 => ?_)
          · have h := (if_neg c2012).symm.trans h
            refine ev_iconst (a := 1) (b := 17) 0 rfl (by decide) ?_
            refine ev_istore (a := 1) (b := 18) [(0, ic_R 16 0 0), (1, ic_I x1), (2, ic_I x2), (3, ic_I x3), (4, ic_I x4), (5, ic_I x5), (6, ic_I x6), (7, ic_I x7), (8, ic_I 0), (9, ic_I x9)] rfl (by decide) (And.intro (Or.inr (And.intro rfl rfl)) (And.intro (Or.inr (And.intro rfl rfl)) (And.intro (Or.inr (And.intro rfl rfl)) (And.intro (Or.inr (And.intro rfl rfl)) (And.intro (Or.inr (And.intro rfl rfl)) (And.intro (Or.inr (And.intro rfl rfl)) (And.intro (Or.inr (And.intro rfl rfl)) (And.intro (Or.inr (And.intro rfl rfl)) (And.intro (Or.inl rfl) (And.intro (Or.inr (And.intro rfl rfl)) trivial)))))))))) ?_
            refine ev_aload_n (a := 1) (b := 19) rfl rfl ?_
            obtain ⟨g2013, e2014, h⟩ := ic_b1E h
            refine ev_ivV (a := 1) (b := 20) [] rfl okX7_callGoes rfl lmX7_100 rfl (rc16) (Nat.le_of_ble_eq_true rfl) (eX7_callGoes e2014) (Nat.le_of_ble_eq_true rfl) rfl ?_
            refine ev_iinc (a := 1) (b := 21) (x9 + 1) [(0, ic_R 16 0 0), (1, ic_I x1), (2, ic_I x2), (3, ic_I x3), (4, ic_I x4), (5, ic_I x5), (6, ic_I x6), (7, ic_I x7), (8, ic_I 0), (9, ic_I (x9 + 1))] rfl rfl (by first | rfl | decide) (by decide) (And.intro (Or.inr (And.intro rfl rfl)) (And.intro (Or.inr (And.intro rfl rfl)) (And.intro (Or.inr (And.intro rfl rfl)) (And.intro (Or.inr (And.intro rfl rfl)) (And.intro (Or.inr (And.intro rfl rfl)) (And.intro (Or.inr (And.intro rfl rfl)) (And.intro (Or.inr (And.intro rfl rfl)) (And.intro (Or.inr (And.intro rfl rfl)) (And.intro (Or.inr (And.intro rfl rfl)) (And.intro (Or.inl rfl) trivial)))))))))) ?_
            refine ev_goto (a := 1) (b := 22) 38 rfl rfl ?_
            refine ev_fw (lv' := [(0, ic_R 16 0 0), (1, ic_I x1), (2, ic_I x2), (3, ic_I x3), (4, ic_I x4), (5, ic_I x5), (6, ic_I x6), (7, ic_I x7), (8, ic_I 0), (9, ic_I (x9 + 1))]) ?_ (And.intro rfl (And.intro rfl (And.intro rfl (And.intro rfl (And.intro rfl (And.intro rfl (And.intro rfl (And.intro rfl (And.intro rfl (And.intro rfl trivial))))))))))
            exact ih 0 (x9 + 1) g2013 _ h _ _ hq
          · have h := (if_pos c2012).symm.trans h
            refine ev_iconst (a := 1) (b := 15) 1 rfl (by decide) ?_
            refine ev_goto (a := 1) (b := 16) 91 rfl rfl ?_
            refine ev_istore (a := 1) (b := 18) [(0, ic_R 16 0 0), (1, ic_I x1), (2, ic_I x2), (3, ic_I x3), (4, ic_I x4), (5, ic_I x5), (6, ic_I x6), (7, ic_I x7), (8, ic_I 1), (9, ic_I x9)] rfl (by decide) (And.intro (Or.inr (And.intro rfl rfl)) (And.intro (Or.inr (And.intro rfl rfl)) (And.intro (Or.inr (And.intro rfl rfl)) (And.intro (Or.inr (And.intro rfl rfl)) (And.intro (Or.inr (And.intro rfl rfl)) (And.intro (Or.inr (And.intro rfl rfl)) (And.intro (Or.inr (And.intro rfl rfl)) (And.intro (Or.inr (And.intro rfl rfl)) (And.intro (Or.inl rfl) (And.intro (Or.inr (And.intro rfl rfl)) trivial)))))))))) ?_
            refine ev_aload_n (a := 1) (b := 19) rfl rfl ?_
            obtain ⟨g2015, e2016, h⟩ := ic_b1E h
            refine ev_ivV (a := 1) (b := 20) [] rfl okX7_callGoes rfl lmX7_100 rfl (rc16) (Nat.le_of_ble_eq_true rfl) (eX7_callGoes e2016) (Nat.le_of_ble_eq_true rfl) rfl ?_
            refine ev_iinc (a := 1) (b := 21) (x9 + 1) [(0, ic_R 16 0 0), (1, ic_I x1), (2, ic_I x2), (3, ic_I x3), (4, ic_I x4), (5, ic_I x5), (6, ic_I x6), (7, ic_I x7), (8, ic_I 1), (9, ic_I (x9 + 1))] rfl rfl (by first | rfl | decide) (by decide) (And.intro (Or.inr (And.intro rfl rfl)) (And.intro (Or.inr (And.intro rfl rfl)) (And.intro (Or.inr (And.intro rfl rfl)) (And.intro (Or.inr (And.intro rfl rfl)) (And.intro (Or.inr (And.intro rfl rfl)) (And.intro (Or.inr (And.intro rfl rfl)) (And.intro (Or.inr (And.intro rfl rfl)) (And.intro (Or.inr (And.intro rfl rfl)) (And.intro (Or.inr (And.intro rfl rfl)) (And.intro (Or.inl rfl) trivial)))))))))) ?_
            refine ev_goto (a := 1) (b := 22) 38 rfl rfl ?_
            refine ev_fw (lv' := [(0, ic_R 16 0 0), (1, ic_I x1), (2, ic_I x2), (3, ic_I x3), (4, ic_I x4), (5, ic_I x5), (6, ic_I x6), (7, ic_I x7), (8, ic_I 1), (9, ic_I (x9 + 1))]) ?_ (And.intro rfl (And.intro rfl (And.intro rfl (And.intro rfl (And.intro rfl (And.intro rfl (And.intro rfl (And.intro rfl (And.intro rfl (And.intro rfl trivial))))))))))
            exact ih 1 (x9 + 1) g2015 _ h _ _ hq
set_option maxRecDepth 20000 in
theorem tX7_fitting_17 {x1 : Int32} {x2 : Int32} {x3 : Int32} {x4 : Int32} {x5 : Int32} : ∀ (n : Nat) (x6 : Int32) (x7 : Int32) (g : ic_S) (q : (Int32) × ic_S), lX7_fitting_17 x1 x2 x3 x4 x5 n x6 x7 g = some q → ∀ (r : Option ic_V) (g' : ic_S), ic_Ev mX7_fitting 138 [(6, ic_I q.1)] [] q.2 r g' → ic_Ev mX7_fitting 17 [(0, ic_R 16 0 0), (1, ic_I x1), (2, ic_I x2), (3, ic_I x3), (4, ic_I x4), (5, ic_I x5), (6, ic_I x6), (7, ic_I x7)] [] g r g' := by
  intro n
  induction n with
  | zero => intro x6 x7 g q h; cases h
  | succ n ih =>
    intro x6 x7 g q h r g' hq
    rw [lX7_fitting_17] at h
    refine ev_iload (a := 0) (b := 9) rfl rfl ?_
    refine ev_iload (a := 0) (b := 10) rfl rfl ?_
    refine ev_icgt (a := 0) (b := 11) 138 rfl rfl (fun c1001 => ?_) (fun c1001 => ?_)
    · have h := (if_pos c1001).symm.trans h
      obtain rfl := ic_s1 h
      exact ev_fw (lv' := [(6, ic_I x6)]) hq (And.intro rfl trivial)
    · have h := (if_neg c1001).symm.trans h
      refine ev_aload_n (a := 0) (b := 12) rfl rfl ?_
      refine ev_iload_n (a := 0) (b := 13) rfl rfl ?_
      refine ev_iload_n (a := 0) (b := 14) rfl rfl ?_
      refine ev_iload (a := 0) (b := 15) rfl rfl ?_
      obtain ⟨g1002, e1003, h⟩ := ic_b1E h
      refine ev_ivV (a := 0) (b := 16) [ic_I x2, ic_I x3, ic_I x7] rfl okX7_sets rfl lmX7_79 rfl (rc16) (Nat.le_of_ble_eq_true rfl) (eX7_sets e1003) (Nat.le_of_ble_eq_true rfl) rfl ?_
      refine ev_iconst (a := 0) (b := 17) 1 rfl (by decide) ?_
      refine ev_istore (a := 0) (b := 18) [(0, ic_R 16 0 0), (1, ic_I x1), (2, ic_I x2), (3, ic_I x3), (4, ic_I x4), (5, ic_I x5), (6, ic_I x6), (7, ic_I x7), (8, ic_I 1)] rfl (by decide) (And.intro (Or.inr (And.intro rfl rfl)) (And.intro (Or.inr (And.intro rfl rfl)) (And.intro (Or.inr (And.intro rfl rfl)) (And.intro (Or.inr (And.intro rfl rfl)) (And.intro (Or.inr (And.intro rfl rfl)) (And.intro (Or.inr (And.intro rfl rfl)) (And.intro (Or.inr (And.intro rfl rfl)) (And.intro (Or.inr (And.intro rfl rfl)) (And.intro (Or.inl rfl) trivial))))))))) ?_
      refine ev_iconst (a := 0) (b := 19) 0 rfl (by decide) ?_
      refine ev_istore (a := 0) (b := 20) [(0, ic_R 16 0 0), (1, ic_I x1), (2, ic_I x2), (3, ic_I x3), (4, ic_I x4), (5, ic_I x5), (6, ic_I x6), (7, ic_I x7), (8, ic_I 1), (9, ic_I 0)] rfl (by decide) (And.intro (Or.inr (And.intro rfl rfl)) (And.intro (Or.inr (And.intro rfl rfl)) (And.intro (Or.inr (And.intro rfl rfl)) (And.intro (Or.inr (And.intro rfl rfl)) (And.intro (Or.inr (And.intro rfl rfl)) (And.intro (Or.inr (And.intro rfl rfl)) (And.intro (Or.inr (And.intro rfl rfl)) (And.intro (Or.inr (And.intro rfl rfl)) (And.intro (Or.inr (And.intro rfl rfl)) (And.intro (Or.inl rfl) trivial)))))))))) ?_
      refine ev_fw (lv' := [(0, ic_R 16 0 0), (1, ic_I x1), (2, ic_I x2), (3, ic_I x3), (4, ic_I x4), (5, ic_I x5), (6, ic_I x6), (7, ic_I x7), (8, ic_I 1), (9, ic_I 0)]) ?_ (And.intro rfl (And.intro rfl (And.intro rfl (And.intro rfl (And.intro rfl (And.intro rfl (And.intro rfl (And.intro rfl (And.intro rfl (And.intro rfl trivial))))))))))
      obtain ⟨y1004, g1005, e1006, h⟩ := ic_b2E h
      refine tX7_fitting_38 (x1 := x1) (x2 := x2) (x3 := x3) (x4 := x4) (x5 := x5) (x6 := x6) (x7 := x7)  1000 1 0 g1002 _ e1006 _ _ ?_
      change ic_Ev mX7_fitting 103 [(0, ic_R 16 0 0), (1, ic_I x1), (2, ic_I x2), (3, ic_I x3), (4, ic_I x4), (5, ic_I x5), (6, ic_I x6), (7, ic_I x7), (8, ic_I y1004)] [] g1005 _ _
      refine ev_aload_n (a := 1) (b := 23) rfl rfl ?_
      refine ev_get (a := 1) (b := 24) 7 2 rfl rfl (Nat.le_of_ble_eq_true rfl) lfX7_16 (gX7_aside) ?_
      refine ev_aload_n (a := 1) (b := 25) rfl rfl ?_
      refine ev_get (a := 1) (b := 26) 7 0 rfl rfl (Nat.le_of_ble_eq_true rfl) lfX7_7 (gX7_d) ?_
      obtain ⟨g1007, e1008, h⟩ := ic_b1E h
      refine ev_isV (a := 1) (b := 27) [ic_R 17 2 0, ic_R 17 0 0] rfl okX7_copies rfl lmX7_160 rfl (Nat.le_of_ble_eq_true rfl) (eX7_copies e1008) (Nat.le_of_ble_eq_true rfl) rfl ?_
      refine ev_iload (a := 1) (b := 28) rfl rfl ?_
      refine ev_iload (a := 1) (b := 29) rfl rfl ?_
      refine ev_ifeq (a := 1) (b := 30) 128 rfl rfl (fun c1009 => ?_) (fun c1009 => ?_)
      · have h := (if_pos c1009).symm.trans h
        refine ev_iconst (a := 2) (b := 3) 0 rfl (by decide) ?_
        refine ev_ior (a := 2) (b := 4) rfl ?_
        refine ev_istore (a := 2) (b := 5) [(0, ic_R 16 0 0), (1, ic_I x1), (2, ic_I x2), (3, ic_I x3), (4, ic_I x4), (5, ic_I x5), (6, ic_I (x6 ||| 0)), (7, ic_I x7)] rfl (by decide) (And.intro (Or.inr (And.intro rfl rfl)) (And.intro (Or.inr (And.intro rfl rfl)) (And.intro (Or.inr (And.intro rfl rfl)) (And.intro (Or.inr (And.intro rfl rfl)) (And.intro (Or.inr (And.intro rfl rfl)) (And.intro (Or.inr (And.intro rfl rfl)) (And.intro (Or.inl rfl) (And.intro (Or.inr (And.intro rfl rfl)) trivial)))))))) ?_
        refine ev_iinc (a := 2) (b := 6) (x7 + 1) [(0, ic_R 16 0 0), (1, ic_I x1), (2, ic_I x2), (3, ic_I x3), (4, ic_I x4), (5, ic_I x5), (6, ic_I (x6 ||| 0)), (7, ic_I (x7 + 1))] rfl rfl (by first | rfl | decide) (by decide) (And.intro (Or.inr (And.intro rfl rfl)) (And.intro (Or.inr (And.intro rfl rfl)) (And.intro (Or.inr (And.intro rfl rfl)) (And.intro (Or.inr (And.intro rfl rfl)) (And.intro (Or.inr (And.intro rfl rfl)) (And.intro (Or.inr (And.intro rfl rfl)) (And.intro (Or.inr (And.intro rfl rfl)) (And.intro (Or.inl rfl) trivial)))))))) ?_
        refine ev_goto (a := 2) (b := 7) 17 rfl rfl ?_
        refine ev_fw (lv' := [(0, ic_R 16 0 0), (1, ic_I x1), (2, ic_I x2), (3, ic_I x3), (4, ic_I x4), (5, ic_I x5), (6, ic_I (x6 ||| 0)), (7, ic_I (x7 + 1))]) ?_ (And.intro rfl (And.intro rfl (And.intro rfl (And.intro rfl (And.intro rfl (And.intro rfl (And.intro rfl (And.intro rfl trivial))))))))
        exact ih (x6 ||| 0) (x7 + 1) g1007 _ h _ _ hq
      · have h := (if_neg c1009).symm.trans h
        refine ev_iconst (a := 1) (b := 31) 1 rfl (by decide) ?_
        refine ev_iload (a := 2) (b := 0) rfl rfl ?_
        refine ev_ishl (a := 2) (b := 1) rfl ?_
        refine ev_goto (a := 2) (b := 2) 129 rfl rfl ?_
        refine ev_ior (a := 2) (b := 4) rfl ?_
        obtain ⟨y1010, ey1010, h⟩ := ic_letE h
        refine ev_topI ey1010 ?_
        refine ev_istore (a := 2) (b := 5) [(0, ic_R 16 0 0), (1, ic_I x1), (2, ic_I x2), (3, ic_I x3), (4, ic_I x4), (5, ic_I x5), (6, ic_I y1010), (7, ic_I x7)] rfl (by decide) (And.intro (Or.inr (And.intro rfl rfl)) (And.intro (Or.inr (And.intro rfl rfl)) (And.intro (Or.inr (And.intro rfl rfl)) (And.intro (Or.inr (And.intro rfl rfl)) (And.intro (Or.inr (And.intro rfl rfl)) (And.intro (Or.inr (And.intro rfl rfl)) (And.intro (Or.inl rfl) (And.intro (Or.inr (And.intro rfl rfl)) trivial)))))))) ?_
        refine ev_iinc (a := 2) (b := 6) (x7 + 1) [(0, ic_R 16 0 0), (1, ic_I x1), (2, ic_I x2), (3, ic_I x3), (4, ic_I x4), (5, ic_I x5), (6, ic_I y1010), (7, ic_I (x7 + 1))] rfl rfl (by first | rfl | decide) (by decide) (And.intro (Or.inr (And.intro rfl rfl)) (And.intro (Or.inr (And.intro rfl rfl)) (And.intro (Or.inr (And.intro rfl rfl)) (And.intro (Or.inr (And.intro rfl rfl)) (And.intro (Or.inr (And.intro rfl rfl)) (And.intro (Or.inr (And.intro rfl rfl)) (And.intro (Or.inr (And.intro rfl rfl)) (And.intro (Or.inl rfl) trivial)))))))) ?_
        refine ev_goto (a := 2) (b := 7) 17 rfl rfl ?_
        refine ev_fw (lv' := [(0, ic_R 16 0 0), (1, ic_I x1), (2, ic_I x2), (3, ic_I x3), (4, ic_I x4), (5, ic_I x5), (6, ic_I y1010), (7, ic_I (x7 + 1))]) ?_ (And.intro rfl (And.intro rfl (And.intro rfl (And.intro rfl (And.intro rfl (And.intro rfl (And.intro rfl (And.intro rfl trivial))))))))
        exact ih y1010 (x7 + 1) g1007 _ h _ _ hq
set_option maxRecDepth 20000 in
theorem eX7_fitting {x1 : Int32} {x2 : Int32} {x3 : Int32} {x4 : Int32} {x5 : Int32} {g g' : ic_S} {v : Int32} (h : fX7_fitting x1 x2 x3 x4 x5 g = some (v, g')) : ic_Ev mX7_fitting 0 (ic_ag 0 [ic_R 16 0 0, ic_I x1, ic_I x2, ic_I x3, ic_I x4, ic_I x5]) [] g (some (ic_I v)) g' := by
  unfold fX7_fitting at h
  change ic_Ev mX7_fitting 0 [(0, ic_R 16 0 0), (1, ic_I x1), (2, ic_I x2), (3, ic_I x3), (4, ic_I x4), (5, ic_I x5)] [] g _ _
  refine ev_aload_n (a := 0) (b := 0) rfl rfl ?_
  refine ev_get (a := 0) (b := 1) 7 0 rfl rfl (Nat.le_of_ble_eq_true rfl) lfX7_7 (gX7_d) ?_
  refine ev_aload_n (a := 0) (b := 2) rfl rfl ?_
  refine ev_get (a := 0) (b := 3) 7 2 rfl rfl (Nat.le_of_ble_eq_true rfl) lfX7_16 (gX7_aside) ?_
  obtain ⟨g1, e2, h⟩ := ic_b1E h
  refine ev_isV (a := 0) (b := 4) [ic_R 17 0 0, ic_R 17 2 0] rfl okX7_copies rfl lmX7_160 rfl (Nat.le_of_ble_eq_true rfl) (eX7_copies e2) (Nat.le_of_ble_eq_true rfl) rfl ?_
  refine ev_iconst (a := 0) (b := 5) 0 rfl (by decide) ?_
  refine ev_istore (a := 0) (b := 6) [(0, ic_R 16 0 0), (1, ic_I x1), (2, ic_I x2), (3, ic_I x3), (4, ic_I x4), (5, ic_I x5), (6, ic_I 0)] rfl (by decide) (And.intro (Or.inr (And.intro rfl rfl)) (And.intro (Or.inr (And.intro rfl rfl)) (And.intro (Or.inr (And.intro rfl rfl)) (And.intro (Or.inr (And.intro rfl rfl)) (And.intro (Or.inr (And.intro rfl rfl)) (And.intro (Or.inr (And.intro rfl rfl)) (And.intro (Or.inl rfl) trivial))))))) ?_
  refine ev_iconst (a := 0) (b := 7) 0 rfl (by decide) ?_
  refine ev_istore (a := 0) (b := 8) [(0, ic_R 16 0 0), (1, ic_I x1), (2, ic_I x2), (3, ic_I x3), (4, ic_I x4), (5, ic_I x5), (6, ic_I 0), (7, ic_I 0)] rfl (by decide) (And.intro (Or.inr (And.intro rfl rfl)) (And.intro (Or.inr (And.intro rfl rfl)) (And.intro (Or.inr (And.intro rfl rfl)) (And.intro (Or.inr (And.intro rfl rfl)) (And.intro (Or.inr (And.intro rfl rfl)) (And.intro (Or.inr (And.intro rfl rfl)) (And.intro (Or.inr (And.intro rfl rfl)) (And.intro (Or.inl rfl) trivial)))))))) ?_
  refine ev_fw (lv' := [(0, ic_R 16 0 0), (1, ic_I x1), (2, ic_I x2), (3, ic_I x3), (4, ic_I x4), (5, ic_I x5), (6, ic_I 0), (7, ic_I 0)]) ?_ (And.intro rfl (And.intro rfl (And.intro rfl (And.intro rfl (And.intro rfl (And.intro rfl (And.intro rfl (And.intro rfl trivial))))))))
  obtain ⟨y3, g4, e5, h⟩ := ic_b2E h
  refine tX7_fitting_17 (x1 := x1) (x2 := x2) (x3 := x3) (x4 := x4) (x5 := x5)  1000 0 0 g1 _ e5 _ _ ?_
  change ic_Ev mX7_fitting 138 [(6, ic_I y3)] [] g4 _ _
  refine ev_iload (a := 2) (b := 8) rfl rfl ?_
  obtain ⟨rfl, rfl⟩ := ic_s2 h
  exact ev_ireturn (a := 2) (b := 9) rfl rfl rfl
set_option maxRecDepth 20000 in
theorem eX7_fits {x1 : Int32} {x2 : Int32} {g g' : ic_S} {v : Int32} (h : fX7_fits x1 x2 g = some (v, g')) : ic_Ev mX7_fits 0 (ic_ag 0 [ic_R 16 0 0, ic_I x1, ic_I x2]) [] g (some (ic_I v)) g' := by
  unfold fX7_fits at h
  change ic_Ev mX7_fits 0 [(0, ic_R 16 0 0), (1, ic_I x1), (2, ic_I x2)] [] g _ _
  refine ev_aload_n (a := 0) (b := 0) rfl rfl ?_
  refine ev_iload_n (a := 0) (b := 1) rfl rfl ?_
  refine ev_iload_n (a := 0) (b := 2) rfl rfl ?_
  obtain ⟨v3, g1, e2, h⟩ := ic_b2E h
  refine ev_ivI (a := 0) (b := 3) [ic_I x1, ic_I x2] rfl okX7_whyNot rfl lmX7_182 rfl (rc16) (Nat.le_of_ble_eq_true rfl) (eX7_whyNot e2) (Nat.le_of_ble_eq_true rfl) rfl ?_
  refine ev_istore_n (a := 0) (b := 4) [(0, ic_R 16 0 0), (1, ic_I x1), (2, ic_I x2), (3, ic_I v3)] rfl (by decide) (And.intro (Or.inr (And.intro rfl rfl)) (And.intro (Or.inr (And.intro rfl rfl)) (And.intro (Or.inr (And.intro rfl rfl)) (And.intro (Or.inl rfl) trivial)))) ?_
  refine ev_iload_n (a := 0) (b := 5) rfl rfl ?_
  refine ev_iflt (a := 0) (b := 6) 19 rfl rfl (fun c4 => ?_) (fun c4 => ?_)
  · have h := (if_pos c4).symm.trans h
    refine ev_aload_n (a := 0) (b := 11) rfl rfl ?_
    refine ev_iload_n (a := 0) (b := 12) rfl rfl ?_
    refine ev_iload_n (a := 0) (b := 13) rfl rfl ?_
    refine ev_iconst (a := 0) (b := 14) 1 rfl (by decide) ?_
    refine ev_bipush (a := 0) (b := 15) 15 rfl (by decide) ?_
    refine ev_iconst (a := 0) (b := 16) 3 rfl (by decide) ?_
    obtain ⟨v7, g5, e6, h⟩ := ic_b2E h
    refine ev_ivI (a := 0) (b := 17) [ic_I x1, ic_I x2, ic_I 1, ic_I 15, ic_I 3] rfl okX7_fitting rfl lmX7_185 rfl (rc16) (Nat.le_of_ble_eq_true rfl) (eX7_fitting e6) (Nat.le_of_ble_eq_true rfl) rfl ?_
    obtain ⟨rfl, rfl⟩ := ic_s2 h
    exact ev_ireturn (a := 0) (b := 18) rfl rfl rfl
  · have h := (if_neg c4).symm.trans h
    refine ev_aload_n (a := 0) (b := 7) rfl rfl ?_
    refine ev_iload_n (a := 0) (b := 8) rfl rfl ?_
    obtain ⟨v10, g8, e9, h⟩ := ic_b2E h
    refine ev_ivI (a := 0) (b := 9) [ic_I v3] rfl okX7_finds rfl lmX7_117 rfl (rc16) (Nat.le_of_ble_eq_true rfl) (eX7_finds e9) (Nat.le_of_ble_eq_true rfl) rfl ?_
    refine ev_goto (a := 0) (b := 10) 29 rfl rfl ?_
    obtain ⟨rfl, rfl⟩ := ic_s2 h
    exact ev_ireturn (a := 0) (b := 18) rfl rfl rfl
set_option maxRecDepth 20000 in
theorem eX7_kinds {x1 : Int32} {x2 : Int32} {g g' : ic_S} {v : Int32} (h : fX7_kinds x1 x2 g = some (v, g')) : ic_Ev mX7_kinds 0 (ic_ag 0 [ic_R 16 0 0, ic_I x1, ic_I x2]) [] g (some (ic_I v)) g' := by
  unfold fX7_kinds at h
  change ic_Ev mX7_kinds 0 [(0, ic_R 16 0 0), (1, ic_I x1), (2, ic_I x2)] [] g _ _
  refine ev_aload_n (a := 0) (b := 0) rfl rfl ?_
  refine ev_iload_n (a := 0) (b := 1) rfl rfl ?_
  refine ev_iload_n (a := 0) (b := 2) rfl rfl ?_
  obtain ⟨v3, g1, e2, h⟩ := ic_b2E h
  refine ev_ivI (a := 0) (b := 3) [ic_I x1, ic_I x2] rfl okX7_whyNot rfl lmX7_182 rfl (rc16) (Nat.le_of_ble_eq_true rfl) (eX7_whyNot e2) (Nat.le_of_ble_eq_true rfl) rfl ?_
  refine ev_istore_n (a := 0) (b := 4) [(0, ic_R 16 0 0), (1, ic_I x1), (2, ic_I x2), (3, ic_I v3)] rfl (by decide) (And.intro (Or.inr (And.intro rfl rfl)) (And.intro (Or.inr (And.intro rfl rfl)) (And.intro (Or.inr (And.intro rfl rfl)) (And.intro (Or.inl rfl) trivial)))) ?_
  refine ev_iload_n (a := 0) (b := 5) rfl rfl ?_
  refine ev_iflt (a := 0) (b := 6) 19 rfl rfl (fun c4 => ?_) (fun c4 => ?_)
  · have h := (if_pos c4).symm.trans h
    refine ev_aload_n (a := 0) (b := 11) rfl rfl ?_
    refine ev_iload_n (a := 0) (b := 12) rfl rfl ?_
    refine ev_iload_n (a := 0) (b := 13) rfl rfl ?_
    refine ev_iconst (a := 0) (b := 14) 0 rfl (by decide) ?_
    refine ev_bipush (a := 0) (b := 15) 6 rfl (by decide) ?_
    refine ev_iconst (a := 0) (b := 16) 1 rfl (by decide) ?_
    obtain ⟨v7, g5, e6, h⟩ := ic_b2E h
    refine ev_ivI (a := 0) (b := 17) [ic_I x1, ic_I x2, ic_I 0, ic_I 6, ic_I 1] rfl okX7_fitting rfl lmX7_185 rfl (rc16) (Nat.le_of_ble_eq_true rfl) (eX7_fitting e6) (Nat.le_of_ble_eq_true rfl) rfl ?_
    obtain ⟨rfl, rfl⟩ := ic_s2 h
    exact ev_ireturn (a := 0) (b := 18) rfl rfl rfl
  · have h := (if_neg c4).symm.trans h
    refine ev_aload_n (a := 0) (b := 7) rfl rfl ?_
    refine ev_iload_n (a := 0) (b := 8) rfl rfl ?_
    obtain ⟨v10, g8, e9, h⟩ := ic_b2E h
    refine ev_ivI (a := 0) (b := 9) [ic_I v3] rfl okX7_finds rfl lmX7_117 rfl (rc16) (Nat.le_of_ble_eq_true rfl) (eX7_finds e9) (Nat.le_of_ble_eq_true rfl) rfl ?_
    refine ev_goto (a := 0) (b := 10) 29 rfl rfl ?_
    obtain ⟨rfl, rfl⟩ := ic_s2 h
    exact ev_ireturn (a := 0) (b := 18) rfl rfl rfl
set_option maxRecDepth 20000 in
theorem eX7_draw {g g' : ic_S} {v : Int32} (h : fX7_draw  g = some (v, g')) : ic_Ev mX7_draw 0 (ic_ag 0 [ic_R 16 0 0]) [] g (some (ic_I v)) g' := by
  unfold fX7_draw at h
  change ic_Ev mX7_draw 0 [(0, ic_R 16 0 0)] [] g _ _
  refine ev_aload_n (a := 0) (b := 0) rfl rfl ?_
  refine ev_get (a := 0) (b := 1) 7 0 rfl rfl (Nat.le_of_ble_eq_true rfl) lfX7_7 (gX7_d) ?_
  refine ev_iconst (a := 0) (b := 2) 2 rfl (by decide) ?_
  refine ev_aload_n (a := 0) (b := 3) rfl rfl ?_
  refine ev_get (a := 0) (b := 4) 7 0 rfl rfl (Nat.le_of_ble_eq_true rfl) lfX7_7 (gX7_d) ?_
  refine ev_iconst (a := 0) (b := 5) 2 rfl (by decide) ?_
  refine ev_ialdk (a := 0) (b := 6) 2 (by decide) rfl (a17 (by decide)) (by decide) ?_
  refine ev_ldc (a := 0) (b := 7) 1103515245 rfl lcX7_189 ?_
  refine ev_imul (a := 0) (b := 8) rfl ?_
  refine ev_sipush (a := 0) (b := 9) 12345 rfl (by decide) ?_
  refine ev_iadd (a := 0) (b := 10) rfl ?_
  obtain ⟨g1, eg1, h⟩ := ic_letE h
  refine ev_iastk (a := 0) (b := 11) 2 (by decide) rfl (by decide) (w17 (by decide) eg1) ?_
  refine ev_aload_n (a := 0) (b := 12) rfl rfl ?_
  refine ev_get (a := 0) (b := 13) 7 0 rfl rfl (Nat.le_of_ble_eq_true rfl) lfX7_7 (gX7_d) ?_
  refine ev_iconst (a := 0) (b := 14) 2 rfl (by decide) ?_
  refine ev_ialdk (a := 0) (b := 15) 2 (by decide) rfl (a17 (by decide)) (by decide) ?_
  refine ev_bipush (a := 0) (b := 16) 8 rfl (by decide) ?_
  refine ev_iushr (a := 0) (b := 17) rfl ?_
  obtain ⟨rfl, rfl⟩ := ic_s2 h
  exact ev_ireturn (a := 0) (b := 18) rfl rfl rfl
