theorem ic_othg (κ : ic_X) (g g' : ic_S) (x : ic_K) (hg : ∀ b i, ic_own b i ≠ x → g'.1 b i = g.1 b i) (h2 : g'.2 = g.2) : ∀ y ∈ ic_keys, y ≠ x → ic_cel κ g' y = ic_cel κ g y := by
  intro y hy hne
  have hb := ic_bnd y hy
  have hz : ∀ b i, ic_own b i = y → g'.1 b i = g.1 b i := fun b i e => hg b i (by rw [e]; exact hne)
  obtain ⟨C, s, t⟩ := y
  match C, hb, hz with
  | 0, hb, hz =>
    have h1 : s < 1 := hb.2.1
    have h2 : t < 1 := hb.2.2
    have e2 : t = 0 := by omega
    subst e2
    have e1 : s = 0 := by omega
    subst e1
    have h_hasKept : g'.1 7 0 = g.1 7 0 := by
      refine hz _ _ ?_
      rfl
    simp only [ic_cel, h_hasKept]
  | 1, hb, hz =>
    have h1 : s < 3 := hb.2.1
    have h2 : t < 1 := hb.2.2
    have e2 : t = 0 := by omega
    subst e2
    have h_cell : g'.1 s 3 = g.1 s 3 := by
      refine hz _ _ ?_
      rcases (show s = 0 ∨ s = 1 ∨ s = 2 by omega) with rfl | rfl | rfl <;> rfl
    have h_way : g'.1 s 4 = g.1 s 4 := by
      refine hz _ _ ?_
      rcases (show s = 0 ∨ s = 1 ∨ s = 2 by omega) with rfl | rfl | rfl <;> rfl
    have h_pace : g'.1 s 5 = g.1 s 5 := by
      refine hz _ _ ?_
      rcases (show s = 0 ∨ s = 1 ∨ s = 2 by omega) with rfl | rfl | rfl <;> rfl
    have h_loud : g'.1 s 6 = g.1 s 6 := by
      refine hz _ _ ?_
      rcases (show s = 0 ∨ s = 1 ∨ s = 2 by omega) with rfl | rfl | rfl <;> rfl
    have h_callNumber : g'.1 s 1 = g.1 s 1 := by
      refine hz _ _ ?_
      rcases (show s = 0 ∨ s = 1 ∨ s = 2 by omega) with rfl | rfl | rfl <;> rfl
    have h_z : g'.1 s 2 = g.1 s 2 := by
      refine hz _ _ ?_
      rcases (show s = 0 ∨ s = 1 ∨ s = 2 by omega) with rfl | rfl | rfl <;> rfl
    have h_made : g'.1 s 0 = g.1 s 0 := by
      refine hz _ _ ?_
      rcases (show s = 0 ∨ s = 1 ∨ s = 2 by omega) with rfl | rfl | rfl <;> rfl
    simp only [ic_cel, h_cell, h_way, h_pace, h_loud, h_callNumber, h_z, h_made]
  | 2, hb, hz =>
    rfl
  | 3, hb, hz =>
    have h1 : s < 3 := hb.2.1
    have h2 : t < 8 := hb.2.2
    have h_kind : g'.1 s (7 + t) = g.1 s (7 + t) := by
      refine hz _ _ ?_
      rcases (show s = 0 ∨ s = 1 ∨ s = 2 by omega) with rfl | rfl | rfl
      all_goals (show (if (7 + t) < 7 then _ else if (7 + t) < 63 then _ else _) = _; rw [if_neg (by omega), if_pos (by omega), show ((7 + t) - 7) % 8 = t by omega])
    have h_cell : g'.1 s (15 + t) = g.1 s (15 + t) := by
      refine hz _ _ ?_
      rcases (show s = 0 ∨ s = 1 ∨ s = 2 by omega) with rfl | rfl | rfl
      all_goals (show (if (15 + t) < 7 then _ else if (15 + t) < 63 then _ else _) = _; rw [if_neg (by omega), if_pos (by omega), show ((15 + t) - 7) % 8 = t by omega])
    have h_heavy : g'.1 s (23 + t) = g.1 s (23 + t) := by
      refine hz _ _ ?_
      rcases (show s = 0 ∨ s = 1 ∨ s = 2 by omega) with rfl | rfl | rfl
      all_goals (show (if (23 + t) < 7 then _ else if (23 + t) < 63 then _ else _) = _; rw [if_neg (by omega), if_pos (by omega), show ((23 + t) - 7) % 8 = t by omega])
    have h_pulled : g'.1 s (31 + t) = g.1 s (31 + t) := by
      refine hz _ _ ?_
      rcases (show s = 0 ∨ s = 1 ∨ s = 2 by omega) with rfl | rfl | rfl
      all_goals (show (if (31 + t) < 7 then _ else if (31 + t) < 63 then _ else _) = _; rw [if_neg (by omega), if_pos (by omega), show ((31 + t) - 7) % 8 = t by omega])
    have h_moved : g'.1 s (55 + t) = g.1 s (55 + t) := by
      refine hz _ _ ?_
      rcases (show s = 0 ∨ s = 1 ∨ s = 2 by omega) with rfl | rfl | rfl
      all_goals (show (if (55 + t) < 7 then _ else if (55 + t) < 63 then _ else _) = _; rw [if_neg (by omega), if_pos (by omega), show ((55 + t) - 7) % 8 = t by omega])
    have h_isHeld : g'.1 s (39 + t) = g.1 s (39 + t) := by
      refine hz _ _ ?_
      rcases (show s = 0 ∨ s = 1 ∨ s = 2 by omega) with rfl | rfl | rfl
      all_goals (show (if (39 + t) < 7 then _ else if (39 + t) < 63 then _ else _) = _; rw [if_neg (by omega), if_pos (by omega), show ((39 + t) - 7) % 8 = t by omega])
    have h_isTaken : g'.1 s (47 + t) = g.1 s (47 + t) := by
      refine hz _ _ ?_
      rcases (show s = 0 ∨ s = 1 ∨ s = 2 by omega) with rfl | rfl | rfl
      all_goals (show (if (47 + t) < 7 then _ else if (47 + t) < 63 then _ else _) = _; rw [if_neg (by omega), if_pos (by omega), show ((47 + t) - 7) % 8 = t by omega])
    simp only [ic_cel, h_kind, h_cell, h_heavy, h_pulled, h_moved, h_isHeld, h_isTaken]
  | 4, hb, hz =>
    have h1 : s < 3 := hb.2.1
    have h2 : t < 1 := hb.2.2
    have e2 : t = 0 := by omega
    subst e2
    have h : ∀ j, g'.1 s (63 + j) = g.1 s (63 + j) := by
      intro j
      refine hz _ _ ?_
      rcases (show s = 0 ∨ s = 1 ∨ s = 2 by omega) with rfl | rfl | rfl
      all_goals (show (if 63 + j < 7 then _ else if 63 + j < 63 then _ else _) = _; rw [if_neg (by omega), if_neg (by omega)])
    simp only [ic_cel, h]
  | 5, hb, hz =>
    have h1 : s < 1 := hb.2.1
    have h2 : t < 1 := hb.2.2
    have e2 : t = 0 := by omega
    subst e2
    have e1 : s = 0 := by omega
    subst e1
    have h_size : g'.1 8 0 = g.1 8 0 := by
      refine hz _ _ ?_
      rfl
    simp only [ic_cel, h_size]
  | 6, hb, hz =>
    have h1 : s < 1 := hb.2.1
    have h2 : t < 1 := hb.2.2
    have e2 : t = 0 := by omega
    subst e2
    have e1 : s = 0 := by omega
    subst e1
    have h : ∀ j, g'.1 9 (0 + j) = g.1 9 (0 + j) := by
      intro j
      refine hz _ _ ?_
      rfl
    simp only [ic_cel, h]
  | 7, hb, hz =>
    have h1 : s < 1 := hb.2.1
    have h2 : t < 1 := hb.2.2
    have e2 : t = 0 := by omega
    subst e2
    have e1 : s = 0 := by omega
    subst e1
    have h_size : g'.1 10 0 = g.1 10 0 := by
      refine hz _ _ ?_
      rfl
    simp only [ic_cel, h_size]
  | 8, hb, hz =>
    have h1 : s < 1 := hb.2.1
    have h2 : t < 1 := hb.2.2
    have e2 : t = 0 := by omega
    subst e2
    have e1 : s = 0 := by omega
    subst e1
    have h : ∀ j, g'.1 11 (0 + j) = g.1 11 (0 + j) := by
      intro j
      refine hz _ _ ?_
      rfl
    simp only [ic_cel, h]
  | 9, hb, hz =>
    have h1 : s < 1 := hb.2.1
    have h2 : t < 1 := hb.2.2
    have e2 : t = 0 := by omega
    subst e2
    have e1 : s = 0 := by omega
    subst e1
    have h : ∀ j, g'.1 12 (0 + j) = g.1 12 (0 + j) := by
      intro j
      refine hz _ _ ?_
      rfl
    simp only [ic_cel, h]
  | 10, hb, hz =>
    have h1 : s < 1 := hb.2.1
    have h2 : t < 1 := hb.2.2
    have e2 : t = 0 := by omega
    subst e2
    have e1 : s = 0 := by omega
    subst e1
    have h : ∀ j, g'.1 13 (0 + j) = g.1 13 (0 + j) := by
      intro j
      refine hz _ _ ?_
      rfl
    simp only [ic_cel, h]
  | 11, hb, hz =>
    have h1 : s < 1 := hb.2.1
    have h2 : t < 1 := hb.2.2
    have e2 : t = 0 := by omega
    subst e2
    have e1 : s = 0 := by omega
    subst e1
    have h_next : g'.1 14 0 = g.1 14 0 := by
      refine hz _ _ ?_
      rfl
    have h_isFaulty : g'.1 14 1 = g.1 14 1 := by
      refine hz _ _ ?_
      rfl
    simp only [ic_cel, h_next, h_isFaulty]
  | 12, hb, hz =>
    rfl
  | 13, hb, hz =>
    have h1 : s < 4 := hb.2.1
    have h2 : t < 1 := hb.2.2
    have e2 : t = 0 := by omega
    subst e2
    have h_bits : g'.1 (15 + s) 0 = g.1 (15 + s) 0 := by
      refine hz _ _ ?_
      rcases (show s = 0 ∨ s = 1 ∨ s = 2 ∨ s = 3 by omega) with rfl | rfl | rfl | rfl <;> rfl
    have h_size : g'.1 (15 + s) 1 = g.1 (15 + s) 1 := by
      refine hz _ _ ?_
      rcases (show s = 0 ∨ s = 1 ∨ s = 2 ∨ s = 3 by omega) with rfl | rfl | rfl | rfl <;> rfl
    simp only [ic_cel, h_bits, h_size]
  | 14, hb, hz =>
    have h1 : s < 4 := hb.2.1
    have h2 : t < 1 := hb.2.2
    have e2 : t = 0 := by omega
    subst e2
    have h : ∀ j, g'.1 (19 + s) (0 + j) = g.1 (19 + s) (0 + j) := by
      intro j
      refine hz _ _ ?_
      rcases (show s = 0 ∨ s = 1 ∨ s = 2 ∨ s = 3 by omega) with rfl | rfl | rfl | rfl <;> rfl
    simp only [ic_cel, h]
  | 15, hb, hz =>
    have h1 : s < 1 := hb.2.1
    have h2 : t < 1 := hb.2.2
    have e2 : t = 0 := by omega
    subst e2
    have e1 : s = 0 := by omega
    subst e1
    have h : ∀ j, g'.1 23 (0 + j) = g.1 23 (0 + j) := by
      intro j
      refine hz _ _ ?_
      rfl
    simp only [ic_cel, h]
  | 16, hb, hz =>
    have h1 : s < 1 := hb.2.1
    have h2 : t < 1 := hb.2.2
    have e2 : t = 0 := by omega
    subst e2
    have e1 : s = 0 := by omega
    subst e1
    have h_isKept : g'.1 24 0 = g.1 24 0 := by
      refine hz _ _ ?_
      rfl
    have h_taped : g'.1 24 1 = g.1 24 1 := by
      refine hz _ _ ?_
      rfl
    have h_at : g'.1 24 2 = g.1 24 2 := by
      refine hz _ _ ?_
      rfl
    have h_sort : g'.1 24 3 = g.1 24 3 := by
      refine hz _ _ ?_
      rfl
    have h_from : g'.1 24 4 = g.1 24 4 := by
      refine hz _ _ ?_
      rfl
    have h_fault : g'.1 24 5 = g.1 24 5 := by
      refine hz _ _ ?_
      rfl
    simp only [ic_cel, h_isKept, h_taped, h_at, h_sort, h_from, h_fault]
    rw [‹g'.2 = g.2›]
  | 17, hb, hz =>
    have h1 : s < 4 := hb.2.1
    have h2 : t < 1 := hb.2.2
    have e2 : t = 0 := by omega
    subst e2
    have h : ∀ j, g'.1 (3 + s) (0 + j) = g.1 (3 + s) (0 + j) := by
      intro j
      refine hz _ _ ?_
      rcases (show s = 0 ∨ s = 1 ∨ s = 2 ∨ s = 3 by omega) with rfl | rfl | rfl | rfl <;> rfl
    simp only [ic_cel, h]
  | 18, hb, hz =>
    have h1 : s < 1 := hb.2.1
    have h2 : t < 1 := hb.2.2
    have e2 : t = 0 := by omega
    subst e2
    have e1 : s = 0 := by omega
    subst e1
    have h : ∀ j, g'.1 25 (0 + j) = g.1 25 (0 + j) := by
      intro j
      refine hz _ _ ?_
      rfl
    simp only [ic_cel, h]
  | 19, hb, hz =>
    have h1 : s < 1 := hb.2.1
    have h2 : t < 1 := hb.2.2
    have e2 : t = 0 := by omega
    subst e2
    have e1 : s = 0 := by omega
    subst e1
    have h : ∀ j, g'.1 26 (0 + j) = g.1 26 (0 + j) := by
      intro j
      refine hz _ _ ?_
      rfl
    simp only [ic_cel, h]
  | 20, hb, hz =>
    have h1 : s < 1 := hb.2.1
    have h2 : t < 1 := hb.2.2
    have e2 : t = 0 := by omega
    subst e2
    have e1 : s = 0 := by omega
    subst e1
    have h : ∀ j, g'.1 27 (0 + j) = g.1 27 (0 + j) := by
      intro j
      refine hz _ _ ?_
      rfl
    simp only [ic_cel, h]
  | 21, hb, hz =>
    have h1 : s < 1 := hb.2.1
    have h2 : t < 1 := hb.2.2
    have e2 : t = 0 := by omega
    subst e2
    have e1 : s = 0 := by omega
    subst e1
    have h : ∀ j, g'.1 28 (0 + j) = g.1 28 (0 + j) := by
      intro j
      refine hz _ _ ?_
      rfl
    simp only [ic_cel, h]
  | 22, hb, hz =>
    have h1 : s < 1 := hb.2.1
    have h2 : t < 1 := hb.2.2
    have e2 : t = 0 := by omega
    subst e2
    have e1 : s = 0 := by omega
    subst e1
    have h : ∀ j, g'.1 29 (0 + j) = g.1 29 (0 + j) := by
      intro j
      refine hz _ _ ?_
      rfl
    simp only [ic_cel, h]
  | 23, hb, hz =>
    have h1 : s < 1 := hb.2.1
    have h2 : t < 1 := hb.2.2
    have e2 : t = 0 := by omega
    subst e2
    have e1 : s = 0 := by omega
    subst e1
    have h : ∀ j, g'.1 30 (0 + j) = g.1 30 (0 + j) := by
      intro j
      refine hz _ _ ?_
      rfl
    simp only [ic_cel, h]
  | n + 24, hb, hz => exact absurd hb.1 (by show ¬ (n + 24 < 24); omega)
def ic_cpk (sp dp n : Int32) : Bool := (decide (0 ≤ sp.toInt) && decide (0 ≤ dp.toInt)) && (decide (0 ≤ n.toInt) && (decide (sp.toInt + n.toInt ≤ 40) && decide (dp.toInt + n.toInt ≤ 40)))
def ic_cpS (g : ic_S) (s1 s2 sp dp n : Nat) : ic_S := (fun c i => if c = 19 + s2 then va_cpy (fun j => g.1 (19 + s1) (0 + j)) (fun j => g.1 (19 + s2) (0 + j)) sp dp n i else g.1 c i, g.2)
theorem ic_xin {P Q : Prop} [Decidable P] [Decidable Q] (h : (decide P && decide Q) = true) : P ∧ Q := by
  simpa using h
theorem ic_s1 {α : Type} {a b : α} (h : some a = some b) : b = a := (Option.some.inj h).symm
theorem ic_s2 {α β : Type} {a c : α} {b d : β} (h : some (a, b) = some (c, d)) : c = a ∧ d = b := by
  have e := Option.some.inj h
  exact ⟨(congrArg Prod.fst e).symm, (congrArg Prod.snd e).symm⟩
theorem ic_moN {α : Type} {a : Option α} {f : Nat → Nat → Option α} {y : α} (h : ic_mo none a f = some y) : a = some y := h
theorem ic_moS {α : Type} {a : Option α} {f : Nat → Nat → Option α} {y : α} {s t : Nat} (h : ic_mo (some (s, t)) a f = some y) : f s t = some y := h
section IC8
variable {M : ic_M} {pc nx : Nat} {lv lv' : ic_L} {st stk : List ic_V} {g g1 g' : ic_S} {r : Option ic_V} {a b : Nat}
theorem ev_topI {x y : Int32} (e : y = x) (h : ic_Ev M pc lv (ic_I y :: st) g r g') : ic_Ev M pc lv (ic_I x :: st) g r g' := by rw [← e]; exact h
theorem ev_topJ {x y : Int64} (e : y = x) (h : ic_Ev M pc lv (ic_J y :: st) g r g') : ic_Ev M pc lv (ic_J x :: st) g r g' := by rw [← e]; exact h
theorem ev_ialdk {x : ic_K} {n : Nat} {f : Nat → Int32} {i : Int32} (k : Nat) (hk : i.toNatClampNeg = k) (hd : ic_at M a b = some (pc, .iaload, 1, nx)) (ha : ic_ai 0 n g x f) (hi : ic_in i n = true) (h : ic_Ev M nx lv (ic_I (f k) :: st) g r g') : ic_Ev M pc lv (ic_I i :: .inr (.inr (some x)) :: st) g r g' := by
  subst hk
  exact ev_iald hd ha hi h
theorem ev_baldk {x : ic_K} {n : Nat} {f : Nat → Int32} {i : Int32} (k : Nat) (hk : i.toNatClampNeg = k) (hd : ic_at M a b = some (pc, .baload, 1, nx)) (ha : ic_ai 1 n g x f) (hi : ic_in i n = true) (h : ic_Ev M nx lv (ic_I (f k) :: st) g r g') : ic_Ev M pc lv (ic_I i :: .inr (.inr (some x)) :: st) g r g' := by
  subst hk
  exact ev_bald hd ha hi h
theorem ev_iastk {x : ic_K} {n : Nat} {f : Nat → Int32} {i v : Int32} (k : Nat) (hk : i.toNatClampNeg = k) (hd : ic_at M a b = some (pc, .iastore, 1, nx)) (hi : ic_in i n = true) (ha : ic_ap 0 n g x f k v g1) (h : ic_Ev M nx lv st g1 r g') : ic_Ev M pc lv (ic_I v :: ic_I i :: .inr (.inr (some x)) :: st) g r g' := by
  subst hk
  exact ev_iast hd hi ha h
theorem ev_bastk {x : ic_K} {n : Nat} {f : Nat → Int32} {i v : Int32} (k : Nat) (hk : i.toNatClampNeg = k) (hd : ic_at M a b = some (pc, .bastore, 1, nx)) (hi : ic_in i n = true) (ha : ic_ap 1 n g x f k v.toInt8.toInt32 g1) (h : ic_Ev M nx lv st g1 r g') : ic_Ev M pc lv (ic_I v :: ic_I i :: .inr (.inr (some x)) :: st) g r g' := by
  subst hk
  exact ev_bast hd hi ha h
theorem ev_ldc_w {i : Nat} (v : Int32) (hd : ic_at M a b = some (pc, .ldc_w i, 3, nx)) (hc0 : Cond.constant M.1.cls i v ∈ lw_gd) (h : ic_Ev M nx lv (ic_I v :: st) g r g') : ic_Ev M pc lv st g r g' := by
  intro κ A p l e R s m args below meth c cells slots Q B hc K H locs ls hW hl
  obtain ⟨hx, hb, hml, hown, hts, hfr, hlo, hF, hA, hok⟩ := id B
  obtain ⟨hd1, hd2⟩ := ic_okd_at hok hd
  dsimp only at hd1 hd2
  subst hd2
  exact lv_ldcw hx hb hown (hts _ hc0) hd1 (h κ A p l e R s m args below meth c cells slots Q B hc K H locs ls hW hl)
theorem ev_cpn {idx s1 s2 : Nat} {sp dp n : Int32} (hd : ic_at M a b = some (pc, .invokestatic idx, 3, nx)) (hl0 : Cond.methodLink M.1.cls idx arraycopyName ∈ lw_gd) (h1 : s1 < 4) (h2 : s2 < 4) (hk : ic_cpk sp dp n = true) (hg : g1 = ic_cpS g s1 s2 sp.toNatClampNeg dp.toNatClampNeg n.toNatClampNeg) (hroom : (Nat.ble 1 M.2.2.2.2.1 && Nat.ble 26 M.2.2.2.2.2.1) = true) (h : ic_Ev M nx lv [] g1 r g') : ic_Ev M pc lv [ic_I n, ic_I dp, ic_R 14 s2 0, ic_I sp, ic_R 14 s1 0] g r g' := by
  subst hg
  unfold ic_cpk at hk
  simp only [Bool.and_eq_true, decide_eq_true_eq] at hk
  obtain ⟨⟨k1, k2⟩, k3, k4, k5⟩ := hk
  rw [Bool.and_eq_true] at hroom
  have r1 := Nat.le_of_ble_eq_true hroom.1
  have r2 := Nat.le_of_ble_eq_true hroom.2
  have nn : ∀ z : Int32, 0 ≤ z.toInt → ¬ z < 0 := fun z hz q => by
    have := Int32.lt_iff_toInt_lt.mp q
    rw [Int32.toInt_zero] at this
    omega
  have tc : ∀ z : Int32, 0 ≤ z.toInt → (z.toNatClampNeg : Int) = z.toInt := fun z hz => by
    show ((z.toInt.toNat : Nat) : Int) = z.toInt
    omega
  have ho : ic_own (19 + s2) 0 = (14, s2, 0) := by rcases (show s2 = 0 ∨ s2 = 1 ∨ s2 = 2 ∨ s2 = 3 by omega) with rfl | rfl | rfl | rfl <;> rfl
  have hob : ∀ i, ic_own (19 + s2) i = (14, s2, 0) := by intro i; rcases (show s2 = 0 ∨ s2 = 1 ∨ s2 = 2 ∨ s2 = 3 by omega) with rfl | rfl | rfl | rfl <;> rfl
  refine ev_copy hd hl0 ok_arraycopy ⟨r1, r2⟩ (Nat.zero_le _) (a14 h1) (a14 h2) (nn _ k1) (nn _ k2) (nn _ k3) (by have := tc _ k1; have := tc _ k3; omega) (by have := tc _ k2; have := tc _ k3; omega) (fun κ => ⟨?_, ?_⟩) ⟨fun i => ?_, ?_⟩ h
  · show Sum.inl (κ.2.2.1 0, 40, Sum.inl (fun j => (ic_cpS g s1 s2 sp.toNatClampNeg dp.toNatClampNeg n.toNatClampNeg).1 (19 + s2) (0 + j))) = _
    have e : (fun j => (ic_cpS g s1 s2 sp.toNatClampNeg dp.toNatClampNeg n.toNatClampNeg).1 (19 + s2) (0 + j)) = va_cpy (fun j => g.1 (19 + s1) (0 + j)) (fun j => g.1 (19 + s2) (0 + j)) sp.toNatClampNeg dp.toNatClampNeg n.toNatClampNeg := by
      funext j
      show (if _ then _ else _) = _
      rw [if_pos rfl, Nat.zero_add]
    rw [e]
  · refine ic_othg κ g _ (14, s2, 0) (fun b i hb => ?_) rfl
    show (if _ then _ else _) = _
    rw [if_neg]
    intro e
    exact hb (by rw [e]; exact hob i)
  · show (if _ then _ else _) = _
    rw [if_neg (by omega)]
  · show (if _ then _ else _) = _
    rw [if_neg (by omega)]
end IC8
