theorem ic_upS {g : ic_S} {b i : Nat} {v : Int32} : (ic_up g b i v).1 b i = v := if_pos ⟨rfl, rfl⟩
theorem ic_upN {g : ic_S} {b i b' i' : Nat} {v : Int32} (h : ¬ (b' = b ∧ i' = i)) : (ic_up g b i v).1 b' i' = g.1 b' i' := if_neg h
theorem gX6_street {g : ic_S} : ic_fg 6 0 g (0, 0, 0) (ic_R 1 0 0) := ⟨ic_memk 0 (by decide) 0 (by decide) 0 (by decide), fun κ => ⟨_, rfl, by rw [ic_cvk (show (1 : Nat) ≠ 26 by decide)]; rfl⟩⟩
theorem gX6_trial {g : ic_S} : ic_fg 6 1 g (0, 0, 0) (ic_R 1 1 0) := ⟨ic_memk 0 (by decide) 0 (by decide) 0 (by decide), fun κ => ⟨_, rfl, by rw [ic_cvk (show (1 : Nat) ≠ 26 by decide)]; rfl⟩⟩
theorem gX6_kept {g : ic_S} : ic_fg 6 2 g (0, 0, 0) (ic_R 1 2 0) := ⟨ic_memk 0 (by decide) 0 (by decide) 0 (by decide), fun κ => ⟨_, rfl, by rw [ic_cvk (show (1 : Nat) ≠ 26 by decide)]; rfl⟩⟩
theorem gX6_hasKept {g : ic_S} : ic_fg 6 3 g (0, 0, 0) (ic_I (g.1 7 0)) := ⟨ic_memk 0 (by decide) 0 (by decide) 0 (by decide), fun κ => ⟨_, rfl, rfl⟩⟩
theorem pX6_hasKept {g g1 : ic_S} {v : Int32} (hz : ic_nz v = true) (h1 : g1 = ic_up g 7 0 v) : ic_fp 6 3 g (0, 0, 0) (ic_I v) g1 := by
  subst h1
  have e : (ic_up g 7 0 v).1 7 0 = v := ic_upS
  have ho : ic_own 7 0 = (0, 0, 0) := by
    rfl
  refine ⟨ic_memk 0 (by decide) 0 (by decide) 0 (by decide), fun κ => ⟨_, rfl, ?_, by show _ < 9; decide⟩, fun κ y hy hne => ic_oth κ g _ _ v y hy (fun q => hne (q.symm.trans ho)), fun k => ?_, ?_, fun κ => ic_nzn hz⟩
  · show ic_cel κ (ic_up g 7 0 v) (0, 0, 0) = _
    simp only [ic_cel, e]
    rfl
  · exact ic_upN (by omega)
  · exact ic_upN (by omega)
theorem gX6_tape {g : ic_S} : ic_fg 6 4 g (0, 0, 0) (ic_R 5 0 0) := ⟨ic_memk 0 (by decide) 0 (by decide) 0 (by decide), fun κ => ⟨_, rfl, by rw [ic_cvk (show (5 : Nat) ≠ 26 by decide)]; rfl⟩⟩
theorem gX6_tokens {g : ic_S} : ic_fg 6 5 g (0, 0, 0) (ic_R 7 0 0) := ⟨ic_memk 0 (by decide) 0 (by decide) 0 (by decide), fun κ => ⟨_, rfl, by rw [ic_cvk (show (7 : Nat) ≠ 26 by decide)]; rfl⟩⟩
theorem gX6_reader {g : ic_S} : ic_fg 6 6 g (0, 0, 0) (ic_R 11 0 0) := ⟨ic_memk 0 (by decide) 0 (by decide) 0 (by decide), fun κ => ⟨_, rfl, by rw [ic_cvk (show (11 : Nat) ≠ 26 by decide)]; rfl⟩⟩
theorem gX6_sheets {g : ic_S} : ic_fg 6 7 g (0, 0, 0) (ic_R 12 0 0) := ⟨ic_memk 0 (by decide) 0 (by decide) 0 (by decide), fun κ => ⟨_, rfl, by rw [ic_cvk (show (12 : Nat) ≠ 26 by decide)]; rfl⟩⟩
theorem gX6_findings {g : ic_S} : ic_fg 6 8 g (0, 0, 0) (ic_R 15 0 0) := ⟨ic_memk 0 (by decide) 0 (by decide) 0 (by decide), fun κ => ⟨_, rfl, by rw [ic_cvk (show (15 : Nat) ≠ 26 by decide)]; rfl⟩⟩
theorem gX2_cell {g : ic_S} {s : Nat} (hs : s < 3) : ic_fg 2 0 g (1, s, 0) (ic_I (g.1 s 3)) := ⟨ic_memk 1 (by decide) s hs 0 (by decide), fun κ => ⟨_, rfl, rfl⟩⟩
theorem pX2_cell {g g1 : ic_S} {v : Int32} {s : Nat} (hs : s < 3) (h1 : g1 = ic_up g s 3 v) : ic_fp 2 0 g (1, s, 0) (ic_I v) g1 := by
  subst h1
  have e : (ic_up g s 3 v).1 s 3 = v := ic_upS
  have ho : ic_own s 3 = (1, s, 0) := by
    rcases (show s = 0 ∨ s = 1 ∨ s = 2 by omega) with rfl | rfl | rfl <;> rfl
  refine ⟨ic_memk 1 (by decide) s hs 0 (by decide), fun κ => ⟨_, rfl, ?_, by show _ < 9; decide⟩, fun κ y hy hne => ic_oth κ g _ _ v y hy (fun q => hne (q.symm.trans ho)), fun k => ?_, ?_, fun κ => ⟨rfl, rfl⟩⟩
  · show ic_cel κ (ic_up g s 3 v) (1, s, 0) = _
    have h_way : (ic_up g s 3 v).1 s 4 = g.1 s 4 := ic_upN (by omega)
    have h_pace : (ic_up g s 3 v).1 s 5 = g.1 s 5 := ic_upN (by omega)
    have h_loud : (ic_up g s 3 v).1 s 6 = g.1 s 6 := ic_upN (by omega)
    have h_callNumber : (ic_up g s 3 v).1 s 1 = g.1 s 1 := ic_upN (by omega)
    have h_z : (ic_up g s 3 v).1 s 2 = g.1 s 2 := ic_upN (by omega)
    have h_made : (ic_up g s 3 v).1 s 0 = g.1 s 0 := ic_upN (by omega)
    simp only [ic_cel, e, h_way, h_pace, h_loud, h_callNumber, h_z, h_made]
    rfl
  · exact ic_upN (by omega)
  · exact ic_upN (by omega)
theorem gX2_way {g : ic_S} {s : Nat} (hs : s < 3) : ic_fg 2 1 g (1, s, 0) (ic_I (g.1 s 4)) := ⟨ic_memk 1 (by decide) s hs 0 (by decide), fun κ => ⟨_, rfl, rfl⟩⟩
theorem pX2_way {g g1 : ic_S} {v : Int32} {s : Nat} (hs : s < 3) (h1 : g1 = ic_up g s 4 v) : ic_fp 2 1 g (1, s, 0) (ic_I v) g1 := by
  subst h1
  have e : (ic_up g s 4 v).1 s 4 = v := ic_upS
  have ho : ic_own s 4 = (1, s, 0) := by
    rcases (show s = 0 ∨ s = 1 ∨ s = 2 by omega) with rfl | rfl | rfl <;> rfl
  refine ⟨ic_memk 1 (by decide) s hs 0 (by decide), fun κ => ⟨_, rfl, ?_, by show _ < 9; decide⟩, fun κ y hy hne => ic_oth κ g _ _ v y hy (fun q => hne (q.symm.trans ho)), fun k => ?_, ?_, fun κ => ⟨rfl, rfl⟩⟩
  · show ic_cel κ (ic_up g s 4 v) (1, s, 0) = _
    have h_cell : (ic_up g s 4 v).1 s 3 = g.1 s 3 := ic_upN (by omega)
    have h_pace : (ic_up g s 4 v).1 s 5 = g.1 s 5 := ic_upN (by omega)
    have h_loud : (ic_up g s 4 v).1 s 6 = g.1 s 6 := ic_upN (by omega)
    have h_callNumber : (ic_up g s 4 v).1 s 1 = g.1 s 1 := ic_upN (by omega)
    have h_z : (ic_up g s 4 v).1 s 2 = g.1 s 2 := ic_upN (by omega)
    have h_made : (ic_up g s 4 v).1 s 0 = g.1 s 0 := ic_upN (by omega)
    simp only [ic_cel, e, h_cell, h_pace, h_loud, h_callNumber, h_z, h_made]
    rfl
  · exact ic_upN (by omega)
  · exact ic_upN (by omega)
theorem gX2_pace {g : ic_S} {s : Nat} (hs : s < 3) : ic_fg 2 2 g (1, s, 0) (ic_I (g.1 s 5)) := ⟨ic_memk 1 (by decide) s hs 0 (by decide), fun κ => ⟨_, rfl, rfl⟩⟩
theorem pX2_pace {g g1 : ic_S} {v : Int32} {s : Nat} (hs : s < 3) (h1 : g1 = ic_up g s 5 v) : ic_fp 2 2 g (1, s, 0) (ic_I v) g1 := by
  subst h1
  have e : (ic_up g s 5 v).1 s 5 = v := ic_upS
  have ho : ic_own s 5 = (1, s, 0) := by
    rcases (show s = 0 ∨ s = 1 ∨ s = 2 by omega) with rfl | rfl | rfl <;> rfl
  refine ⟨ic_memk 1 (by decide) s hs 0 (by decide), fun κ => ⟨_, rfl, ?_, by show _ < 9; decide⟩, fun κ y hy hne => ic_oth κ g _ _ v y hy (fun q => hne (q.symm.trans ho)), fun k => ?_, ?_, fun κ => ⟨rfl, rfl⟩⟩
  · show ic_cel κ (ic_up g s 5 v) (1, s, 0) = _
    have h_cell : (ic_up g s 5 v).1 s 3 = g.1 s 3 := ic_upN (by omega)
    have h_way : (ic_up g s 5 v).1 s 4 = g.1 s 4 := ic_upN (by omega)
    have h_loud : (ic_up g s 5 v).1 s 6 = g.1 s 6 := ic_upN (by omega)
    have h_callNumber : (ic_up g s 5 v).1 s 1 = g.1 s 1 := ic_upN (by omega)
    have h_z : (ic_up g s 5 v).1 s 2 = g.1 s 2 := ic_upN (by omega)
    have h_made : (ic_up g s 5 v).1 s 0 = g.1 s 0 := ic_upN (by omega)
    simp only [ic_cel, e, h_cell, h_way, h_loud, h_callNumber, h_z, h_made]
    rfl
  · exact ic_upN (by omega)
  · exact ic_upN (by omega)
theorem gX2_loud {g : ic_S} {s : Nat} (hs : s < 3) : ic_fg 2 3 g (1, s, 0) (ic_I (g.1 s 6)) := ⟨ic_memk 1 (by decide) s hs 0 (by decide), fun κ => ⟨_, rfl, rfl⟩⟩
theorem pX2_loud {g g1 : ic_S} {v : Int32} {s : Nat} (hs : s < 3) (h1 : g1 = ic_up g s 6 v) : ic_fp 2 3 g (1, s, 0) (ic_I v) g1 := by
  subst h1
  have e : (ic_up g s 6 v).1 s 6 = v := ic_upS
  have ho : ic_own s 6 = (1, s, 0) := by
    rcases (show s = 0 ∨ s = 1 ∨ s = 2 by omega) with rfl | rfl | rfl <;> rfl
  refine ⟨ic_memk 1 (by decide) s hs 0 (by decide), fun κ => ⟨_, rfl, ?_, by show _ < 9; decide⟩, fun κ y hy hne => ic_oth κ g _ _ v y hy (fun q => hne (q.symm.trans ho)), fun k => ?_, ?_, fun κ => ⟨rfl, rfl⟩⟩
  · show ic_cel κ (ic_up g s 6 v) (1, s, 0) = _
    have h_cell : (ic_up g s 6 v).1 s 3 = g.1 s 3 := ic_upN (by omega)
    have h_way : (ic_up g s 6 v).1 s 4 = g.1 s 4 := ic_upN (by omega)
    have h_pace : (ic_up g s 6 v).1 s 5 = g.1 s 5 := ic_upN (by omega)
    have h_callNumber : (ic_up g s 6 v).1 s 1 = g.1 s 1 := ic_upN (by omega)
    have h_z : (ic_up g s 6 v).1 s 2 = g.1 s 2 := ic_upN (by omega)
    have h_made : (ic_up g s 6 v).1 s 0 = g.1 s 0 := ic_upN (by omega)
    simp only [ic_cel, e, h_cell, h_way, h_pace, h_callNumber, h_z, h_made]
    rfl
  · exact ic_upN (by omega)
  · exact ic_upN (by omega)
theorem gX2_callNumber {g : ic_S} {s : Nat} (hs : s < 3) : ic_fg 2 4 g (1, s, 0) (ic_I (g.1 s 1)) := ⟨ic_memk 1 (by decide) s hs 0 (by decide), fun κ => ⟨_, rfl, rfl⟩⟩
theorem pX2_callNumber {g g1 : ic_S} {v : Int32} {s : Nat} (hs : s < 3) (h1 : g1 = ic_up g s 1 v) : ic_fp 2 4 g (1, s, 0) (ic_I v) g1 := by
  subst h1
  have e : (ic_up g s 1 v).1 s 1 = v := ic_upS
  have ho : ic_own s 1 = (1, s, 0) := by
    rcases (show s = 0 ∨ s = 1 ∨ s = 2 by omega) with rfl | rfl | rfl <;> rfl
  refine ⟨ic_memk 1 (by decide) s hs 0 (by decide), fun κ => ⟨_, rfl, ?_, by show _ < 9; decide⟩, fun κ y hy hne => ic_oth κ g _ _ v y hy (fun q => hne (q.symm.trans ho)), fun k => ?_, ?_, fun κ => ⟨rfl, rfl⟩⟩
  · show ic_cel κ (ic_up g s 1 v) (1, s, 0) = _
    have h_cell : (ic_up g s 1 v).1 s 3 = g.1 s 3 := ic_upN (by omega)
    have h_way : (ic_up g s 1 v).1 s 4 = g.1 s 4 := ic_upN (by omega)
    have h_pace : (ic_up g s 1 v).1 s 5 = g.1 s 5 := ic_upN (by omega)
    have h_loud : (ic_up g s 1 v).1 s 6 = g.1 s 6 := ic_upN (by omega)
    have h_z : (ic_up g s 1 v).1 s 2 = g.1 s 2 := ic_upN (by omega)
    have h_made : (ic_up g s 1 v).1 s 0 = g.1 s 0 := ic_upN (by omega)
    simp only [ic_cel, e, h_cell, h_way, h_pace, h_loud, h_z, h_made]
    rfl
  · exact ic_upN (by omega)
  · exact ic_upN (by omega)
theorem gX2_z {g : ic_S} {s : Nat} (hs : s < 3) : ic_fg 2 5 g (1, s, 0) (ic_I (g.1 s 2)) := ⟨ic_memk 1 (by decide) s hs 0 (by decide), fun κ => ⟨_, rfl, rfl⟩⟩
theorem pX2_z {g g1 : ic_S} {v : Int32} {s : Nat} (hs : s < 3) (h1 : g1 = ic_up g s 2 v) : ic_fp 2 5 g (1, s, 0) (ic_I v) g1 := by
  subst h1
  have e : (ic_up g s 2 v).1 s 2 = v := ic_upS
  have ho : ic_own s 2 = (1, s, 0) := by
    rcases (show s = 0 ∨ s = 1 ∨ s = 2 by omega) with rfl | rfl | rfl <;> rfl
  refine ⟨ic_memk 1 (by decide) s hs 0 (by decide), fun κ => ⟨_, rfl, ?_, by show _ < 9; decide⟩, fun κ y hy hne => ic_oth κ g _ _ v y hy (fun q => hne (q.symm.trans ho)), fun k => ?_, ?_, fun κ => ⟨rfl, rfl⟩⟩
  · show ic_cel κ (ic_up g s 2 v) (1, s, 0) = _
    have h_cell : (ic_up g s 2 v).1 s 3 = g.1 s 3 := ic_upN (by omega)
    have h_way : (ic_up g s 2 v).1 s 4 = g.1 s 4 := ic_upN (by omega)
    have h_pace : (ic_up g s 2 v).1 s 5 = g.1 s 5 := ic_upN (by omega)
    have h_loud : (ic_up g s 2 v).1 s 6 = g.1 s 6 := ic_upN (by omega)
    have h_callNumber : (ic_up g s 2 v).1 s 1 = g.1 s 1 := ic_upN (by omega)
    have h_made : (ic_up g s 2 v).1 s 0 = g.1 s 0 := ic_upN (by omega)
    simp only [ic_cel, e, h_cell, h_way, h_pace, h_loud, h_callNumber, h_made]
    rfl
  · exact ic_upN (by omega)
  · exact ic_upN (by omega)
theorem gX2_made {g : ic_S} {s : Nat} (hs : s < 3) : ic_fg 2 6 g (1, s, 0) (ic_I (g.1 s 0)) := ⟨ic_memk 1 (by decide) s hs 0 (by decide), fun κ => ⟨_, rfl, rfl⟩⟩
theorem pX2_made {g g1 : ic_S} {v : Int32} {s : Nat} (hs : s < 3) (h1 : g1 = ic_up g s 0 v) : ic_fp 2 6 g (1, s, 0) (ic_I v) g1 := by
  subst h1
  have e : (ic_up g s 0 v).1 s 0 = v := ic_upS
  have ho : ic_own s 0 = (1, s, 0) := by
    rcases (show s = 0 ∨ s = 1 ∨ s = 2 by omega) with rfl | rfl | rfl <;> rfl
  refine ⟨ic_memk 1 (by decide) s hs 0 (by decide), fun κ => ⟨_, rfl, ?_, by show _ < 9; decide⟩, fun κ y hy hne => ic_oth κ g _ _ v y hy (fun q => hne (q.symm.trans ho)), fun k => ?_, ?_, fun κ => ⟨rfl, rfl⟩⟩
  · show ic_cel κ (ic_up g s 0 v) (1, s, 0) = _
    have h_cell : (ic_up g s 0 v).1 s 3 = g.1 s 3 := ic_upN (by omega)
    have h_way : (ic_up g s 0 v).1 s 4 = g.1 s 4 := ic_upN (by omega)
    have h_pace : (ic_up g s 0 v).1 s 5 = g.1 s 5 := ic_upN (by omega)
    have h_loud : (ic_up g s 0 v).1 s 6 = g.1 s 6 := ic_upN (by omega)
    have h_callNumber : (ic_up g s 0 v).1 s 1 = g.1 s 1 := ic_upN (by omega)
    have h_z : (ic_up g s 0 v).1 s 2 = g.1 s 2 := ic_upN (by omega)
    simp only [ic_cel, e, h_cell, h_way, h_pace, h_loud, h_callNumber, h_z]
    rfl
  · exact ic_upN (by omega)
  · exact ic_upN (by omega)
theorem gX2_things {g : ic_S} {s : Nat} (hs : s < 3) : ic_fg 2 7 g (1, s, 0) (ic_R 2 s 0) := ⟨ic_memk 1 (by decide) s hs 0 (by decide), fun κ => ⟨_, rfl, by rw [ic_cvk (show (2 : Nat) ≠ 26 by decide)]; rfl⟩⟩
theorem gX2_spots {g : ic_S} {s : Nat} (hs : s < 3) : ic_fg 2 8 g (1, s, 0) (ic_R 4 s 0) := ⟨ic_memk 1 (by decide) s hs 0 (by decide), fun κ => ⟨_, rfl, by rw [ic_cvk (show (4 : Nat) ≠ 26 by decide)]; rfl⟩⟩
theorem gX4_number {g : ic_S} {s : Nat} (hs : s < 3) {t : Nat} (ht : t < 8) : ic_fg 4 0 g (3, s, t) (ic_I (Int32.ofNat t)) := ⟨ic_memk 3 (by decide) s hs t ht, fun κ => ⟨_, rfl, rfl⟩⟩
theorem gX4_kind {g : ic_S} {s : Nat} (hs : s < 3) {t : Nat} (ht : t < 8) : ic_fg 4 1 g (3, s, t) (ic_I (g.1 s (7 + t))) := ⟨ic_memk 3 (by decide) s hs t ht, fun κ => ⟨_, rfl, rfl⟩⟩
theorem pX4_kind {g g1 : ic_S} {v : Int32} {s : Nat} (hs : s < 3) {t : Nat} (ht : t < 8) (h1 : g1 = ic_up g s (7 + t) v) : ic_fp 4 1 g (3, s, t) (ic_I v) g1 := by
  subst h1
  have e : (ic_up g s (7 + t) v).1 s (7 + t) = v := ic_upS
  have ho : ic_own s (7 + t) = (3, s, t) := by
    rcases (show s = 0 ∨ s = 1 ∨ s = 2 by omega) with rfl | rfl | rfl
    all_goals (show (if (7 + t) < 7 then _ else if (7 + t) < 63 then _ else _) = _; rw [if_neg (by omega), if_pos (by omega), show ((7 + t) - 7) % 8 = t by omega])
  refine ⟨ic_memk 3 (by decide) s hs t ht, fun κ => ⟨_, rfl, ?_, by show _ < 8; decide⟩, fun κ y hy hne => ic_oth κ g _ _ v y hy (fun q => hne (q.symm.trans ho)), fun k => ?_, ?_, fun κ => ⟨rfl, rfl⟩⟩
  · show ic_cel κ (ic_up g s (7 + t) v) (3, s, t) = _
    have h_cell : (ic_up g s (7 + t) v).1 s (15 + t) = g.1 s (15 + t) := ic_upN (by omega)
    have h_heavy : (ic_up g s (7 + t) v).1 s (23 + t) = g.1 s (23 + t) := ic_upN (by omega)
    have h_pulled : (ic_up g s (7 + t) v).1 s (31 + t) = g.1 s (31 + t) := ic_upN (by omega)
    have h_moved : (ic_up g s (7 + t) v).1 s (55 + t) = g.1 s (55 + t) := ic_upN (by omega)
    have h_isHeld : (ic_up g s (7 + t) v).1 s (39 + t) = g.1 s (39 + t) := ic_upN (by omega)
    have h_isTaken : (ic_up g s (7 + t) v).1 s (47 + t) = g.1 s (47 + t) := ic_upN (by omega)
    simp only [ic_cel, e, h_cell, h_heavy, h_pulled, h_moved, h_isHeld, h_isTaken]
    rfl
  · exact ic_upN (by omega)
  · exact ic_upN (by omega)
theorem gX4_cell {g : ic_S} {s : Nat} (hs : s < 3) {t : Nat} (ht : t < 8) : ic_fg 4 2 g (3, s, t) (ic_I (g.1 s (15 + t))) := ⟨ic_memk 3 (by decide) s hs t ht, fun κ => ⟨_, rfl, rfl⟩⟩
theorem pX4_cell {g g1 : ic_S} {v : Int32} {s : Nat} (hs : s < 3) {t : Nat} (ht : t < 8) (h1 : g1 = ic_up g s (15 + t) v) : ic_fp 4 2 g (3, s, t) (ic_I v) g1 := by
  subst h1
  have e : (ic_up g s (15 + t) v).1 s (15 + t) = v := ic_upS
  have ho : ic_own s (15 + t) = (3, s, t) := by
    rcases (show s = 0 ∨ s = 1 ∨ s = 2 by omega) with rfl | rfl | rfl
    all_goals (show (if (15 + t) < 7 then _ else if (15 + t) < 63 then _ else _) = _; rw [if_neg (by omega), if_pos (by omega), show ((15 + t) - 7) % 8 = t by omega])
  refine ⟨ic_memk 3 (by decide) s hs t ht, fun κ => ⟨_, rfl, ?_, by show _ < 8; decide⟩, fun κ y hy hne => ic_oth κ g _ _ v y hy (fun q => hne (q.symm.trans ho)), fun k => ?_, ?_, fun κ => ⟨rfl, rfl⟩⟩
  · show ic_cel κ (ic_up g s (15 + t) v) (3, s, t) = _
    have h_kind : (ic_up g s (15 + t) v).1 s (7 + t) = g.1 s (7 + t) := ic_upN (by omega)
    have h_heavy : (ic_up g s (15 + t) v).1 s (23 + t) = g.1 s (23 + t) := ic_upN (by omega)
    have h_pulled : (ic_up g s (15 + t) v).1 s (31 + t) = g.1 s (31 + t) := ic_upN (by omega)
    have h_moved : (ic_up g s (15 + t) v).1 s (55 + t) = g.1 s (55 + t) := ic_upN (by omega)
    have h_isHeld : (ic_up g s (15 + t) v).1 s (39 + t) = g.1 s (39 + t) := ic_upN (by omega)
    have h_isTaken : (ic_up g s (15 + t) v).1 s (47 + t) = g.1 s (47 + t) := ic_upN (by omega)
    simp only [ic_cel, e, h_kind, h_heavy, h_pulled, h_moved, h_isHeld, h_isTaken]
    rfl
  · exact ic_upN (by omega)
  · exact ic_upN (by omega)
theorem gX4_heavy {g : ic_S} {s : Nat} (hs : s < 3) {t : Nat} (ht : t < 8) : ic_fg 4 3 g (3, s, t) (ic_I (g.1 s (23 + t))) := ⟨ic_memk 3 (by decide) s hs t ht, fun κ => ⟨_, rfl, rfl⟩⟩
theorem pX4_heavy {g g1 : ic_S} {v : Int32} {s : Nat} (hs : s < 3) {t : Nat} (ht : t < 8) (h1 : g1 = ic_up g s (23 + t) v) : ic_fp 4 3 g (3, s, t) (ic_I v) g1 := by
  subst h1
  have e : (ic_up g s (23 + t) v).1 s (23 + t) = v := ic_upS
  have ho : ic_own s (23 + t) = (3, s, t) := by
    rcases (show s = 0 ∨ s = 1 ∨ s = 2 by omega) with rfl | rfl | rfl
    all_goals (show (if (23 + t) < 7 then _ else if (23 + t) < 63 then _ else _) = _; rw [if_neg (by omega), if_pos (by omega), show ((23 + t) - 7) % 8 = t by omega])
  refine ⟨ic_memk 3 (by decide) s hs t ht, fun κ => ⟨_, rfl, ?_, by show _ < 8; decide⟩, fun κ y hy hne => ic_oth κ g _ _ v y hy (fun q => hne (q.symm.trans ho)), fun k => ?_, ?_, fun κ => ⟨rfl, rfl⟩⟩
  · show ic_cel κ (ic_up g s (23 + t) v) (3, s, t) = _
    have h_kind : (ic_up g s (23 + t) v).1 s (7 + t) = g.1 s (7 + t) := ic_upN (by omega)
    have h_cell : (ic_up g s (23 + t) v).1 s (15 + t) = g.1 s (15 + t) := ic_upN (by omega)
    have h_pulled : (ic_up g s (23 + t) v).1 s (31 + t) = g.1 s (31 + t) := ic_upN (by omega)
    have h_moved : (ic_up g s (23 + t) v).1 s (55 + t) = g.1 s (55 + t) := ic_upN (by omega)
    have h_isHeld : (ic_up g s (23 + t) v).1 s (39 + t) = g.1 s (39 + t) := ic_upN (by omega)
    have h_isTaken : (ic_up g s (23 + t) v).1 s (47 + t) = g.1 s (47 + t) := ic_upN (by omega)
    simp only [ic_cel, e, h_kind, h_cell, h_pulled, h_moved, h_isHeld, h_isTaken]
    rfl
  · exact ic_upN (by omega)
  · exact ic_upN (by omega)
theorem gX4_pulled {g : ic_S} {s : Nat} (hs : s < 3) {t : Nat} (ht : t < 8) : ic_fg 4 4 g (3, s, t) (ic_I (g.1 s (31 + t))) := ⟨ic_memk 3 (by decide) s hs t ht, fun κ => ⟨_, rfl, rfl⟩⟩
theorem pX4_pulled {g g1 : ic_S} {v : Int32} {s : Nat} (hs : s < 3) {t : Nat} (ht : t < 8) (h1 : g1 = ic_up g s (31 + t) v) : ic_fp 4 4 g (3, s, t) (ic_I v) g1 := by
  subst h1
  have e : (ic_up g s (31 + t) v).1 s (31 + t) = v := ic_upS
  have ho : ic_own s (31 + t) = (3, s, t) := by
    rcases (show s = 0 ∨ s = 1 ∨ s = 2 by omega) with rfl | rfl | rfl
    all_goals (show (if (31 + t) < 7 then _ else if (31 + t) < 63 then _ else _) = _; rw [if_neg (by omega), if_pos (by omega), show ((31 + t) - 7) % 8 = t by omega])
  refine ⟨ic_memk 3 (by decide) s hs t ht, fun κ => ⟨_, rfl, ?_, by show _ < 8; decide⟩, fun κ y hy hne => ic_oth κ g _ _ v y hy (fun q => hne (q.symm.trans ho)), fun k => ?_, ?_, fun κ => ⟨rfl, rfl⟩⟩
  · show ic_cel κ (ic_up g s (31 + t) v) (3, s, t) = _
    have h_kind : (ic_up g s (31 + t) v).1 s (7 + t) = g.1 s (7 + t) := ic_upN (by omega)
    have h_cell : (ic_up g s (31 + t) v).1 s (15 + t) = g.1 s (15 + t) := ic_upN (by omega)
    have h_heavy : (ic_up g s (31 + t) v).1 s (23 + t) = g.1 s (23 + t) := ic_upN (by omega)
    have h_moved : (ic_up g s (31 + t) v).1 s (55 + t) = g.1 s (55 + t) := ic_upN (by omega)
    have h_isHeld : (ic_up g s (31 + t) v).1 s (39 + t) = g.1 s (39 + t) := ic_upN (by omega)
    have h_isTaken : (ic_up g s (31 + t) v).1 s (47 + t) = g.1 s (47 + t) := ic_upN (by omega)
    simp only [ic_cel, e, h_kind, h_cell, h_heavy, h_moved, h_isHeld, h_isTaken]
    rfl
  · exact ic_upN (by omega)
  · exact ic_upN (by omega)
theorem gX4_moved {g : ic_S} {s : Nat} (hs : s < 3) {t : Nat} (ht : t < 8) : ic_fg 4 5 g (3, s, t) (ic_I (g.1 s (55 + t))) := ⟨ic_memk 3 (by decide) s hs t ht, fun κ => ⟨_, rfl, rfl⟩⟩
theorem pX4_moved {g g1 : ic_S} {v : Int32} {s : Nat} (hs : s < 3) {t : Nat} (ht : t < 8) (h1 : g1 = ic_up g s (55 + t) v) : ic_fp 4 5 g (3, s, t) (ic_I v) g1 := by
  subst h1
  have e : (ic_up g s (55 + t) v).1 s (55 + t) = v := ic_upS
  have ho : ic_own s (55 + t) = (3, s, t) := by
    rcases (show s = 0 ∨ s = 1 ∨ s = 2 by omega) with rfl | rfl | rfl
    all_goals (show (if (55 + t) < 7 then _ else if (55 + t) < 63 then _ else _) = _; rw [if_neg (by omega), if_pos (by omega), show ((55 + t) - 7) % 8 = t by omega])
  refine ⟨ic_memk 3 (by decide) s hs t ht, fun κ => ⟨_, rfl, ?_, by show _ < 8; decide⟩, fun κ y hy hne => ic_oth κ g _ _ v y hy (fun q => hne (q.symm.trans ho)), fun k => ?_, ?_, fun κ => ⟨rfl, rfl⟩⟩
  · show ic_cel κ (ic_up g s (55 + t) v) (3, s, t) = _
    have h_kind : (ic_up g s (55 + t) v).1 s (7 + t) = g.1 s (7 + t) := ic_upN (by omega)
    have h_cell : (ic_up g s (55 + t) v).1 s (15 + t) = g.1 s (15 + t) := ic_upN (by omega)
    have h_heavy : (ic_up g s (55 + t) v).1 s (23 + t) = g.1 s (23 + t) := ic_upN (by omega)
    have h_pulled : (ic_up g s (55 + t) v).1 s (31 + t) = g.1 s (31 + t) := ic_upN (by omega)
    have h_isHeld : (ic_up g s (55 + t) v).1 s (39 + t) = g.1 s (39 + t) := ic_upN (by omega)
    have h_isTaken : (ic_up g s (55 + t) v).1 s (47 + t) = g.1 s (47 + t) := ic_upN (by omega)
    simp only [ic_cel, e, h_kind, h_cell, h_heavy, h_pulled, h_isHeld, h_isTaken]
    rfl
  · exact ic_upN (by omega)
  · exact ic_upN (by omega)
theorem gX4_isHeld {g : ic_S} {s : Nat} (hs : s < 3) {t : Nat} (ht : t < 8) : ic_fg 4 6 g (3, s, t) (ic_I (g.1 s (39 + t))) := ⟨ic_memk 3 (by decide) s hs t ht, fun κ => ⟨_, rfl, rfl⟩⟩
theorem pX4_isHeld {g g1 : ic_S} {v : Int32} {s : Nat} (hs : s < 3) {t : Nat} (ht : t < 8) (hz : ic_nz v = true) (h1 : g1 = ic_up g s (39 + t) v) : ic_fp 4 6 g (3, s, t) (ic_I v) g1 := by
  subst h1
  have e : (ic_up g s (39 + t) v).1 s (39 + t) = v := ic_upS
  have ho : ic_own s (39 + t) = (3, s, t) := by
    rcases (show s = 0 ∨ s = 1 ∨ s = 2 by omega) with rfl | rfl | rfl
    all_goals (show (if (39 + t) < 7 then _ else if (39 + t) < 63 then _ else _) = _; rw [if_neg (by omega), if_pos (by omega), show ((39 + t) - 7) % 8 = t by omega])
  refine ⟨ic_memk 3 (by decide) s hs t ht, fun κ => ⟨_, rfl, ?_, by show _ < 8; decide⟩, fun κ y hy hne => ic_oth κ g _ _ v y hy (fun q => hne (q.symm.trans ho)), fun k => ?_, ?_, fun κ => ic_nzn hz⟩
  · show ic_cel κ (ic_up g s (39 + t) v) (3, s, t) = _
    have h_kind : (ic_up g s (39 + t) v).1 s (7 + t) = g.1 s (7 + t) := ic_upN (by omega)
    have h_cell : (ic_up g s (39 + t) v).1 s (15 + t) = g.1 s (15 + t) := ic_upN (by omega)
    have h_heavy : (ic_up g s (39 + t) v).1 s (23 + t) = g.1 s (23 + t) := ic_upN (by omega)
    have h_pulled : (ic_up g s (39 + t) v).1 s (31 + t) = g.1 s (31 + t) := ic_upN (by omega)
    have h_moved : (ic_up g s (39 + t) v).1 s (55 + t) = g.1 s (55 + t) := ic_upN (by omega)
    have h_isTaken : (ic_up g s (39 + t) v).1 s (47 + t) = g.1 s (47 + t) := ic_upN (by omega)
    simp only [ic_cel, e, h_kind, h_cell, h_heavy, h_pulled, h_moved, h_isTaken]
    rfl
  · exact ic_upN (by omega)
  · exact ic_upN (by omega)
theorem gX4_isTaken {g : ic_S} {s : Nat} (hs : s < 3) {t : Nat} (ht : t < 8) : ic_fg 4 7 g (3, s, t) (ic_I (g.1 s (47 + t))) := ⟨ic_memk 3 (by decide) s hs t ht, fun κ => ⟨_, rfl, rfl⟩⟩
theorem pX4_isTaken {g g1 : ic_S} {v : Int32} {s : Nat} (hs : s < 3) {t : Nat} (ht : t < 8) (hz : ic_nz v = true) (h1 : g1 = ic_up g s (47 + t) v) : ic_fp 4 7 g (3, s, t) (ic_I v) g1 := by
  subst h1
  have e : (ic_up g s (47 + t) v).1 s (47 + t) = v := ic_upS
  have ho : ic_own s (47 + t) = (3, s, t) := by
    rcases (show s = 0 ∨ s = 1 ∨ s = 2 by omega) with rfl | rfl | rfl
    all_goals (show (if (47 + t) < 7 then _ else if (47 + t) < 63 then _ else _) = _; rw [if_neg (by omega), if_pos (by omega), show ((47 + t) - 7) % 8 = t by omega])
  refine ⟨ic_memk 3 (by decide) s hs t ht, fun κ => ⟨_, rfl, ?_, by show _ < 8; decide⟩, fun κ y hy hne => ic_oth κ g _ _ v y hy (fun q => hne (q.symm.trans ho)), fun k => ?_, ?_, fun κ => ic_nzn hz⟩
  · show ic_cel κ (ic_up g s (47 + t) v) (3, s, t) = _
    have h_kind : (ic_up g s (47 + t) v).1 s (7 + t) = g.1 s (7 + t) := ic_upN (by omega)
    have h_cell : (ic_up g s (47 + t) v).1 s (15 + t) = g.1 s (15 + t) := ic_upN (by omega)
    have h_heavy : (ic_up g s (47 + t) v).1 s (23 + t) = g.1 s (23 + t) := ic_upN (by omega)
    have h_pulled : (ic_up g s (47 + t) v).1 s (31 + t) = g.1 s (31 + t) := ic_upN (by omega)
    have h_moved : (ic_up g s (47 + t) v).1 s (55 + t) = g.1 s (55 + t) := ic_upN (by omega)
    have h_isHeld : (ic_up g s (47 + t) v).1 s (39 + t) = g.1 s (39 + t) := ic_upN (by omega)
    simp only [ic_cel, e, h_kind, h_cell, h_heavy, h_pulled, h_moved, h_isHeld]
    rfl
  · exact ic_upN (by omega)
  · exact ic_upN (by omega)
theorem gX3_size {g : ic_S} : ic_fg 3 0 g (5, 0, 0) (ic_I (g.1 8 0)) := ⟨ic_memk 5 (by decide) 0 (by decide) 0 (by decide), fun κ => ⟨_, rfl, rfl⟩⟩
theorem pX3_size {g g1 : ic_S} {v : Int32} (h1 : g1 = ic_up g 8 0 v) : ic_fp 3 0 g (5, 0, 0) (ic_I v) g1 := by
  subst h1
  have e : (ic_up g 8 0 v).1 8 0 = v := ic_upS
  have ho : ic_own 8 0 = (5, 0, 0) := by
    rfl
  refine ⟨ic_memk 5 (by decide) 0 (by decide) 0 (by decide), fun κ => ⟨_, rfl, ?_, by show _ < 2; decide⟩, fun κ y hy hne => ic_oth κ g _ _ v y hy (fun q => hne (q.symm.trans ho)), fun k => ?_, ?_, fun κ => ⟨rfl, rfl⟩⟩
  · show ic_cel κ (ic_up g 8 0 v) (5, 0, 0) = _
    simp only [ic_cel, e]
    rfl
  · exact ic_upN (by omega)
  · exact ic_upN (by omega)
theorem gX3_bytes {g : ic_S} : ic_fg 3 1 g (5, 0, 0) (ic_R 6 0 0) := ⟨ic_memk 5 (by decide) 0 (by decide) 0 (by decide), fun κ => ⟨_, rfl, by rw [ic_cvk (show (6 : Nat) ≠ 26 by decide)]; rfl⟩⟩
theorem gX5_tape {g : ic_S} : ic_fg 5 0 g (7, 0, 0) (ic_R 5 0 0) := ⟨ic_memk 7 (by decide) 0 (by decide) 0 (by decide), fun κ => ⟨_, rfl, by rw [ic_cvk (show (5 : Nat) ≠ 26 by decide)]; rfl⟩⟩
theorem gX5_size {g : ic_S} : ic_fg 5 1 g (7, 0, 0) (ic_I (g.1 10 0)) := ⟨ic_memk 7 (by decide) 0 (by decide) 0 (by decide), fun κ => ⟨_, rfl, rfl⟩⟩
theorem pX5_size {g g1 : ic_S} {v : Int32} (h1 : g1 = ic_up g 10 0 v) : ic_fp 5 1 g (7, 0, 0) (ic_I v) g1 := by
  subst h1
  have e : (ic_up g 10 0 v).1 10 0 = v := ic_upS
  have ho : ic_own 10 0 = (7, 0, 0) := by
    rfl
  refine ⟨ic_memk 7 (by decide) 0 (by decide) 0 (by decide), fun κ => ⟨_, rfl, ?_, by show _ < 5; decide⟩, fun κ y hy hne => ic_oth κ g _ _ v y hy (fun q => hne (q.symm.trans ho)), fun k => ?_, ?_, fun κ => ⟨rfl, rfl⟩⟩
  · show ic_cel κ (ic_up g 10 0 v) (7, 0, 0) = _
    simp only [ic_cel, e]
    rfl
  · exact ic_upN (by omega)
  · exact ic_upN (by omega)
theorem gX5_sorts {g : ic_S} : ic_fg 5 2 g (7, 0, 0) (ic_R 8 0 0) := ⟨ic_memk 7 (by decide) 0 (by decide) 0 (by decide), fun κ => ⟨_, rfl, by rw [ic_cvk (show (8 : Nat) ≠ 26 by decide)]; rfl⟩⟩
theorem gX5_places {g : ic_S} : ic_fg 5 3 g (7, 0, 0) (ic_R 9 0 0) := ⟨ic_memk 7 (by decide) 0 (by decide) 0 (by decide), fun κ => ⟨_, rfl, by rw [ic_cvk (show (9 : Nat) ≠ 26 by decide)]; rfl⟩⟩
theorem gX5_values {g : ic_S} : ic_fg 5 4 g (7, 0, 0) (ic_R 10 0 0) := ⟨ic_memk 7 (by decide) 0 (by decide) 0 (by decide), fun κ => ⟨_, rfl, by rw [ic_cvk (show (10 : Nat) ≠ 26 by decide)]; rfl⟩⟩
theorem gX0_tokens {g : ic_S} : ic_fg 0 0 g (11, 0, 0) (ic_R 7 0 0) := ⟨ic_memk 11 (by decide) 0 (by decide) 0 (by decide), fun κ => ⟨_, rfl, by rw [ic_cvk (show (7 : Nat) ≠ 26 by decide)]; rfl⟩⟩
theorem gX0_street {g : ic_S} : ic_fg 0 1 g (11, 0, 0) (ic_R 1 1 0) := ⟨ic_memk 11 (by decide) 0 (by decide) 0 (by decide), fun κ => ⟨_, rfl, by rw [ic_cvk (show (1 : Nat) ≠ 26 by decide)]; rfl⟩⟩
theorem gX0_next {g : ic_S} : ic_fg 0 2 g (11, 0, 0) (ic_I (g.1 14 0)) := ⟨ic_memk 11 (by decide) 0 (by decide) 0 (by decide), fun κ => ⟨_, rfl, rfl⟩⟩
theorem pX0_next {g g1 : ic_S} {v : Int32} (h1 : g1 = ic_up g 14 0 v) : ic_fp 0 2 g (11, 0, 0) (ic_I v) g1 := by
  subst h1
  have e : (ic_up g 14 0 v).1 14 0 = v := ic_upS
  have ho : ic_own 14 0 = (11, 0, 0) := by
    rfl
  refine ⟨ic_memk 11 (by decide) 0 (by decide) 0 (by decide), fun κ => ⟨_, rfl, ?_, by show _ < 4; decide⟩, fun κ y hy hne => ic_oth κ g _ _ v y hy (fun q => hne (q.symm.trans ho)), fun k => ?_, ?_, fun κ => ⟨rfl, rfl⟩⟩
  · show ic_cel κ (ic_up g 14 0 v) (11, 0, 0) = _
    have h_isFaulty : (ic_up g 14 0 v).1 14 1 = g.1 14 1 := ic_upN (by omega)
    simp only [ic_cel, e, h_isFaulty]
    rfl
  · exact ic_upN (by omega)
  · exact ic_upN (by omega)
theorem gX0_isFaulty {g : ic_S} : ic_fg 0 3 g (11, 0, 0) (ic_I (g.1 14 1)) := ⟨ic_memk 11 (by decide) 0 (by decide) 0 (by decide), fun κ => ⟨_, rfl, rfl⟩⟩
theorem pX0_isFaulty {g g1 : ic_S} {v : Int32} (hz : ic_nz v = true) (h1 : g1 = ic_up g 14 1 v) : ic_fp 0 3 g (11, 0, 0) (ic_I v) g1 := by
  subst h1
  have e : (ic_up g 14 1 v).1 14 1 = v := ic_upS
  have ho : ic_own 14 1 = (11, 0, 0) := by
    rfl
  refine ⟨ic_memk 11 (by decide) 0 (by decide) 0 (by decide), fun κ => ⟨_, rfl, ?_, by show _ < 4; decide⟩, fun κ y hy hne => ic_oth κ g _ _ v y hy (fun q => hne (q.symm.trans ho)), fun k => ?_, ?_, fun κ => ic_nzn hz⟩
  · show ic_cel κ (ic_up g 14 1 v) (11, 0, 0) = _
    have h_next : (ic_up g 14 1 v).1 14 0 = g.1 14 0 := ic_upN (by omega)
    simp only [ic_cel, e, h_next]
    rfl
  · exact ic_upN (by omega)
  · exact ic_upN (by omega)
theorem gX1_bits {g : ic_S} {s : Nat} (hs : s < 4) : ic_fg 1 0 g (13, s, 0) (ic_I (g.1 (15 + s) 0)) := ⟨ic_memk 13 (by decide) s hs 0 (by decide), fun κ => ⟨_, rfl, rfl⟩⟩
theorem pX1_bits {g g1 : ic_S} {v : Int32} {s : Nat} (hs : s < 4) (h1 : g1 = ic_up g (15 + s) 0 v) : ic_fp 1 0 g (13, s, 0) (ic_I v) g1 := by
  subst h1
  have e : (ic_up g (15 + s) 0 v).1 (15 + s) 0 = v := ic_upS
  have ho : ic_own (15 + s) 0 = (13, s, 0) := by
    rcases (show s = 0 ∨ s = 1 ∨ s = 2 ∨ s = 3 by omega) with rfl | rfl | rfl | rfl <;> rfl
  refine ⟨ic_memk 13 (by decide) s hs 0 (by decide), fun κ => ⟨_, rfl, ?_, by show _ < 3; decide⟩, fun κ y hy hne => ic_oth κ g _ _ v y hy (fun q => hne (q.symm.trans ho)), fun k => ?_, ?_, fun κ => ⟨rfl, rfl⟩⟩
  · show ic_cel κ (ic_up g (15 + s) 0 v) (13, s, 0) = _
    have h_size : (ic_up g (15 + s) 0 v).1 (15 + s) 1 = g.1 (15 + s) 1 := ic_upN (by omega)
    simp only [ic_cel, e, h_size]
    rfl
  · exact ic_upN (by omega)
  · exact ic_upN (by omega)
theorem gX1_size {g : ic_S} {s : Nat} (hs : s < 4) : ic_fg 1 1 g (13, s, 0) (ic_I (g.1 (15 + s) 1)) := ⟨ic_memk 13 (by decide) s hs 0 (by decide), fun κ => ⟨_, rfl, rfl⟩⟩
theorem pX1_size {g g1 : ic_S} {v : Int32} {s : Nat} (hs : s < 4) (h1 : g1 = ic_up g (15 + s) 1 v) : ic_fp 1 1 g (13, s, 0) (ic_I v) g1 := by
  subst h1
  have e : (ic_up g (15 + s) 1 v).1 (15 + s) 1 = v := ic_upS
  have ho : ic_own (15 + s) 1 = (13, s, 0) := by
    rcases (show s = 0 ∨ s = 1 ∨ s = 2 ∨ s = 3 by omega) with rfl | rfl | rfl | rfl <;> rfl
  refine ⟨ic_memk 13 (by decide) s hs 0 (by decide), fun κ => ⟨_, rfl, ?_, by show _ < 3; decide⟩, fun κ y hy hne => ic_oth κ g _ _ v y hy (fun q => hne (q.symm.trans ho)), fun k => ?_, ?_, fun κ => ⟨rfl, rfl⟩⟩
  · show ic_cel κ (ic_up g (15 + s) 1 v) (13, s, 0) = _
    have h_bits : (ic_up g (15 + s) 1 v).1 (15 + s) 0 = g.1 (15 + s) 0 := ic_upN (by omega)
    simp only [ic_cel, e, h_bits]
    rfl
  · exact ic_upN (by omega)
  · exact ic_upN (by omega)
theorem gX1_numbers {g : ic_S} {s : Nat} (hs : s < 4) : ic_fg 1 2 g (13, s, 0) (ic_R 14 s 0) := ⟨ic_memk 13 (by decide) s hs 0 (by decide), fun κ => ⟨_, rfl, by rw [ic_cvk (show (14 : Nat) ≠ 26 by decide)]; rfl⟩⟩
theorem gX7_d {g : ic_S} : ic_fg 7 0 g (16, 0, 0) (ic_R 17 0 0) := ⟨ic_memk 16 (by decide) 0 (by decide) 0 (by decide), fun κ => ⟨_, rfl, by rw [ic_cvk (show (17 : Nat) ≠ 26 by decide)]; rfl⟩⟩
theorem gX7_e {g : ic_S} : ic_fg 7 1 g (16, 0, 0) (ic_R 17 1 0) := ⟨ic_memk 16 (by decide) 0 (by decide) 0 (by decide), fun κ => ⟨_, rfl, by rw [ic_cvk (show (17 : Nat) ≠ 26 by decide)]; rfl⟩⟩
theorem gX7_aside {g : ic_S} : ic_fg 7 2 g (16, 0, 0) (ic_R 17 2 0) := ⟨ic_memk 16 (by decide) 0 (by decide) 0 (by decide), fun κ => ⟨_, rfl, by rw [ic_cvk (show (17 : Nat) ≠ 26 by decide)]; rfl⟩⟩
theorem gX7_kept {g : ic_S} : ic_fg 7 3 g (16, 0, 0) (ic_R 17 3 0) := ⟨ic_memk 16 (by decide) 0 (by decide) 0 (by decide), fun κ => ⟨_, rfl, by rw [ic_cvk (show (17 : Nat) ≠ 26 by decide)]; rfl⟩⟩
theorem gX7_isKept {g : ic_S} : ic_fg 7 4 g (16, 0, 0) (ic_I (g.1 24 0)) := ⟨ic_memk 16 (by decide) 0 (by decide) 0 (by decide), fun κ => ⟨_, rfl, rfl⟩⟩
theorem pX7_isKept {g g1 : ic_S} {v : Int32} (hz : ic_nz v = true) (h1 : g1 = ic_up g 24 0 v) : ic_fp 7 4 g (16, 0, 0) (ic_I v) g1 := by
  subst h1
  have e : (ic_up g 24 0 v).1 24 0 = v := ic_upS
  have ho : ic_own 24 0 = (16, 0, 0) := by
    rfl
  refine ⟨ic_memk 16 (by decide) 0 (by decide) 0 (by decide), fun κ => ⟨_, rfl, ?_, by show _ < 17; decide⟩, fun κ y hy hne => ic_oth κ g _ _ v y hy (fun q => hne (q.symm.trans ho)), fun k => ?_, ?_, fun κ => ic_nzn hz⟩
  · show ic_cel κ (ic_up g 24 0 v) (16, 0, 0) = _
    have h_taped : (ic_up g 24 0 v).1 24 1 = g.1 24 1 := ic_upN (by omega)
    have h_at : (ic_up g 24 0 v).1 24 2 = g.1 24 2 := ic_upN (by omega)
    have h_sort : (ic_up g 24 0 v).1 24 3 = g.1 24 3 := ic_upN (by omega)
    have h_from : (ic_up g 24 0 v).1 24 4 = g.1 24 4 := ic_upN (by omega)
    have h_fault : (ic_up g 24 0 v).1 24 5 = g.1 24 5 := ic_upN (by omega)
    simp only [ic_cel, e, h_taped, h_at, h_sort, h_from, h_fault]
    rfl
  · exact ic_upN (by omega)
  · exact ic_upN (by omega)
theorem gX7_found {g : ic_S} : ic_fg 7 5 g (16, 0, 0) (ic_R 18 0 0) := ⟨ic_memk 16 (by decide) 0 (by decide) 0 (by decide), fun κ => ⟨_, rfl, by rw [ic_cvk (show (18 : Nat) ≠ 26 by decide)]; rfl⟩⟩
theorem gX7_tape {g : ic_S} : ic_fg 7 6 g (16, 0, 0) (ic_R 19 0 0) := ⟨ic_memk 16 (by decide) 0 (by decide) 0 (by decide), fun κ => ⟨_, rfl, by rw [ic_cvk (show (19 : Nat) ≠ 26 by decide)]; rfl⟩⟩
theorem gX7_taped {g : ic_S} : ic_fg 7 7 g (16, 0, 0) (ic_I (g.1 24 1)) := ⟨ic_memk 16 (by decide) 0 (by decide) 0 (by decide), fun κ => ⟨_, rfl, rfl⟩⟩
theorem pX7_taped {g g1 : ic_S} {v : Int32} (h1 : g1 = ic_up g 24 1 v) : ic_fp 7 7 g (16, 0, 0) (ic_I v) g1 := by
  subst h1
  have e : (ic_up g 24 1 v).1 24 1 = v := ic_upS
  have ho : ic_own 24 1 = (16, 0, 0) := by
    rfl
  refine ⟨ic_memk 16 (by decide) 0 (by decide) 0 (by decide), fun κ => ⟨_, rfl, ?_, by show _ < 17; decide⟩, fun κ y hy hne => ic_oth κ g _ _ v y hy (fun q => hne (q.symm.trans ho)), fun k => ?_, ?_, fun κ => ⟨rfl, rfl⟩⟩
  · show ic_cel κ (ic_up g 24 1 v) (16, 0, 0) = _
    have h_isKept : (ic_up g 24 1 v).1 24 0 = g.1 24 0 := ic_upN (by omega)
    have h_at : (ic_up g 24 1 v).1 24 2 = g.1 24 2 := ic_upN (by omega)
    have h_sort : (ic_up g 24 1 v).1 24 3 = g.1 24 3 := ic_upN (by omega)
    have h_from : (ic_up g 24 1 v).1 24 4 = g.1 24 4 := ic_upN (by omega)
    have h_fault : (ic_up g 24 1 v).1 24 5 = g.1 24 5 := ic_upN (by omega)
    simp only [ic_cel, e, h_isKept, h_at, h_sort, h_from, h_fault]
    rfl
  · exact ic_upN (by omega)
  · exact ic_upN (by omega)
theorem gX7_at {g : ic_S} : ic_fg 7 8 g (16, 0, 0) (ic_I (g.1 24 2)) := ⟨ic_memk 16 (by decide) 0 (by decide) 0 (by decide), fun κ => ⟨_, rfl, rfl⟩⟩
theorem pX7_at {g g1 : ic_S} {v : Int32} (h1 : g1 = ic_up g 24 2 v) : ic_fp 7 8 g (16, 0, 0) (ic_I v) g1 := by
  subst h1
  have e : (ic_up g 24 2 v).1 24 2 = v := ic_upS
  have ho : ic_own 24 2 = (16, 0, 0) := by
    rfl
  refine ⟨ic_memk 16 (by decide) 0 (by decide) 0 (by decide), fun κ => ⟨_, rfl, ?_, by show _ < 17; decide⟩, fun κ y hy hne => ic_oth κ g _ _ v y hy (fun q => hne (q.symm.trans ho)), fun k => ?_, ?_, fun κ => ⟨rfl, rfl⟩⟩
  · show ic_cel κ (ic_up g 24 2 v) (16, 0, 0) = _
    have h_isKept : (ic_up g 24 2 v).1 24 0 = g.1 24 0 := ic_upN (by omega)
    have h_taped : (ic_up g 24 2 v).1 24 1 = g.1 24 1 := ic_upN (by omega)
    have h_sort : (ic_up g 24 2 v).1 24 3 = g.1 24 3 := ic_upN (by omega)
    have h_from : (ic_up g 24 2 v).1 24 4 = g.1 24 4 := ic_upN (by omega)
    have h_fault : (ic_up g 24 2 v).1 24 5 = g.1 24 5 := ic_upN (by omega)
    simp only [ic_cel, e, h_isKept, h_taped, h_sort, h_from, h_fault]
    rfl
  · exact ic_upN (by omega)
  · exact ic_upN (by omega)
theorem gX7_sort {g : ic_S} : ic_fg 7 9 g (16, 0, 0) (ic_I (g.1 24 3)) := ⟨ic_memk 16 (by decide) 0 (by decide) 0 (by decide), fun κ => ⟨_, rfl, rfl⟩⟩
theorem pX7_sort {g g1 : ic_S} {v : Int32} (h1 : g1 = ic_up g 24 3 v) : ic_fp 7 9 g (16, 0, 0) (ic_I v) g1 := by
  subst h1
  have e : (ic_up g 24 3 v).1 24 3 = v := ic_upS
  have ho : ic_own 24 3 = (16, 0, 0) := by
    rfl
  refine ⟨ic_memk 16 (by decide) 0 (by decide) 0 (by decide), fun κ => ⟨_, rfl, ?_, by show _ < 17; decide⟩, fun κ y hy hne => ic_oth κ g _ _ v y hy (fun q => hne (q.symm.trans ho)), fun k => ?_, ?_, fun κ => ⟨rfl, rfl⟩⟩
  · show ic_cel κ (ic_up g 24 3 v) (16, 0, 0) = _
    have h_isKept : (ic_up g 24 3 v).1 24 0 = g.1 24 0 := ic_upN (by omega)
    have h_taped : (ic_up g 24 3 v).1 24 1 = g.1 24 1 := ic_upN (by omega)
    have h_at : (ic_up g 24 3 v).1 24 2 = g.1 24 2 := ic_upN (by omega)
    have h_from : (ic_up g 24 3 v).1 24 4 = g.1 24 4 := ic_upN (by omega)
    have h_fault : (ic_up g 24 3 v).1 24 5 = g.1 24 5 := ic_upN (by omega)
    simp only [ic_cel, e, h_isKept, h_taped, h_at, h_from, h_fault]
    rfl
  · exact ic_upN (by omega)
  · exact ic_upN (by omega)
theorem gX7_from {g : ic_S} : ic_fg 7 10 g (16, 0, 0) (ic_I (g.1 24 4)) := ⟨ic_memk 16 (by decide) 0 (by decide) 0 (by decide), fun κ => ⟨_, rfl, rfl⟩⟩
theorem pX7_from {g g1 : ic_S} {v : Int32} (h1 : g1 = ic_up g 24 4 v) : ic_fp 7 10 g (16, 0, 0) (ic_I v) g1 := by
  subst h1
  have e : (ic_up g 24 4 v).1 24 4 = v := ic_upS
  have ho : ic_own 24 4 = (16, 0, 0) := by
    rfl
  refine ⟨ic_memk 16 (by decide) 0 (by decide) 0 (by decide), fun κ => ⟨_, rfl, ?_, by show _ < 17; decide⟩, fun κ y hy hne => ic_oth κ g _ _ v y hy (fun q => hne (q.symm.trans ho)), fun k => ?_, ?_, fun κ => ⟨rfl, rfl⟩⟩
  · show ic_cel κ (ic_up g 24 4 v) (16, 0, 0) = _
    have h_isKept : (ic_up g 24 4 v).1 24 0 = g.1 24 0 := ic_upN (by omega)
    have h_taped : (ic_up g 24 4 v).1 24 1 = g.1 24 1 := ic_upN (by omega)
    have h_at : (ic_up g 24 4 v).1 24 2 = g.1 24 2 := ic_upN (by omega)
    have h_sort : (ic_up g 24 4 v).1 24 3 = g.1 24 3 := ic_upN (by omega)
    have h_fault : (ic_up g 24 4 v).1 24 5 = g.1 24 5 := ic_upN (by omega)
    simp only [ic_cel, e, h_isKept, h_taped, h_at, h_sort, h_fault]
    rfl
  · exact ic_upN (by omega)
  · exact ic_upN (by omega)
theorem gX7_value {g : ic_S} : ic_fg 7 11 g (16, 0, 0) (ic_J g.2) := ⟨ic_memk 16 (by decide) 0 (by decide) 0 (by decide), fun κ => ⟨_, rfl, rfl⟩⟩
theorem pX7_value {g g1 : ic_S} {v : Int64} (h1 : g1 = ic_upl g v) : ic_fp 7 11 g (16, 0, 0) (ic_J v) g1 := by
  subst h1
  exact ⟨ic_memk 16 (by decide) 0 (by decide) 0 (by decide), fun κ => ⟨_, rfl, rfl, by show _ < 17; decide⟩, fun κ y hy hne => ic_oth_l κ g v y hy hne, fun k => rfl, rfl, fun κ => ⟨rfl, rfl⟩⟩
theorem gX7_fault {g : ic_S} : ic_fg 7 12 g (16, 0, 0) (ic_I (g.1 24 5)) := ⟨ic_memk 16 (by decide) 0 (by decide) 0 (by decide), fun κ => ⟨_, rfl, rfl⟩⟩
theorem pX7_fault {g g1 : ic_S} {v : Int32} (h1 : g1 = ic_up g 24 5 v) : ic_fp 7 12 g (16, 0, 0) (ic_I v) g1 := by
  subst h1
  have e : (ic_up g 24 5 v).1 24 5 = v := ic_upS
  have ho : ic_own 24 5 = (16, 0, 0) := by
    rfl
  refine ⟨ic_memk 16 (by decide) 0 (by decide) 0 (by decide), fun κ => ⟨_, rfl, ?_, by show _ < 17; decide⟩, fun κ y hy hne => ic_oth κ g _ _ v y hy (fun q => hne (q.symm.trans ho)), fun k => ?_, ?_, fun κ => ⟨rfl, rfl⟩⟩
  · show ic_cel κ (ic_up g 24 5 v) (16, 0, 0) = _
    have h_isKept : (ic_up g 24 5 v).1 24 0 = g.1 24 0 := ic_upN (by omega)
    have h_taped : (ic_up g 24 5 v).1 24 1 = g.1 24 1 := ic_upN (by omega)
    have h_at : (ic_up g 24 5 v).1 24 2 = g.1 24 2 := ic_upN (by omega)
    have h_sort : (ic_up g 24 5 v).1 24 3 = g.1 24 3 := ic_upN (by omega)
    have h_from : (ic_up g 24 5 v).1 24 4 = g.1 24 4 := ic_upN (by omega)
    simp only [ic_cel, e, h_isKept, h_taped, h_at, h_sort, h_from]
    rfl
  · exact ic_upN (by omega)
  · exact ic_upN (by omega)
theorem gX7_bitsOf {g : ic_S} : ic_fg 7 13 g (16, 0, 0) (ic_R 20 0 0) := ⟨ic_memk 16 (by decide) 0 (by decide) 0 (by decide), fun κ => ⟨_, rfl, by rw [ic_cvk (show (20 : Nat) ≠ 26 by decide)]; rfl⟩⟩
theorem gX7_sizeOf {g : ic_S} : ic_fg 7 14 g (16, 0, 0) (ic_R 21 0 0) := ⟨ic_memk 16 (by decide) 0 (by decide) 0 (by decide), fun κ => ⟨_, rfl, by rw [ic_cvk (show (21 : Nat) ≠ 26 by decide)]; rfl⟩⟩
theorem gX7_number {g : ic_S} : ic_fg 7 15 g (16, 0, 0) (ic_R 22 0 0) := ⟨ic_memk 16 (by decide) 0 (by decide) 0 (by decide), fun κ => ⟨_, rfl, by rw [ic_cvk (show (22 : Nat) ≠ 26 by decide)]; rfl⟩⟩
theorem gX7_passing {g : ic_S} : ic_fg 7 16 g (16, 0, 0) (ic_R 23 0 0) := ⟨ic_memk 16 (by decide) 0 (by decide) 0 (by decide), fun κ => ⟨_, rfl, by rw [ic_cvk (show (23 : Nat) ≠ 26 by decide)]; rfl⟩⟩
theorem a4 {g : ic_S} {s : Nat} (hs : s < 3) : ic_ai 0 10 g (4, s, 0) (fun j => g.1 s (63 + j)) := ⟨ic_memk 4 (by decide) s hs 0 (by decide), by decide, fun κ => rfl⟩
theorem w4 {g g1 : ic_S} {i : Nat} {v : Int32} {s : Nat} (hs : s < 3) (h1 : g1 = ic_up g s (63 + i) v) : ic_ap 0 10 g (4, s, 0) (fun j => g.1 s (63 + j)) i v g1 := by
  subst h1
  have ho : ic_own s (63 + i) = (4, s, 0) := by
    rcases (show s = 0 ∨ s = 1 ∨ s = 2 by omega) with rfl | rfl | rfl
    all_goals (show (if 63 + i < 7 then _ else if 63 + i < 63 then _ else _) = _; rw [if_neg (by omega), if_neg (by omega)])
  refine ⟨ic_memk 4 (by decide) s hs 0 (by decide), fun κ => ⟨rfl, ?_⟩, fun κ y hy hne => ic_oth κ g _ _ v y hy (fun q => hne (q.symm.trans ho)), fun k => ?_, ?_⟩
  · show Sum.inl (_, _, Sum.inl (fun j => (ic_up g s (63 + i) v).1 s (63 + j))) = _
    have e : (fun j => (ic_up g s (63 + i) v).1 s (63 + j)) = upd (fun j => g.1 s (63 + j)) i v := by
      funext j
      show _ = (if j = i then v else _)
      by_cases hj : j = i
      · rw [if_pos hj, hj]; exact ic_upS
      · rw [if_neg hj]; exact ic_upN (fun q => hj (by omega))
    rw [e]
  · exact ic_upN (by omega)
  · exact ic_upN (by omega)
theorem a6 {g : ic_S} : ic_ai 0 120 g (6, 0, 0) (fun j => g.1 9 (0 + j)) := ⟨ic_memk 6 (by decide) 0 (by decide) 0 (by decide), by decide, fun κ => rfl⟩
theorem w6 {g g1 : ic_S} {i : Nat} {v : Int32} (h1 : g1 = ic_up g 9 (0 + i) v) : ic_ap 0 120 g (6, 0, 0) (fun j => g.1 9 (0 + j)) i v g1 := by
  subst h1
  have ho : ic_own 9 (0 + i) = (6, 0, 0) := by
    rfl
  refine ⟨ic_memk 6 (by decide) 0 (by decide) 0 (by decide), fun κ => ⟨rfl, ?_⟩, fun κ y hy hne => ic_oth κ g _ _ v y hy (fun q => hne (q.symm.trans ho)), fun k => ?_, ?_⟩
  · show Sum.inl (_, _, Sum.inl (fun j => (ic_up g 9 (0 + i) v).1 9 (0 + j))) = _
    have e : (fun j => (ic_up g 9 (0 + i) v).1 9 (0 + j)) = upd (fun j => g.1 9 (0 + j)) i v := by
      funext j
      show _ = (if j = i then v else _)
      by_cases hj : j = i
      · rw [if_pos hj, hj]; exact ic_upS
      · rw [if_neg hj]; exact ic_upN (fun q => hj (by omega))
    rw [e]
  · exact ic_upN (by omega)
  · exact ic_upN (by omega)
theorem a8 {g : ic_S} : ic_ai 0 121 g (8, 0, 0) (fun j => g.1 11 (0 + j)) := ⟨ic_memk 8 (by decide) 0 (by decide) 0 (by decide), by decide, fun κ => rfl⟩
theorem w8 {g g1 : ic_S} {i : Nat} {v : Int32} (h1 : g1 = ic_up g 11 (0 + i) v) : ic_ap 0 121 g (8, 0, 0) (fun j => g.1 11 (0 + j)) i v g1 := by
  subst h1
  have ho : ic_own 11 (0 + i) = (8, 0, 0) := by
    rfl
  refine ⟨ic_memk 8 (by decide) 0 (by decide) 0 (by decide), fun κ => ⟨rfl, ?_⟩, fun κ y hy hne => ic_oth κ g _ _ v y hy (fun q => hne (q.symm.trans ho)), fun k => ?_, ?_⟩
  · show Sum.inl (_, _, Sum.inl (fun j => (ic_up g 11 (0 + i) v).1 11 (0 + j))) = _
    have e : (fun j => (ic_up g 11 (0 + i) v).1 11 (0 + j)) = upd (fun j => g.1 11 (0 + j)) i v := by
      funext j
      show _ = (if j = i then v else _)
      by_cases hj : j = i
      · rw [if_pos hj, hj]; exact ic_upS
      · rw [if_neg hj]; exact ic_upN (fun q => hj (by omega))
    rw [e]
  · exact ic_upN (by omega)
  · exact ic_upN (by omega)
theorem a9 {g : ic_S} : ic_ai 0 121 g (9, 0, 0) (fun j => g.1 12 (0 + j)) := ⟨ic_memk 9 (by decide) 0 (by decide) 0 (by decide), by decide, fun κ => rfl⟩
theorem w9 {g g1 : ic_S} {i : Nat} {v : Int32} (h1 : g1 = ic_up g 12 (0 + i) v) : ic_ap 0 121 g (9, 0, 0) (fun j => g.1 12 (0 + j)) i v g1 := by
  subst h1
  have ho : ic_own 12 (0 + i) = (9, 0, 0) := by
    rfl
  refine ⟨ic_memk 9 (by decide) 0 (by decide) 0 (by decide), fun κ => ⟨rfl, ?_⟩, fun κ y hy hne => ic_oth κ g _ _ v y hy (fun q => hne (q.symm.trans ho)), fun k => ?_, ?_⟩
  · show Sum.inl (_, _, Sum.inl (fun j => (ic_up g 12 (0 + i) v).1 12 (0 + j))) = _
    have e : (fun j => (ic_up g 12 (0 + i) v).1 12 (0 + j)) = upd (fun j => g.1 12 (0 + j)) i v := by
      funext j
      show _ = (if j = i then v else _)
      by_cases hj : j = i
      · rw [if_pos hj, hj]; exact ic_upS
      · rw [if_neg hj]; exact ic_upN (fun q => hj (by omega))
    rw [e]
  · exact ic_upN (by omega)
  · exact ic_upN (by omega)
theorem a10 {g : ic_S} : ic_ai 0 121 g (10, 0, 0) (fun j => g.1 13 (0 + j)) := ⟨ic_memk 10 (by decide) 0 (by decide) 0 (by decide), by decide, fun κ => rfl⟩
theorem w10 {g g1 : ic_S} {i : Nat} {v : Int32} (h1 : g1 = ic_up g 13 (0 + i) v) : ic_ap 0 121 g (10, 0, 0) (fun j => g.1 13 (0 + j)) i v g1 := by
  subst h1
  have ho : ic_own 13 (0 + i) = (10, 0, 0) := by
    rfl
  refine ⟨ic_memk 10 (by decide) 0 (by decide) 0 (by decide), fun κ => ⟨rfl, ?_⟩, fun κ y hy hne => ic_oth κ g _ _ v y hy (fun q => hne (q.symm.trans ho)), fun k => ?_, ?_⟩
  · show Sum.inl (_, _, Sum.inl (fun j => (ic_up g 13 (0 + i) v).1 13 (0 + j))) = _
    have e : (fun j => (ic_up g 13 (0 + i) v).1 13 (0 + j)) = upd (fun j => g.1 13 (0 + j)) i v := by
      funext j
      show _ = (if j = i then v else _)
      by_cases hj : j = i
      · rw [if_pos hj, hj]; exact ic_upS
      · rw [if_neg hj]; exact ic_upN (fun q => hj (by omega))
    rw [e]
  · exact ic_upN (by omega)
  · exact ic_upN (by omega)
theorem a14 {g : ic_S} {s : Nat} (hs : s < 4) : ic_ai 0 40 g (14, s, 0) (fun j => g.1 (19 + s) (0 + j)) := ⟨ic_memk 14 (by decide) s hs 0 (by decide), by decide, fun κ => rfl⟩
theorem w14 {g g1 : ic_S} {i : Nat} {v : Int32} {s : Nat} (hs : s < 4) (h1 : g1 = ic_up g (19 + s) (0 + i) v) : ic_ap 0 40 g (14, s, 0) (fun j => g.1 (19 + s) (0 + j)) i v g1 := by
  subst h1
  have ho : ic_own (19 + s) (0 + i) = (14, s, 0) := by
    rcases (show s = 0 ∨ s = 1 ∨ s = 2 ∨ s = 3 by omega) with rfl | rfl | rfl | rfl <;> rfl
  refine ⟨ic_memk 14 (by decide) s hs 0 (by decide), fun κ => ⟨rfl, ?_⟩, fun κ y hy hne => ic_oth κ g _ _ v y hy (fun q => hne (q.symm.trans ho)), fun k => ?_, ?_⟩
  · show Sum.inl (_, _, Sum.inl (fun j => (ic_up g (19 + s) (0 + i) v).1 (19 + s) (0 + j))) = _
    have e : (fun j => (ic_up g (19 + s) (0 + i) v).1 (19 + s) (0 + j)) = upd (fun j => g.1 (19 + s) (0 + j)) i v := by
      funext j
      show _ = (if j = i then v else _)
      by_cases hj : j = i
      · rw [if_pos hj, hj]; exact ic_upS
      · rw [if_neg hj]; exact ic_upN (fun q => hj (by omega))
    rw [e]
  · exact ic_upN (by omega)
  · exact ic_upN (by omega)
theorem a15 {g : ic_S} : ic_ai 0 7 g (15, 0, 0) (fun j => g.1 23 (0 + j)) := ⟨ic_memk 15 (by decide) 0 (by decide) 0 (by decide), by decide, fun κ => rfl⟩
theorem w15 {g g1 : ic_S} {i : Nat} {v : Int32} (h1 : g1 = ic_up g 23 (0 + i) v) : ic_ap 0 7 g (15, 0, 0) (fun j => g.1 23 (0 + j)) i v g1 := by
  subst h1
  have ho : ic_own 23 (0 + i) = (15, 0, 0) := by
    rfl
  refine ⟨ic_memk 15 (by decide) 0 (by decide) 0 (by decide), fun κ => ⟨rfl, ?_⟩, fun κ y hy hne => ic_oth κ g _ _ v y hy (fun q => hne (q.symm.trans ho)), fun k => ?_, ?_⟩
  · show Sum.inl (_, _, Sum.inl (fun j => (ic_up g 23 (0 + i) v).1 23 (0 + j))) = _
    have e : (fun j => (ic_up g 23 (0 + i) v).1 23 (0 + j)) = upd (fun j => g.1 23 (0 + j)) i v := by
      funext j
      show _ = (if j = i then v else _)
      by_cases hj : j = i
      · rw [if_pos hj, hj]; exact ic_upS
      · rw [if_neg hj]; exact ic_upN (fun q => hj (by omega))
    rw [e]
  · exact ic_upN (by omega)
  · exact ic_upN (by omega)
theorem a17 {g : ic_S} {s : Nat} (hs : s < 4) : ic_ai 0 73 g (17, s, 0) (fun j => g.1 (3 + s) (0 + j)) := ⟨ic_memk 17 (by decide) s hs 0 (by decide), by decide, fun κ => rfl⟩
theorem w17 {g g1 : ic_S} {i : Nat} {v : Int32} {s : Nat} (hs : s < 4) (h1 : g1 = ic_up g (3 + s) (0 + i) v) : ic_ap 0 73 g (17, s, 0) (fun j => g.1 (3 + s) (0 + j)) i v g1 := by
  subst h1
  have ho : ic_own (3 + s) (0 + i) = (17, s, 0) := by
    rcases (show s = 0 ∨ s = 1 ∨ s = 2 ∨ s = 3 by omega) with rfl | rfl | rfl | rfl <;> rfl
  refine ⟨ic_memk 17 (by decide) s hs 0 (by decide), fun κ => ⟨rfl, ?_⟩, fun κ y hy hne => ic_oth κ g _ _ v y hy (fun q => hne (q.symm.trans ho)), fun k => ?_, ?_⟩
  · show Sum.inl (_, _, Sum.inl (fun j => (ic_up g (3 + s) (0 + i) v).1 (3 + s) (0 + j))) = _
    have e : (fun j => (ic_up g (3 + s) (0 + i) v).1 (3 + s) (0 + j)) = upd (fun j => g.1 (3 + s) (0 + j)) i v := by
      funext j
      show _ = (if j = i then v else _)
      by_cases hj : j = i
      · rw [if_pos hj, hj]; exact ic_upS
      · rw [if_neg hj]; exact ic_upN (fun q => hj (by omega))
    rw [e]
  · exact ic_upN (by omega)
  · exact ic_upN (by omega)
theorem a18 {g : ic_S} : ic_ai 0 7 g (18, 0, 0) (fun j => g.1 25 (0 + j)) := ⟨ic_memk 18 (by decide) 0 (by decide) 0 (by decide), by decide, fun κ => rfl⟩
theorem w18 {g g1 : ic_S} {i : Nat} {v : Int32} (h1 : g1 = ic_up g 25 (0 + i) v) : ic_ap 0 7 g (18, 0, 0) (fun j => g.1 25 (0 + j)) i v g1 := by
  subst h1
  have ho : ic_own 25 (0 + i) = (18, 0, 0) := by
    rfl
  refine ⟨ic_memk 18 (by decide) 0 (by decide) 0 (by decide), fun κ => ⟨rfl, ?_⟩, fun κ y hy hne => ic_oth κ g _ _ v y hy (fun q => hne (q.symm.trans ho)), fun k => ?_, ?_⟩
  · show Sum.inl (_, _, Sum.inl (fun j => (ic_up g 25 (0 + i) v).1 25 (0 + j))) = _
    have e : (fun j => (ic_up g 25 (0 + i) v).1 25 (0 + j)) = upd (fun j => g.1 25 (0 + j)) i v := by
      funext j
      show _ = (if j = i then v else _)
      by_cases hj : j = i
      · rw [if_pos hj, hj]; exact ic_upS
      · rw [if_neg hj]; exact ic_upN (fun q => hj (by omega))
    rw [e]
  · exact ic_upN (by omega)
  · exact ic_upN (by omega)
theorem a19 {g : ic_S} : ic_ai 1 120 g (19, 0, 0) (fun j => g.1 26 (0 + j)) := ⟨ic_memk 19 (by decide) 0 (by decide) 0 (by decide), by decide, fun κ => rfl⟩
theorem w19 {g g1 : ic_S} {i : Nat} {v : Int32} (h1 : g1 = ic_up g 26 (0 + i) v) : ic_ap 1 120 g (19, 0, 0) (fun j => g.1 26 (0 + j)) i v g1 := by
  subst h1
  have ho : ic_own 26 (0 + i) = (19, 0, 0) := by
    rfl
  refine ⟨ic_memk 19 (by decide) 0 (by decide) 0 (by decide), fun κ => ⟨rfl, ?_⟩, fun κ y hy hne => ic_oth κ g _ _ v y hy (fun q => hne (q.symm.trans ho)), fun k => ?_, ?_⟩
  · show Sum.inl (_, _, Sum.inl (fun j => (ic_up g 26 (0 + i) v).1 26 (0 + j))) = _
    have e : (fun j => (ic_up g 26 (0 + i) v).1 26 (0 + j)) = upd (fun j => g.1 26 (0 + j)) i v := by
      funext j
      show _ = (if j = i then v else _)
      by_cases hj : j = i
      · rw [if_pos hj, hj]; exact ic_upS
      · rw [if_neg hj]; exact ic_upN (fun q => hj (by omega))
    rw [e]
  · exact ic_upN (by omega)
  · exact ic_upN (by omega)
theorem a20 {g : ic_S} : ic_ai 0 4 g (20, 0, 0) (fun j => g.1 27 (0 + j)) := ⟨ic_memk 20 (by decide) 0 (by decide) 0 (by decide), by decide, fun κ => rfl⟩
theorem w20 {g g1 : ic_S} {i : Nat} {v : Int32} (h1 : g1 = ic_up g 27 (0 + i) v) : ic_ap 0 4 g (20, 0, 0) (fun j => g.1 27 (0 + j)) i v g1 := by
  subst h1
  have ho : ic_own 27 (0 + i) = (20, 0, 0) := by
    rfl
  refine ⟨ic_memk 20 (by decide) 0 (by decide) 0 (by decide), fun κ => ⟨rfl, ?_⟩, fun κ y hy hne => ic_oth κ g _ _ v y hy (fun q => hne (q.symm.trans ho)), fun k => ?_, ?_⟩
  · show Sum.inl (_, _, Sum.inl (fun j => (ic_up g 27 (0 + i) v).1 27 (0 + j))) = _
    have e : (fun j => (ic_up g 27 (0 + i) v).1 27 (0 + j)) = upd (fun j => g.1 27 (0 + j)) i v := by
      funext j
      show _ = (if j = i then v else _)
      by_cases hj : j = i
      · rw [if_pos hj, hj]; exact ic_upS
      · rw [if_neg hj]; exact ic_upN (fun q => hj (by omega))
    rw [e]
  · exact ic_upN (by omega)
  · exact ic_upN (by omega)
theorem a21 {g : ic_S} : ic_ai 0 4 g (21, 0, 0) (fun j => g.1 28 (0 + j)) := ⟨ic_memk 21 (by decide) 0 (by decide) 0 (by decide), by decide, fun κ => rfl⟩
theorem w21 {g g1 : ic_S} {i : Nat} {v : Int32} (h1 : g1 = ic_up g 28 (0 + i) v) : ic_ap 0 4 g (21, 0, 0) (fun j => g.1 28 (0 + j)) i v g1 := by
  subst h1
  have ho : ic_own 28 (0 + i) = (21, 0, 0) := by
    rfl
  refine ⟨ic_memk 21 (by decide) 0 (by decide) 0 (by decide), fun κ => ⟨rfl, ?_⟩, fun κ y hy hne => ic_oth κ g _ _ v y hy (fun q => hne (q.symm.trans ho)), fun k => ?_, ?_⟩
  · show Sum.inl (_, _, Sum.inl (fun j => (ic_up g 28 (0 + i) v).1 28 (0 + j))) = _
    have e : (fun j => (ic_up g 28 (0 + i) v).1 28 (0 + j)) = upd (fun j => g.1 28 (0 + j)) i v := by
      funext j
      show _ = (if j = i then v else _)
      by_cases hj : j = i
      · rw [if_pos hj, hj]; exact ic_upS
      · rw [if_neg hj]; exact ic_upN (fun q => hj (by omega))
    rw [e]
  · exact ic_upN (by omega)
  · exact ic_upN (by omega)
theorem a22 {g : ic_S} : ic_ai 0 160 g (22, 0, 0) (fun j => g.1 29 (0 + j)) := ⟨ic_memk 22 (by decide) 0 (by decide) 0 (by decide), by decide, fun κ => rfl⟩
theorem w22 {g g1 : ic_S} {i : Nat} {v : Int32} (h1 : g1 = ic_up g 29 (0 + i) v) : ic_ap 0 160 g (22, 0, 0) (fun j => g.1 29 (0 + j)) i v g1 := by
  subst h1
  have ho : ic_own 29 (0 + i) = (22, 0, 0) := by
    rfl
  refine ⟨ic_memk 22 (by decide) 0 (by decide) 0 (by decide), fun κ => ⟨rfl, ?_⟩, fun κ y hy hne => ic_oth κ g _ _ v y hy (fun q => hne (q.symm.trans ho)), fun k => ?_, ?_⟩
  · show Sum.inl (_, _, Sum.inl (fun j => (ic_up g 29 (0 + i) v).1 29 (0 + j))) = _
    have e : (fun j => (ic_up g 29 (0 + i) v).1 29 (0 + j)) = upd (fun j => g.1 29 (0 + j)) i v := by
      funext j
      show _ = (if j = i then v else _)
      by_cases hj : j = i
      · rw [if_pos hj, hj]; exact ic_upS
      · rw [if_neg hj]; exact ic_upN (fun q => hj (by omega))
    rw [e]
  · exact ic_upN (by omega)
  · exact ic_upN (by omega)
theorem a23 {g : ic_S} : ic_ai 0 40 g (23, 0, 0) (fun j => g.1 30 (0 + j)) := ⟨ic_memk 23 (by decide) 0 (by decide) 0 (by decide), by decide, fun κ => rfl⟩
theorem w23 {g g1 : ic_S} {i : Nat} {v : Int32} (h1 : g1 = ic_up g 30 (0 + i) v) : ic_ap 0 40 g (23, 0, 0) (fun j => g.1 30 (0 + j)) i v g1 := by
  subst h1
  have ho : ic_own 30 (0 + i) = (23, 0, 0) := by
    rfl
  refine ⟨ic_memk 23 (by decide) 0 (by decide) 0 (by decide), fun κ => ⟨rfl, ?_⟩, fun κ y hy hne => ic_oth κ g _ _ v y hy (fun q => hne (q.symm.trans ho)), fun k => ?_, ?_⟩
  · show Sum.inl (_, _, Sum.inl (fun j => (ic_up g 30 (0 + i) v).1 30 (0 + j))) = _
    have e : (fun j => (ic_up g 30 (0 + i) v).1 30 (0 + j)) = upd (fun j => g.1 30 (0 + j)) i v := by
      funext j
      show _ = (if j = i then v else _)
      by_cases hj : j = i
      · rw [if_pos hj, hj]; exact ic_upS
      · rw [if_neg hj]; exact ic_upN (fun q => hj (by omega))
    rw [e]
  · exact ic_upN (by omega)
  · exact ic_upN (by omega)
theorem a2 {g : ic_S} {s : Nat} (hs : s < 3) : ic_ar 2 8 g (2, s, 0) (fun j => (3, s, j)) := ⟨ic_memk 2 (by decide) s hs 0 (by decide), by decide, fun κ => rfl⟩
theorem a12 {g : ic_S} : ic_ar 3 4 g (12, 0, 0) (fun j => (13, j, 0)) := ⟨ic_memk 12 (by decide) 0 (by decide) 0 (by decide), by decide, fun κ => rfl⟩
theorem rc0 : ic_rc "IronCall" (0, 0, 0) := Or.inl ⟨6, TX6, 9, rfl, ic_memk 0 (by decide) 0 (by decide) 0 (by decide), fun κ g => ⟨_, rfl⟩⟩
theorem rc1 {s : Nat} (hs : s < 3) : ic_rc "IronCall$Street" (1, s, 0) := Or.inl ⟨2, TX2, 9, rfl, ic_memk 1 (by decide) s hs 0 (by decide), fun κ g => ⟨_, rfl⟩⟩
theorem rc3 {s : Nat} (hs : s < 3) {t : Nat} (ht : t < 8) : ic_rc "IronCall$Thing" (3, s, t) := Or.inl ⟨4, TX4, 8, rfl, ic_memk 3 (by decide) s hs t ht, fun κ g => ⟨_, rfl⟩⟩
theorem rc5 : ic_rc "IronCall$Tape" (5, 0, 0) := Or.inl ⟨3, TX3, 2, rfl, ic_memk 5 (by decide) 0 (by decide) 0 (by decide), fun κ g => ⟨_, rfl⟩⟩
theorem rc7 : ic_rc "IronCall$Tokens" (7, 0, 0) := Or.inl ⟨5, TX5, 5, rfl, ic_memk 7 (by decide) 0 (by decide) 0 (by decide), fun κ g => ⟨_, rfl⟩⟩
theorem rc11 : ic_rc "IronCall$Reader" (11, 0, 0) := Or.inl ⟨0, TX0, 4, rfl, ic_memk 11 (by decide) 0 (by decide) 0 (by decide), fun κ g => ⟨_, rfl⟩⟩
theorem rc13 {s : Nat} (hs : s < 4) : ic_rc "IronCall$Sheet" (13, s, 0) := Or.inl ⟨1, TX1, 3, rfl, ic_memk 13 (by decide) s hs 0 (by decide), fun κ g => ⟨_, rfl⟩⟩
theorem rc16 : ic_rc "IronCallModel" (16, 0, 0) := Or.inl ⟨7, TX7, 17, rfl, ic_memk 16 (by decide) 0 (by decide) 0 (by decide), fun κ g => ⟨_, rfl⟩⟩
theorem rc24 {i : Nat} (hi : i < 16) : ic_rc "java/lang/String" (24, i, 0) := Or.inr ⟨rfl, i, hi, rfl⟩
