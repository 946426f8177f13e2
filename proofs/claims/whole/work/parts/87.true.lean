/-! the start keeps the invariant; the law answers 1 -/
theorem p_gs : ∀ i, i < 63 → i ≠ 2 → (ic_gs i).toNatClampNeg ≤ q_bd i ∧ ic_gs i = nI (ic_gs i).toNatClampNeg := by decide +kernel
theorem p_gs0 : ∀ j, j < 10 → ic_gs (63 + j) = 0 := by decide +kernel
theorem q_g0 (xs : Nat → Int32) (L : Nat) : q_Inv (ic_g0 xs L) := by
  have hc : ∀ b, b < 3 → ∀ i, (ic_g0 xs L).1 b i = if 63 ≤ i then -1 else ic_gs i := fun b hb i => if_pos hb
  have h3 : ∀ i, (ic_g0 xs L).1 3 i = ic_gs i := fun i => rfl
  have okc : ∀ b, b < 3 → q_ok ((ic_g0 xs L).1 b) := by
    intro b hb i h1 h2
    rw [hc b hb, if_neg (by omega)]
    exact ⟨_, (p_gs i h1 h2).1, (p_gs i h1 h2).2⟩
  have ok3 : q_ok ((ic_g0 xs L).1 3) := by
    intro i h1 h2
    rw [h3]
    exact ⟨_, (p_gs i h1 h2).1, (p_gs i h1 h2).2⟩
  refine ⟨okc 1 (by decide), okc 2 (by decide), ⟨okc 0 (by decide), ok3, ⟨fun i hi => ?_, fun w hw t ht => absurd ht (Nat.not_lt_zero t)⟩, fun j hj => Or.inl ⟨?_, ?_⟩⟩, ⟨rfl, Or.inl rfl⟩, ⟨rfl, 0, by decide, rfl, fun i hi => absurd hi (Nat.not_lt_zero i)⟩, fun s hs => ?_, fun i _ => rfl⟩
  · rw [hc 0 (by decide), if_neg (by omega), h3]
  · rw [hc 0 (by decide), if_pos (by omega)]
  · rw [h3, p_gs0 j hj]
  · match s, hs with
    | 0, _ => exact ⟨rfl, Or.inl rfl, rfl, ⟨0, by decide, rfl⟩, fun i _ => rfl⟩
    | 1, _ => exact ⟨rfl, Or.inl rfl, rfl, ⟨0, by decide, rfl⟩, fun i _ => rfl⟩
    | 2, _ => exact ⟨rfl, Or.inl rfl, rfl, ⟨0, by decide, rfl⟩, fun i _ => rfl⟩
    | 3, _ => exact ⟨rfl, Or.inl rfl, rfl, ⟨0, by decide, rfl⟩, fun i _ => rfl⟩
theorem ic_true {L : Nat} (hL : L ≤ 3072) {xs : Nat → Int32} : ∃ g', fL_law (ic_g0 xs L) = some (1, g') := by
  obtain ⟨g', e⟩ := l_law hL (L / 6) 0 1000 (ic_g0 xs L) (by omega) (by omega) (by omega) (q_g0 xs L) rfl
  rw [nI_0] at e
  refine ⟨g', ?_⟩
  unfold fL_law
  rw [e, p_bsr]
