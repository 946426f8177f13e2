/-! rows that agree ahead of the things and in the things that are there -/
def q_lv (r r' : Nat → Int32) : Prop := (∀ i, i < 7 → r' i = r i) ∧ ∀ w, w < 7 → ∀ t, t < q_M r → r' (7 + 8 * w + t) = r (7 + 8 * w + t)
theorem q_itE {α : Type} {f f' : Nat → α → α} (N : Nat) (hf : ∀ t a, t < N → f t a = f' t a) : ∀ n t a, n + t ≤ N → q_it f n t a = q_it f' n t a := by
  intro n
  induction n with
  | zero => intro t a _; rfl
  | succ n ih =>
    intro t a hn
    rw [q_its, q_its, hf t a (by omega)]
    exact ih _ _ (by omega)
theorem q_lvr (r : Nat → Int32) : q_lv r r := ⟨fun _ _ => rfl, fun _ _ _ _ => rfl⟩
section
variable {r r' : Nat → Int32}
theorem q_lv.M (h : q_lv r r') : q_M r' = q_M r := congrArg Int32.toNatClampNeg (h.1 0 (by decide))
theorem q_lv.sy (h : q_lv r r') : q_lv r' r := ⟨fun i hi => (h.1 i hi).symm, fun w hw t ht => (h.2 w hw t (h.M ▸ ht)).symm⟩
theorem q_lv.tr {r'' : Nat → Int32} (h : q_lv r r') (h2 : q_lv r' r'') : q_lv r r'' := ⟨fun i hi => (h2.1 i hi).trans (h.1 i hi), fun w hw t ht => (h2.2 w hw t (h.M.symm ▸ ht)).trans (h.2 w hw t ht)⟩
theorem q_lv.f0 (h : q_lv r r') {t : Nat} (ht : t < q_M r) : r' (7 + t) = r (7 + t) := h.2 0 (by decide) t ht
theorem q_lv.f1 (h : q_lv r r') {t : Nat} (ht : t < q_M r) : r' (15 + t) = r (15 + t) := h.2 1 (by decide) t ht
theorem q_lv.f2 (h : q_lv r r') {t : Nat} (ht : t < q_M r) : r' (23 + t) = r (23 + t) := h.2 2 (by decide) t ht
theorem q_lv.f3 (h : q_lv r r') {t : Nat} (ht : t < q_M r) : r' (31 + t) = r (31 + t) := h.2 3 (by decide) t ht
theorem q_lv.f4 (h : q_lv r r') {t : Nat} (ht : t < q_M r) : r' (39 + t) = r (39 + t) := h.2 4 (by decide) t ht
theorem q_lv.f5 (h : q_lv r r') {t : Nat} (ht : t < q_M r) : r' (47 + t) = r (47 + t) := h.2 5 (by decide) t ht
theorem q_lv.f6 (h : q_lv r r') {t : Nat} (ht : t < q_M r) : r' (55 + t) = r (55 + t) := h.2 6 (by decide) t ht
theorem q_lv.U (h : q_lv r r') {i : Nat} (hi : i ≠ 0) (v : Int32) : q_lv (rU r i v) (rU r' i v) := by
  have hM : q_M (rU r i v) = q_M r := congrArg Int32.toNatClampNeg (rU_n _ _ (Ne.symm hi))
  constructor
  · intro j hj
    by_cases e : j = i
    · subst e
      rw [rU_s, rU_s]
    · rw [rU_n _ _ e, rU_n _ _ e]
      exact h.1 j hj
  · intro w hw t ht
    rw [hM] at ht
    by_cases e : 7 + 8 * w + t = i
    · subst e
      rw [rU_s, rU_s]
    · rw [rU_n _ _ e, rU_n _ _ e]
      exact h.2 w hw t ht
theorem q_lv.lie (h : q_lv r r') (x : Int32) : q_lie r' x = q_lie r x := by
  unfold q_lie
  rw [h.M]
  refine q_itE (q_M r) ?_ _ _ _ (Nat.le_refl _)
  intro t a ht
  unfold q_lie1
  rw [h.f5 ht, h.f1 ht]
theorem q_lv.num (h : q_lv r r') {t : Nat} (ht : t < q_M r) : q_num r' t = q_num r t := by
  unfold q_num
  rw [h.f0 ht, h.f1 ht, h.lie]
theorem q_lv.dist (h : q_lv r r') (c : Int32) {t : Nat} (ht : t < q_M r) : q_dist r' c t = q_dist r c t := by
  unfold q_dist
  rw [h.f1 ht]
theorem q_lv.fe (h : q_lv r r') (c : Int32) {t : Nat} (ht : t < q_M r) : q_fe r' c t = q_fe r c t := by
  unfold q_fe
  rw [h.f0 ht, h.1 6 (by decide), h.num ht, h.dist c ht]
theorem q_lv.st (h : q_lv r r') {t : Nat} (ht : t < q_M r) : q_st r' t = q_st r t := by
  unfold q_st
  rw [h.f0 ht, h.f2 ht]
theorem q_lv.lk (h : q_lv r r') {t : Nat} (ht : t < q_M r) : q_lk r' t = q_lk r t := by
  unfold q_lk
  rw [h.f0 ht, h.f2 ht, h.f6 ht, h.f3 ht]
theorem q_lv.re (h : q_lv r r') {t : Nat} (ht : t < q_M r) : q_re r' t = q_re r t := by
  unfold q_re
  rw [h.f0 ht]
theorem q_lv.told (h : q_lv r r') (x : Int32) {t : Nat} (ht : t < q_M r) : q_told r' t x = q_told r t x := by
  unfold q_told q_t4
  rw [h.f0 ht, h.f1 ht, h.f2 ht, h.f3 ht, h.f4 ht, h.f5 ht, h.f6 ht, h.st ht, h.lk ht, h.re ht, h.1 3 (by decide), h.fe _ ht, h.dist _ ht]
theorem q_lv.sum (h : q_lv r r') {w : Nat} (hw : w < 7) : q_sum r' (7 + 8 * w) = q_sum r (7 + 8 * w) := by
  unfold q_sum
  rw [h.M]
  refine q_itE (q_M r) ?_ _ _ _ (Nat.le_refl _)
  intro t a ht
  rw [h.2 w hw t ht]
theorem q_lv.set (h : q_lv r r') {w : Nat} (hw : w < 7) : q_set r' (7 + 8 * w) = q_set r (7 + 8 * w) := by
  unfold q_set
  rw [h.M]
  refine q_itE (q_M r) ?_ _ _ _ (Nat.le_refl _)
  intro t a ht
  rw [h.2 w hw t ht]
theorem q_lv.hvy (h : q_lv r r') : q_hvy r' = q_hvy r := by
  unfold q_hvy
  rw [h.M]
  refine q_itE (q_M r) ?_ _ _ _ (Nat.le_refl _)
  intro t a ht
  rw [h.f5 ht, h.f2 ht]
theorem q_lv.sg (h : q_lv r r') : q_sg r' = q_sg r := by
  unfold q_sg
  rw [h.M]
  refine congrArg Prod.fst (q_itE (q_M r) ?_ _ _ _ (Nat.le_refl _))
  intro t a ht
  unfold q_sg1
  rw [h.f5 ht, h.1 3 (by decide), h.fe _ ht]
theorem q_lv.ces (h : q_lv r r') : q_ces r' = q_ces r := by
  unfold q_ces
  refine q_itE 16 ?_ _ _ _ (Nat.le_refl _)
  intro t a ht
  unfold q_ce1
  rw [h.lie]
theorem q_lv.turn (h : q_lv r r') : q_lv (q_turn r) (q_turn r') := by
  unfold q_turn
  rw [h.1 3 (by decide)]
  split
  · exact h.U (by decide) _
  · split
    · exact h.U (by decide) _
    · exact h
theorem q_lv.go1 (h : q_lv r r') : q_lv (q_go1 r) (q_go1 r') := by
  unfold q_go1
  rw [h.1 4 (by decide), h.1 3 (by decide)]
  split
  · exact (h.U (by decide) _).turn
  · exact (h.U (by decide) _).turn
theorem q_lv.roll (h : q_lv r r') : q_lv (q_roll r) (q_roll r') := by
  unfold q_roll
  rw [q_tu (r := r') (by decide), q_tu (r := r) (by decide), h.1 5 (by decide)]
  exact q_it2 (P := q_lv) _ (fun t a b _ h => h.go1) _ _ _ _ (Nat.le_refl _) h.turn
theorem q_lv.pu (h : q_lv r r') {t : Nat} (ht : t < q_M r) : q_lv (q_pu t r) (q_pu t r') := by
  have h0 : q_lv (q_pu0 r t (q_fe r (r 3) t)) (q_pu0 r' t (q_fe r' (r' 3) t)) := by
    unfold q_pu0
    rw [h.1 3 (by decide), h.fe _ ht, h.f3 ht]
    exact h.U (by omega) _
  have hM : q_M (q_pu0 r t (q_fe r (r 3) t)) = q_M r := congrArg Int32.toNatClampNeg (rU_n _ _ (by omega))
  unfold q_pu
  rw [h.f5 ht, h.1 3 (by decide)]
  rw [h.1 3 (by decide)] at h0
  split
  · revert h0 hM
    generalize q_pu0 r t (q_fe r (r 3) t) = a
    generalize q_pu0 r' t (q_fe r' (r 3) t) = a'
    intro h0 hM
    rw [← hM] at ht
    unfold q_pu1
    rw [h0.f4 ht, h0.f2 ht, h0.f3 ht, h0.f1 ht, h0.f6 ht, h0.st ht]
    split
    · split
      · exact ((h0.U (by omega) _).U (by omega) _).U (by omega) _
      · exact h0
    · exact h0
  · exact h
theorem q_lv.ta (h : q_lv r r') {t : Nat} (ht : t < q_M r) : q_lv (q_ta t r) (q_ta t r') := by
  unfold q_ta
  rw [h.f5 ht, h.f1 ht, h.1 3 (by decide), h.lk ht, h.f4 ht]
  repeat' split
  all_goals first | exact h | exact h.U (by omega) _
theorem q_lv.rs (h : q_lv r r') {t : Nat} (ht : t < q_M r) : q_lv (q_rs t r) (q_rs t r') := by
  unfold q_rs
  rw [h.f5 ht, h.f3 ht, h.re ht]
  split
  · exact h.U (by omega) _
  · exact h
theorem q_lv.all (h : q_lv r r') (h8 : q_M r ≤ 8) {f : Nat → (Nat → Int32) → Nat → Int32} (hf : ∀ t a a', t < q_M a → q_lv a a' → q_lv (f t a) (f t a')) (hk : ∀ t a, t < 8 → q_kp a (f t a)) : q_lv (q_all f r) (q_all f r') := by
  unfold q_all
  rw [h.M]
  refine (q_it2 (P := fun a a' => q_lv a a' ∧ q_M a = q_M r) (q_M r) ?_ _ _ _ _ (Nat.le_refl _) ⟨h, rfl⟩).1
  intro t a a' ht h
  exact ⟨hf t a a' (by rw [h.2]; exact ht) h.1, by rw [q_kpM (hk t a (by omega)), h.2]⟩
theorem q_lv.call (h : q_lv r r') (hk : q_ok r) : q_lv (q_call r) (q_call r') := by
  have a0 := q_okr hk
  have a1 := q_okall (fun _ _ ht h => q_okpu h ht) a0
  have a2 := q_okall (fun _ _ ht h => q_okta h ht) a1
  have e0 : q_lv (q_roll r) (q_roll r') := h.roll
  have e1 : q_lv (q_all q_pu (q_roll r)) (q_all q_pu (q_roll r')) := q_lv.all (f := q_pu) e0 (q_ok0 a0).2 (fun t a a' ht h => h.pu ht) (fun t a ht => q_kppu a ht)
  have e2 : q_lv (q_all q_ta (q_all q_pu (q_roll r))) (q_all q_ta (q_all q_pu (q_roll r'))) := q_lv.all (f := q_ta) e1 (q_ok0 a1).2 (fun t a a' ht h => h.ta ht) (fun t a ht => q_kpta a ht)
  have e : q_lv (q_all q_rs (q_all q_ta (q_all q_pu (q_roll r)))) (q_all q_rs (q_all q_ta (q_all q_pu (q_roll r')))) := q_lv.all (f := q_rs) e2 (q_ok0 a2).2 (fun t a a' ht h => h.rs ht) (fun t a ht => q_kprs a ht)
  unfold q_call q_inc
  rw [e.1 1 (by decide)]
  exact e.U (by decide) _
theorem q_lv.calls (h : q_lv r r') (hk : q_ok r) (N : Nat) : q_lv (q_calls N r) (q_calls N r') := (q_it2 (P := fun a a' => q_lv a a' ∧ q_ok a) N (fun _ _ _ _ h => ⟨h.1.call h.2, q_okcall h.2⟩) _ _ _ _ (Nat.le_refl _) ⟨h, hk⟩).1
end
