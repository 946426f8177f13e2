/-! as; sheets -/
def q_ab (x : Int32) : Int32 := if x = 3 then 1 else if x = 4 then 3 else if x = 6 then 2 else 0
def q_isK (x k : Nat) : Bool := decide (x = 0 ∨ nI x = nI k ∨ nI x = q_ab (nI k) ∨ nI x = q_ab (q_ab (nI k)))
theorem q_isKT {x k : Nat} (h : x = 0 ∨ nI x = nI k ∨ nI x = q_ab (nI k) ∨ nI x = q_ab (q_ab (nI k))) : q_isK x k = true := decide_eq_true h
section
variable {g : ic_S}
theorem c_ab (x : Int32) : fX4_kindAbove x g = some (q_ab x, g) := by
  unfold fX4_kindAbove q_ab
  repeat' (first | rfl | split)
theorem r_ab (x : Int32) : fX7_above x g = some (q_ab x, g) := by
  unfold fX7_above q_ab
  repeat' (first | rfl | split)
/-- the chain of kinds, x2 the kind, x3 the steps that are made -/
def q_chain (x : Int32) : Nat → Int32 → Bool
  | 0, _ => false
  | m + 1, k => if k = x then true else q_chain x m (q_ab k)
theorem c_chL (x : Int32) : ∀ m j n k (g : ic_S), j + m = 7 → m < n → lX4_isOfKind_7 x n k (nI j) g = some (if q_chain x m k = true then .inl (1, g) else .inr ((), g)) := by
  intro m
  induction m with
  | zero =>
    intro j n k g h1 h2
    obtain ⟨n, rfl⟩ : ∃ i, n = i + 1 := ⟨n - 1, by omega⟩
    obtain rfl : j = 7 := by omega
    unfold lX4_isOfKind_7
    rw [if_pos (by decide)]
    rfl
  | succ m ih =>
    intro j n k g h1 h2
    obtain ⟨n, rfl⟩ : ∃ i, n = i + 1 := ⟨n - 1, by omega⟩
    have a1 : ¬ (7 : Int32) ≤ nI j := nI_ge (b := 7) (by omega) (by decide)
    unfold lX4_isOfKind_7 q_chain
    rw [if_neg a1]
    by_cases h : k = x
    · rw [if_pos h, if_pos h, if_pos rfl]
    · rw [if_neg h, if_neg h, c_ab, p_b2, nI_1, ih (j + 1) n _ g (by omega) (by omega)]
theorem p_chain : ∀ x, x < 7 → ∀ k, k < 7 → q_chain (nI x) 7 (nI k) = q_isK x k := by decide +kernel
theorem c_isK {t x : Nat} (hk : q_ok (g.1 0)) (ht : t < q_M (g.1 0)) (hx : x < 7) {k : Nat} (hk7 : k < 7) (ek : g.1 0 (7 + t) = nI k) : fX2_isOfKind 0 (nI t) (nI x) g = some (if q_isK x k = true then 1 else 0, g) := by
  have ht8 : t < 8 := by have := (q_ok0 hk).2; omega
  unfold fX2_isOfKind
  rw [p_bt (by decide), p_gd, c_thing (by decide) hk ht, p_b2, p_mos, p_vk3 (by decide) ht8, p_gd]
  unfold fX4_isOfKind
  rw [p_bt (by decide), p_gd, p_bt ht8, p_gd, ek]
  rw [show lX4_isOfKind_7 (nI x) 1000 (nI k) 0 g = _ from c_chL (nI x) 7 0 1000 (nI k) g rfl (by decide), p_chain x hx k hk7]
  cases q_isK x k <;> rfl
theorem o_as (hI : q_Inv g) (x1 x2 : Int32) : q_go (fX6_as x1 x2) (fX7_as x1 x2) g := by
  rcases q_ix x1 (n := 10) (by decide) with h | ⟨j, hj, rfl⟩
  · refine q_stop hI (c := 0) (by decide) ?_ fun k hf => ?_
    · unfold fX6_as
      rw [c_spotN h, p_b2, if_pos rfl, p_eta]
      rfl
    · unfold fX7_as
      rw [show fX7_in x1.toInt64 0 9 k = some (0, k) from r_inN (n := 10) (by decide) (by decide) h k, p_b2, if_pos rfl, p_eta]
      rfl
  · have c9 : ∀ k, fX7_in (nI j).toInt64 0 9 k = some (1, k) := fun k => r_inY (n := 10) hj (by decide) k
    rcases q_ix x2 (n := 7) (by decide) with h | ⟨x, hx, rfl⟩
    · refine q_stop hI (c := 0) (by decide) ?_ fun k hf => ?_
      · unfold fX6_as
        rw [c_spot hj, p_b2, if_neg (by decide), c_kindN h, p_b2, if_pos rfl, p_eta]
        rfl
      · unfold fX7_as
        rw [c9, p_b2, if_neg (by decide), show fX7_in x2.toInt64 0 6 k = some (0, k) from r_inN (n := 7) (by decide) (by decide) h k, p_b2, if_pos rfl, p_eta]
        rfl
    · have c6 : ∀ k, fX7_in (nI x).toInt64 0 6 k = some (1, k) := fun k => r_inY (n := 7) hx (by decide) k
      have et : fX2_spotTold 0 (nI j) g = some (g.1 0 (63 + j), g) := by
        unfold fX2_spotTold
        rw [p_bt (by decide), p_gd, if_neg (nI_pos (by omega)), if_neg (show ¬ 10 ≤ nI j from nI_ge (b := 10) hj (by decide)), p_in hj (by decide), p_gd, nI_clamp (by omega)]
      have i73 : ic_in (63 + nI j) 73 = true := by
        rw [show (63 : Int32) = nI 63 from rfl, nI_add]
        exact p_in (by omega) (by decide)
      have t73 : (63 + nI j).toNatClampNeg = 63 + j := by
        rw [show (63 : Int32) = nI 63 from rfl, nI_add]
        exact nI_clamp (by omega)
      rcases hI.2.2.1.2.2.2 j hj with ⟨ha, hb⟩ | ⟨t, ht, ha, hb⟩
      · refine q_stop hI (c := 5) (by decide) ?_ fun k hf => ?_
        · unfold fX6_as
          rw [c_spot hj, p_b2, if_neg (by decide), c_kind hx, p_b2, if_neg (by decide), et, p_b2, if_pos ha, p_eta]
          rfl
        · unfold fX7_as
          rw [c9, p_b2, if_neg (by decide), c6, p_b2, if_neg (by decide), i73, p_gd, t73, Nat.zero_add, Nat.add_zero, hf.r, hb, if_pos rfl, p_eta]
          rfl
      · have hM := (q_ok0 hI.b).2
        have hta : t < q_M (g.1 0) := by rw [hI.l.M]; exact ht
        obtain ⟨kk, hk6, ek⟩ := q_okk hI.b (t := t) (by omega)
        have ek0 : g.1 0 (7 + t) = nI kk := (hI.l.f0 ht).trans ek
        have e6 : fX6_as (nI j) (nI x) g = if q_isK x kk = true then some (nI t, g) else fX6_finding 2 g := by
          unfold fX6_as
          rw [c_spot hj, p_b2, if_neg (by decide), c_kind hx, p_b2, if_neg (by decide), et, p_b2, ha, if_neg (p_nm1 (by omega)), c_isK hI.a hta hx (by omega) ek0, p_b2]
          cases q_isK x kk with
          | true =>
            rw [if_neg (show ¬ (if true = true then (1 : Int32) else 0) = 0 by decide), if_pos rfl]
          | false =>
            rw [if_pos (show (if false = true then (1 : Int32) else 0) = 0 from rfl), if_neg (show ¬ false = true by decide), p_eta]
        have e7 : ∀ k, q_rf g k → fX7_as (nI j) (nI x) k = if q_isK x kk = true then some (nI t, k) else fX7_finds 2 k := by
          intro k hf
          have hz : ¬ nI (t + 1) = 0 := nI_ne0 (by omega) (by omega)
          unfold fX7_as
          rw [c9, p_b2, if_neg (by decide), c6, p_b2, if_neg (by decide), i73, p_gd, t73, Nat.zero_add, Nat.add_zero, hf.r, hb, if_neg hz, p_gd, p_let, nI_pred, r_its0 (by omega), p_b2, hf.r, ek]
          simp only [r_ab, p_b2, p_eta]
          by_cases h0 : nI x = 0
          · have h0' : x = 0 := (nI_eq (b := 0) (by omega) (by decide)).mp h0
            rw [if_pos h0, if_pos (q_isKT (Or.inl h0'))]
          · by_cases h1 : nI x = nI kk
            · rw [if_neg h0, if_pos h1, if_pos (q_isKT (Or.inr (Or.inl h1)))]
            · by_cases h2 : nI x = q_ab (nI kk)
              · rw [if_neg h0, if_neg h1, if_pos h2, if_pos (q_isKT (Or.inr (Or.inr (Or.inl h2))))]
              · by_cases h3 : nI x = q_ab (q_ab (nI kk))
                · rw [if_neg h0, if_neg h1, if_neg h2, if_pos h3, if_pos (q_isKT (Or.inr (Or.inr (Or.inr h3))))]
                · have : ¬ q_isK x kk = true := by
                    intro h
                    rcases of_decide_eq_true h with h | h | h | h
                    · exact h0 (by rw [h]; rfl)
                    · exact h1 h
                    · exact h2 h
                    · exact h3 h
                  rw [if_neg h0, if_neg h1, if_neg h2, if_neg h3, if_neg this]
        by_cases hK : q_isK x kk = true
        · rw [if_pos hK] at e6
          refine q_tell hI (nI t) e6 fun k hf => ?_
          rw [e7 k hf, if_pos hK]
        · rw [if_neg hK] at e6
          refine q_stop hI (c := 2) (by decide) e6 fun k hf => ?_
          rw [e7 k hf, if_neg hK]
          rfl
end
