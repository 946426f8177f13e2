section
variable {g : ic_S}
theorem c_sv {b : Nat → Int32} (hb : q_ok b) {N : Nat} (hN : N ≤ 60) (x : Int32) (h0 : q_as b (g.1 0)) (h1 : q_ok (g.1 1)) : ∃ r', q_ok r' ∧ fX6_savesAll x (nI N) g = some (if q_gd b N x = true then 1 else 0, sB g 1 r') := by
  have a := h0.mt h1
  have a2 : q_as (q_all (q_hs x) b) (q_all (q_hs x) (q_mt (g.1 1) (g.1 0))) := ⟨q_oksv a.1 x, q_lv.all (f := q_hs x) a.2 (q_ok0 hb).2 (fun t c c' _ h => h.hs) (fun t c ht => q_kphs c ht)⟩
  have a3 := a2.calls (q_oksv hb x) N
  refine ⟨q_calls N (q_all (q_hs x) (q_mt (g.1 1) (g.1 0))), a3.1, ?_⟩
  unfold fX6_savesAll
  rw [c_trial h0.1, p_b1, c_hs (by decide) _ (by rw [sB_self]; exact a.1), p_b1, sB_self, sB_sB, c_ca (by decide) (by rw [sB_self]; exact a2.1) (by omega), p_b1, sB_self, sB_sB, c_sum5 (by decide) (by rw [sB_self]; exact a3.1), p_b2, c_sum5 (g := sB g 1 (q_calls N (q_all (q_hs x) (q_mt (g.1 1) (g.1 0))))) (s := 0) (by decide) h0.1, p_b2, sB_self]
  rw [show q_sum ((sB g 1 (q_calls N (q_all (q_hs x) (q_mt (g.1 1) (g.1 0))))).1 0) 47 = q_sum b 47 from h0.2.sum (w := 5) (by decide), show q_sum (q_calls N (q_all (q_hs x) (q_mt (g.1 1) (g.1 0)))) 47 = q_sum (q_calls N (q_all (q_hs x) b)) 47 from a3.2.sum (w := 5) (by decide)]
  by_cases h : q_gd b N x = true
  · rw [if_neg (fun e => (q_gds hb N x).mp e h), if_pos h]
  · rw [if_pos ((q_gds hb N x).mpr h), if_neg h]
end
