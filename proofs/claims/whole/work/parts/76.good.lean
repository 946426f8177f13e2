/-- to hold the set x through N calls takes no more things -/
def q_gd (b : Nat → Int32) (N : Nat) (x : Int32) : Bool := decide (q_set (q_calls N (q_all (q_hs x) b)) 47 = q_set b 47)
theorem q_oksv {b : Nat → Int32} (hb : q_ok b) (x : Int32) : q_ok (q_all (q_hs x) b) := q_okall (f := q_hs x) (fun _ _ ht h => q_okhs h ht) hb
theorem q_svM {b : Nat → Int32} (hb : q_ok b) (x : Int32) (N : Nat) : q_M (q_calls N (q_all (q_hs x) b)) = q_M b := (q_caM (q_oksv hb x) N).trans (q_kpM (q_kpall (f := q_hs x) (fun t r ht => q_kphs r ht) hb))
theorem q_tmhs {x : Int32} {t : Nat} (r : Nat → Int32) (ht : t < 8) : q_tm r (q_hs x t r) := by
  unfold q_hs
  split
  · exact q_tmU (q_tmr r) (by omega)
  · exact q_tmr r
theorem q_svm {b : Nat → Int32} (hb : q_ok b) (x : Int32) (N : Nat) : q_tm b (q_calls N (q_all (q_hs x) b)) := (q_tmall (f := q_hs x) (fun t r ht => q_tmhs r ht) (q_ok0 hb).2).tr (q_tmcs (q_oksv hb x) N)
theorem q_gds {b : Nat → Int32} (hb : q_ok b) (N : Nat) (x : Int32) : q_sum b 47 < q_sum (q_calls N (q_all (q_hs x) b)) 47 ↔ ¬ q_gd b N x = true := by
  have hc := q_okcs (q_oksv hb x) N
  rw [q_grow (q_svM hb x N) (q_ok0 hb).2 (fun t ht => p_01 (q_okT hb ht)) (fun t ht => p_01 (q_okT hc ht)) (q_svm hb x N)]
  unfold q_gd
  rw [decide_eq_true_eq]
