/-! sheets -/
theorem p_vk13 : ∀ s, s < 4 → ic_vk 13 s 0 = true := by decide
theorem q_Inv.sh {g : ic_S} (hI : q_Inv g) {s : Nat} (hs : s < 4) : q_S (g.1 (15 + s)) (g.1 (19 + s)) (g.1 27 s) (g.1 28 s) (fun i => g.1 29 (40 * s + i)) := by
  have h := hI.2.2.2.2.2.1 s hs
  rwa [(q_4h g hs).1, (q_4h g hs).2] at h
theorem q_S.eq {h n : Nat → Int32} {b z b' z' : Int32} {f f' : Nat → Int32} (H : q_S h n b z f) (eb : b' = b) (ez : z' = z) (ef : ∀ i, i < 40 → f' i = f i) : q_S h n b' z' f' := by
  rw [eb, ez]
  exact ⟨H.1, H.2.1, H.2.2.1, H.2.2.2.1, fun i hi => (H.2.2.2.2 i hi).trans (ef i hi).symm⟩
theorem q_Inv.sheet {g : ic_S} (hI : q_Inv g) {s : Nat} (hs : s < 4) {h' n' b' z' f' : Nat → Int32} (hS : q_S h' n' (b' s) (z' s) (fun i => f' (40 * s + i))) (eb : ∀ u, u < 4 → u ≠ s → b' u = g.1 27 u) (ez : ∀ u, u < 4 → u ≠ s → z' u = g.1 28 u) (ef : ∀ u, u < 4 → u ≠ s → ∀ i, i < 40 → f' (40 * u + i) = g.1 29 (40 * u + i)) : q_Inv (sB (sB (sB (sB (sB g (15 + s) h') (19 + s) n') 27 b') 28 z') 29 f') := by
  have hsh := fun u (hu : u < 4) => hI.sh hu
  obtain ⟨i1, i2, i3, i4, i5, i6, i7⟩ := hI
  have old : ∀ u, u < 4 → u ≠ s → q_S (g.1 (15 + u)) (g.1 (19 + u)) (b' u) (z' u) (fun i => f' (40 * u + i)) := fun u hu e => (hsh u hu).eq (eb u hu e) (ez u hu e) (ef u hu e)
  match s, hs with
  | 0, _ => exact ⟨i1, i2, i3, i4, i5, fun u hu => match u, hu with
      | 0, _ => hS
      | 1, h => old 1 h (by decide)
      | 2, h => old 2 h (by decide)
      | 3, h => old 3 h (by decide), i7⟩
  | 1, _ => exact ⟨i1, i2, i3, i4, i5, fun u hu => match u, hu with
      | 0, h => old 0 h (by decide)
      | 1, _ => hS
      | 2, h => old 2 h (by decide)
      | 3, h => old 3 h (by decide), i7⟩
  | 2, _ => exact ⟨i1, i2, i3, i4, i5, fun u hu => match u, hu with
      | 0, h => old 0 h (by decide)
      | 1, h => old 1 h (by decide)
      | 2, _ => hS
      | 3, h => old 3 h (by decide), i7⟩
  | 3, _ => exact ⟨i1, i2, i3, i4, i5, fun u hu => match u, hu with
      | 0, h => old 0 h (by decide)
      | 1, h => old 1 h (by decide)
      | 2, h => old 2 h (by decide)
      | 3, _ => hS, i7⟩
section
variable {g : ic_S}
theorem c_sA {s : Nat} (hs : s < 4) : fX6_sheetAt (nI s) g = some (some (s, 0), g) := by
  unfold fX6_sheetAt
  rw [if_neg (nI_pos (by omega)), if_neg (show ¬ 4 ≤ nI s from nI_ge (b := 4) hs (by decide)), p_in hs (by decide), p_gd, nI_clamp (by omega)]
theorem c_sAN {x : Int32} (h : x < 0 ∨ nI 4 ≤ x) : fX6_sheetAt x g = some (none, g) := by
  unfold fX6_sheetAt
  rcases h with h | h
  · rw [if_pos h]
  · have h : 4 ≤ x := h
    rw [if_pos h, ite_self]
theorem c_mi {s : Nat} (hs : s < 4) : fX1_isMissing s g = some (if g.1 (15 + s) 0 = 0 then 1 else 0, g) := by
  unfold fX1_isMissing
  rw [p_bt hs, p_gd]
  split <;> rfl
theorem r_sh {s : Nat} (hs : s < 4) : fX7_isSheet (nI s) g = some (1, g) := by
  unfold fX7_isSheet
  rw [show fX7_in (nI s).toInt64 0 3 g = some (1, g) from r_inY (n := 4) hs (by decide) g, p_b2]
  rfl
theorem r_shN {x : Int32} (h : x < 0 ∨ nI 4 ≤ x) : fX7_isSheet x g = some (0, g) := by
  unfold fX7_isSheet
  rw [show fX7_in x.toInt64 0 3 g = some (0, g) from r_inN (n := 4) (by decide) (by decide) h g, p_b2]
  rfl
theorem r_why {s : Nat} (hs : s < 4) : fX7_whyNone (nI s) g = some (if g.1 27 s = 0 then 5 else -1, g) := by
  unfold fX7_whyNone
  rw [r_sh hs, p_b2, if_neg (by decide), p_in hs (by decide), p_gd, nI_clamp (by omega), Nat.zero_add]
  split <;> rfl
theorem r_whyN {x : Int32} (h : x < 0 ∨ nI 4 ≤ x) : fX7_whyNone x g = some (0, g) := by
  unfold fX7_whyNone
  rw [r_shN h, p_b2, if_pos rfl]
theorem c_st_ {s : Nat} (hs : s < 4) {i : Nat} (hi : i < 40) : fX1_told s (nI i) g = some (g.1 (19 + s) i, g) := by
  unfold fX1_told
  rw [p_bt hs, p_gd, if_neg (nI_pos (by omega)), if_neg (show ¬ 40 ≤ nI i from nI_ge (b := 40) hi (by decide)), p_in hi (by decide), p_gd, nI_clamp (by omega), Nat.zero_add]
theorem p_40 (s i : Nat) : (40 : Int32) * nI s + nI i = nI (40 * s + i) := by
  rw [show (40 : Int32) = nI 40 from rfl, pk_mul, nI_add]
/-! judge -/
def q_jf (o : Option Nat) (g : ic_S) : (Int32 × ic_S) ⊕ (Unit × ic_S) := match o with
  | some j => .inl (1 + nI j, g)
  | none => .inr ((), g)
def q_ja (o : Option Nat) : Int32 := match o with
  | some j => 1 + nI j
  | none => 0
theorem q_jf0 (o : Option Nat) (g : ic_S) : ic_bs (some (q_jf o g)) (fun _ g => some (0, g)) = some (q_ja o, g) := by
  rcases o with _ | j <;> rfl
def q_jp (r f : Nat → Int32) (k : Nat) : Bool := !(decide (k < q_M r) && decide (r (15 + k) = f k))
theorem c_juL {s z : Nat} (hs : s < 4) (hz : z ≤ 40) {b f : Nat → Int32} : ∀ m k n (g : ic_S), k + m = z → m < n → q_ok (g.1 0) → q_ok b → q_lv b (g.1 0) → g.1 (15 + s) 1 = nI z → (∀ i, i < 40 → g.1 (19 + s) i = f i) → lX6_judge_31 s n (nI k) g = some (q_jf (q_fst (q_jp b f) m k) g) := by
  intro m
  induction m with
  | zero =>
    intro k n g h1 h2 ha hb hl h3 hf
    obtain ⟨n, rfl⟩ : ∃ j, n = j + 1 := ⟨n - 1, by omega⟩
    unfold lX6_judge_31
    rw [h3, if_pos (nI_le (by omega) (by omega))]
    rfl
  | succ m ih =>
    intro k n g h1 h2 ha hb hl h3 hf
    obtain ⟨n, rfl⟩ : ∃ j, n = j + 1 := ⟨n - 1, by omega⟩
    unfold lX6_judge_31 q_fst
    rw [h3, if_neg (nI_ge (by omega) (by omega))]
    by_cases hk : k < q_M b
    · have e : g.1 0 (15 + k) = b (15 + k) := hl.f1 hk
      rw [c_has (by decide) ha (by rw [hl.M]; exact hk), p_b2, if_neg (by decide), c_told (by decide) ha (by rw [hl.M]; exact hk), p_b2, c_st_ hs (by omega), p_b2, show q_told (g.1 0) k 1 = g.1 0 (15 + k) from rfl, e, hf k (by omega), nI_1, ih (k + 1) n g (by omega) (by omega) ha hb hl h3 hf]
      by_cases hq : b (15 + k) = f k
      · rw [if_pos hq, if_neg (by unfold q_jp; simp [hk, hq])]
      · rw [if_neg hq, if_pos (by unfold q_jp; simp [hq])]
        rfl
    · have h0 := (q_ok0 hb).1
      have hM := (q_ok0 hb).2
      rw [c_hasN (by decide) (Or.inr (by rw [hl.1 0 (by decide), h0]; exact nI_le (by omega) (by omega))), p_b2, if_pos rfl, if_pos (by unfold q_jp; simp [hk])]
      rfl
theorem r_juL {s z : Nat} (hs : s < 4) (hz : z ≤ 40) {f : Nat → Int32} : ∀ m k n (g : ic_S), k + m = z → m < n → q_ok (g.1 3) → g.1 28 s = nI z → (∀ i, i < 40 → g.1 29 (40 * s + i) = f i) → lX7_judge_18 (nI s) n (nI k) g = some (q_jf (q_fst (q_jp (g.1 3) f) m k) g) := by
  intro m
  induction m with
  | zero =>
    intro k n g h1 h2 hb h3 hf
    obtain ⟨n, rfl⟩ : ∃ j, n = j + 1 := ⟨n - 1, by omega⟩
    unfold lX7_judge_18
    rw [p_in hs (by decide), p_gd, nI_clamp (by omega), Nat.zero_add, h3, if_pos (nI_le (by omega) (by omega))]
    rfl
  | succ m ih =>
    intro k n g h1 h2 hb h3 hf
    obtain ⟨n, rfl⟩ : ∃ j, n = j + 1 := ⟨n - 1, by omega⟩
    have h0 := (q_ok0 hb).1
    have hM := (q_ok0 hb).2
    unfold lX7_judge_18 q_fst
    rw [p_in hs (by decide), p_gd, nI_clamp (by omega), Nat.zero_add, h3, if_neg (nI_ge (by omega) (by omega))]
    by_cases hk : k < q_M (g.1 3)
    · rw [r_has hb hk, p_b2, if_neg (by decide), p_40, p_in (show 40 * s + k < 160 by omega) (by decide), p_gd, r_its1 (by omega), p_b2, nI_clamp (by omega), Nat.zero_add, hf k (by omega), nI_1, ih (k + 1) n g (by omega) (by omega) hb h3 hf]
      by_cases hq : g.1 3 (15 + k) = f k
      · rw [if_pos hq.symm, if_neg (by unfold q_jp; simp [hk, hq])]
      · rw [if_neg (fun e => hq e.symm), if_pos (by unfold q_jp; simp [hq])]
        rfl
    · rw [r_hasN hb (Or.inr (by rw [h0]; exact nI_le (by omega) (by omega))), p_b2, if_pos rfl, if_pos (by unfold q_jp; simp [hk])]
      rfl
theorem o_judge (hI : q_Inv g) (x : Int32) : q_go (fX6_judge x) (fX7_judge x) g := by
  rcases q_ix x (n := 4) (by decide) with h | ⟨s, hs, rfl⟩
  · refine q_stop hI (c := 0) (by decide) ?_ fun k hf => ?_
    · unfold fX6_judge
      rw [c_sAN h, p_b2, p_mon, p_eta]
      rfl
    · unfold fX7_judge
      rw [r_whyN h, p_b2, if_neg (by decide), p_eta]
      rfl
  · obtain ⟨e0, eb, e1, ⟨z, hz, ez⟩, en⟩ := hI.sh hs
    by_cases hm : g.1 27 s = 0
    · refine q_stop hI (c := 5) (by decide) ?_ fun k hf => ?_
      · unfold fX6_judge
        rw [c_sA hs, p_b2, p_mos, p_vk13 s hs, p_gd, c_mi hs, p_b2, e0, if_pos hm, if_neg (by decide), p_eta]
        rfl
      · unfold fX7_judge
        rw [r_why hs, p_b2, hf.1 27 (by omega), if_pos hm, if_neg (by decide), p_eta]
        rfl
    · refine q_tell hI (q_ja (q_fst (q_jp (g.1 3) (fun i => g.1 29 (40 * s + i))) z 0)) ?_ fun k hf => ?_
      · unfold fX6_judge
        rw [c_sA hs, p_b2, p_mos, p_vk13 s hs, p_gd, c_mi hs, p_b2, e0, if_neg hm, if_pos rfl]
        rw [show lX6_judge_31 s 1000 0 g = _ from c_juL hs hz z 0 1000 g (by omega) (by omega) hI.a hI.b hI.l (e1.trans ez) en, q_jf0]
      · unfold fX7_judge
        rw [r_why hs, p_b2, hf.1 27 (by omega), if_neg hm, if_pos (by decide)]
        rw [show lX7_judge_18 (nI s) 1000 0 k = _ from r_juL hs hz (f := fun i => g.1 29 (40 * s + i)) z 0 1000 k (by omega) (by omega) (hf.b hI) (by rw [hf.1 28 (by omega)]; exact ez) (fun i _ => by rw [hf.1 29 (by omega)]), q_jf0, hf.r]
end
