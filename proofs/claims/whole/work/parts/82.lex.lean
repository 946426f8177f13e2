/-! texts: the tokens of a tape f of k bytes, told plainly -/
def q_ru (P : Nat → Bool) : Nat → Nat → Nat
  | 0, p => p
  | m + 1, p => if P p = true then q_ru P m (p + 1) else p
theorem q_ruS (P : Nat → Bool) : ∀ m p, p ≤ q_ru P m p ∧ q_ru P m p ≤ p + m ∧ (∀ i, p ≤ i → i < q_ru P m p → P i = true) ∧ (q_ru P m p < p + m → ¬ P (q_ru P m p) = true) := by
  intro m
  induction m with
  | zero => intro p; exact ⟨Nat.le_refl _, Nat.le_refl _, fun i h1 h2 => absurd h2 (Nat.not_lt.mpr h1), fun h => absurd h (Nat.lt_irrefl _)⟩
  | succ m ih =>
    intro p
    unfold q_ru
    by_cases hp : P p = true
    · rw [if_pos hp]
      obtain ⟨h1, h2, h3, h4⟩ := ih (p + 1)
      refine ⟨by omega, by omega, fun i h5 h6 => ?_, fun h5 => h4 (by omega)⟩
      by_cases e : i = p
      · subst e
        exact hp
      · exact h3 i (by omega) h6
    · rw [if_neg hp]
      exact ⟨Nat.le_refl _, by omega, fun i h1 h2 => absurd h2 (Nat.not_lt.mpr h1), fun _ => hp⟩
def q_bl (f : Nat → Nat) (i : Nat) : Bool := decide (f i = 32)
def q_lt (f : Nat → Nat) (i : Nat) : Bool := decide (97 ≤ f i ∧ f i ≤ 122)
def q_dg (f : Nat → Nat) (i : Nat) : Bool := decide (48 ≤ f i ∧ f i ≤ 57)
/-- where the next token from p on begins -/
def q_pl (f : Nat → Nat) (k p : Nat) : Nat := q_ru (q_bl f) (k - p) p
/-- its sort -/
def q_so (f : Nat → Nat) (k s : Nat) : Nat := if k ≤ s then 0 else if q_lt f s = true then 1 else if q_dg f s = true then 2 else if f s = 59 then 3 else 4
/-- where it ends -/
def q_en (f : Nat → Nat) (k s : Nat) : Nat := if k ≤ s then k else if q_lt f s = true then q_ru (q_lt f) (k - s) s else if q_dg f s = true then q_ru (q_dg f) (k - s) s else s + 1
/-- a number, 1000 for all above 999 -/
def q_nv (f : Nat → Nat) : Nat → Nat → Nat → Nat
  | 0, _, v => v
  | m + 1, p, v => if q_dg f p = true then q_nv f m (p + 1) (min (v * 10 + f p - 48) 1000) else v
/-- a word of n letters from s on, as a number in base 27 -/
def q_wv (f : Nat → Nat) (s : Nat) : Nat → Nat
  | 0 => 0
  | n + 1 => 27 * q_wv f s n + (f (s + n) - 96)
def q_nm (w i : Nat) : Nat := ((ic_sbyt.getD w []).getD i 0).toNatClampNeg
def q_ln (w : Nat) : Nat := ic_slen.getD w 0
def q_cd (w : Nat) : Nat := q_wv (q_nm w) 0 (q_ln w)
def q_wi (f : Nat → Nat) (s n : Nat) : Option Nat := q_fst (fun w => decide (q_wv f s n = q_cd w)) 15 0
/-- what it is worth -/
def q_va (f : Nat → Nat) (k s : Nat) : Int32 := if k ≤ s then 0 else if q_lt f s = true then q_oI (q_wi f s (q_en f k s - s)) else if q_dg f s = true then nI (q_nv f (k - s) s 0) else 0
/-- the tokens in their order: where the search for one begins, where it stands -/
def q_E (f : Nat → Nat) (k : Nat) : Nat → Nat
  | 0 => 0
  | j + 1 => q_en f k (q_pl f k (q_E f k j))
def q_St (f : Nat → Nat) (k j : Nat) : Nat := q_pl f k (q_E f k j)
theorem q_plS {f : Nat → Nat} {k p : Nat} (h : p ≤ k) : p ≤ q_pl f k p ∧ q_pl f k p ≤ k ∧ (∀ i, p ≤ i → i < q_pl f k p → f i = 32) ∧ (q_pl f k p < k → ¬ f (q_pl f k p) = 32) := by
  obtain ⟨h1, h2, h3, h4⟩ := q_ruS (q_bl f) (k - p) p
  refine ⟨h1, ?_, fun i h5 h6 => of_decide_eq_true (h3 i h5 h6), fun h5 h6 => h4 ?_ (decide_eq_true h6)⟩
  · show q_ru (q_bl f) (k - p) p ≤ k
    omega
  · have h5 : q_ru (q_bl f) (k - p) p < k := h5
    omega
theorem q_ru1 {P : Nat → Bool} {m p : Nat} (hm : 0 < m) (hp : P p = true) : p + 1 ≤ q_ru P m p ∧ q_ru P m p ≤ p + m := by
  obtain ⟨m, rfl⟩ : ∃ j, m = j + 1 := ⟨m - 1, by omega⟩
  obtain ⟨h1, h2, _⟩ := q_ruS P m (p + 1)
  unfold q_ru
  rw [if_pos hp]
  omega
theorem q_enS {f : Nat → Nat} {k s : Nat} : q_en f k s ≤ k ∧ (s < k → s + 1 ≤ q_en f k s) := by
  unfold q_en
  by_cases h : k ≤ s
  · rw [if_pos h]
    exact ⟨Nat.le_refl _, fun h2 => absurd h2 (Nat.not_lt.mpr h)⟩
  · rw [if_neg h]
    by_cases h1 : q_lt f s = true
    · rw [if_pos h1]
      have := q_ru1 (m := k - s) (by omega) h1
      omega
    · rw [if_neg h1]
      by_cases h2 : q_dg f s = true
      · rw [if_pos h2]
        have := q_ru1 (m := k - s) (by omega) h2
        omega
      · rw [if_neg h2]
        omega
theorem q_Ek (f : Nat → Nat) (k j : Nat) : q_E f k j ≤ k := by
  cases j with
  | zero => exact Nat.zero_le _
  | succ j => exact q_enS.1
theorem q_Stk (f : Nat → Nat) (k j : Nat) : q_E f k j ≤ q_St f k j ∧ q_St f k j ≤ k := ⟨(q_plS (q_Ek f k j)).1, (q_plS (q_Ek f k j)).2.1⟩
theorem q_Sts {f : Nat → Nat} {k j : Nat} (h : q_St f k j < k) : q_St f k j + 1 ≤ q_E f k (j + 1) := q_enS.2 h
theorem q_Stj {f : Nat → Nat} {k : Nat} : ∀ j, q_St f k j < k → j ≤ q_St f k j := by
  intro j
  induction j with
  | zero => intro _; exact Nat.zero_le _
  | succ j ih =>
    intro h
    have h1 := q_Stk f k (j + 1)
    by_cases h2 : q_St f k j < k
    · have := q_Sts h2
      have := ih h2
      omega
    · have e : q_E f k (j + 1) = k := by
        show q_en f k (q_St f k j) = k
        unfold q_en
        rw [if_pos (by omega)]
      omega
theorem q_StE {f : Nat → Nat} {k J : Nat} (h : q_St f k J = k) : ∀ i, J ≤ i → q_St f k i = k := by
  intro i hi
  induction i with
  | zero =>
    obtain rfl : J = 0 := by omega
    exact h
  | succ i ih =>
    by_cases e : J = i + 1
    · subst e
      exact h
    · have h1 := ih (by omega)
      have e2 : q_E f k (i + 1) = k := by
        show q_en f k (q_St f k i) = k
        unfold q_en
        rw [if_pos (by omega)]
      have := q_Stk f k (i + 1)
      omega
theorem q_soN {f : Nat → Nat} {k s : Nat} (h : ¬ q_so f k s = 0) : s < k := by
  refine Classical.byContradiction fun h2 => h ?_
  unfold q_so
  rw [if_pos (by omega)]
theorem q_so4 (f : Nat → Nat) (k s : Nat) : q_so f k s ≤ 4 := by
  unfold q_so
  repeat' split
  all_goals omega
/-! words -/
theorem q_wvI {f h : Nat → Nat} {s t : Nat} : ∀ n m, (∀ i, i < n → 97 ≤ f (s + i) ∧ f (s + i) ≤ 122) → (∀ i, i < m → 97 ≤ h (t + i) ∧ h (t + i) ≤ 122) → (q_wv f s n = q_wv h t m ↔ n = m ∧ ∀ i, i < n → f (s + i) = h (t + i)) := by
  intro n
  induction n with
  | zero =>
    intro m _ h2
    cases m with
    | zero => exact ⟨fun _ => ⟨rfl, fun i hi => absurd hi (Nat.not_lt_zero _)⟩, fun _ => rfl⟩
    | succ m =>
      have := h2 m (Nat.lt_succ_self m)
      refine ⟨fun e => ?_, fun e => absurd e.1 (by omega)⟩
      have e : 0 = 27 * q_wv h t m + (h (t + m) - 96) := e
      omega
  | succ n ih =>
    intro m h1 h2
    have a := h1 n (Nat.lt_succ_self n)
    cases m with
    | zero =>
      refine ⟨fun e => ?_, fun e => absurd e.1 (by omega)⟩
      have e : 27 * q_wv f s n + (f (s + n) - 96) = 0 := e
      omega
    | succ m =>
      have b := h2 m (Nat.lt_succ_self m)
      have ih := ih m (fun i hi => h1 i (by omega)) (fun i hi => h2 i (by omega))
      constructor
      · intro e
        have e : 27 * q_wv f s n + (f (s + n) - 96) = 27 * q_wv h t m + (h (t + m) - 96) := e
        obtain ⟨e1, e2⟩ := ih.mp (by omega)
        subst e1
        refine ⟨rfl, fun i hi => ?_⟩
        by_cases hn : i = n
        · subst hn
          omega
        · exact e2 i (by omega)
      · rintro ⟨e1, e2⟩
        obtain rfl : n = m := by omega
        show 27 * q_wv f s n + (f (s + n) - 96) = 27 * q_wv h t n + (h (t + n) - 96)
        rw [ih.mpr ⟨rfl, fun i hi => e2 i (by omega)⟩, e2 n (Nat.lt_succ_self n)]
theorem p_nmL : ∀ w, w < 15 → q_ln w ≤ 6 ∧ ∀ i, i < q_ln w → 97 ≤ q_nm w i ∧ q_nm w i ≤ 122 := by decide +kernel
theorem p_cds : ∀ w, w < 15 → ∀ w', w' < 15 → q_cd w = q_cd w' → w = w' := by decide +kernel
theorem p_cdL : ∀ w, w < 15 → q_cd w ≤ 1000000000 := by decide +kernel
/-- the word that a token is -/
theorem q_wiI {f : Nat → Nat} {s n w : Nat} (hw : w < 15) : q_oI (q_wi f s n) = nI w ↔ q_wv f s n = q_cd w := by
  unfold q_wi
  rcases q_fstS (p := fun w => decide (q_wv f s n = q_cd w)) 15 0 with ⟨e, h⟩ | ⟨j, e, h1, h2, h3, h4⟩
  · rw [e]
    refine ⟨fun e2 => ?_, fun e2 => absurd (decide_eq_true e2) (h w (Nat.zero_le _) (by omega))⟩
    exact absurd e2.symm (p_nm1 (by omega))
  · rw [e]
    have h3 := of_decide_eq_true h3
    show nI j = nI w ↔ _
    rw [nI_eq (by omega) (by omega)]
    refine ⟨fun e2 => e2 ▸ h3, fun e2 => p_cds j (by omega) w hw (h3.symm.trans e2)⟩
/-! the class's tape -/
def q_tp (f : Nat → Nat) (k : Nat) (g : ic_S) : Prop := g.1 8 0 = nI k ∧ k ≤ 120 ∧ ∀ i, i < k → f i < 256 ∧ g.1 9 i = nI (f i)
section
variable {g : ic_S} {f : Nat → Nat} {k : Nat}
theorem c_by (h : q_tp f k g) {p : Nat} (hp : p < k) : fX3_byteAt (nI p) g = some (nI (f p), g) := by
  obtain ⟨h1, h2, h3⟩ := h
  unfold fX3_byteAt
  rw [if_neg (nI_pos (by omega)), h1, if_neg (nI_ge hp (by omega)), show (120 : Int32) = nI 120 from rfl, if_neg (nI_ge (show p < 120 by omega) (by decide)), p_in (show p < 120 by omega) (by decide), p_gd, nI_clamp (by omega), Nat.zero_add, (h3 p hp).2]
theorem p_lts {b : Nat} (hb : b < 256) {α : Type} (x y : α) : (if nI b < 97 then x else if 122 < nI b then x else y) = if decide (97 ≤ b ∧ b ≤ 122) = true then y else x := by
  by_cases h1 : b < 97
  · rw [if_pos (show nI b < 97 from nI_lt (b := 97) h1 (by decide)), if_neg (by simp; omega)]
  · rw [if_neg (show ¬ nI b < 97 from nI_nlt (b := 97) (by omega) (by omega))]
    by_cases h2 : 122 < b
    · rw [if_pos (show 122 < nI b from nI_lt (a := 122) h2 (by omega)), if_neg (by simp; omega)]
    · rw [if_neg (show ¬ 122 < nI b from nI_nlt (a := 122) (by omega) (by decide)), if_pos (by simp; omega)]
theorem p_dgs {b : Nat} (hb : b < 256) {α : Type} (x y : α) : (if nI b < 48 then x else if 57 < nI b then x else y) = if decide (48 ≤ b ∧ b ≤ 57) = true then y else x := by
  by_cases h1 : b < 48
  · rw [if_pos (show nI b < 48 from nI_lt (b := 48) h1 (by decide)), if_neg (by simp; omega)]
  · rw [if_neg (show ¬ nI b < 48 from nI_nlt (b := 48) (by omega) (by omega))]
    by_cases h2 : 57 < b
    · rw [if_pos (show 57 < nI b from nI_lt (a := 57) h2 (by omega)), if_neg (by simp; omega)]
    · rw [if_neg (show ¬ 57 < nI b from nI_nlt (a := 57) (by omega) (by decide)), if_pos (by simp; omega)]
theorem c_ltr (h : q_tp f k g) {p : Nat} (hp : p < k) : fX3_hasLetter (nI p) g = some (if q_lt f p = true then 1 else 0, g) := by
  unfold fX3_hasLetter q_lt
  rw [c_by h hp, p_b2, p_lts (h.2.2 p hp).1]
  split <;> rfl
theorem c_dgt (h : q_tp f k g) {p : Nat} (hp : p < k) : fX3_hasDigit (nI p) g = some (if q_dg f p = true then 1 else 0, g) := by
  unfold fX3_hasDigit q_dg
  rw [c_by h hp, p_b2, p_dgs (h.2.2 p hp).1]
  split <;> rfl
theorem c_cw (h : q_tp f k g) (x1 : Int32) : ∀ m p n, p + m = k → m < n → lX5_cutWord_4 x1 n (nI p) g = some (nI (q_ru (q_lt f) m p), g) := by
  obtain ⟨h1, h2, h3⟩ := id h
  intro m
  induction m with
  | zero =>
    intro p n h4 h5
    obtain ⟨n, rfl⟩ : ∃ j, n = j + 1 := ⟨n - 1, by omega⟩
    unfold lX5_cutWord_4
    rw [h1, if_pos (nI_le (by omega) (by omega))]
    rfl
  | succ m ih =>
    intro p n h4 h5
    obtain ⟨n, rfl⟩ : ∃ j, n = j + 1 := ⟨n - 1, by omega⟩
    unfold lX5_cutWord_4 q_ru
    rw [h1, if_neg (nI_ge (by omega) (by omega)), c_ltr h (by omega), p_b2]
    by_cases hp : q_lt f p = true
    · rw [if_pos hp, if_pos hp, if_neg (by decide), nI_1, ih (p + 1) n (by omega) (by omega)]
    · rw [if_neg hp, if_neg hp, if_pos rfl]
theorem p_nvs {v b : Nat} (hv : v ≤ 1000) (hb : 48 ≤ b) (hb2 : b ≤ 57) : (if (1000 : Int32) < nI v * 10 + nI b - 48 then 1000 else nI v * 10 + nI b - 48) = nI (min (v * 10 + b - 48) 1000) := by
  rw [show (10 : Int32) = nI 10 from rfl, pk_mul, nI_add, show (48 : Int32) = nI 48 from rfl, pk_sub (by omega), show (1000 : Int32) = nI 1000 from rfl]
  by_cases h : 1000 < v * 10 + b - 48
  · rw [if_pos (nI_lt h (by omega)), Nat.min_eq_right (by omega)]
  · rw [if_neg (nI_nlt (by omega) (by omega)), Nat.min_eq_left (by omega)]
theorem c_cn (h : q_tp f k g) (x1 : Int32) : ∀ m p n v, p + m = k → m < n → v ≤ 1000 → lX5_cutNumber_4 x1 n (nI p) (nI v) g = some ((nI (q_ru (q_dg f) m p), nI (q_nv f m p v)), g) := by
  obtain ⟨h1, h2, h3⟩ := id h
  intro m
  induction m with
  | zero =>
    intro p n v h4 h5 _
    obtain ⟨n, rfl⟩ : ∃ j, n = j + 1 := ⟨n - 1, by omega⟩
    unfold lX5_cutNumber_4
    rw [h1, if_pos (nI_le (by omega) (by omega))]
    rfl
  | succ m ih =>
    intro p n v h4 h5 hv
    obtain ⟨n, rfl⟩ : ∃ j, n = j + 1 := ⟨n - 1, by omega⟩
    unfold lX5_cutNumber_4 q_ru q_nv
    rw [h1, if_neg (nI_ge (by omega) (by omega)), c_dgt h (by omega), p_b2]
    by_cases hp : q_dg f p = true
    · have hd := of_decide_eq_true hp
      rw [if_pos hp, if_pos hp, if_pos hp, if_neg (by decide), c_by h (by omega), p_b2, p_nvs hv hd.1 hd.2, p_let, nI_1, ih (p + 1) n _ (by omega) (by omega) (Nat.min_le_right _ _)]
    · rw [if_neg hp, if_neg hp, if_neg hp, if_pos rfl]
/-! the names of the words -/
def q_eq (f h : Nat → Nat) (s : Nat) : Nat → Nat → Bool
  | 0, _ => true
  | m + 1, i => if f (s + i) = h i then q_eq f h s m (i + 1) else false
theorem q_eqT {f h : Nat → Nat} {s : Nat} : ∀ m i, q_eq f h s m i = true ↔ ∀ x, i ≤ x → x < i + m → f (s + x) = h x := by
  intro m
  induction m with
  | zero => intro i; exact ⟨fun _ x h1 h2 => by omega, fun _ => rfl⟩
  | succ m ih =>
    intro i
    unfold q_eq
    by_cases e : f (s + i) = h i
    · rw [if_pos e, ih (i + 1)]
      refine ⟨fun h2 x h3 h4 => ?_, fun h2 x h3 h4 => h2 x (by omega) (by omega)⟩
      by_cases hx : x = i
      · subst hx
        exact e
      · exact h2 x (by omega) (by omega)
    · rw [if_neg e]
      exact ⟨fun h2 => absurd h2 (by decide), fun h2 => absurd (h2 i (Nat.le_refl _) (by omega)) e⟩
theorem p_chr : ∀ w, w < 15 → ∀ i, i < q_ln w → q_nm w i < 256 ∧ ic_in (nI i) (ic_slen.getD w 0) = true ∧ UInt32.toInt32 (Int32.toUInt32 (((ic_sbyt.getD w []).getD i 0) &&& 255) % 65536) = nI (q_nm w i) ∧ ic_nc (nI (q_nm w i)) = true := by decide +kernel
theorem p_lnE : ∀ w, w < 15 → (Int32.ofNat (ic_slen.getD w 0)) >>> ((0 : Int32) &&& 31) = nI (q_ln w) := by decide +kernel
theorem c_len {w : Nat} (hw : w < 15) : fJ0_length_8abf5 w g = some (nI (q_ln w), g) := by
  unfold fJ0_length_8abf5 fJ0_coder_7d493
  rw [p_bt (show w < 16 by omega), p_gd, p_gd, p_b2, p_lnE w hw]
theorem c_chr {w i : Nat} (hw : w < 15) (hi : i < q_ln w) : fJ0_charAt_5068e w (nI i) g = some (nI (q_nm w i), g) := by
  obtain ⟨h1, h2, h3, h4⟩ := p_chr w hw i hi
  have hl := (p_nmL w hw).1
  unfold fJ0_charAt_5068e fJ0_isLatin1_aae02 fJ1_charAt_3b067 fJ0_checkIndex_df160 fJ3_checkIndex_8e157
  rw [p_bt (show w < 16 by omega), p_gd, p_gd, p_b2, if_neg (by decide), p_gd, if_neg (nI_pos (by omega)), show Int32.ofNat (ic_slen.getD w 0) = nI (q_ln w) from rfl, if_pos (nI_lt hi (by omega)), p_b2, p_b1, h2, p_gd, nI_clamp (by omega), h3, p_b2, h4, p_gd]
theorem c_spL (h : q_tp f k g) {w s : Nat} (hw : w < 15) (hs : s + q_ln w ≤ k) : ∀ m i n, i + m = q_ln w → m < n → lX3_spells_19 w (nI s) n (nI i) g = some (if q_eq f (q_nm w) s m i = true then .inr ((), g) else .inl (0, g)) := by
  obtain ⟨h1, h2, h3⟩ := id h
  have hl := (p_nmL w hw).1
  intro m
  induction m with
  | zero =>
    intro i n h4 h5
    obtain ⟨n, rfl⟩ : ∃ j, n = j + 1 := ⟨n - 1, by omega⟩
    unfold lX3_spells_19
    rw [c_len hw, p_b2, if_pos (nI_le (by omega) (by omega))]
    rfl
  | succ m ih =>
    intro i n h4 h5
    obtain ⟨n, rfl⟩ : ∃ j, n = j + 1 := ⟨n - 1, by omega⟩
    have hi := p_chr w hw i (by omega)
    unfold lX3_spells_19 q_eq
    rw [c_len hw, p_b2, if_neg (nI_ge (by omega) (by omega)), nI_add, c_by h (by omega), p_b2, c_chr hw (by omega), p_b2, nI_1]
    by_cases e : f (s + i) = q_nm w i
    · rw [if_pos (congrArg nI e), if_pos e, ih (i + 1) n (by omega) (by omega)]
    · have hf := (h3 (s + i) (by omega)).1
      rw [if_neg (fun e2 => e ((nI_eq (by omega) (by omega)).mp e2)), if_neg e, if_neg (by decide)]
theorem c_sp (h : q_tp f k g) {w s e : Nat} (hw : w < 15) (hs : s ≤ e) (he : e ≤ k) (hl : ∀ i, s ≤ i → i < e → q_lt f i = true) : fX3_spells (nI s) (nI e) (some (w, 0)) g = some (if q_wv f s (e - s) = q_cd w then 1 else 0, g) := by
  obtain ⟨h1, h2, h3⟩ := id h
  obtain ⟨hn, hn2⟩ := p_nmL w hw
  have hL : ∀ i, i < e - s → 97 ≤ f (s + i) ∧ f (s + i) ≤ 122 := fun i hi => of_decide_eq_true (hl (s + i) (by omega) (by omega))
  have hI : q_wv f s (e - s) = q_cd w ↔ _ := q_wvI (t := 0) (e - s) (q_ln w) hL (fun i hi => by rw [Nat.zero_add]; exact hn2 i hi)
  unfold fX3_spells
  rw [p_mos, p_bt (show w < 16 by omega), p_bt (show 0 < 1 by decide), Bool.and_self, p_gd, c_len hw, p_b2, pk_sub hs]
  by_cases hE : e - s = q_ln w
  · rw [if_pos (congrArg nI hE), show (0 : Int32) = nI 0 from nI_0.symm, c_spL h hw (by omega) (q_ln w) 0 1000 (by omega) (by omega)]
    by_cases hq : q_eq f (q_nm w) s (q_ln w) 0 = true
    · rw [if_pos hq, p_bsr, if_pos (hI.mpr ⟨hE, fun i hi => by rw [Nat.zero_add]; exact (q_eqT _ _).mp hq i (Nat.zero_le _) (by omega)⟩)]
    · rw [if_neg hq, p_bsl, if_neg]
      · rw [nI_0]
      · intro e2
        refine hq ((q_eqT _ _).mpr fun x _ hx => ?_)
        have := (hI.mp e2).2 x (by omega)
        rwa [Nat.zero_add] at this
  · rw [if_neg (fun e2 => hE ((nI_eq (by omega) (by omega)).mp e2)), if_neg (fun e2 => hE (hI.mp e2).1)]
theorem c_nam : ∀ w, w < 15 → ∀ g : ic_S, fX5_nameOf (nI w) g = some (some (w, 0), g)
  | 0, _, _ => rfl
  | 1, _, _ => rfl
  | 2, _, _ => rfl
  | 3, _, _ => rfl
  | 4, _, _ => rfl
  | 5, _, _ => rfl
  | 6, _, _ => rfl
  | 7, _, _ => rfl
  | 8, _, _ => rfl
  | 9, _, _ => rfl
  | 10, _, _ => rfl
  | 11, _, _ => rfl
  | 12, _, _ => rfl
  | 13, _, _ => rfl
  | 14, _, _ => rfl
  | w + 15, h, _ => absurd h (by omega)
theorem c_wsL (h : q_tp f k g) {s e : Nat} (hs : s ≤ e) (he : e ≤ k) (hl : ∀ i, s ≤ i → i < e → q_lt f i = true) : ∀ m w n, w + m = 15 → m < n → lX5_wordSpelt_2 (nI s) (nI e) n (nI w) g = some (q_fo (q_fst (fun w => decide (q_wv f s (e - s) = q_cd w)) m w) g) := by
  intro m
  induction m with
  | zero =>
    intro w n h4 h5
    obtain ⟨n, rfl⟩ : ∃ j, n = j + 1 := ⟨n - 1, by omega⟩
    obtain rfl : w = 15 := by omega
    unfold lX5_wordSpelt_2
    rw [if_pos (by decide)]
    rfl
  | succ m ih =>
    intro w n h4 h5
    obtain ⟨n, rfl⟩ : ∃ j, n = j + 1 := ⟨n - 1, by omega⟩
    unfold lX5_wordSpelt_2 q_fst
    rw [if_neg (show ¬ 15 ≤ nI w from nI_ge (b := 15) (by omega) (by decide)), c_nam w (by omega), p_b2, c_sp h (by omega) hs he hl, p_b2, nI_1]
    by_cases hP : q_wv f s (e - s) = q_cd w
    · rw [if_pos hP, if_neg (by decide), if_pos (decide_eq_true hP)]
      rfl
    · rw [if_neg hP, if_pos rfl, if_neg (by simp [hP]), ih (w + 1) n (by omega) (by omega)]
theorem c_ws (h : q_tp f k g) {s e : Nat} (hs : s ≤ e) (he : e ≤ k) (hl : ∀ i, s ≤ i → i < e → q_lt f i = true) : fX5_wordSpelt (nI s) (nI e) g = some (q_oI (q_wi f s (e - s)), g) := by
  unfold fX5_wordSpelt
  have e2 := c_wsL h hs he hl 15 0 1000 rfl (by decide)
  rw [nI_0] at e2
  rw [e2]
  unfold q_wi
  rcases q_fst (fun w => decide (q_wv f s (e - s) = q_cd w)) 15 0 with _ | j <;> rfl
end
