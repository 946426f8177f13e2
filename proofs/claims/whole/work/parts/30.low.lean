/-! the words of F on what they meet -/
theorem p_b2 {α β : Type} (a : α) (g : ic_S) (f : α → ic_S → Option β) : ic_b2 (some (a, g)) f = f a g := rfl
theorem p_b1 {β : Type} (g : ic_S) (f : ic_S → Option β) : ic_b1 (some g) f = f g := rfl
theorem p_gd {α : Type} (x : Option α) : ic_gd true x = x := rfl
theorem p_let {α β : Type} (x : α) (f : α → β) : ic_let x f = f x := rfl
theorem p_mos {α : Type} (a b : Nat) (x : Option α) (f : Nat → Nat → Option α) : ic_mo (some (a, b)) x f = f a b := rfl
theorem p_mon {α : Type} (x : Option α) (f : Nat → Nat → Option α) : ic_mo none x f = x := rfl
theorem p_bsr {ρ α : Type} (a : α) (g : ic_S) (f : α → ic_S → Option (ρ × ic_S)) : ic_bs (some (.inr (a, g))) f = f a g := rfl
theorem p_bsl {ρ α : Type} (p : ρ × ic_S) (f : α → ic_S → Option (ρ × ic_S)) : ic_bs (some (.inl p)) f = some p := rfl
theorem p_btr {ρ α β : Type} (a : α) (g : ic_S) (f : α → ic_S → Option ((ρ × ic_S) ⊕ (β × ic_S))) : ic_bt (some (.inr (a, g))) f = f a g := rfl
theorem p_btl {ρ α β : Type} (p : ρ × ic_S) (f : α → ic_S → Option ((ρ × ic_S) ⊕ (β × ic_S))) : ic_bt (some (.inl p)) f = some (.inl p) := rfl
/-! a bank's row replaced -/
def rU (r : Nat → Int32) (i : Nat) (v : Int32) : Nat → Int32 := fun j => if j = i then v else r j
def sB (g : ic_S) (b : Nat) (r : Nat → Int32) : ic_S := (fun b' => if b' = b then r else g.1 b', g.2)
theorem up_sB (g : ic_S) (b i : Nat) (v : Int32) : ic_up g b i v = sB g b (rU (g.1 b) i v) := by
  unfold ic_up sB rU
  congr 1
  funext b' i'
  by_cases h : b' = b
  · subst h
    by_cases h2 : i' = i
    · simp [h2]
    · simp [h2]
  · simp [h]
theorem sB_self (g : ic_S) (b : Nat) (r : Nat → Int32) : (sB g b r).1 b = r := by simp [sB]
theorem sB_2 (g : ic_S) (b : Nat) (r : Nat → Int32) : (sB g b r).2 = g.2 := rfl
theorem sB_ne (g : ic_S) {b b' : Nat} (r : Nat → Int32) (h : b' ≠ b) : (sB g b r).1 b' = g.1 b' := by simp [sB, h]
theorem sB_sB (g : ic_S) (b : Nat) (r r' : Nat → Int32) : sB (sB g b r) b r' = sB g b r' := by
  unfold sB
  congr 1
  funext b'
  by_cases h : b' = b <;> simp [h]
theorem sB_id (g : ic_S) (b : Nat) : sB g b (g.1 b) = g := by
  unfold sB
  have : (fun b' => if b' = b then g.1 b else g.1 b') = g.1 := by
    funext b'
    by_cases h : b' = b <;> simp [h]
  rw [this]
theorem rU_s (r : Nat → Int32) (i : Nat) (v : Int32) : rU r i v i = v := by simp [rU]
theorem rU_n (r : Nat → Int32) {i j : Nat} (v : Int32) (h : j ≠ i) : rU r i v j = r j := by simp [rU, h]
theorem rU_id (r : Nat → Int32) (i : Nat) : rU r i (r i) = r := by
  funext j
  by_cases h : j = i <;> simp [rU, h]
theorem rU_rU (r : Nat → Int32) (i : Nat) (v w : Int32) : rU (rU r i v) i w = rU r i w := by
  funext j
  by_cases h : j = i <;> simp [rU, h]
/-! small facts -/
theorem p_bt {s n : Nat} (h : s < n) : Nat.blt s n = true := Nat.ble_eq_true_of_le h
theorem p_vk3 {s t : Nat} (h : s < 3) (h2 : t < 8) : ic_vk 3 s t = true := by
  unfold ic_vk
  rw [p_bt (show s < ic_ns 3 from h), p_bt (show t < ic_nt 3 from h2)]
  rfl
theorem p_in {k n : Nat} (h : k < n) (hn : n < 2 ^ 31) : ic_in (nI k) n = true := by
  unfold ic_in
  rw [nI_toInt (Nat.lt_trans h hn)]
  simp [h]
theorem p_in8 {k : Nat} (h : k < 8) : ic_in (nI k) 8 = true := p_in h (by decide)
theorem p_tn {k : Nat} (h : k < 8) : (nI k).toNatClampNeg = k := nI_clamp (Nat.lt_trans h (by decide))
theorem p_on (k : Nat) : Int32.ofNat k = nI k := rfl
theorem p_n8 {k : Nat} (h : k < 8) : ¬ (8 : Int32) ≤ nI k := nI_ge h (by decide)
theorem p_y8 : (8 : Int32) ≤ nI 8 := by decide +kernel
theorem p_lem {M k : Nat} (hM : M ≤ 8) (hk : k ≤ 8) : nI M ≤ nI k ↔ M ≤ k := nI_leI (Nat.lt_of_le_of_lt hM (by decide)) (Nat.lt_of_le_of_lt hk (by decide))
/-- f for t, t + 1, … , n times -/
def q_it {α : Type} (f : Nat → α → α) : Nat → Nat → α → α
  | 0, _, a => a
  | n + 1, t, a => q_it f n (t + 1) (f t a)
theorem q_itz {α : Type} (f : Nat → α → α) (t : Nat) (a : α) : q_it f 0 t a = a := rfl
theorem q_its {α : Type} (f : Nat → α → α) (n t : Nat) (a : α) : q_it f (n + 1) t a = q_it f n (t + 1) (f t a) := rfl
theorem q_itM {α : Type} (f : Nat → α → α) {M k : Nat} (h : k < M) (a : α) : q_it f (M - k) k a = q_it f (M - (k + 1)) (k + 1) (f k a) := by
  obtain ⟨d, hd⟩ : ∃ d, M - k = d + 1 := ⟨M - k - 1, by omega⟩
  rw [hd, q_its, show M - (k + 1) = d by omega]
theorem q_itN {α : Type} (f : Nat → α → α) {M k : Nat} (h : M ≤ k) (a : α) : q_it f (M - k) k a = a := by
  rw [Nat.sub_eq_zero_of_le h]
  rfl
/-- what holds at the start and is kept holds at the end -/
theorem q_itI {α : Type} {f : Nat → α → α} {P : α → Prop} (N : Nat) (hf : ∀ t a, t < N → P a → P (f t a)) : ∀ n t a, n + t ≤ N → P a → P (q_it f n t a) := by
  intro n
  induction n with
  | zero => intro t a _ h; exact h
  | succ n ih => intro t a hn h; exact ih (t + 1) _ (by omega) (hf t a (by omega) h)
/-- two of them side by side -/
theorem q_it2 {α β : Type} {f : Nat → α → α} {f' : Nat → β → β} {P : α → β → Prop} (N : Nat) (hf : ∀ t a b, t < N → P a b → P (f t a) (f' t b)) : ∀ n t a b, n + t ≤ N → P a b → P (q_it f n t a) (q_it f' n t b) := by
  intro n
  induction n with
  | zero => intro t a b _ h; exact h
  | succ n ih => intro t a b hn h; exact ih (t + 1) _ _ (by omega) (hf t a b (by omega) h)
/-! the bounds of a row -/
def q_bd (i : Nat) : Nat := if i = 0 then 8 else if i = 1 then 99999 else if i = 3 then 15 else if i = 4 then 1 else if i = 5 then 3 else if i = 6 then 20 else if i < 15 then 6 else if i < 23 then 15 else if i < 31 then 99 else if i < 39 then 999 else if i < 47 then 1 else if i < 55 then 1 else 9999
def q_ok (r : Nat → Int32) : Prop := ∀ i, i < 63 → i ≠ 2 → ∃ n, n ≤ q_bd i ∧ r i = nI n
theorem q_bdb (i : Nat) : q_bd i ≤ 99999 := by
  unfold q_bd
  repeat' split
  all_goals omega
theorem q_okU {r : Nat → Int32} (h : q_ok r) {i : Nat} {v : Int32} (hv : i < 63 → i ≠ 2 → ∃ n, n ≤ q_bd i ∧ v = nI n) : q_ok (rU r i v) := by
  intro j h1 h2
  by_cases hj : j = i
  · subst hj
    rw [rU_s]
    exact hv h1 h2
  · rw [rU_n _ _ hj]
    exact h j h1 h2
def q_M (r : Nat → Int32) : Nat := (r 0).toNatClampNeg
theorem q_ok0 {r : Nat → Int32} (h : q_ok r) : r 0 = nI (q_M r) ∧ q_M r ≤ 8 := by
  obtain ⟨n, hn, he⟩ := h 0 (by decide) (by decide)
  have hn : n ≤ 8 := hn
  unfold q_M
  rw [he, nI_clamp (Nat.lt_of_le_of_lt hn (by decide))]
  exact ⟨rfl, hn⟩
theorem q_ok1 {r : Nat → Int32} (h : q_ok r) : ∃ n, n ≤ 99999 ∧ r 1 = nI n := h 1 (by decide) (by decide)
theorem q_ok3 {r : Nat → Int32} (h : q_ok r) : ∃ n, n ≤ 15 ∧ r 3 = nI n := h 3 (by decide) (by decide)
theorem q_ok4 {r : Nat → Int32} (h : q_ok r) : ∃ n, n ≤ 1 ∧ r 4 = nI n := h 4 (by decide) (by decide)
theorem q_ok5 {r : Nat → Int32} (h : q_ok r) : ∃ n, n ≤ 3 ∧ r 5 = nI n := h 5 (by decide) (by decide)
theorem q_ok6 {r : Nat → Int32} (h : q_ok r) : ∃ n, n ≤ 20 ∧ r 6 = nI n := h 6 (by decide) (by decide)
theorem q_bd_7 : ∀ {t : Nat}, t < 8 → q_bd (7 + t) = 6 := by decide +kernel
theorem q_bd_15 : ∀ {t : Nat}, t < 8 → q_bd (15 + t) = 15 := by decide +kernel
theorem q_bd_23 : ∀ {t : Nat}, t < 8 → q_bd (23 + t) = 99 := by decide +kernel
theorem q_bd_31 : ∀ {t : Nat}, t < 8 → q_bd (31 + t) = 999 := by decide +kernel
theorem q_bd_39 : ∀ {t : Nat}, t < 8 → q_bd (39 + t) = 1 := by decide +kernel
theorem q_bd_47 : ∀ {t : Nat}, t < 8 → q_bd (47 + t) = 1 := by decide +kernel
theorem q_bd_55 : ∀ {t : Nat}, t < 8 → q_bd (55 + t) = 9999 := by decide +kernel
theorem q_okk {r : Nat → Int32} (h : q_ok r) {t : Nat} (ht : t < 8) : ∃ n, n ≤ 6 ∧ r (7 + t) = nI n := by
  have h2 := h (7 + t) (by omega) (by omega)
  rwa [q_bd_7 ht] at h2
theorem q_okc {r : Nat → Int32} (h : q_ok r) {t : Nat} (ht : t < 8) : ∃ n, n ≤ 15 ∧ r (15 + t) = nI n := by
  have h2 := h (15 + t) (by omega) (by omega)
  rwa [q_bd_15 ht] at h2
theorem q_okh {r : Nat → Int32} (h : q_ok r) {t : Nat} (ht : t < 8) : ∃ n, n ≤ 99 ∧ r (23 + t) = nI n := by
  have h2 := h (23 + t) (by omega) (by omega)
  rwa [q_bd_23 ht] at h2
theorem q_okp {r : Nat → Int32} (h : q_ok r) {t : Nat} (ht : t < 8) : ∃ n, n ≤ 999 ∧ r (31 + t) = nI n := by
  have h2 := h (31 + t) (by omega) (by omega)
  rwa [q_bd_31 ht] at h2
theorem q_okH {r : Nat → Int32} (h : q_ok r) {t : Nat} (ht : t < 8) : ∃ n, n ≤ 1 ∧ r (39 + t) = nI n := by
  have h2 := h (39 + t) (by omega) (by omega)
  rwa [q_bd_39 ht] at h2
theorem q_okT {r : Nat → Int32} (h : q_ok r) {t : Nat} (ht : t < 8) : ∃ n, n ≤ 1 ∧ r (47 + t) = nI n := by
  have h2 := h (47 + t) (by omega) (by omega)
  rwa [q_bd_47 ht] at h2
theorem q_okm {r : Nat → Int32} (h : q_ok r) {t : Nat} (ht : t < 8) : ∃ n, n ≤ 9999 ∧ r (55 + t) = nI n := by
  have h2 := h (55 + t) (by omega) (by omega)
  rwa [q_bd_55 ht] at h2
