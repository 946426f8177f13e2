/-- the words that stay -/
def lw_gd : List Cond := lw_tbl.filter goodWord
theorem lw_gd_in : ∀ w ∈ lw_gd, w ∈ lw_tbl := fun w h => (List.mem_filter.mp h).1
theorem lw_gd_good : GoodIn lw_gd lw_gd := fun w h => ⟨h, good_of_word (List.mem_filter.mp h).2⟩
theorem ic_mg (i : Nat) {w : Cond} (h : tables_1[i]? = some w) (hg : goodWord w = true) : w ∈ lw_gd := List.mem_filter.mpr ⟨List.mem_append_right _ (List.mem_of_getElem? h), hg⟩
theorem ic_mp (i : Nat) {w : Cond} (h : (k2_sels lw_privs)[i]? = some w) (hg : goodWord w = true) : w ∈ lw_gd := List.mem_filter.mpr ⟨List.mem_append_left _ (List.mem_of_getElem? h), hg⟩
def RX0 : String := "IronCall$Reader"
def TX0 : u_T := fun k => match k with
  | 0 => ("IronCall$Reader", "tokens", "LIronCall$Tokens;", true)
  | 1 => ("IronCall$Reader", "street", "LIronCall$Street;", true)
  | 2 => ("IronCall$Reader", "next", "I", false)
  | _ => ("IronCall$Reader", "isFaulty", "Z", false)
def tyX0 : Nat → FieldType := fun k => match k with
  | 0 => .object "IronCall$Tokens"
  | 1 => .object "IronCall$Street"
  | 2 => .int
  | _ => .boolean
theorem nmX0 : ∀ a, a < 4 → ∀ b, b < 4 → a ≠ b → (TX0 a).2.1 ≠ (TX0 b).2.1 := by decide +kernel
theorem tyX0_ok : ∀ k, k < 4 → parseFieldDescriptor (TX0 k).2.2.1 = some (tyX0 k) := by decide +kernel
theorem inX0 : ∀ w ∈ u_ws RX0 TX0 4, w ∈ lw_gd := by decide +kernel
def RX1 : String := "IronCall$Sheet"
def TX1 : u_T := fun k => match k with
  | 0 => ("IronCall$Sheet", "bits", "I", false)
  | 1 => ("IronCall$Sheet", "size", "I", false)
  | _ => ("IronCall$Sheet", "numbers", "[I", true)
def tyX1 : Nat → FieldType := fun k => match k with
  | 0 => .int
  | 1 => .int
  | _ => .array .int
theorem nmX1 : ∀ a, a < 3 → ∀ b, b < 3 → a ≠ b → (TX1 a).2.1 ≠ (TX1 b).2.1 := by decide +kernel
theorem tyX1_ok : ∀ k, k < 3 → parseFieldDescriptor (TX1 k).2.2.1 = some (tyX1 k) := by decide +kernel
theorem inX1 : ∀ w ∈ u_ws RX1 TX1 3, w ∈ lw_gd := by decide +kernel
def RX2 : String := "IronCall$Street"
def TX2 : u_T := fun k => match k with
  | 0 => ("IronCall$Street", "cell", "I", false)
  | 1 => ("IronCall$Street", "way", "I", false)
  | 2 => ("IronCall$Street", "pace", "I", false)
  | 3 => ("IronCall$Street", "loud", "I", false)
  | 4 => ("IronCall$Street", "callNumber", "I", false)
  | 5 => ("IronCall$Street", "z", "I", false)
  | 6 => ("IronCall$Street", "made", "I", false)
  | 7 => ("IronCall$Street", "things", "[LIronCall$Thing;", true)
  | _ => ("IronCall$Street", "spots", "[I", true)
def tyX2 : Nat → FieldType := fun k => match k with
  | 0 => .int
  | 1 => .int
  | 2 => .int
  | 3 => .int
  | 4 => .int
  | 5 => .int
  | 6 => .int
  | 7 => .array (.object "IronCall$Thing")
  | _ => .array .int
theorem nmX2 : ∀ a, a < 9 → ∀ b, b < 9 → a ≠ b → (TX2 a).2.1 ≠ (TX2 b).2.1 := by decide +kernel
theorem tyX2_ok : ∀ k, k < 9 → parseFieldDescriptor (TX2 k).2.2.1 = some (tyX2 k) := by decide +kernel
theorem inX2 : ∀ w ∈ u_ws RX2 TX2 9, w ∈ lw_gd := by decide +kernel
def RX3 : String := "IronCall$Tape"
def TX3 : u_T := fun k => match k with
  | 0 => ("IronCall$Tape", "size", "I", false)
  | _ => ("IronCall$Tape", "bytes", "[I", true)
def tyX3 : Nat → FieldType := fun k => match k with
  | 0 => .int
  | _ => .array .int
theorem nmX3 : ∀ a, a < 2 → ∀ b, b < 2 → a ≠ b → (TX3 a).2.1 ≠ (TX3 b).2.1 := by decide +kernel
theorem tyX3_ok : ∀ k, k < 2 → parseFieldDescriptor (TX3 k).2.2.1 = some (tyX3 k) := by decide +kernel
theorem inX3 : ∀ w ∈ u_ws RX3 TX3 2, w ∈ lw_gd := by decide +kernel
def RX4 : String := "IronCall$Thing"
def TX4 : u_T := fun k => match k with
  | 0 => ("IronCall$Thing", "number", "I", true)
  | 1 => ("IronCall$Thing", "kind", "I", false)
  | 2 => ("IronCall$Thing", "cell", "I", false)
  | 3 => ("IronCall$Thing", "heavy", "I", false)
  | 4 => ("IronCall$Thing", "pulled", "I", false)
  | 5 => ("IronCall$Thing", "moved", "I", false)
  | 6 => ("IronCall$Thing", "isHeld", "Z", false)
  | _ => ("IronCall$Thing", "isTaken", "Z", false)
def tyX4 : Nat → FieldType := fun k => match k with
  | 0 => .int
  | 1 => .int
  | 2 => .int
  | 3 => .int
  | 4 => .int
  | 5 => .int
  | 6 => .boolean
  | _ => .boolean
theorem nmX4 : ∀ a, a < 8 → ∀ b, b < 8 → a ≠ b → (TX4 a).2.1 ≠ (TX4 b).2.1 := by decide +kernel
theorem tyX4_ok : ∀ k, k < 8 → parseFieldDescriptor (TX4 k).2.2.1 = some (tyX4 k) := by decide +kernel
theorem inX4 : ∀ w ∈ u_ws RX4 TX4 8, w ∈ lw_gd := by decide +kernel
def RX5 : String := "IronCall$Tokens"
def TX5 : u_T := fun k => match k with
  | 0 => ("IronCall$Tokens", "tape", "LIronCall$Tape;", true)
  | 1 => ("IronCall$Tokens", "size", "I", false)
  | 2 => ("IronCall$Tokens", "sorts", "[I", true)
  | 3 => ("IronCall$Tokens", "places", "[I", true)
  | _ => ("IronCall$Tokens", "values", "[I", true)
def tyX5 : Nat → FieldType := fun k => match k with
  | 0 => .object "IronCall$Tape"
  | 1 => .int
  | 2 => .array .int
  | 3 => .array .int
  | _ => .array .int
theorem nmX5 : ∀ a, a < 5 → ∀ b, b < 5 → a ≠ b → (TX5 a).2.1 ≠ (TX5 b).2.1 := by decide +kernel
theorem tyX5_ok : ∀ k, k < 5 → parseFieldDescriptor (TX5 k).2.2.1 = some (tyX5 k) := by decide +kernel
theorem inX5 : ∀ w ∈ u_ws RX5 TX5 5, w ∈ lw_gd := by decide +kernel
def RX6 : String := "IronCall"
def TX6 : u_T := fun k => match k with
  | 0 => ("IronCall", "street", "LIronCall$Street;", true)
  | 1 => ("IronCall", "trial", "LIronCall$Street;", true)
  | 2 => ("IronCall", "kept", "LIronCall$Street;", true)
  | 3 => ("IronCall", "hasKept", "Z", false)
  | 4 => ("IronCall", "tape", "LIronCall$Tape;", true)
  | 5 => ("IronCall", "tokens", "LIronCall$Tokens;", true)
  | 6 => ("IronCall", "reader", "LIronCall$Reader;", true)
  | 7 => ("IronCall", "sheets", "[LIronCall$Sheet;", true)
  | _ => ("IronCall", "findings", "[I", true)
def tyX6 : Nat → FieldType := fun k => match k with
  | 0 => .object "IronCall$Street"
  | 1 => .object "IronCall$Street"
  | 2 => .object "IronCall$Street"
  | 3 => .boolean
  | 4 => .object "IronCall$Tape"
  | 5 => .object "IronCall$Tokens"
  | 6 => .object "IronCall$Reader"
  | 7 => .array (.object "IronCall$Sheet")
  | _ => .array .int
theorem nmX6 : ∀ a, a < 9 → ∀ b, b < 9 → a ≠ b → (TX6 a).2.1 ≠ (TX6 b).2.1 := by decide +kernel
theorem tyX6_ok : ∀ k, k < 9 → parseFieldDescriptor (TX6 k).2.2.1 = some (tyX6 k) := by decide +kernel
theorem inX6 : ∀ w ∈ u_ws RX6 TX6 9, w ∈ lw_gd := by decide +kernel
def RX7 : String := "IronCallModel"
def TX7 : u_T := fun k => match k with
  | 0 => ("IronCallModel", "d", "[I", true)
  | 1 => ("IronCallModel", "e", "[I", true)
  | 2 => ("IronCallModel", "aside", "[I", true)
  | 3 => ("IronCallModel", "kept", "[I", true)
  | 4 => ("IronCallModel", "isKept", "Z", false)
  | 5 => ("IronCallModel", "found", "[I", true)
  | 6 => ("IronCallModel", "tape", "[B", true)
  | 7 => ("IronCallModel", "taped", "I", false)
  | 8 => ("IronCallModel", "at", "I", false)
  | 9 => ("IronCallModel", "sort", "I", false)
  | 10 => ("IronCallModel", "from", "I", false)
  | 11 => ("IronCallModel", "value", "J", false)
  | 12 => ("IronCallModel", "fault", "I", false)
  | 13 => ("IronCallModel", "bitsOf", "[I", true)
  | 14 => ("IronCallModel", "sizeOf", "[I", true)
  | 15 => ("IronCallModel", "number", "[I", true)
  | _ => ("IronCallModel", "passing", "[I", true)
def tyX7 : Nat → FieldType := fun k => match k with
  | 0 => .array .int
  | 1 => .array .int
  | 2 => .array .int
  | 3 => .array .int
  | 4 => .boolean
  | 5 => .array .int
  | 6 => .array .byte
  | 7 => .int
  | 8 => .int
  | 9 => .int
  | 10 => .int
  | 11 => .long
  | 12 => .int
  | 13 => .array .int
  | 14 => .array .int
  | 15 => .array .int
  | _ => .array .int
theorem nmX7 : ∀ a, a < 17 → ∀ b, b < 17 → a ≠ b → (TX7 a).2.1 ≠ (TX7 b).2.1 := by decide +kernel
theorem tyX7_ok : ∀ k, k < 17 → parseFieldDescriptor (TX7 k).2.2.1 = some (tyX7 k) := by decide +kernel
theorem inX7 : ∀ w ∈ u_ws RX7 TX7 17, w ∈ lw_gd := by decide +kernel
abbrev ic_cls : List vw_C := [(RX0, TX0, 4), (RX1, TX1, 3), (RX2, TX2, 9), (RX3, TX3, 2), (RX4, TX4, 8), (RX5, TX5, 5), (RX6, TX6, 9), (RX7, TX7, 17)]
def ic_ty (ci : Nat) : Nat → FieldType := match ci with
  | 0 => tyX0
  | 1 => tyX1
  | 2 => tyX2
  | 3 => tyX3
  | 4 => tyX4
  | 5 => tyX5
  | 6 => tyX6
  | _ => tyX7
theorem ic_cls_in (ci : Nat) (q : vw_C) (h : ic_cls[ci]? = some q) : ∀ w ∈ u_ws q.1 q.2.1 q.2.2, w ∈ lw_gd := by
  match ci, h with
  | 0, h => cases h; exact inX0
  | 1, h => cases h; exact inX1
  | 2, h => cases h; exact inX2
  | 3, h => cases h; exact inX3
  | 4, h => cases h; exact inX4
  | 5, h => cases h; exact inX5
  | 6, h => cases h; exact inX6
  | 7, h => cases h; exact inX7
  | n + 8, h => simp at h
theorem ic_cls_ty (ci : Nat) (q : vw_C) (h : ic_cls[ci]? = some q) : ∀ k, k < q.2.2 → parseFieldDescriptor (q.2.1 k).2.2.1 = some (ic_ty ci k) := by
  match ci, h with
  | 0, h => cases h; exact tyX0_ok
  | 1, h => cases h; exact tyX1_ok
  | 2, h => cases h; exact tyX2_ok
  | 3, h => cases h; exact tyX3_ok
  | 4, h => cases h; exact tyX4_ok
  | 5, h => cases h; exact tyX5_ok
  | 6, h => cases h; exact tyX6_ok
  | 7, h => cases h; exact tyX7_ok
  | n + 8, h => simp at h
theorem ic_cls_nm (ci : Nat) (q : vw_C) (h : ic_cls[ci]? = some q) : ∀ a, a < q.2.2 → ∀ b, b < q.2.2 → a ≠ b → (q.2.1 a).2.1 ≠ (q.2.1 b).2.1 := by
  match ci, h with
  | 0, h => cases h; exact nmX0
  | 1, h => cases h; exact nmX1
  | 2, h => cases h; exact nmX2
  | 3, h => cases h; exact nmX3
  | 4, h => cases h; exact nmX4
  | 5, h => cases h; exact nmX5
  | 6, h => cases h; exact nmX6
  | 7, h => cases h; exact nmX7
  | n + 8, h => simp at h
abbrev ic_K : Type := Nat × Nat × Nat
abbrev ic_V : Type := Int32 ⊕ Int64 ⊕ Option ic_K
abbrev ic_S : Type := (Nat → Nat → Int32) × Int64
abbrev ic_L : Type := List (Nat × ic_V)
abbrev ic_X : Type := (Nat → Nat → Nat → Nat) × va_G × (Nat → ClassId) × Option Nat
abbrev ic_M : Type := MethodName × ByteArray × Nat × Option FieldType × Nat × Nat × List (List (Nat × Instr × Nat × Nat))
abbrev ic_I (x : Int32) : ic_V := .inl x
abbrev ic_J (x : Int64) : ic_V := .inr (.inl x)
abbrev ic_R (C s t : Nat) : ic_V := .inr (.inr (some (C, s, t)))
abbrev ic_N : ic_V := .inr (.inr none)
abbrev ic_O (C : Nat) (o : Option (Nat × Nat)) : ic_V := .inr (.inr (o.map fun k => (C, k.1, k.2)))
def ic_cel (κ : ic_X) (g : ic_S) (x : ic_K) : va_E := match x with
  | (0, _, _) => .inr (6, [.ref (κ.1 1 0 0), .ref (κ.1 1 1 0), .ref (κ.1 1 2 0), .int (g.1 7 0), .ref (κ.1 5 0 0), .ref (κ.1 7 0 0), .ref (κ.1 11 0 0), .ref (κ.1 12 0 0), .ref (κ.1 15 0 0)])
  | (1, s, _) => .inr (2, [.int (g.1 s 3), .int (g.1 s 4), .int (g.1 s 5), .int (g.1 s 6), .int (g.1 s 1), .int (g.1 s 2), .int (g.1 s 0), .ref (κ.1 2 s 0), .ref (κ.1 4 s 0)])
  | (2, s, _) => .inl (κ.2.2.1 2, 8, .inr (.inr (.inr (.inr (fun j => some (κ.1 3 s j))))))
  | (3, s, t) => .inr (4, [.int (Int32.ofNat t), .int (g.1 s (7 + t)), .int (g.1 s (15 + t)), .int (g.1 s (23 + t)), .int (g.1 s (31 + t)), .int (g.1 s (55 + t)), .int (g.1 s (39 + t)), .int (g.1 s (47 + t))])
  | (4, s, _) => .inl (κ.2.2.1 0, 10, .inl (fun j => g.1 s (63 + j)))
  | (5, _, _) => .inr (3, [.int (g.1 8 0), .ref (κ.1 6 0 0)])
  | (6, _, _) => .inl (κ.2.2.1 0, 120, .inl (fun j => g.1 9 (0 + j)))
  | (7, _, _) => .inr (5, [.ref (κ.1 5 0 0), .int (g.1 10 0), .ref (κ.1 8 0 0), .ref (κ.1 9 0 0), .ref (κ.1 10 0 0)])
  | (8, _, _) => .inl (κ.2.2.1 0, 121, .inl (fun j => g.1 11 (0 + j)))
  | (9, _, _) => .inl (κ.2.2.1 0, 121, .inl (fun j => g.1 12 (0 + j)))
  | (10, _, _) => .inl (κ.2.2.1 0, 121, .inl (fun j => g.1 13 (0 + j)))
  | (11, _, _) => .inr (0, [.ref (κ.1 7 0 0), .ref (κ.1 1 1 0), .int (g.1 14 0), .int (g.1 14 1)])
  | (12, _, _) => .inl (κ.2.2.1 3, 4, .inr (.inr (.inr (.inr (fun j => some (κ.1 13 j 0))))))
  | (13, s, _) => .inr (1, [.int (g.1 (15 + s) 0), .int (g.1 (15 + s) 1), .ref (κ.1 14 s 0)])
  | (14, s, _) => .inl (κ.2.2.1 0, 40, .inl (fun j => g.1 (19 + s) (0 + j)))
  | (15, _, _) => .inl (κ.2.2.1 0, 7, .inl (fun j => g.1 23 (0 + j)))
  | (16, _, _) => .inr (7, [.ref (κ.1 17 0 0), .ref (κ.1 17 1 0), .ref (κ.1 17 2 0), .ref (κ.1 17 3 0), .int (g.1 24 0), .ref (κ.1 18 0 0), .ref (κ.1 19 0 0), .int (g.1 24 1), .int (g.1 24 2), .int (g.1 24 3), .int (g.1 24 4), .long g.2, .int (g.1 24 5), .ref (κ.1 20 0 0), .ref (κ.1 21 0 0), .ref (κ.1 22 0 0), .ref (κ.1 23 0 0)])
  | (17, s, _) => .inl (κ.2.2.1 0, 73, .inl (fun j => g.1 (3 + s) (0 + j)))
  | (18, _, _) => .inl (κ.2.2.1 0, 7, .inl (fun j => g.1 25 (0 + j)))
  | (19, _, _) => .inl (κ.2.2.1 1, 120, .inl (fun j => g.1 26 (0 + j)))
  | (20, _, _) => .inl (κ.2.2.1 0, 4, .inl (fun j => g.1 27 (0 + j)))
  | (21, _, _) => .inl (κ.2.2.1 0, 4, .inl (fun j => g.1 28 (0 + j)))
  | (22, _, _) => .inl (κ.2.2.1 0, 160, .inl (fun j => g.1 29 (0 + j)))
  | (23, _, _) => .inl (κ.2.2.1 0, 40, .inl (fun j => g.1 30 (0 + j)))
  | _ => .inl (0, 0, .inl fun _ => 0)
def ic_keys : List ic_K := [(0, 0, 0), (1, 0, 0), (1, 1, 0), (1, 2, 0), (2, 0, 0), (2, 1, 0), (2, 2, 0), (3, 0, 0), (3, 0, 1), (3, 0, 2), (3, 0, 3), (3, 0, 4), (3, 0, 5), (3, 0, 6), (3, 0, 7), (3, 1, 0), (3, 1, 1), (3, 1, 2), (3, 1, 3), (3, 1, 4), (3, 1, 5), (3, 1, 6), (3, 1, 7), (3, 2, 0), (3, 2, 1), (3, 2, 2), (3, 2, 3), (3, 2, 4), (3, 2, 5), (3, 2, 6), (3, 2, 7), (4, 0, 0), (4, 1, 0), (4, 2, 0), (5, 0, 0), (6, 0, 0), (7, 0, 0), (8, 0, 0), (9, 0, 0), (10, 0, 0), (11, 0, 0), (12, 0, 0), (13, 0, 0), (13, 1, 0), (13, 2, 0), (13, 3, 0), (14, 0, 0), (14, 1, 0), (14, 2, 0), (14, 3, 0), (15, 0, 0), (16, 0, 0), (17, 0, 0), (17, 1, 0), (17, 2, 0), (17, 3, 0), (18, 0, 0), (19, 0, 0), (20, 0, 0), (21, 0, 0), (22, 0, 0), (23, 0, 0)]
def ic_ns (C : Nat) : Nat := match C with
  | 1 => 3
  | 2 => 3
  | 3 => 3
  | 4 => 3
  | 13 => 4
  | 14 => 4
  | 17 => 4
  | _ => 1
def ic_nt (C : Nat) : Nat := match C with
  | 3 => 8
  | _ => 1
theorem ic_bnd : ∀ x ∈ ic_keys, x.1 < 24 ∧ x.2.1 < ic_ns x.1 ∧ x.2.2 < ic_nt x.1 := by decide +kernel
theorem ic_memk0 : ((List.range 24).all fun C => (List.range (ic_ns C)).all fun s => (List.range (ic_nt C)).all fun t => ic_keys.any fun k => k.1 == C && (k.2.1 == s && k.2.2 == t)) = true := by decide +kernel
theorem ic_memk (C : Nat) (hC : C < 24) (s : Nat) (hs : s < ic_ns C) (t : Nat) (ht : t < ic_nt C) : (C, s, t) ∈ ic_keys := by
  have h := List.all_eq_true.mp (List.all_eq_true.mp (List.all_eq_true.mp ic_memk0 C (List.mem_range.mpr hC)) s (List.mem_range.mpr hs)) t (List.mem_range.mpr ht)
  obtain ⟨k, hk, e⟩ := List.any_eq_true.mp h
  obtain ⟨k1, k2, k3⟩ := k
  simp only [Bool.and_eq_true, beq_iff_eq] at e
  obtain ⟨rfl, rfl, rfl⟩ := e
  exact hk
theorem ic_nd : ic_keys.Nodup := by decide +kernel
def ic_own (b i : Nat) : ic_K := match b with
  | 0 => if i < 7 then (1, 0, 0) else if i < 63 then (3, 0, (i - 7) % 8) else (4, 0, 0)
  | 1 => if i < 7 then (1, 1, 0) else if i < 63 then (3, 1, (i - 7) % 8) else (4, 1, 0)
  | 2 => if i < 7 then (1, 2, 0) else if i < 63 then (3, 2, (i - 7) % 8) else (4, 2, 0)
  | 3 => (17, 0, 0)
  | 4 => (17, 1, 0)
  | 5 => (17, 2, 0)
  | 6 => (17, 3, 0)
  | 15 => (13, 0, 0)
  | 16 => (13, 1, 0)
  | 17 => (13, 2, 0)
  | 18 => (13, 3, 0)
  | 19 => (14, 0, 0)
  | 20 => (14, 1, 0)
  | 21 => (14, 2, 0)
  | 22 => (14, 3, 0)
  | 7 => (0, 0, 0)
  | 8 => (5, 0, 0)
  | 9 => (6, 0, 0)
  | 10 => (7, 0, 0)
  | 11 => (8, 0, 0)
  | 12 => (9, 0, 0)
  | 13 => (10, 0, 0)
  | 14 => (11, 0, 0)
  | 23 => (15, 0, 0)
  | 24 => (16, 0, 0)
  | 25 => (18, 0, 0)
  | 26 => (19, 0, 0)
  | 27 => (20, 0, 0)
  | 28 => (21, 0, 0)
  | 29 => (22, 0, 0)
  | 30 => (23, 0, 0)
  | _ => (99, 0, 0)
def ic_up (g : ic_S) (b i : Nat) (v : Int32) : ic_S := (fun b' i' => if b' = b ∧ i' = i then v else g.1 b' i', g.2)
def ic_upl (g : ic_S) (v : Int64) : ic_S := (g.1, v)
theorem ic_no {g : ic_S} {b i : Nat} {v : Int32} {b' i' : Nat} {y : ic_K} (h : ic_own b i ≠ y) (h' : ic_own b' i' = y) : (ic_up g b i v).1 b' i' = g.1 b' i' := by
  show (if b' = b ∧ i' = i then v else g.1 b' i') = g.1 b' i'
  rw [if_neg]
  rintro ⟨rfl, rfl⟩
  exact h h'
theorem ic_oth_l (κ : ic_X) (g : ic_S) (v : Int64) : ∀ y ∈ ic_keys, y ≠ (16, 0, 0) → ic_cel κ (ic_upl g v) y = ic_cel κ g y := by
  intro y hy hne
  have hb := ic_bnd y hy
  obtain ⟨C, s, t⟩ := y
  match C, hb, hne with
  | 0, hb, hne => rfl
  | 1, hb, hne => rfl
  | 2, hb, hne => rfl
  | 3, hb, hne => rfl
  | 4, hb, hne => rfl
  | 5, hb, hne => rfl
  | 6, hb, hne => rfl
  | 7, hb, hne => rfl
  | 8, hb, hne => rfl
  | 9, hb, hne => rfl
  | 10, hb, hne => rfl
  | 11, hb, hne => rfl
  | 12, hb, hne => rfl
  | 13, hb, hne => rfl
  | 14, hb, hne => rfl
  | 15, hb, hne => rfl
  | 16, hb, hne =>
    exfalso
    apply hne
    have h1 : s < 1 := hb.2.1
    have h2 : t < 1 := hb.2.2
    have e1 : s = 0 := by omega
    have e2 : t = 0 := by omega
    rw [e1, e2]
  | 17, hb, hne => rfl
  | 18, hb, hne => rfl
  | 19, hb, hne => rfl
  | 20, hb, hne => rfl
  | 21, hb, hne => rfl
  | 22, hb, hne => rfl
  | 23, hb, hne => rfl
  | n + 24, hb, hne => exact absurd hb.1 (by show ¬ (n + 24 < 24); omega)
theorem ic_oth (κ : ic_X) (g : ic_S) (b i : Nat) (v : Int32) : ∀ y ∈ ic_keys, ic_own b i ≠ y → ic_cel κ (ic_up g b i v) y = ic_cel κ g y := by
  intro y hy hne
  have hb := ic_bnd y hy
  obtain ⟨C, s, t⟩ := y
  match C, hb, hne with
  | 0, hb, hne =>
    have h1 : s < 1 := hb.2.1
    have h2 : t < 1 := hb.2.2
    have e2 : t = 0 := by omega
    subst e2
    have e1 : s = 0 := by omega
    subst e1
    have h_hasKept : (ic_up g b i v).1 7 0 = g.1 7 0 := by
      refine ic_no hne ?_
      rfl
    simp only [ic_cel, h_hasKept]
  | 1, hb, hne =>
    have h1 : s < 3 := hb.2.1
    have h2 : t < 1 := hb.2.2
    have e2 : t = 0 := by omega
    subst e2
    have h_cell : (ic_up g b i v).1 s 3 = g.1 s 3 := by
      refine ic_no hne ?_
      rcases (show s = 0 ∨ s = 1 ∨ s = 2 by omega) with rfl | rfl | rfl <;> rfl
    have h_way : (ic_up g b i v).1 s 4 = g.1 s 4 := by
      refine ic_no hne ?_
      rcases (show s = 0 ∨ s = 1 ∨ s = 2 by omega) with rfl | rfl | rfl <;> rfl
    have h_pace : (ic_up g b i v).1 s 5 = g.1 s 5 := by
      refine ic_no hne ?_
      rcases (show s = 0 ∨ s = 1 ∨ s = 2 by omega) with rfl | rfl | rfl <;> rfl
    have h_loud : (ic_up g b i v).1 s 6 = g.1 s 6 := by
      refine ic_no hne ?_
      rcases (show s = 0 ∨ s = 1 ∨ s = 2 by omega) with rfl | rfl | rfl <;> rfl
    have h_callNumber : (ic_up g b i v).1 s 1 = g.1 s 1 := by
      refine ic_no hne ?_
      rcases (show s = 0 ∨ s = 1 ∨ s = 2 by omega) with rfl | rfl | rfl <;> rfl
    have h_z : (ic_up g b i v).1 s 2 = g.1 s 2 := by
      refine ic_no hne ?_
      rcases (show s = 0 ∨ s = 1 ∨ s = 2 by omega) with rfl | rfl | rfl <;> rfl
    have h_made : (ic_up g b i v).1 s 0 = g.1 s 0 := by
      refine ic_no hne ?_
      rcases (show s = 0 ∨ s = 1 ∨ s = 2 by omega) with rfl | rfl | rfl <;> rfl
    simp only [ic_cel, h_cell, h_way, h_pace, h_loud, h_callNumber, h_z, h_made]
  | 2, hb, hne =>
    rfl
  | 3, hb, hne =>
    have h1 : s < 3 := hb.2.1
    have h2 : t < 8 := hb.2.2
    have h_kind : (ic_up g b i v).1 s (7 + t) = g.1 s (7 + t) := by
      refine ic_no hne ?_
      rcases (show s = 0 ∨ s = 1 ∨ s = 2 by omega) with rfl | rfl | rfl
      all_goals (show (if (7 + t) < 7 then _ else if (7 + t) < 63 then _ else _) = _; rw [if_neg (by omega), if_pos (by omega), show ((7 + t) - 7) % 8 = t by omega])
    have h_cell : (ic_up g b i v).1 s (15 + t) = g.1 s (15 + t) := by
      refine ic_no hne ?_
      rcases (show s = 0 ∨ s = 1 ∨ s = 2 by omega) with rfl | rfl | rfl
      all_goals (show (if (15 + t) < 7 then _ else if (15 + t) < 63 then _ else _) = _; rw [if_neg (by omega), if_pos (by omega), show ((15 + t) - 7) % 8 = t by omega])
    have h_heavy : (ic_up g b i v).1 s (23 + t) = g.1 s (23 + t) := by
      refine ic_no hne ?_
      rcases (show s = 0 ∨ s = 1 ∨ s = 2 by omega) with rfl | rfl | rfl
      all_goals (show (if (23 + t) < 7 then _ else if (23 + t) < 63 then _ else _) = _; rw [if_neg (by omega), if_pos (by omega), show ((23 + t) - 7) % 8 = t by omega])
    have h_pulled : (ic_up g b i v).1 s (31 + t) = g.1 s (31 + t) := by
      refine ic_no hne ?_
      rcases (show s = 0 ∨ s = 1 ∨ s = 2 by omega) with rfl | rfl | rfl
      all_goals (show (if (31 + t) < 7 then _ else if (31 + t) < 63 then _ else _) = _; rw [if_neg (by omega), if_pos (by omega), show ((31 + t) - 7) % 8 = t by omega])
    have h_moved : (ic_up g b i v).1 s (55 + t) = g.1 s (55 + t) := by
      refine ic_no hne ?_
      rcases (show s = 0 ∨ s = 1 ∨ s = 2 by omega) with rfl | rfl | rfl
      all_goals (show (if (55 + t) < 7 then _ else if (55 + t) < 63 then _ else _) = _; rw [if_neg (by omega), if_pos (by omega), show ((55 + t) - 7) % 8 = t by omega])
    have h_isHeld : (ic_up g b i v).1 s (39 + t) = g.1 s (39 + t) := by
      refine ic_no hne ?_
      rcases (show s = 0 ∨ s = 1 ∨ s = 2 by omega) with rfl | rfl | rfl
      all_goals (show (if (39 + t) < 7 then _ else if (39 + t) < 63 then _ else _) = _; rw [if_neg (by omega), if_pos (by omega), show ((39 + t) - 7) % 8 = t by omega])
    have h_isTaken : (ic_up g b i v).1 s (47 + t) = g.1 s (47 + t) := by
      refine ic_no hne ?_
      rcases (show s = 0 ∨ s = 1 ∨ s = 2 by omega) with rfl | rfl | rfl
      all_goals (show (if (47 + t) < 7 then _ else if (47 + t) < 63 then _ else _) = _; rw [if_neg (by omega), if_pos (by omega), show ((47 + t) - 7) % 8 = t by omega])
    simp only [ic_cel, h_kind, h_cell, h_heavy, h_pulled, h_moved, h_isHeld, h_isTaken]
  | 4, hb, hne =>
    have h1 : s < 3 := hb.2.1
    have h2 : t < 1 := hb.2.2
    have e2 : t = 0 := by omega
    subst e2
    have h : ∀ j, (ic_up g b i v).1 s (63 + j) = g.1 s (63 + j) := by
      intro j
      refine ic_no hne ?_
      rcases (show s = 0 ∨ s = 1 ∨ s = 2 by omega) with rfl | rfl | rfl
      all_goals (show (if 63 + j < 7 then _ else if 63 + j < 63 then _ else _) = _; rw [if_neg (by omega), if_neg (by omega)])
    simp only [ic_cel, h]
  | 5, hb, hne =>
    have h1 : s < 1 := hb.2.1
    have h2 : t < 1 := hb.2.2
    have e2 : t = 0 := by omega
    subst e2
    have e1 : s = 0 := by omega
    subst e1
    have h_size : (ic_up g b i v).1 8 0 = g.1 8 0 := by
      refine ic_no hne ?_
      rfl
    simp only [ic_cel, h_size]
  | 6, hb, hne =>
    have h1 : s < 1 := hb.2.1
    have h2 : t < 1 := hb.2.2
    have e2 : t = 0 := by omega
    subst e2
    have e1 : s = 0 := by omega
    subst e1
    have h : ∀ j, (ic_up g b i v).1 9 (0 + j) = g.1 9 (0 + j) := by
      intro j
      refine ic_no hne ?_
      rfl
    simp only [ic_cel, h]
  | 7, hb, hne =>
    have h1 : s < 1 := hb.2.1
    have h2 : t < 1 := hb.2.2
    have e2 : t = 0 := by omega
    subst e2
    have e1 : s = 0 := by omega
    subst e1
    have h_size : (ic_up g b i v).1 10 0 = g.1 10 0 := by
      refine ic_no hne ?_
      rfl
    simp only [ic_cel, h_size]
  | 8, hb, hne =>
    have h1 : s < 1 := hb.2.1
    have h2 : t < 1 := hb.2.2
    have e2 : t = 0 := by omega
    subst e2
    have e1 : s = 0 := by omega
    subst e1
    have h : ∀ j, (ic_up g b i v).1 11 (0 + j) = g.1 11 (0 + j) := by
      intro j
      refine ic_no hne ?_
      rfl
    simp only [ic_cel, h]
  | 9, hb, hne =>
    have h1 : s < 1 := hb.2.1
    have h2 : t < 1 := hb.2.2
    have e2 : t = 0 := by omega
    subst e2
    have e1 : s = 0 := by omega
    subst e1
    have h : ∀ j, (ic_up g b i v).1 12 (0 + j) = g.1 12 (0 + j) := by
      intro j
      refine ic_no hne ?_
      rfl
    simp only [ic_cel, h]
  | 10, hb, hne =>
    have h1 : s < 1 := hb.2.1
    have h2 : t < 1 := hb.2.2
    have e2 : t = 0 := by omega
    subst e2
    have e1 : s = 0 := by omega
    subst e1
    have h : ∀ j, (ic_up g b i v).1 13 (0 + j) = g.1 13 (0 + j) := by
      intro j
      refine ic_no hne ?_
      rfl
    simp only [ic_cel, h]
  | 11, hb, hne =>
    have h1 : s < 1 := hb.2.1
    have h2 : t < 1 := hb.2.2
    have e2 : t = 0 := by omega
    subst e2
    have e1 : s = 0 := by omega
    subst e1
    have h_next : (ic_up g b i v).1 14 0 = g.1 14 0 := by
      refine ic_no hne ?_
      rfl
    have h_isFaulty : (ic_up g b i v).1 14 1 = g.1 14 1 := by
      refine ic_no hne ?_
      rfl
    simp only [ic_cel, h_next, h_isFaulty]
  | 12, hb, hne =>
    rfl
  | 13, hb, hne =>
    have h1 : s < 4 := hb.2.1
    have h2 : t < 1 := hb.2.2
    have e2 : t = 0 := by omega
    subst e2
    have h_bits : (ic_up g b i v).1 (15 + s) 0 = g.1 (15 + s) 0 := by
      refine ic_no hne ?_
      rcases (show s = 0 ∨ s = 1 ∨ s = 2 ∨ s = 3 by omega) with rfl | rfl | rfl | rfl <;> rfl
    have h_size : (ic_up g b i v).1 (15 + s) 1 = g.1 (15 + s) 1 := by
      refine ic_no hne ?_
      rcases (show s = 0 ∨ s = 1 ∨ s = 2 ∨ s = 3 by omega) with rfl | rfl | rfl | rfl <;> rfl
    simp only [ic_cel, h_bits, h_size]
  | 14, hb, hne =>
    have h1 : s < 4 := hb.2.1
    have h2 : t < 1 := hb.2.2
    have e2 : t = 0 := by omega
    subst e2
    have h : ∀ j, (ic_up g b i v).1 (19 + s) (0 + j) = g.1 (19 + s) (0 + j) := by
      intro j
      refine ic_no hne ?_
      rcases (show s = 0 ∨ s = 1 ∨ s = 2 ∨ s = 3 by omega) with rfl | rfl | rfl | rfl <;> rfl
    simp only [ic_cel, h]
  | 15, hb, hne =>
    have h1 : s < 1 := hb.2.1
    have h2 : t < 1 := hb.2.2
    have e2 : t = 0 := by omega
    subst e2
    have e1 : s = 0 := by omega
    subst e1
    have h : ∀ j, (ic_up g b i v).1 23 (0 + j) = g.1 23 (0 + j) := by
      intro j
      refine ic_no hne ?_
      rfl
    simp only [ic_cel, h]
  | 16, hb, hne =>
    have h1 : s < 1 := hb.2.1
    have h2 : t < 1 := hb.2.2
    have e2 : t = 0 := by omega
    subst e2
    have e1 : s = 0 := by omega
    subst e1
    have h_isKept : (ic_up g b i v).1 24 0 = g.1 24 0 := by
      refine ic_no hne ?_
      rfl
    have h_taped : (ic_up g b i v).1 24 1 = g.1 24 1 := by
      refine ic_no hne ?_
      rfl
    have h_at : (ic_up g b i v).1 24 2 = g.1 24 2 := by
      refine ic_no hne ?_
      rfl
    have h_sort : (ic_up g b i v).1 24 3 = g.1 24 3 := by
      refine ic_no hne ?_
      rfl
    have h_from : (ic_up g b i v).1 24 4 = g.1 24 4 := by
      refine ic_no hne ?_
      rfl
    have h_fault : (ic_up g b i v).1 24 5 = g.1 24 5 := by
      refine ic_no hne ?_
      rfl
    have hv : (ic_up g b i v).2 = g.2 := rfl
    simp only [ic_cel, h_isKept, h_taped, h_at, h_sort, h_from, h_fault]
    rfl
  | 17, hb, hne =>
    have h1 : s < 4 := hb.2.1
    have h2 : t < 1 := hb.2.2
    have e2 : t = 0 := by omega
    subst e2
    have h : ∀ j, (ic_up g b i v).1 (3 + s) (0 + j) = g.1 (3 + s) (0 + j) := by
      intro j
      refine ic_no hne ?_
      rcases (show s = 0 ∨ s = 1 ∨ s = 2 ∨ s = 3 by omega) with rfl | rfl | rfl | rfl <;> rfl
    simp only [ic_cel, h]
  | 18, hb, hne =>
    have h1 : s < 1 := hb.2.1
    have h2 : t < 1 := hb.2.2
    have e2 : t = 0 := by omega
    subst e2
    have e1 : s = 0 := by omega
    subst e1
    have h : ∀ j, (ic_up g b i v).1 25 (0 + j) = g.1 25 (0 + j) := by
      intro j
      refine ic_no hne ?_
      rfl
    simp only [ic_cel, h]
  | 19, hb, hne =>
    have h1 : s < 1 := hb.2.1
    have h2 : t < 1 := hb.2.2
    have e2 : t = 0 := by omega
    subst e2
    have e1 : s = 0 := by omega
    subst e1
    have h : ∀ j, (ic_up g b i v).1 26 (0 + j) = g.1 26 (0 + j) := by
      intro j
      refine ic_no hne ?_
      rfl
    simp only [ic_cel, h]
  | 20, hb, hne =>
    have h1 : s < 1 := hb.2.1
    have h2 : t < 1 := hb.2.2
    have e2 : t = 0 := by omega
    subst e2
    have e1 : s = 0 := by omega
    subst e1
    have h : ∀ j, (ic_up g b i v).1 27 (0 + j) = g.1 27 (0 + j) := by
      intro j
      refine ic_no hne ?_
      rfl
    simp only [ic_cel, h]
  | 21, hb, hne =>
    have h1 : s < 1 := hb.2.1
    have h2 : t < 1 := hb.2.2
    have e2 : t = 0 := by omega
    subst e2
    have e1 : s = 0 := by omega
    subst e1
    have h : ∀ j, (ic_up g b i v).1 28 (0 + j) = g.1 28 (0 + j) := by
      intro j
      refine ic_no hne ?_
      rfl
    simp only [ic_cel, h]
  | 22, hb, hne =>
    have h1 : s < 1 := hb.2.1
    have h2 : t < 1 := hb.2.2
    have e2 : t = 0 := by omega
    subst e2
    have e1 : s = 0 := by omega
    subst e1
    have h : ∀ j, (ic_up g b i v).1 29 (0 + j) = g.1 29 (0 + j) := by
      intro j
      refine ic_no hne ?_
      rfl
    simp only [ic_cel, h]
  | 23, hb, hne =>
    have h1 : s < 1 := hb.2.1
    have h2 : t < 1 := hb.2.2
    have e2 : t = 0 := by omega
    subst e2
    have e1 : s = 0 := by omega
    subst e1
    have h : ∀ j, (ic_up g b i v).1 30 (0 + j) = g.1 30 (0 + j) := by
      intro j
      refine ic_no hne ?_
      rfl
    simp only [ic_cel, h]
  | n + 24, hb, hne => exact absurd hb.1 (by show ¬ (n + 24 < 24); omega)
