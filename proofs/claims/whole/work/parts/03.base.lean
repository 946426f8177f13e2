/-! THE FIXED WORLD: after the constructors no cell is made; every cell has a key, its contents are read off a store. A judgement ic_Ev: from a place of a method, with abstract locals, stack and store, the machine comes to a return with an answer and a store. -/
def ic_rv (κ : ic_X) (k : ic_K) : Value := if k.1 = 26 then va_rf κ.2.2.2 else .ref (κ.1 k.1 k.2.1 k.2.2)
def ic_cv (κ : ic_X) : ic_V → Value
  | .inl x => .int x
  | .inr (.inl x) => .long x
  | .inr (.inr none) => .null
  | .inr (.inr (some k)) => ic_rv κ k
def ic_cat : ic_V → Nat
  | .inr (.inl _) => 2
  | _ => 1
theorem ic_cvcat (κ : ic_X) (v : ic_V) : (ic_cv κ v).category = ic_cat v := by
  rcases v with x | x | _ | k
  · rfl
  · rfl
  · rfl
  · show (ic_rv κ k).category = 1
    unfold ic_rv
    split
    · cases κ.2.2.2 <;> rfl
    · rfl
theorem ic_cvnr (κ : ic_X) (o : Option ic_K) : ic_cv κ (.inr (.inr o)) = .null ∨ ∃ q, ic_cv κ (.inr (.inr o)) = .ref q := by
  rcases o with _ | k
  · exact Or.inl rfl
  · show ic_rv κ k = _ ∨ ∃ q, ic_rv κ k = _
    unfold ic_rv
    split
    · cases κ.2.2.2 with
      | none => exact Or.inl rfl
      | some q => exact Or.inr ⟨q, rfl⟩
    · exact Or.inr ⟨_, rfl⟩
abbrev ic_ad (κ : ic_X) (x : ic_K) : Nat := κ.1 x.1 x.2.1 x.2.2
theorem ic_cvk {κ : ic_X} {x : ic_K} (h : x.1 ≠ 26) : ic_cv κ (.inr (.inr (some x))) = .ref (ic_ad κ x) := by
  show ic_rv κ x = _
  unfold ic_rv
  rw [if_neg h]
theorem ic_k26 {x : ic_K} (h : x ∈ ic_keys) : x.1 ≠ 26 := fun e => by
  have := (ic_bnd x h).1
  omega
def ic_lv (κ : ic_X) (l : ic_L) : List (Nat × Value) := l.map fun q => (q.1, ic_cv κ q.2)
def ic_sv (κ : ic_X) (st : List ic_V) : List Value := st.map (ic_cv κ)
def ic_ws (κ : ic_X) (g : ic_S) : va_W := ic_keys.map fun x => (ic_ad κ x, ic_cel κ g x)
def ic_tys (κ : ic_X) : List (ClassId × FieldType) := [(κ.2.2.1 0, .int), (κ.2.2.1 1, .byte), (κ.2.2.1 2, .object "IronCall$Thing"), (κ.2.2.1 3, .object "IronCall$Sheet")]
/-- the words of nameOf: their entries in the file, their texts; their bytes -/
def ic_str : List (Nat × String) := [(73, "thing"), (75, "iron"), (77, "gold"), (79, "sword"), (81, "bed"), (83, "needle"), (85, "crown"), (87, "at"), (89, "heavy"), (91, "pulled"), (93, "held"), (95, "cart"), (97, "back"), (99, "pace"), (101, "loud"), (103, "")]
def ic_slen : List Nat := [5, 4, 4, 5, 3, 6, 5, 2, 5, 6, 4, 4, 4, 4, 4, 0]
def ic_sbyt : List (List Int32) := [[116, 104, 105, 110, 103], [105, 114, 111, 110], [103, 111, 108, 100], [115, 119, 111, 114, 100], [98, 101, 100], [110, 101, 101, 100, 108, 101], [99, 114, 111, 119, 110], [97, 116], [104, 101, 97, 118, 121], [112, 117, 108, 108, 101, 100], [104, 101, 108, 100], [99, 97, 114, 116], [98, 97, 99, 107], [112, 97, 99, 101], [108, 111, 117, 100], []]
/-- calls of a nest mate's private methods -/
def ic_nst : List (String × Nat × MethodName × String) := [("IronCall$Reader", 42, ⟨"IronCall", "isKind", "(I)Z"⟩, "IronCall"), ("IronCall$Reader", 76, ⟨"IronCall", "leastOf", "(I)I"⟩, "IronCall"), ("IronCall$Reader", 79, ⟨"IronCall", "mostOf", "(I)I"⟩, "IronCall")]
/-- what stands still: the classes, the String constants, two statics -/
def ic_F (κ : ic_X) (A : Nat → Prop) (s : State) : Prop :=
  va_K κ.2.1 ic_cls (ic_tys κ) s ∧ vk_S 16 ic_slen ic_sbyt (fun i => κ.1 24 i 0) (fun i => κ.1 25 i 0) A s s.heap ∧ (∀ (i : Nat) (q : Nat × String), ic_str[i]? = some q → vk_R "IronCall$Tokens" q.1 q.2 (κ.1 24 i 0) s) ∧
  va_Z "java/lang/String" "COMPACT_STRINGS" "Z" (.int 1) A s s.heap ∧ va_Z "jdk/internal/util/Preconditions" "SIOOBE_FORMATTER" "Ljava/util/function/BiFunction;" (va_rf κ.2.2.2) A s s.heap ∧ (∀ q ∈ ic_nst, va_Nw (.methodLinkNest q.1 q.2.1 q.2.2.1 q.2.2.2) s)
/-- the script: its ints stand in bank 40, its length in bank 41 -/
def ic_G (κ : ic_X) (A : Nat → Prop) (g : ic_S) (s : State) : Prop :=
  ∃ (L : Nat) (xs : Nat → Int32), va_X (κ.1 27 0 0) L xs s s.heap ∧ (∀ j, j < L → xs j = g.1 40 j) ∧ Int32.ofNat L = g.1 41 0 ∧ κ.1 27 0 0 < s.heap.size ∧ ¬ A (κ.1 27 0 0)
/-- the moving part -/
def ic_W (κ : ic_X) (A : Nat → Prop) (g : ic_S) (s : State) (H : Heap) (locs : List Loc) : Prop :=
  va_P κ.2.1 ic_cls (ic_ws κ g) H ∧ va_D A (ic_ws κ g) ∧ va_S A s.heap H locs ∧ ic_G κ A g s
def ic_at (M : ic_M) (a b : Nat) : Option (Nat × Instr × Nat × Nat) := (M.2.2.2.2.2.2.getD a [])[b]?
def ic_okd (M : ic_M) : Bool := M.2.2.2.2.2.2.all fun l => l.all fun e => decide (decode M.2.1 e.1 = .ok (e.2.1, e.2.2.1)) && decide (e.2.2.2 = e.1 + e.2.2.1)
theorem ic_okd_at {M : ic_M} (h : ic_okd M = true) {a b : Nat} {e : Nat × Instr × Nat × Nat} (he : ic_at M a b = some e) : decode M.2.1 e.1 = .ok (e.2.1, e.2.2.1) ∧ e.2.2.2 = e.1 + e.2.2.1 := by
  unfold ic_at at he
  have hm : e ∈ M.2.2.2.2.2.2.getD a [] := List.mem_of_getElem? he
  have hl : M.2.2.2.2.2.2.getD a [] ∈ M.2.2.2.2.2.2 := by
    rw [List.getD_eq_getElem?_getD] at hm ⊢
    cases hx : M.2.2.2.2.2.2[a]? with
    | none => rw [hx] at hm; exact absurd hm List.not_mem_nil
    | some l => exact List.mem_of_getElem? hx
  have h1 := List.all_eq_true.mp (List.all_eq_true.mp h _ hl) e hm
  simp only [Bool.and_eq_true, decide_eq_true_eq] at h1
  exact h1
/-- the base of a walk -/
def ic_B (κ : ic_X) (A : Nat → Prop) (M : ic_M) (p : Program) (R : Room) (s : State) (m : MethodId) (args : Array Value) (c : Code) : Prop :=
  p.tables.exec = Jvm.exec ∧ c.code = M.2.1 ∧ c.maxLocals = M.2.2.1 ∧ s.vm.findClass M.1.cls = some m.cls ∧ (∀ w ∈ lw_gd, w.before args s = true) ∧ M.2.2.2.2.1 ≤ R.frames ∧ M.2.2.2.2.2.1 ≤ R.locals ∧ ic_F κ A s ∧ (∀ x ∈ ic_keys, A (ic_ad κ x)) ∧ ic_okd M = true
def ic_Rt (M : ic_M) (pc : Nat) (r : Option ic_V) : Prop := match r with
  | none => decode M.2.1 pc = .ok (.return_, 1) ∧ M.2.2.2.1 = none
  | some (.inl v) => decode M.2.1 pc = .ok (.ireturn, 1) ∧ ∃ ty, M.2.2.2.1 = some ty ∧ narrow ty (.int v) = .int v
  | some (.inr (.inl _)) => decode M.2.1 pc = .ok (.lreturn, 1) ∧ M.2.2.2.1 = some .long
  | some (.inr (.inr _)) => decode M.2.1 pc = .ok (.areturn, 1) ∧ ∃ rt, M.2.2.2.1 = some rt ∧ ((∃ n, rt = .object n) ∨ ∃ t, rt = .array t)
def ic_Ev (M : ic_M) (pc : Nat) (lv : ic_L) (st : List ic_V) (g : ic_S) (r : Option ic_V) (g' : ic_S) : Prop :=
  ∀ (κ : ic_X) (A : Nat → Prop) (p : Program) (l : Launch) (e : Env) (R : Room) (s : State) (m : MethodId) (args : Array Value) (below : List Frame) (meth : Method) (c : Code) (cells slots : Nat) (Q : State → Prop),
    ic_B κ A M p R s m args c → (cells ≤ R.cells ∧ slots ≤ R.slots) →
    (∀ (H : Heap) (locs : List Loc) (pc1 : Nat) (ls : Array Slot), ic_Rt M pc1 r → ic_W κ A g' s H locs → W p l e R s m args below meth c H locs cells slots Q (F0 m pc1 ls (ic_sv κ r.toList))) →
    ∀ (H : Heap) (locs : List Loc) (ls : Array Slot), ic_W κ A g s H locs → lv_has ls M.2.2.1 (ic_lv κ lv) → W p l e R s m args below meth c H locs cells slots Q (F0 m pc ls (ic_sv κ st))
/-! locals -/
def ic_lk : ic_L → Nat → Option ic_V
  | [], _ => none
  | (j, v) :: l, i => bif j == i then some v else ic_lk l i
theorem ic_lk_mem : ∀ {l : ic_L} {i : Nat} {v : ic_V}, ic_lk l i = some v → (i, v) ∈ l
  | (j, u) :: l, i, v, h => by
    unfold ic_lk at h
    cases hj : j == i with
    | true =>
      rw [hj] at h
      have e : j = i := by simpa using hj
      cases h
      rw [e]
      exact List.mem_cons_self
    | false =>
      rw [hj] at h
      exact List.mem_cons_of_mem _ (ic_lk_mem h)
theorem ic_lkc {κ : ic_X} {ls : Array Slot} {n : Nat} {lv : ic_L} (hl : lv_has ls n (ic_lv κ lv)) {i : Nat} {v : ic_V} (h : ic_lk lv i = some v) : ls[i]? = some (.val (ic_cv κ v)) :=
  hl.2.2 (i, ic_cv κ v) (List.mem_map.mpr ⟨(i, v), ic_lk_mem h, rfl⟩)
/-- stays when v comes to i -/
def ic_kp (i : Nat) (w : Bool) (q : Nat × ic_V) : Bool := !(q.1 == i) && (!(w && q.1 == i + 1) && !(q.1 + 1 == i && ic_cat q.2 == 2))
/-- every listed local of the new list is the stored one, or stood before and stays -/
def ic_sto (lv : ic_L) (i : Nat) (v : ic_V) : ic_L → Prop
  | [] => True
  | q :: l => (q = (i, v) ∨ (ic_lk lv q.1 = some q.2 ∧ ic_kp i (ic_cat v == 2) q = true)) ∧ ic_sto lv i v l
theorem ic_sto_mem {lv : ic_L} {i : Nat} {v : ic_V} : ∀ {lv' : ic_L}, ic_sto lv i v lv' → ∀ q ∈ lv', q = (i, v) ∨ (q ∈ lv ∧ ic_kp i (ic_cat v == 2) q = true)
  | p :: l, h, q, hq => by
    rcases List.mem_cons.mp hq with rfl | hq
    · rcases h.1 with e | ⟨e, h2⟩
      · exact Or.inl e
      · exact Or.inr ⟨ic_lk_mem e, h2⟩
    · exact ic_sto_mem h.2 q hq
theorem ic_has_mono {ls : Array Slot} {n : Nat} {l l' : List (Nat × Value)} (h : lv_has ls n l) (hm : ∀ q ∈ l', q ∈ l) : lv_has ls n l' := ⟨h.1, h.2.1, fun q hq => h.2.2 q (hm q hq)⟩
theorem ic_sto1 {κ : ic_X} {lv lv' : ic_L} {i : Nat} {v : ic_V} (h : ic_sto lv i v lv') (hc : ic_cat v = 1) : ∀ q ∈ ic_lv κ lv', q ∈ (i, ic_cv κ v) :: (ic_lv κ lv).filter (fun q => !(q.1 == i) && !(q.1 + 1 == i && q.2.category == 2)) := by
  intro q hq
  obtain ⟨u, hu, rfl⟩ := List.mem_map.mp hq
  rcases ic_sto_mem h u hu with rfl | ⟨hm, hk⟩
  · exact List.mem_cons_self
  · refine List.mem_cons_of_mem _ (List.mem_filter.mpr ⟨List.mem_map.mpr ⟨u, hm, rfl⟩, ?_⟩)
    show (!(u.1 == i) && !(u.1 + 1 == i && (ic_cv κ u.2).category == 2)) = true
    rw [ic_cvcat]
    unfold ic_kp at hk
    simp only [Bool.and_eq_true] at hk ⊢
    exact ⟨hk.1, hk.2.2⟩
theorem ic_sto2 {κ : ic_X} {lv lv' : ic_L} {i : Nat} {v : ic_V} (h : ic_sto lv i v lv') (hc : ic_cat v = 2) : ∀ q ∈ ic_lv κ lv', q ∈ (i, ic_cv κ v) :: (ic_lv κ lv).filter (fun q => !(q.1 == i) && (!(q.1 == i + 1) && !(q.1 + 1 == i && q.2.category == 2))) := by
  intro q hq
  obtain ⟨u, hu, rfl⟩ := List.mem_map.mp hq
  rcases ic_sto_mem h u hu with rfl | ⟨hm, hk⟩
  · exact List.mem_cons_self
  · refine List.mem_cons_of_mem _ (List.mem_filter.mpr ⟨List.mem_map.mpr ⟨u, hm, rfl⟩, ?_⟩)
    show (!(u.1 == i) && (!(u.1 == i + 1) && !(u.1 + 1 == i && (ic_cv κ u.2).category == 2))) = true
    rw [ic_cvcat]
    unfold ic_kp at hk
    rw [hc] at hk
    simpa using hk
/-- fewer locals -/
def ic_fw (lv : ic_L) : ic_L → Prop
  | [] => True
  | q :: l => ic_lk lv q.1 = some q.2 ∧ ic_fw lv l
theorem ic_fw_mem {lv : ic_L} : ∀ {lv' : ic_L}, ic_fw lv lv' → ∀ q ∈ lv', q ∈ lv
  | p :: l, h, q, hq => by
    rcases List.mem_cons.mp hq with rfl | hq
    · exact ic_lk_mem h.1
    · exact ic_fw_mem h.2 q hq
section IC
variable {M : ic_M} {pc nx : Nat} {lv lv' : ic_L} {st : List ic_V} {g g1 g' : ic_S} {r : Option ic_V} {a b : Nat}
theorem ev_fw (h : ic_Ev M pc lv' st g r g') (hf : ic_fw lv lv') : ic_Ev M pc lv st g r g' := by
  intro κ A p l e R s m args below meth c cells slots Q B hc K H locs ls hW hl
  refine h κ A p l e R s m args below meth c cells slots Q B hc K H locs ls hW (ic_has_mono hl fun q hq => ?_)
  obtain ⟨u, hu, rfl⟩ := List.mem_map.mp hq
  exact List.mem_map.mpr ⟨u, ic_fw_mem hf u hu, rfl⟩
theorem ev_iadd {x y : Int32} (hd : ic_at M a b = some (pc, .iadd, 1, nx)) (h : ic_Ev M nx lv (ic_I (x + y) :: st) g r g') : ic_Ev M pc lv (ic_I y :: ic_I x :: st) g r g' := by
  intro κ A p l e R s m args below meth c cells slots Q B hc K H locs ls hW hl
  obtain ⟨hx, hb, hml, hown, hts, hfr, hlo, hF, hA, hok⟩ := id B
  obtain ⟨hd1, hd2⟩ := ic_okd_at hok hd
  dsimp only at hd1 hd2
  subst hd2
  exact lv_iadd hx hb hd1 (h κ A p l e R s m args below meth c cells slots Q B hc K H locs ls hW hl)
theorem ev_isub {x y : Int32} (hd : ic_at M a b = some (pc, .isub, 1, nx)) (h : ic_Ev M nx lv (ic_I (x - y) :: st) g r g') : ic_Ev M pc lv (ic_I y :: ic_I x :: st) g r g' := by
  intro κ A p l e R s m args below meth c cells slots Q B hc K H locs ls hW hl
  obtain ⟨hx, hb, hml, hown, hts, hfr, hlo, hF, hA, hok⟩ := id B
  obtain ⟨hd1, hd2⟩ := ic_okd_at hok hd
  dsimp only at hd1 hd2
  subst hd2
  exact lv_isub hx hb hd1 (h κ A p l e R s m args below meth c cells slots Q B hc K H locs ls hW hl)
theorem ev_imul {x y : Int32} (hd : ic_at M a b = some (pc, .imul, 1, nx)) (h : ic_Ev M nx lv (ic_I (x * y) :: st) g r g') : ic_Ev M pc lv (ic_I y :: ic_I x :: st) g r g' := by
  intro κ A p l e R s m args below meth c cells slots Q B hc K H locs ls hW hl
  obtain ⟨hx, hb, hml, hown, hts, hfr, hlo, hF, hA, hok⟩ := id B
  obtain ⟨hd1, hd2⟩ := ic_okd_at hok hd
  dsimp only at hd1 hd2
  subst hd2
  exact lv_imul hx hb hd1 (h κ A p l e R s m args below meth c cells slots Q B hc K H locs ls hW hl)
theorem ev_iand {x y : Int32} (hd : ic_at M a b = some (pc, .iand, 1, nx)) (h : ic_Ev M nx lv (ic_I (x &&& y) :: st) g r g') : ic_Ev M pc lv (ic_I y :: ic_I x :: st) g r g' := by
  intro κ A p l e R s m args below meth c cells slots Q B hc K H locs ls hW hl
  obtain ⟨hx, hb, hml, hown, hts, hfr, hlo, hF, hA, hok⟩ := id B
  obtain ⟨hd1, hd2⟩ := ic_okd_at hok hd
  dsimp only at hd1 hd2
  subst hd2
  exact lv_iand hx hb hd1 (h κ A p l e R s m args below meth c cells slots Q B hc K H locs ls hW hl)
theorem ev_ior {x y : Int32} (hd : ic_at M a b = some (pc, .ior, 1, nx)) (h : ic_Ev M nx lv (ic_I (x ||| y) :: st) g r g') : ic_Ev M pc lv (ic_I y :: ic_I x :: st) g r g' := by
  intro κ A p l e R s m args below meth c cells slots Q B hc K H locs ls hW hl
  obtain ⟨hx, hb, hml, hown, hts, hfr, hlo, hF, hA, hok⟩ := id B
  obtain ⟨hd1, hd2⟩ := ic_okd_at hok hd
  dsimp only at hd1 hd2
  subst hd2
  exact lv_ior hx hb hd1 (h κ A p l e R s m args below meth c cells slots Q B hc K H locs ls hW hl)
theorem ev_ixor {x y : Int32} (hd : ic_at M a b = some (pc, .ixor, 1, nx)) (h : ic_Ev M nx lv (ic_I (x ^^^ y) :: st) g r g') : ic_Ev M pc lv (ic_I y :: ic_I x :: st) g r g' := by
  intro κ A p l e R s m args below meth c cells slots Q B hc K H locs ls hW hl
  obtain ⟨hx, hb, hml, hown, hts, hfr, hlo, hF, hA, hok⟩ := id B
  obtain ⟨hd1, hd2⟩ := ic_okd_at hok hd
  dsimp only at hd1 hd2
  subst hd2
  exact lv_ixor hx hb hd1 (h κ A p l e R s m args below meth c cells slots Q B hc K H locs ls hW hl)
theorem ev_ladd {x y : Int64} (hd : ic_at M a b = some (pc, .ladd, 1, nx)) (h : ic_Ev M nx lv (ic_J (x + y) :: st) g r g') : ic_Ev M pc lv (ic_J y :: ic_J x :: st) g r g' := by
  intro κ A p l e R s m args below meth c cells slots Q B hc K H locs ls hW hl
  obtain ⟨hx, hb, hml, hown, hts, hfr, hlo, hF, hA, hok⟩ := id B
  obtain ⟨hd1, hd2⟩ := ic_okd_at hok hd
  dsimp only at hd1 hd2
  subst hd2
  exact lv_ladd hx hb hd1 (h κ A p l e R s m args below meth c cells slots Q B hc K H locs ls hW hl)
theorem ev_lsub {x y : Int64} (hd : ic_at M a b = some (pc, .lsub, 1, nx)) (h : ic_Ev M nx lv (ic_J (x - y) :: st) g r g') : ic_Ev M pc lv (ic_J y :: ic_J x :: st) g r g' := by
  intro κ A p l e R s m args below meth c cells slots Q B hc K H locs ls hW hl
  obtain ⟨hx, hb, hml, hown, hts, hfr, hlo, hF, hA, hok⟩ := id B
  obtain ⟨hd1, hd2⟩ := ic_okd_at hok hd
  dsimp only at hd1 hd2
  subst hd2
  exact lv_lsub hx hb hd1 (h κ A p l e R s m args below meth c cells slots Q B hc K H locs ls hW hl)
theorem ev_lmul {x y : Int64} (hd : ic_at M a b = some (pc, .lmul, 1, nx)) (h : ic_Ev M nx lv (ic_J (x * y) :: st) g r g') : ic_Ev M pc lv (ic_J y :: ic_J x :: st) g r g' := by
  intro κ A p l e R s m args below meth c cells slots Q B hc K H locs ls hW hl
  obtain ⟨hx, hb, hml, hown, hts, hfr, hlo, hF, hA, hok⟩ := id B
  obtain ⟨hd1, hd2⟩ := ic_okd_at hok hd
  dsimp only at hd1 hd2
  subst hd2
  exact lv_lmul hx hb hd1 (h κ A p l e R s m args below meth c cells slots Q B hc K H locs ls hW hl)
theorem ev_lcmp {x y : Int64} (hd : ic_at M a b = some (pc, .lcmp, 1, nx)) (h : ic_Ev M nx lv (ic_I (lg_cmp x y) :: st) g r g') : ic_Ev M pc lv (ic_J y :: ic_J x :: st) g r g' := by
  intro κ A p l e R s m args below meth c cells slots Q B hc K H locs ls hW hl
  obtain ⟨hx, hb, hml, hown, hts, hfr, hlo, hF, hA, hok⟩ := id B
  obtain ⟨hd1, hd2⟩ := ic_okd_at hok hd
  dsimp only at hd1 hd2
  subst hd2
  exact W.lcmp hx hb hd1 (h κ A p l e R s m args below meth c cells slots Q B hc K H locs ls hW hl)
theorem ev_idiv {x y : Int32} (hd : ic_at M a b = some (pc, .idiv, 1, nx)) (hne : ¬ y = 0) (h : ic_Ev M nx lv (ic_I (x / y) :: st) g r g') : ic_Ev M pc lv (ic_I y :: ic_I x :: st) g r g' := by
  intro κ A p l e R s m args below meth c cells slots Q B hc K H locs ls hW hl
  obtain ⟨hx, hb, hml, hown, hts, hfr, hlo, hF, hA, hok⟩ := id B
  obtain ⟨hd1, hd2⟩ := ic_okd_at hok hd
  dsimp only at hd1 hd2
  subst hd2
  exact lv_idiv hx hb hd1 hne (h κ A p l e R s m args below meth c cells slots Q B hc K H locs ls hW hl)
theorem ev_irem {x y : Int32} (hd : ic_at M a b = some (pc, .irem, 1, nx)) (hne : ¬ y = 0) (h : ic_Ev M nx lv (ic_I (x - x / y * y) :: st) g r g') : ic_Ev M pc lv (ic_I y :: ic_I x :: st) g r g' := by
  intro κ A p l e R s m args below meth c cells slots Q B hc K H locs ls hW hl
  obtain ⟨hx, hb, hml, hown, hts, hfr, hlo, hF, hA, hok⟩ := id B
  obtain ⟨hd1, hd2⟩ := ic_okd_at hok hd
  dsimp only at hd1 hd2
  subst hd2
  exact lv_irem hx hb hd1 hne (h κ A p l e R s m args below meth c cells slots Q B hc K H locs ls hW hl)
theorem ev_ineg {x : Int32} (hd : ic_at M a b = some (pc, .ineg, 1, nx)) (h : ic_Ev M nx lv (ic_I (-x) :: st) g r g') : ic_Ev M pc lv (ic_I x :: st) g r g' := by
  intro κ A p l e R s m args below meth c cells slots Q B hc K H locs ls hW hl
  obtain ⟨hx, hb, hml, hown, hts, hfr, hlo, hF, hA, hok⟩ := id B
  obtain ⟨hd1, hd2⟩ := ic_okd_at hok hd
  dsimp only at hd1 hd2
  subst hd2
  exact lv_ineg hx hb hd1 (h κ A p l e R s m args below meth c cells slots Q B hc K H locs ls hW hl)
theorem ev_ishl {x y : Int32} (hd : ic_at M a b = some (pc, .ishl, 1, nx)) (h : ic_Ev M nx lv (ic_I (x <<< (y &&& 31)) :: st) g r g') : ic_Ev M pc lv (ic_I y :: ic_I x :: st) g r g' := by
  intro κ A p l e R s m args below meth c cells slots Q B hc K H locs ls hW hl
  obtain ⟨hx, hb, hml, hown, hts, hfr, hlo, hF, hA, hok⟩ := id B
  obtain ⟨hd1, hd2⟩ := ic_okd_at hok hd
  dsimp only at hd1 hd2
  subst hd2
  exact lv_ishl hx hb hd1 (h κ A p l e R s m args below meth c cells slots Q B hc K H locs ls hW hl)
theorem ev_ishr {x y : Int32} (hd : ic_at M a b = some (pc, .ishr, 1, nx)) (h : ic_Ev M nx lv (ic_I (x >>> (y &&& 31)) :: st) g r g') : ic_Ev M pc lv (ic_I y :: ic_I x :: st) g r g' := by
  intro κ A p l e R s m args below meth c cells slots Q B hc K H locs ls hW hl
  obtain ⟨hx, hb, hml, hown, hts, hfr, hlo, hF, hA, hok⟩ := id B
  obtain ⟨hd1, hd2⟩ := ic_okd_at hok hd
  dsimp only at hd1 hd2
  subst hd2
  exact lv_ishr hx hb hd1 (h κ A p l e R s m args below meth c cells slots Q B hc K H locs ls hW hl)
theorem ev_iushr {x y : Int32} (hd : ic_at M a b = some (pc, .iushr, 1, nx)) (h : ic_Ev M nx lv (ic_I (x.toUInt32 >>> (y.toUInt32 &&& Int32.toUInt32 31)).toInt32 :: st) g r g') : ic_Ev M pc lv (ic_I y :: ic_I x :: st) g r g' := by
  intro κ A p l e R s m args below meth c cells slots Q B hc K H locs ls hW hl
  obtain ⟨hx, hb, hml, hown, hts, hfr, hlo, hF, hA, hok⟩ := id B
  obtain ⟨hd1, hd2⟩ := ic_okd_at hok hd
  dsimp only at hd1 hd2
  subst hd2
  exact lv_iushr hx hb hd1 rfl (h κ A p l e R s m args below meth c cells slots Q B hc K H locs ls hW hl)
theorem ev_i2l {x : Int32} (hd : ic_at M a b = some (pc, .i2l, 1, nx)) (h : ic_Ev M nx lv (ic_J x.toInt64 :: st) g r g') : ic_Ev M pc lv (ic_I x :: st) g r g' := by
  intro κ A p l e R s m args below meth c cells slots Q B hc K H locs ls hW hl
  obtain ⟨hx, hb, hml, hown, hts, hfr, hlo, hF, hA, hok⟩ := id B
  obtain ⟨hd1, hd2⟩ := ic_okd_at hok hd
  dsimp only at hd1 hd2
  subst hd2
  exact lv_i2l hx hb hd1 rfl (h κ A p l e R s m args below meth c cells slots Q B hc K H locs ls hW hl)
theorem ev_l2i {x : Int64} (hd : ic_at M a b = some (pc, .l2i, 1, nx)) (h : ic_Ev M nx lv (ic_I x.toInt32 :: st) g r g') : ic_Ev M pc lv (ic_J x :: st) g r g' := by
  intro κ A p l e R s m args below meth c cells slots Q B hc K H locs ls hW hl
  obtain ⟨hx, hb, hml, hown, hts, hfr, hlo, hF, hA, hok⟩ := id B
  obtain ⟨hd1, hd2⟩ := ic_okd_at hok hd
  dsimp only at hd1 hd2
  subst hd2
  exact lv_l2i hx hb hd1 rfl (h κ A p l e R s m args below meth c cells slots Q B hc K H locs ls hW hl)
theorem ev_i2b {x : Int32} (hd : ic_at M a b = some (pc, .i2b, 1, nx)) (h : ic_Ev M nx lv (ic_I x.toInt8.toInt32 :: st) g r g') : ic_Ev M pc lv (ic_I x :: st) g r g' := by
  intro κ A p l e R s m args below meth c cells slots Q B hc K H locs ls hW hl
  obtain ⟨hx, hb, hml, hown, hts, hfr, hlo, hF, hA, hok⟩ := id B
  obtain ⟨hd1, hd2⟩ := ic_okd_at hok hd
  dsimp only at hd1 hd2
  subst hd2
  exact lv_i2b hx hb hd1 rfl (h κ A p l e R s m args below meth c cells slots Q B hc K H locs ls hW hl)
theorem ev_i2s {x : Int32} (hd : ic_at M a b = some (pc, .i2s, 1, nx)) (h : ic_Ev M nx lv (ic_I x.toInt16.toInt32 :: st) g r g') : ic_Ev M pc lv (ic_I x :: st) g r g' := by
  intro κ A p l e R s m args below meth c cells slots Q B hc K H locs ls hW hl
  obtain ⟨hx, hb, hml, hown, hts, hfr, hlo, hF, hA, hok⟩ := id B
  obtain ⟨hd1, hd2⟩ := ic_okd_at hok hd
  dsimp only at hd1 hd2
  subst hd2
  exact lv_i2s hx hb hd1 rfl (h κ A p l e R s m args below meth c cells slots Q B hc K H locs ls hW hl)
theorem ev_i2c {x : Int32} (hd : ic_at M a b = some (pc, .i2c, 1, nx)) (h : ic_Ev M nx lv (ic_I (x.toUInt32 % 65536).toInt32 :: st) g r g') : ic_Ev M pc lv (ic_I x :: st) g r g' := by
  intro κ A p l e R s m args below meth c cells slots Q B hc K H locs ls hW hl
  obtain ⟨hx, hb, hml, hown, hts, hfr, hlo, hF, hA, hok⟩ := id B
  obtain ⟨hd1, hd2⟩ := ic_okd_at hok hd
  dsimp only at hd1 hd2
  subst hd2
  exact lv_i2c hx hb hd1 rfl (h κ A p l e R s m args below meth c cells slots Q B hc K H locs ls hW hl)
theorem ev_iconst {n : Int} (v : Int32) (hd : ic_at M a b = some (pc, .iconst n, 1, nx)) (hv : Int32.ofInt n = v) (h : ic_Ev M nx lv (ic_I v :: st) g r g') : ic_Ev M pc lv (st) g r g' := by
  intro κ A p l e R s m args below meth c cells slots Q B hc K H locs ls hW hl
  obtain ⟨hx, hb, hml, hown, hts, hfr, hlo, hF, hA, hok⟩ := id B
  obtain ⟨hd1, hd2⟩ := ic_okd_at hok hd
  dsimp only at hd1 hd2
  subst hd2
  exact lv_iconst hx hb hd1 hv (h κ A p l e R s m args below meth c cells slots Q B hc K H locs ls hW hl)
theorem ev_bipush {n : Int} (v : Int32) (hd : ic_at M a b = some (pc, .bipush n, 2, nx)) (hv : (Int8.ofInt n).toInt32 = v) (h : ic_Ev M nx lv (ic_I v :: st) g r g') : ic_Ev M pc lv (st) g r g' := by
  intro κ A p l e R s m args below meth c cells slots Q B hc K H locs ls hW hl
  obtain ⟨hx, hb, hml, hown, hts, hfr, hlo, hF, hA, hok⟩ := id B
  obtain ⟨hd1, hd2⟩ := ic_okd_at hok hd
  dsimp only at hd1 hd2
  subst hd2
  exact lv_bipush hx hb hd1 hv (h κ A p l e R s m args below meth c cells slots Q B hc K H locs ls hW hl)
theorem ev_sipush {n : Int} (v : Int32) (hd : ic_at M a b = some (pc, .sipush n, 3, nx)) (hv : (Int16.ofInt n).toInt32 = v) (h : ic_Ev M nx lv (ic_I v :: st) g r g') : ic_Ev M pc lv (st) g r g' := by
  intro κ A p l e R s m args below meth c cells slots Q B hc K H locs ls hW hl
  obtain ⟨hx, hb, hml, hown, hts, hfr, hlo, hF, hA, hok⟩ := id B
  obtain ⟨hd1, hd2⟩ := ic_okd_at hok hd
  dsimp only at hd1 hd2
  subst hd2
  exact lv_sipush hx hb hd1 hv (h κ A p l e R s m args below meth c cells slots Q B hc K H locs ls hW hl)
theorem ev_lconst {n : Fin 2} (v : Int64) (hd : ic_at M a b = some (pc, .lconst n, 1, nx)) (hv : Int64.ofNat (n : Nat) = v) (h : ic_Ev M nx lv (ic_J v :: st) g r g') : ic_Ev M pc lv (st) g r g' := by
  intro κ A p l e R s m args below meth c cells slots Q B hc K H locs ls hW hl
  obtain ⟨hx, hb, hml, hown, hts, hfr, hlo, hF, hA, hok⟩ := id B
  obtain ⟨hd1, hd2⟩ := ic_okd_at hok hd
  dsimp only at hd1 hd2
  subst hd2
  exact lv_lconst hx hb hd1 hv (h κ A p l e R s m args below meth c cells slots Q B hc K H locs ls hW hl)
theorem ev_null  (hd : ic_at M a b = some (pc, .aconst_null, 1, nx)) (h : ic_Ev M nx lv (ic_N :: st) g r g') : ic_Ev M pc lv (st) g r g' := by
  intro κ A p l e R s m args below meth c cells slots Q B hc K H locs ls hW hl
  obtain ⟨hx, hb, hml, hown, hts, hfr, hlo, hF, hA, hok⟩ := id B
  obtain ⟨hd1, hd2⟩ := ic_okd_at hok hd
  dsimp only at hd1 hd2
  subst hd2
  exact lv_null hx hb hd1 (h κ A p l e R s m args below meth c cells slots Q B hc K H locs ls hW hl)
theorem ev_ldc {i : Nat} (v : Int32) (hd : ic_at M a b = some (pc, .ldc i, 2, nx)) (hc0 : Cond.constant M.1.cls i v ∈ lw_gd) (h : ic_Ev M nx lv (ic_I v :: st) g r g') : ic_Ev M pc lv (st) g r g' := by
  intro κ A p l e R s m args below meth c cells slots Q B hc K H locs ls hW hl
  obtain ⟨hx, hb, hml, hown, hts, hfr, hlo, hF, hA, hok⟩ := id B
  obtain ⟨hd1, hd2⟩ := ic_okd_at hok hd
  dsimp only at hd1 hd2
  subst hd2
  exact lv_ldc hx hb hown (hts _ hc0) hd1 (h κ A p l e R s m args below meth c cells slots Q B hc K H locs ls hW hl)
theorem ev_ldc2 {i : Nat} (v : Int64) (hd : ic_at M a b = some (pc, .ldc2_w i, 3, nx)) (hc0 : Cond.constantLong M.1.cls i v ∈ lw_gd) (h : ic_Ev M nx lv (ic_J v :: st) g r g') : ic_Ev M pc lv (st) g r g' := by
  intro κ A p l e R s m args below meth c cells slots Q B hc K H locs ls hW hl
  obtain ⟨hx, hb, hml, hown, hts, hfr, hlo, hF, hA, hok⟩ := id B
  obtain ⟨hd1, hd2⟩ := ic_okd_at hok hd
  dsimp only at hd1 hd2
  subst hd2
  exact lv_ldc2 hx hb hown (hts _ hc0) hd1 (h κ A p l e R s m args below meth c cells slots Q B hc K H locs ls hW hl)
theorem ev_iload {i : Nat} {x : Int32} (hd : ic_at M a b = some (pc, .iload i, 2, nx)) (hi : ic_lk lv i = some (ic_I x)) (h : ic_Ev M nx lv (ic_I x :: st) g r g') : ic_Ev M pc lv (st) g r g' := by
  intro κ A p l e R s m args below meth c cells slots Q B hc K H locs ls hW hl
  obtain ⟨hx, hb, hml, hown, hts, hfr, hlo, hF, hA, hok⟩ := id B
  obtain ⟨hd1, hd2⟩ := ic_okd_at hok hd
  dsimp only at hd1 hd2
  subst hd2
  exact lv_iload hx hb hd1 (ic_lkc hl hi) (h κ A p l e R s m args below meth c cells slots Q B hc K H locs ls hW hl)
theorem ev_iload_n {i : Fin 4} {x : Int32} (hd : ic_at M a b = some (pc, .iload_n i, 1, nx)) (hi : ic_lk lv (i : Nat) = some (ic_I x)) (h : ic_Ev M nx lv (ic_I x :: st) g r g') : ic_Ev M pc lv (st) g r g' := by
  intro κ A p l e R s m args below meth c cells slots Q B hc K H locs ls hW hl
  obtain ⟨hx, hb, hml, hown, hts, hfr, hlo, hF, hA, hok⟩ := id B
  obtain ⟨hd1, hd2⟩ := ic_okd_at hok hd
  dsimp only at hd1 hd2
  subst hd2
  exact lv_iload_n hx hb hd1 rfl (ic_lkc hl hi) (h κ A p l e R s m args below meth c cells slots Q B hc K H locs ls hW hl)
theorem ev_lload {i : Nat} {x : Int64} (hd : ic_at M a b = some (pc, .lload i, 2, nx)) (hi : ic_lk lv i = some (ic_J x)) (h : ic_Ev M nx lv (ic_J x :: st) g r g') : ic_Ev M pc lv (st) g r g' := by
  intro κ A p l e R s m args below meth c cells slots Q B hc K H locs ls hW hl
  obtain ⟨hx, hb, hml, hown, hts, hfr, hlo, hF, hA, hok⟩ := id B
  obtain ⟨hd1, hd2⟩ := ic_okd_at hok hd
  dsimp only at hd1 hd2
  subst hd2
  exact lv_lload hx hb hd1 (ic_lkc hl hi) (h κ A p l e R s m args below meth c cells slots Q B hc K H locs ls hW hl)
theorem ev_lload_n {i : Fin 4} {x : Int64} (hd : ic_at M a b = some (pc, .lload_n i, 1, nx)) (hi : ic_lk lv (i : Nat) = some (ic_J x)) (h : ic_Ev M nx lv (ic_J x :: st) g r g') : ic_Ev M pc lv (st) g r g' := by
  intro κ A p l e R s m args below meth c cells slots Q B hc K H locs ls hW hl
  obtain ⟨hx, hb, hml, hown, hts, hfr, hlo, hF, hA, hok⟩ := id B
  obtain ⟨hd1, hd2⟩ := ic_okd_at hok hd
  dsimp only at hd1 hd2
  subst hd2
  exact lv_lload_n hx hb hd1 rfl (ic_lkc hl hi) (h κ A p l e R s m args below meth c cells slots Q B hc K H locs ls hW hl)
theorem ev_aload {i : Nat} {o : Option ic_K} (hd : ic_at M a b = some (pc, .aload i, 2, nx)) (hi : ic_lk lv i = some (.inr (.inr o))) (h : ic_Ev M nx lv (.inr (.inr o) :: st) g r g') : ic_Ev M pc lv st g r g' := by
  intro κ A p l e R s m args below meth c cells slots Q B hc K H locs ls hW hl
  obtain ⟨hx, hb, hml, hown, hts, hfr, hlo, hF, hA, hok⟩ := id B
  obtain ⟨hd1, hd2⟩ := ic_okd_at hok hd
  dsimp only at hd1 hd2
  subst hd2
  have h2 := ic_lkc hl hi
  have h3 := h κ A p l e R s m args below meth c cells slots Q B hc K H locs ls hW hl
  have e3 : ic_sv κ ((.inr (.inr o) : ic_V) :: st) = ic_cv κ (.inr (.inr o)) :: ic_sv κ st := rfl
  rw [e3] at h3
  rcases ic_cvnr κ o with e | ⟨q, e⟩
  · rw [e] at h2 h3
    exact lv_aloadN hx hb hd1 h2 h3
  · rw [e] at h2 h3
    exact lv_aload hx hb hd1 h2 h3
theorem ev_aload_n {i : Fin 4} {o : Option ic_K} (hd : ic_at M a b = some (pc, .aload_n i, 1, nx)) (hi : ic_lk lv (i : Nat) = some (.inr (.inr o))) (h : ic_Ev M nx lv (.inr (.inr o) :: st) g r g') : ic_Ev M pc lv st g r g' := by
  intro κ A p l e R s m args below meth c cells slots Q B hc K H locs ls hW hl
  obtain ⟨hx, hb, hml, hown, hts, hfr, hlo, hF, hA, hok⟩ := id B
  obtain ⟨hd1, hd2⟩ := ic_okd_at hok hd
  dsimp only at hd1 hd2
  subst hd2
  have h2 := ic_lkc hl hi
  have h3 := h κ A p l e R s m args below meth c cells slots Q B hc K H locs ls hW hl
  have e3 : ic_sv κ ((.inr (.inr o) : ic_V) :: st) = ic_cv κ (.inr (.inr o)) :: ic_sv κ st := rfl
  rw [e3] at h3
  rcases ic_cvnr κ o with e | ⟨q, e⟩
  · rw [e] at h2 h3
    exact lv_aload_nN hx hb hd1 rfl h2 h3
  · rw [e] at h2 h3
    exact lv_aload_n hx hb hd1 rfl h2 h3
theorem ev_istore {i : Nat} {x : Int32} (lv' : ic_L) (hd : ic_at M a b = some (pc, .istore i, 2, nx)) (hi : i < M.2.2.1) (hs : ic_sto lv i (ic_I x) lv') (h : ic_Ev M nx lv' st g r g') : ic_Ev M pc lv (ic_I x :: st) g r g' := by
  intro κ A p l e R s m args below meth c cells slots Q B hc K H locs ls hW hl
  obtain ⟨hx, hb, hml, hown, hts, hfr, hlo, hF, hA, hok⟩ := id B
  obtain ⟨hd1, hd2⟩ := ic_okd_at hok hd
  dsimp only at hd1 hd2
  subst hd2
  exact lv_istore hx hb hd1 hl hi rfl fun ls hl => h κ A p l e R s m args below meth c cells slots Q B hc K H locs ls hW (ic_has_mono hl (ic_sto1 hs rfl))
theorem ev_istore_n {i : Fin 4} {x : Int32} (lv' : ic_L) (hd : ic_at M a b = some (pc, .istore_n i, 1, nx)) (hi : (i : Nat) < M.2.2.1) (hs : ic_sto lv (i : Nat) (ic_I x) lv') (h : ic_Ev M nx lv' st g r g') : ic_Ev M pc lv (ic_I x :: st) g r g' := by
  intro κ A p l e R s m args below meth c cells slots Q B hc K H locs ls hW hl
  obtain ⟨hx, hb, hml, hown, hts, hfr, hlo, hF, hA, hok⟩ := id B
  obtain ⟨hd1, hd2⟩ := ic_okd_at hok hd
  dsimp only at hd1 hd2
  subst hd2
  exact lv_istore_n hx hb hd1 rfl hl hi rfl fun ls hl => h κ A p l e R s m args below meth c cells slots Q B hc K H locs ls hW (ic_has_mono hl (ic_sto1 hs rfl))
theorem ev_lstore {i : Nat} {x : Int64} (lv' : ic_L) (hd : ic_at M a b = some (pc, .lstore i, 2, nx)) (hi : i + 1 < M.2.2.1) (hs : ic_sto lv i (ic_J x) lv') (h : ic_Ev M nx lv' st g r g') : ic_Ev M pc lv (ic_J x :: st) g r g' := by
  intro κ A p l e R s m args below meth c cells slots Q B hc K H locs ls hW hl
  obtain ⟨hx, hb, hml, hown, hts, hfr, hlo, hF, hA, hok⟩ := id B
  obtain ⟨hd1, hd2⟩ := ic_okd_at hok hd
  dsimp only at hd1 hd2
  subst hd2
  exact lv_lstore hx hb hd1 hl hi rfl fun ls hl => h κ A p l e R s m args below meth c cells slots Q B hc K H locs ls hW (ic_has_mono hl (ic_sto2 hs rfl))
theorem ev_lstore_n {i : Fin 4} {x : Int64} (lv' : ic_L) (hd : ic_at M a b = some (pc, .lstore_n i, 1, nx)) (hi : (i : Nat) + 1 < M.2.2.1) (hs : ic_sto lv (i : Nat) (ic_J x) lv') (h : ic_Ev M nx lv' st g r g') : ic_Ev M pc lv (ic_J x :: st) g r g' := by
  intro κ A p l e R s m args below meth c cells slots Q B hc K H locs ls hW hl
  obtain ⟨hx, hb, hml, hown, hts, hfr, hlo, hF, hA, hok⟩ := id B
  obtain ⟨hd1, hd2⟩ := ic_okd_at hok hd
  dsimp only at hd1 hd2
  subst hd2
  exact lv_lstore_n hx hb hd1 rfl hl hi rfl fun ls hl => h κ A p l e R s m args below meth c cells slots Q B hc K H locs ls hW (ic_has_mono hl (ic_sto2 hs rfl))
theorem ev_astore {i : Nat} {o : Option ic_K} (lv' : ic_L) (hd : ic_at M a b = some (pc, .astore i, 2, nx)) (hi : i < M.2.2.1) (hs : ic_sto lv i (.inr (.inr o)) lv') (h : ic_Ev M nx lv' st g r g') : ic_Ev M pc lv (.inr (.inr o) :: st) g r g' := by
  intro κ A p l e R s m args below meth c cells slots Q B hc K H locs ls hW hl
  obtain ⟨hx, hb, hml, hown, hts, hfr, hlo, hF, hA, hok⟩ := id B
  obtain ⟨hd1, hd2⟩ := ic_okd_at hok hd
  dsimp only at hd1 hd2
  subst hd2
  have e3 : ic_sv κ ((.inr (.inr o) : ic_V) :: st) = ic_cv κ (.inr (.inr o)) :: ic_sv κ st := rfl
  have hs2 := ic_sto1 (κ := κ) hs rfl
  rw [e3]
  rcases ic_cvnr κ o with e9 | ⟨q, e9⟩
  · rw [e9] at hs2 ⊢
    exact lv_astoreN hx hb hd1 hl hi rfl fun ls hl => h κ A p l e R s m args below meth c cells slots Q B hc K H locs ls hW (ic_has_mono hl hs2)
  · rw [e9] at hs2 ⊢
    exact lv_astore hx hb hd1 hl hi rfl fun ls hl => h κ A p l e R s m args below meth c cells slots Q B hc K H locs ls hW (ic_has_mono hl hs2)
theorem ev_astore_n {i : Fin 4} {o : Option ic_K} (lv' : ic_L) (hd : ic_at M a b = some (pc, .astore_n i, 1, nx)) (hi : (i : Nat) < M.2.2.1) (hs : ic_sto lv (i : Nat) (.inr (.inr o)) lv') (h : ic_Ev M nx lv' st g r g') : ic_Ev M pc lv (.inr (.inr o) :: st) g r g' := by
  intro κ A p l e R s m args below meth c cells slots Q B hc K H locs ls hW hl
  obtain ⟨hx, hb, hml, hown, hts, hfr, hlo, hF, hA, hok⟩ := id B
  obtain ⟨hd1, hd2⟩ := ic_okd_at hok hd
  dsimp only at hd1 hd2
  subst hd2
  have e3 : ic_sv κ ((.inr (.inr o) : ic_V) :: st) = ic_cv κ (.inr (.inr o)) :: ic_sv κ st := rfl
  have hs2 := ic_sto1 (κ := κ) hs rfl
  rw [e3]
  rcases ic_cvnr κ o with e9 | ⟨q, e9⟩
  · rw [e9] at hs2 ⊢
    exact lv_astore_nN hx hb hd1 rfl hl hi rfl fun ls hl => h κ A p l e R s m args below meth c cells slots Q B hc K H locs ls hW (ic_has_mono hl hs2)
  · rw [e9] at hs2 ⊢
    exact lv_astore_n hx hb hd1 rfl hl hi rfl fun ls hl => h κ A p l e R s m args below meth c cells slots Q B hc K H locs ls hW (ic_has_mono hl hs2)
theorem ev_iinc {i : Nat} {n : Int} {x : Int32} (v : Int32) (lv' : ic_L) (hd : ic_at M a b = some (pc, .iinc i n, 3, nx)) (hl0 : ic_lk lv i = some (ic_I x)) (hv : x + Int32.ofInt n = v) (hi : i < M.2.2.1) (hs : ic_sto lv i (ic_I v) lv') (h : ic_Ev M nx lv' st g r g') : ic_Ev M pc lv st g r g' := by
  intro κ A p l e R s m args below meth c cells slots Q B hc K H locs ls hW hl
  obtain ⟨hx, hb, hml, hown, hts, hfr, hlo, hF, hA, hok⟩ := id B
  obtain ⟨hd1, hd2⟩ := ic_okd_at hok hd
  dsimp only at hd1 hd2
  subst hd2
  obtain ⟨k, hk⟩ := List.getElem?_of_mem (List.mem_map.mpr ⟨(i, ic_I x), ic_lk_mem hl0, rfl⟩ : (i, Value.int x) ∈ ic_lv κ lv)
  exact lv_iinc hx hb hd1 hl hk hv hi rfl fun ls hl => h κ A p l e R s m args below meth c cells slots Q B hc K H locs ls hW (ic_has_mono hl (ic_sto1 hs rfl))
theorem ev_dup {v : ic_V} (hd : ic_at M a b = some (pc, .dup, 1, nx)) (hv : ic_cat v = 1) (h : ic_Ev M nx lv (v :: v :: st) g r g') : ic_Ev M pc lv (v :: st) g r g' := by
  intro κ A p l e R s m args below meth c cells slots Q B hc K H locs ls hW hl
  obtain ⟨hx, hb, hml, hown, hts, hfr, hlo, hF, hA, hok⟩ := id B
  obtain ⟨hd1, hd2⟩ := ic_okd_at hok hd
  dsimp only at hd1 hd2
  subst hd2
  exact lv_dup hx hb hd1 ((ic_cvcat κ v).trans hv) (h κ A p l e R s m args below meth c cells slots Q B hc K H locs ls hW hl)
theorem ev_pop {v : ic_V} (hd : ic_at M a b = some (pc, .pop, 1, nx)) (hv : ic_cat v = 1) (h : ic_Ev M nx lv (st) g r g') : ic_Ev M pc lv (v :: st) g r g' := by
  intro κ A p l e R s m args below meth c cells slots Q B hc K H locs ls hW hl
  obtain ⟨hx, hb, hml, hown, hts, hfr, hlo, hF, hA, hok⟩ := id B
  obtain ⟨hd1, hd2⟩ := ic_okd_at hok hd
  dsimp only at hd1 hd2
  subst hd2
  exact lv_pop hx hb hd1 ((ic_cvcat κ v).trans hv) (h κ A p l e R s m args below meth c cells slots Q B hc K H locs ls hW hl)
theorem ev_dup2 {u v : ic_V} (hd : ic_at M a b = some (pc, .dup2, 1, nx)) (hv : ic_cat v = 1) (hu : ic_cat u = 1) (h : ic_Ev M nx lv (v :: u :: v :: u :: st) g r g') : ic_Ev M pc lv (v :: u :: st) g r g' := by
  intro κ A p l e R s m args below meth c cells slots Q B hc K H locs ls hW hl
  obtain ⟨hx, hb, hml, hown, hts, hfr, hlo, hF, hA, hok⟩ := id B
  obtain ⟨hd1, hd2⟩ := ic_okd_at hok hd
  dsimp only at hd1 hd2
  subst hd2
  exact lv_dup2_11 hx hb hd1 ((ic_cvcat κ v).trans hv) ((ic_cvcat κ u).trans hu) (h κ A p l e R s m args below meth c cells slots Q B hc K H locs ls hW hl)
theorem ev_ifeq {x : Int32} {off : Int} (tgt : Nat) (hd : ic_at M a b = some (pc, .ifCond .eq off, 3, nx)) (ht : (pc : Int) + off = (tgt : Int)) (kt : (x = 0) → ic_Ev M tgt lv st g r g') (kf : ¬ (x = 0) → ic_Ev M nx lv st g r g') : ic_Ev M pc lv (ic_I x :: st) g r g' := by
  intro κ A p l e R s m args below meth c cells slots Q B hc K H locs ls hW hl
  obtain ⟨hx, hb, hml, hown, hts, hfr, hlo, hF, hA, hok⟩ := id B
  obtain ⟨hd1, hd2⟩ := ic_okd_at hok hd
  dsimp only at hd1 hd2
  subst hd2
  exact lv_if_eq hx hb hd1 ht (fun q => kt q κ A p l e R s m args below meth c cells slots Q B hc K H locs ls hW hl) (fun q => kf q κ A p l e R s m args below meth c cells slots Q B hc K H locs ls hW hl)
theorem ev_iceq {x y : Int32} {off : Int} (tgt : Nat) (hd : ic_at M a b = some (pc, .if_icmp .eq off, 3, nx)) (ht : (pc : Int) + off = (tgt : Int)) (kt : (x = y) → ic_Ev M tgt lv st g r g') (kf : ¬ (x = y) → ic_Ev M nx lv st g r g') : ic_Ev M pc lv (ic_I y :: ic_I x :: st) g r g' := by
  intro κ A p l e R s m args below meth c cells slots Q B hc K H locs ls hW hl
  obtain ⟨hx, hb, hml, hown, hts, hfr, hlo, hF, hA, hok⟩ := id B
  obtain ⟨hd1, hd2⟩ := ic_okd_at hok hd
  dsimp only at hd1 hd2
  subst hd2
  exact lv_icmp_eq hx hb hd1 ht (fun q => kt q κ A p l e R s m args below meth c cells slots Q B hc K H locs ls hW hl) (fun q => kf q κ A p l e R s m args below meth c cells slots Q B hc K H locs ls hW hl)
theorem ev_ifne {x : Int32} {off : Int} (tgt : Nat) (hd : ic_at M a b = some (pc, .ifCond .ne off, 3, nx)) (ht : (pc : Int) + off = (tgt : Int)) (kt : (¬ (x = 0)) → ic_Ev M tgt lv st g r g') (kf : x = 0 → ic_Ev M nx lv st g r g') : ic_Ev M pc lv (ic_I x :: st) g r g' := by
  intro κ A p l e R s m args below meth c cells slots Q B hc K H locs ls hW hl
  obtain ⟨hx, hb, hml, hown, hts, hfr, hlo, hF, hA, hok⟩ := id B
  obtain ⟨hd1, hd2⟩ := ic_okd_at hok hd
  dsimp only at hd1 hd2
  subst hd2
  exact lv_if_ne hx hb hd1 ht (fun q => kt q κ A p l e R s m args below meth c cells slots Q B hc K H locs ls hW hl) (fun q => kf q κ A p l e R s m args below meth c cells slots Q B hc K H locs ls hW hl)
theorem ev_icne {x y : Int32} {off : Int} (tgt : Nat) (hd : ic_at M a b = some (pc, .if_icmp .ne off, 3, nx)) (ht : (pc : Int) + off = (tgt : Int)) (kt : (¬ (x = y)) → ic_Ev M tgt lv st g r g') (kf : x = y → ic_Ev M nx lv st g r g') : ic_Ev M pc lv (ic_I y :: ic_I x :: st) g r g' := by
  intro κ A p l e R s m args below meth c cells slots Q B hc K H locs ls hW hl
  obtain ⟨hx, hb, hml, hown, hts, hfr, hlo, hF, hA, hok⟩ := id B
  obtain ⟨hd1, hd2⟩ := ic_okd_at hok hd
  dsimp only at hd1 hd2
  subst hd2
  exact lv_icmp_ne hx hb hd1 ht (fun q => kt q κ A p l e R s m args below meth c cells slots Q B hc K H locs ls hW hl) (fun q => kf q κ A p l e R s m args below meth c cells slots Q B hc K H locs ls hW hl)
theorem ev_iflt {x : Int32} {off : Int} (tgt : Nat) (hd : ic_at M a b = some (pc, .ifCond .lt off, 3, nx)) (ht : (pc : Int) + off = (tgt : Int)) (kt : (x < 0) → ic_Ev M tgt lv st g r g') (kf : ¬ (x < 0) → ic_Ev M nx lv st g r g') : ic_Ev M pc lv (ic_I x :: st) g r g' := by
  intro κ A p l e R s m args below meth c cells slots Q B hc K H locs ls hW hl
  obtain ⟨hx, hb, hml, hown, hts, hfr, hlo, hF, hA, hok⟩ := id B
  obtain ⟨hd1, hd2⟩ := ic_okd_at hok hd
  dsimp only at hd1 hd2
  subst hd2
  exact lv_if_lt hx hb hd1 ht (fun q => kt q κ A p l e R s m args below meth c cells slots Q B hc K H locs ls hW hl) (fun q => kf q κ A p l e R s m args below meth c cells slots Q B hc K H locs ls hW hl)
theorem ev_iclt {x y : Int32} {off : Int} (tgt : Nat) (hd : ic_at M a b = some (pc, .if_icmp .lt off, 3, nx)) (ht : (pc : Int) + off = (tgt : Int)) (kt : (x < y) → ic_Ev M tgt lv st g r g') (kf : ¬ (x < y) → ic_Ev M nx lv st g r g') : ic_Ev M pc lv (ic_I y :: ic_I x :: st) g r g' := by
  intro κ A p l e R s m args below meth c cells slots Q B hc K H locs ls hW hl
  obtain ⟨hx, hb, hml, hown, hts, hfr, hlo, hF, hA, hok⟩ := id B
  obtain ⟨hd1, hd2⟩ := ic_okd_at hok hd
  dsimp only at hd1 hd2
  subst hd2
  exact lv_icmp_lt hx hb hd1 ht (fun q => kt q κ A p l e R s m args below meth c cells slots Q B hc K H locs ls hW hl) (fun q => kf q κ A p l e R s m args below meth c cells slots Q B hc K H locs ls hW hl)
theorem ev_ifge {x : Int32} {off : Int} (tgt : Nat) (hd : ic_at M a b = some (pc, .ifCond .ge off, 3, nx)) (ht : (pc : Int) + off = (tgt : Int)) (kt : (0 ≤ x) → ic_Ev M tgt lv st g r g') (kf : ¬ (0 ≤ x) → ic_Ev M nx lv st g r g') : ic_Ev M pc lv (ic_I x :: st) g r g' := by
  intro κ A p l e R s m args below meth c cells slots Q B hc K H locs ls hW hl
  obtain ⟨hx, hb, hml, hown, hts, hfr, hlo, hF, hA, hok⟩ := id B
  obtain ⟨hd1, hd2⟩ := ic_okd_at hok hd
  dsimp only at hd1 hd2
  subst hd2
  exact lv_if_ge hx hb hd1 ht (fun q => kt q κ A p l e R s m args below meth c cells slots Q B hc K H locs ls hW hl) (fun q => kf q κ A p l e R s m args below meth c cells slots Q B hc K H locs ls hW hl)
theorem ev_icge {x y : Int32} {off : Int} (tgt : Nat) (hd : ic_at M a b = some (pc, .if_icmp .ge off, 3, nx)) (ht : (pc : Int) + off = (tgt : Int)) (kt : (y ≤ x) → ic_Ev M tgt lv st g r g') (kf : ¬ (y ≤ x) → ic_Ev M nx lv st g r g') : ic_Ev M pc lv (ic_I y :: ic_I x :: st) g r g' := by
  intro κ A p l e R s m args below meth c cells slots Q B hc K H locs ls hW hl
  obtain ⟨hx, hb, hml, hown, hts, hfr, hlo, hF, hA, hok⟩ := id B
  obtain ⟨hd1, hd2⟩ := ic_okd_at hok hd
  dsimp only at hd1 hd2
  subst hd2
  exact lv_icmp_ge hx hb hd1 ht (fun q => kt q κ A p l e R s m args below meth c cells slots Q B hc K H locs ls hW hl) (fun q => kf q κ A p l e R s m args below meth c cells slots Q B hc K H locs ls hW hl)
theorem ev_ifgt {x : Int32} {off : Int} (tgt : Nat) (hd : ic_at M a b = some (pc, .ifCond .gt off, 3, nx)) (ht : (pc : Int) + off = (tgt : Int)) (kt : (0 < x) → ic_Ev M tgt lv st g r g') (kf : ¬ (0 < x) → ic_Ev M nx lv st g r g') : ic_Ev M pc lv (ic_I x :: st) g r g' := by
  intro κ A p l e R s m args below meth c cells slots Q B hc K H locs ls hW hl
  obtain ⟨hx, hb, hml, hown, hts, hfr, hlo, hF, hA, hok⟩ := id B
  obtain ⟨hd1, hd2⟩ := ic_okd_at hok hd
  dsimp only at hd1 hd2
  subst hd2
  exact lv_if_gt hx hb hd1 ht (fun q => kt q κ A p l e R s m args below meth c cells slots Q B hc K H locs ls hW hl) (fun q => kf q κ A p l e R s m args below meth c cells slots Q B hc K H locs ls hW hl)
theorem ev_icgt {x y : Int32} {off : Int} (tgt : Nat) (hd : ic_at M a b = some (pc, .if_icmp .gt off, 3, nx)) (ht : (pc : Int) + off = (tgt : Int)) (kt : (y < x) → ic_Ev M tgt lv st g r g') (kf : ¬ (y < x) → ic_Ev M nx lv st g r g') : ic_Ev M pc lv (ic_I y :: ic_I x :: st) g r g' := by
  intro κ A p l e R s m args below meth c cells slots Q B hc K H locs ls hW hl
  obtain ⟨hx, hb, hml, hown, hts, hfr, hlo, hF, hA, hok⟩ := id B
  obtain ⟨hd1, hd2⟩ := ic_okd_at hok hd
  dsimp only at hd1 hd2
  subst hd2
  exact lv_icmp_gt hx hb hd1 ht (fun q => kt q κ A p l e R s m args below meth c cells slots Q B hc K H locs ls hW hl) (fun q => kf q κ A p l e R s m args below meth c cells slots Q B hc K H locs ls hW hl)
theorem ev_ifle {x : Int32} {off : Int} (tgt : Nat) (hd : ic_at M a b = some (pc, .ifCond .le off, 3, nx)) (ht : (pc : Int) + off = (tgt : Int)) (kt : (x ≤ 0) → ic_Ev M tgt lv st g r g') (kf : ¬ (x ≤ 0) → ic_Ev M nx lv st g r g') : ic_Ev M pc lv (ic_I x :: st) g r g' := by
  intro κ A p l e R s m args below meth c cells slots Q B hc K H locs ls hW hl
  obtain ⟨hx, hb, hml, hown, hts, hfr, hlo, hF, hA, hok⟩ := id B
  obtain ⟨hd1, hd2⟩ := ic_okd_at hok hd
  dsimp only at hd1 hd2
  subst hd2
  exact lv_if_le hx hb hd1 ht (fun q => kt q κ A p l e R s m args below meth c cells slots Q B hc K H locs ls hW hl) (fun q => kf q κ A p l e R s m args below meth c cells slots Q B hc K H locs ls hW hl)
theorem ev_icle {x y : Int32} {off : Int} (tgt : Nat) (hd : ic_at M a b = some (pc, .if_icmp .le off, 3, nx)) (ht : (pc : Int) + off = (tgt : Int)) (kt : (x ≤ y) → ic_Ev M tgt lv st g r g') (kf : ¬ (x ≤ y) → ic_Ev M nx lv st g r g') : ic_Ev M pc lv (ic_I y :: ic_I x :: st) g r g' := by
  intro κ A p l e R s m args below meth c cells slots Q B hc K H locs ls hW hl
  obtain ⟨hx, hb, hml, hown, hts, hfr, hlo, hF, hA, hok⟩ := id B
  obtain ⟨hd1, hd2⟩ := ic_okd_at hok hd
  dsimp only at hd1 hd2
  subst hd2
  exact lv_icmp_le hx hb hd1 ht (fun q => kt q κ A p l e R s m args below meth c cells slots Q B hc K H locs ls hW hl) (fun q => kf q κ A p l e R s m args below meth c cells slots Q B hc K H locs ls hW hl)
theorem ev_goto {off : Int} (tgt : Nat) (hd : ic_at M a b = some (pc, .goto off, 3, nx)) (ht : (pc : Int) + off = (tgt : Int)) (h : ic_Ev M tgt lv st g r g') : ic_Ev M pc lv st g r g' := by
  intro κ A p l e R s m args below meth c cells slots Q B hc K H locs ls hW hl
  obtain ⟨hx, hb, hml, hown, hts, hfr, hlo, hF, hA, hok⟩ := id B
  obtain ⟨hd1, hd2⟩ := ic_okd_at hok hd
  dsimp only at hd1 hd2
  exact lv_goto hx hb hd1 ht (h κ A p l e R s m args below meth c cells slots Q B hc K H locs ls hW hl)
theorem ev_ifnull1 {off : Int} (tgt : Nat) (hd : ic_at M a b = some (pc, .ifnull off, 3, nx)) (ht : (pc : Int) + off = (tgt : Int)) (h : ic_Ev M tgt lv st g r g') : ic_Ev M pc lv (ic_N :: st) g r g' := by
  intro κ A p l e R s m args below meth c cells slots Q B hc K H locs ls hW hl
  obtain ⟨hx, hb, hml, hown, hts, hfr, hlo, hF, hA, hok⟩ := id B
  obtain ⟨hd1, hd2⟩ := ic_okd_at hok hd
  dsimp only at hd1 hd2
  exact lv_ifnullN hx hb hd1 ht (h κ A p l e R s m args below meth c cells slots Q B hc K H locs ls hW hl)
theorem ev_ifnull0 {off : Int} {k : ic_K} (hk : k.1 ≠ 26) (hd : ic_at M a b = some (pc, .ifnull off, 3, nx)) (h : ic_Ev M nx lv st g r g') : ic_Ev M pc lv (.inr (.inr (some k)) :: st) g r g' := by
  intro κ A p l e R s m args below meth c cells slots Q B hc K H locs ls hW hl
  obtain ⟨hx, hb, hml, hown, hts, hfr, hlo, hF, hA, hok⟩ := id B
  obtain ⟨hd1, hd2⟩ := ic_okd_at hok hd
  dsimp only at hd1 hd2
  subst hd2
  have e3 : ic_sv κ ((.inr (.inr (some k)) : ic_V) :: st) = .ref (ic_ad κ k) :: ic_sv κ st := by rw [← ic_cvk hk]; rfl
  rw [e3]
  exact lv_ifnull hx hb hd1 (h κ A p l e R s m args below meth c cells slots Q B hc K H locs ls hW hl)
theorem ev_ifnonnull0 {off : Int} {k : ic_K} (tgt : Nat) (hk : k.1 ≠ 26) (hd : ic_at M a b = some (pc, .ifnonnull off, 3, nx)) (ht : (pc : Int) + off = (tgt : Int)) (h : ic_Ev M tgt lv st g r g') : ic_Ev M pc lv (.inr (.inr (some k)) :: st) g r g' := by
  intro κ A p l e R s m args below meth c cells slots Q B hc K H locs ls hW hl
  obtain ⟨hx, hb, hml, hown, hts, hfr, hlo, hF, hA, hok⟩ := id B
  obtain ⟨hd1, hd2⟩ := ic_okd_at hok hd
  dsimp only at hd1 hd2
  have e3 : ic_sv κ ((.inr (.inr (some k)) : ic_V) :: st) = .ref (ic_ad κ k) :: ic_sv κ st := by rw [← ic_cvk hk]; rfl
  rw [e3]
  exact lv_ifnonnull hx hb hd1 ht (h κ A p l e R s m args below meth c cells slots Q B hc K H locs ls hW hl)
theorem ev_ifnonnull1 {off : Int} (hd : ic_at M a b = some (pc, .ifnonnull off, 3, nx)) (h : ic_Ev M nx lv st g r g') : ic_Ev M pc lv (ic_N :: st) g r g' := by
  intro κ A p l e R s m args below meth c cells slots Q B hc K H locs ls hW hl
  obtain ⟨hx, hb, hml, hown, hts, hfr, hlo, hF, hA, hok⟩ := id B
  obtain ⟨hd1, hd2⟩ := ic_okd_at hok hd
  dsimp only at hd1 hd2
  subst hd2
  exact lv_ifnonnullN hx hb hd1 (h κ A p l e R s m args below meth c cells slots Q B hc K H locs ls hW hl)
theorem ic_ofi {x : Int32} {k : Int} {v : Int32} (hv : x = v) (hk : v.toInt = k) : x.toInt = k := by rw [hv]; exact hk
theorem ev_tsw1 {dflt lo hi : Int} {offs : Array Int} {len : Nat} {x : Int32} (v : Int32) (off : Int) (tgt : Nat) (hd : ic_at M a b = some (pc, .tableswitch dflt lo hi offs, len, nx)) (hv : x = v) (h1 : ¬ v.toInt < lo) (h2 : ¬ hi < v.toInt) (ho : offs[(v.toInt - lo).toNat]? = some off) (ht : (pc : Int) + off = (tgt : Int)) (h : ic_Ev M tgt lv st g r g') : ic_Ev M pc lv (ic_I x :: st) g r g' := by
  intro κ A p l e R s m args below meth c cells slots Q B hc K H locs ls hW hl
  obtain ⟨hx, hb, hml, hown, hts, hfr, hlo, hF, hA, hok⟩ := id B
  obtain ⟨hd1, hd2⟩ := ic_okd_at hok hd
  dsimp only at hd1 hd2
  subst hv
  exact lv_tableIn hx hb hd1 h1 h2 ho ht (h κ A p l e R s m args below meth c cells slots Q B hc K H locs ls hW hl)
theorem ev_tsw0 {dflt lo hi : Int} {offs : Array Int} {len : Nat} {x : Int32} (ks : List Int32) (tgt : Nat) (hd : ic_at M a b = some (pc, .tableswitch dflt lo hi offs, len, nx)) (hk : ∀ k ∈ ks, ¬ x = k) (hcov : (List.range offs.size).all (fun j => decide (offs[j]? = some dflt) || ks.any (fun k => decide (k.toInt = lo + (j : Int)))) = true) (hs : (offs.size : Int) = hi - lo + 1) (ht : (pc : Int) + dflt = (tgt : Int)) (h : ic_Ev M tgt lv st g r g') : ic_Ev M pc lv (ic_I x :: st) g r g' := by
  intro κ A p l e R s m args below meth c cells slots Q B hc K H locs ls hW hl
  obtain ⟨hx, hb, hml, hown, hts, hfr, hlo, hF, hA, hok⟩ := id B
  obtain ⟨hd1, hd2⟩ := ic_okd_at hok hd
  dsimp only at hd1 hd2
  by_cases h1 : x.toInt < lo ∨ hi < x.toInt
  · exact lv_tableOut hx hb hd1 h1 ht (h κ A p l e R s m args below meth c cells slots Q B hc K H locs ls hW hl)
  · have h3 : ¬ x.toInt < lo := fun q => h1 (Or.inl q)
    have h4 : ¬ hi < x.toInt := fun q => h1 (Or.inr q)
    have h5 := List.all_eq_true.mp hcov (x.toInt - lo).toNat (List.mem_range.mpr (by omega))
    rw [Bool.or_eq_true] at h5
    rcases h5 with h5 | h5
    · exact lv_tableIn hx hb hd1 h3 h4 (of_decide_eq_true h5) ht (h κ A p l e R s m args below meth c cells slots Q B hc K H locs ls hW hl)
    · obtain ⟨k, hm, hk2⟩ := List.any_eq_true.mp h5
      have hk3 := of_decide_eq_true hk2
      exact absurd (Int32.toInt_inj.mp (by omega)) (hk k hm)
theorem ev_lsw {dflt : Int} {ps : Array (Int × Int)} {len : Nat} {x : Int32} (off : Int) (tgt : Nat) (hd : ic_at M a b = some (pc, .lookupswitch dflt ps, len, nx)) (hp : (ps.toList.zip (ps.toList.drop 1)).all (fun (a, next) => a.1 < next.1) = true) (ho : Op.lookupswitch.offset ps.toList dflt x.toInt = off) (ht : (pc : Int) + off = (tgt : Int)) (h : ic_Ev M tgt lv st g r g') : ic_Ev M pc lv (ic_I x :: st) g r g' := by
  intro κ A p l e R s m args below meth c cells slots Q B hc K H locs ls hW hl
  obtain ⟨hx, hb, hml, hown, hts, hfr, hlo, hF, hA, hok⟩ := id B
  obtain ⟨hd1, hd2⟩ := ic_okd_at hok hd
  dsimp only at hd1 hd2
  exact lv_lookup hx hb hd1 hp ho ht (h κ A p l e R s m args below meth c cells slots Q B hc K H locs ls hW hl)
theorem ic_lsw0 {x : Int32} {d : Int} : ∀ {ps : List (Int × Int)} (ks : List Int32), (∀ k ∈ ks, ¬ x = k) → ps.all (fun q => ks.any (fun k => decide (k.toInt = q.1))) = true → Op.lookupswitch.offset ps d x.toInt = d
  | [], _, _, _ => by simp [Op.lookupswitch.offset]
  | q :: l, ks, hk, h => by
    simp only [List.all_cons, Bool.and_eq_true] at h
    obtain ⟨k, hm, hk2⟩ := List.any_eq_true.mp h.1
    obtain ⟨a0, o0⟩ := q
    rw [lv_osw (hk k hm) (of_decide_eq_true hk2)]
    exact ic_lsw0 ks hk h.2
theorem ev_ireturn {v : Int32} {ty : FieldType} (hd : ic_at M a b = some (pc, .ireturn, 1, nx)) (hr : M.2.2.2.1 = some ty) (hn : narrow ty (.int v) = .int v) : ic_Ev M pc lv [ic_I v] g (some (ic_I v)) g := by
  intro κ A p l e R s m args below meth c cells slots Q B hc K H locs ls hW hl
  obtain ⟨hx, hb, hml, hown, hts, hfr, hlo, hF, hA, hok⟩ := id B
  exact K H locs pc ls ⟨(ic_okd_at hok hd).1, ty, hr, hn⟩ hW
theorem ev_lreturn {v : Int64} (hd : ic_at M a b = some (pc, .lreturn, 1, nx)) (hr : M.2.2.2.1 = some .long) : ic_Ev M pc lv [ic_J v] g (some (ic_J v)) g := by
  intro κ A p l e R s m args below meth c cells slots Q B hc K H locs ls hW hl
  obtain ⟨hx, hb, hml, hown, hts, hfr, hlo, hF, hA, hok⟩ := id B
  exact K H locs pc ls ⟨(ic_okd_at hok hd).1, hr⟩ hW
theorem ev_areturn {o : Option ic_K} {n : String} (hd : ic_at M a b = some (pc, .areturn, 1, nx)) (hr : M.2.2.2.1 = some (.object n)) : ic_Ev M pc lv [.inr (.inr o)] g (some (.inr (.inr o))) g := by
  intro κ A p l e R s m args below meth c cells slots Q B hc K H locs ls hW hl
  obtain ⟨hx, hb, hml, hown, hts, hfr, hlo, hF, hA, hok⟩ := id B
  exact K H locs pc ls ⟨(ic_okd_at hok hd).1, _, hr, Or.inl ⟨n, rfl⟩⟩ hW
theorem ev_return (hd : ic_at M a b = some (pc, .return_, 1, nx)) (hr : M.2.2.2.1 = none) : ic_Ev M pc lv [] g none g := by
  intro κ A p l e R s m args below meth c cells slots Q B hc K H locs ls hW hl
  obtain ⟨hx, hb, hml, hown, hts, hfr, hlo, hF, hA, hok⟩ := id B
  exact K H locs pc ls ⟨(ic_okd_at hok hd).1, hr⟩ hW
end IC
