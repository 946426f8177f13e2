/-! fields, arrays, statics, calls over the fixed world -/
theorem ic_wsk {κ : ic_X} {g : ic_S} {x : ic_K} (hx : x ∈ ic_keys) : ∃ q0 : Nat, ic_keys[q0]? = some x ∧ (ic_ws κ g)[q0]? = some (ic_ad κ x, ic_cel κ g x) := by
  obtain ⟨q0, h⟩ := List.getElem?_of_mem hx
  exact ⟨q0, h, by unfold ic_ws; rw [List.getElem?_map, h]; rfl⟩
theorem ic_set {κ : ic_X} {g g' : ic_S} {x : ic_K} {q0 : Nat} (hq : ic_keys[q0]? = some x) (ho : ∀ y ∈ ic_keys, y ≠ x → ic_cel κ g' y = ic_cel κ g y) : (ic_ws κ g).set q0 (ic_ad κ x, ic_cel κ g' x) = ic_ws κ g' := by
  apply List.ext_getElem?
  intro k
  unfold ic_ws
  by_cases hk : k = q0
  · subst hk
    have hl : k < (ic_keys.map fun y => (ic_ad κ y, ic_cel κ g y)).length := by
      rw [List.length_map]
      exact (List.getElem?_eq_some_iff.mp hq).1
    rw [List.getElem?_set_self hl, List.getElem?_map, hq]
    rfl
  · rw [List.getElem?_set_ne (Ne.symm hk), List.getElem?_map, List.getElem?_map]
    cases hy : ic_keys[k]? with
    | none => rfl
    | some y =>
      have hne : y ≠ x := by
        intro e
        subst e
        obtain ⟨h1, e1⟩ := List.getElem?_eq_some_iff.mp hy
        obtain ⟨h2, e2⟩ := List.getElem?_eq_some_iff.mp hq
        exact hk ((List.getElem_inj ic_nd).mp (e1.trans e2.symm))
      show some (ic_ad κ y, ic_cel κ g y) = some (ic_ad κ y, ic_cel κ g' y)
      rw [ho y (List.mem_of_getElem? hy) hne]
theorem ic_G.to {κ : ic_X} {A : Nat → Prop} {g g' : ic_S} {s : State} (h : ic_G κ A g s) (h1 : ∀ j, g'.1 40 j = g.1 40 j) (h2 : g'.1 41 0 = g.1 41 0) : ic_G κ A g' s := by
  obtain ⟨L, xs, a1, a2, a3, a4⟩ := h
  exact ⟨L, xs, a1, fun j hj => (a2 j hj).trans (h1 j).symm, a3.trans h2.symm, a4⟩
/-- field no j of class no ci at the key x reads v -/
def ic_fg (ci j : Nat) (g : ic_S) (x : ic_K) (v : ic_V) : Prop := x ∈ ic_keys ∧ ∀ κ : ic_X, ∃ fs, ic_cel κ g x = .inr (ci, fs) ∧ fs[j]? = some (ic_cv κ v)
/-- and becomes v in g' -/
def ic_fp (ci j : Nat) (g : ic_S) (x : ic_K) (v : ic_V) (g' : ic_S) : Prop := x ∈ ic_keys ∧ (∀ κ : ic_X, ∃ fs, ic_cel κ g x = .inr (ci, fs) ∧ ic_cel κ g' x = .inr (ci, fs.set j (ic_cv κ v)) ∧ j < fs.length) ∧ (∀ κ : ic_X, ∀ y ∈ ic_keys, y ≠ x → ic_cel κ g' y = ic_cel κ g y) ∧ (∀ i, g'.1 40 i = g.1 40 i) ∧ g'.1 41 0 = g.1 41 0 ∧ ∀ κ : ic_X, narrow (ic_ty ci j) (ic_cv κ v) = ic_cv κ v ∧ fits (ic_ty ci j) (ic_cv κ v) = true
/-- an int array (t0: 0 int, 1 byte) -/
def ic_ai (t0 n : Nat) (g : ic_S) (x : ic_K) (f : Nat → Int32) : Prop := x ∈ ic_keys ∧ t0 < 2 ∧ ∀ κ : ic_X, ic_cel κ g x = .inl (κ.2.2.1 t0, n, .inl f)
/-- its place i becomes v in g' -/
def ic_ap (t0 n : Nat) (g : ic_S) (x : ic_K) (f : Nat → Int32) (i : Nat) (v : Int32) (g' : ic_S) : Prop := x ∈ ic_keys ∧ (∀ κ : ic_X, ic_cel κ g x = .inl (κ.2.2.1 t0, n, .inl f) ∧ ic_cel κ g' x = .inl (κ.2.2.1 t0, n, .inl (upd f i v))) ∧ (∀ κ : ic_X, ∀ y ∈ ic_keys, y ≠ x → ic_cel κ g' y = ic_cel κ g y) ∧ (∀ i, g'.1 40 i = g.1 40 i) ∧ g'.1 41 0 = g.1 41 0
/-- an array of references -/
def ic_ar (t0 n : Nat) (g : ic_S) (x : ic_K) (f : Nat → ic_K) : Prop := x ∈ ic_keys ∧ (t0 = 2 ∨ t0 = 3) ∧ ∀ κ : ic_X, ic_cel κ g x = .inl (κ.2.2.1 t0, n, .inr (.inr (.inr (.inr fun j => some (ic_ad κ (f j))))))
def ic_in (i : Int32) (n : Nat) : Bool := decide (0 ≤ i.toInt) && decide (i.toInt < n)
theorem ic_inv {i : Int32} {n : Nat} (h : ic_in i n = true) : vp_in i n := by
  unfold ic_in at h
  simp only [Bool.and_eq_true, decide_eq_true_eq] at h
  exact vp_in_iff.mpr h
theorem ic_inl {i : Int32} {n : Nat} (h : ic_in i n = true) : i.toNatClampNeg < n := by
  have := ic_inv h
  exact Nat.not_le.mp fun q => this (Or.inr q)
theorem ic_svk {κ : ic_X} {x : ic_K} {st : List ic_V} (h : x.1 ≠ 26) : ic_sv κ ((.inr (.inr (some x)) : ic_V) :: st) = .ref (ic_ad κ x) :: ic_sv κ st := by rw [← ic_cvk h]; rfl
section IC2
variable {M : ic_M} {pc nx : Nat} {lv lv' : ic_L} {st : List ic_V} {g g1 g' : ic_S} {r : Option ic_V} {a b : Nat}
theorem ev_get {idx : Nat} (ci j : Nat) {x : ic_K} {v : ic_V} {q : vw_C} (hd : ic_at M a b = some (pc, .getfield idx, 3, nx)) (hq : ic_cls[ci]? = some q) (hj : j < q.2.2) (hl0 : Cond.fieldLink M.1.cls idx (q.2.1 j).1 (q.2.1 j).2.1 (q.2.1 j).2.2.1 ∈ lw_gd) (hv : ic_fg ci j g x v) (h : ic_Ev M nx lv (v :: st) g r g') : ic_Ev M pc lv (.inr (.inr (some x)) :: st) g r g' := by
  intro κ A p l e R s m args below meth c cells slots Q B hc K H locs ls hW hl
  obtain ⟨hx, hb, hml, hown, hts, hfr, hlo, hF, hA, hok⟩ := id B
  obtain ⟨hd1, hd2⟩ := ic_okd_at hok hd
  dsimp only at hd1 hd2
  subst hd2
  obtain ⟨hxk, hv⟩ := hv
  obtain ⟨fs, hc1, hv1⟩ := hv κ
  obtain ⟨q0, -, hw⟩ := ic_wsk (κ := κ) (g := g) hxk
  rw [hc1] at hw
  rw [ic_svk (ic_k26 hxk)]
  exact va_get (C := q.1) (T := q.2.1) (N := q.2.2) hx hb hts (ic_cls_in ci q hq) hown hF.1 hW.1 q0 hw hq j hj (hts _ hl0) (fun _ h9 => h9) hv1 hd1 (h κ A p l e R s m args below meth c cells slots Q B hc K H locs ls hW hl)
theorem ev_put {idx : Nat} (ci j : Nat) {x : ic_K} {v : ic_V} {q : vw_C} (hd : ic_at M a b = some (pc, .putfield idx, 3, nx)) (hq : ic_cls[ci]? = some q) (hj : j < q.2.2) (hl0 : Cond.fieldLink M.1.cls idx (q.2.1 j).1 (q.2.1 j).2.1 (q.2.1 j).2.2.1 ∈ lw_gd) (hfin : (q.2.1 j).2.2.2 = false) (hv : ic_fp ci j g x v g1) (h : ic_Ev M nx lv st g1 r g') : ic_Ev M pc lv (v :: .inr (.inr (some x)) :: st) g r g' := by
  intro κ A p l e R s m args below meth c cells slots Q B hc K H locs ls hW hl
  obtain ⟨hx, hb, hml, hown, hts, hfr, hlo, hF, hA, hok⟩ := id B
  obtain ⟨hd1, hd2⟩ := ic_okd_at hok hd
  dsimp only at hd1 hd2
  subst hd2
  obtain ⟨hxk, hv, ho, hg1, hg2, hn⟩ := hv
  obtain ⟨fs, hc1, hc2, hlen⟩ := hv κ
  obtain ⟨q0, hq0, hw⟩ := ic_wsk (κ := κ) (g := g) hxk
  rw [hc1] at hw
  have e3 : ic_sv κ (v :: (.inr (.inr (some x)) : ic_V) :: st) = ic_cv κ v :: .ref (ic_ad κ x) :: ic_sv κ st := by rw [← ic_svk (ic_k26 hxk)]; rfl
  rw [e3]
  refine va_put (C := q.1) (T := q.2.1) (N := q.2.2) hx hb hts (ic_cls_in ci q hq) (ic_ty ci) (ic_cls_ty ci q hq) (ic_cls_nm ci q hq) hown hF.1 hW.1 hW.2.1 hW.2.2.1 q0 hw hq j hj (hts _ hl0) (fun _ h9 => h9) hfin (ic_cls_ty ci q hq j hj) (hn κ).1 (hn κ).2 hlen hd1 (fun H1 locs1 hP hD hS => ?_)
  rw [← hc2, ic_set hq0 (ho κ)] at hP hD
  exact h κ A p l e R s m args below meth c cells slots Q B hc K H1 locs1 ls ⟨hP, hD, hS, hW.2.2.2.to hg1 hg2⟩ hl
theorem ic_tysi (κ : ic_X) {t0 : Nat} (h : t0 < 2) : ∃ ty, (ic_tys κ)[t0]? = some (κ.2.2.1 t0, ty) := by
  rcases (show t0 = 0 ∨ t0 = 1 by omega) with rfl | rfl
  · exact ⟨.int, rfl⟩
  · exact ⟨.byte, rfl⟩
theorem ev_alen {x : ic_K} {t0 n : Nat} {f : Nat → Int32} (v : Int32) (hd : ic_at M a b = some (pc, .arraylength, 1, nx)) (ha : ic_ai t0 n g x f) (hn : Int32.ofNat n = v) (h : ic_Ev M nx lv (ic_I v :: st) g r g') : ic_Ev M pc lv (.inr (.inr (some x)) :: st) g r g' := by
  intro κ A p l e R s m args below meth c cells slots Q B hc K H locs ls hW hl
  obtain ⟨hx, hb, hml, hown, hts, hfr, hlo, hF, hA, hok⟩ := id B
  obtain ⟨hd1, hd2⟩ := ic_okd_at hok hd
  dsimp only at hd1 hd2
  subst hd2
  obtain ⟨hxk, ht0, hc1⟩ := ha
  obtain ⟨q0, -, hw⟩ := ic_wsk (κ := κ) (g := g) hxk
  rw [hc1] at hw
  obtain ⟨ty, hty⟩ := ic_tysi κ ht0
  rw [ic_svk (ic_k26 hxk)]
  exact va_alen hx hb hF.1 hW.1 q0 t0 hw hty hn hd1 (h κ A p l e R s m args below meth c cells slots Q B hc K H locs ls hW hl)
theorem ev_alenr {x : ic_K} {t0 n : Nat} {f : Nat → ic_K} (v : Int32) (hd : ic_at M a b = some (pc, .arraylength, 1, nx)) (ha : ic_ar t0 n g x f) (hn : Int32.ofNat n = v) (h : ic_Ev M nx lv (ic_I v :: st) g r g') : ic_Ev M pc lv (.inr (.inr (some x)) :: st) g r g' := by
  intro κ A p l e R s m args below meth c cells slots Q B hc K H locs ls hW hl
  obtain ⟨hx, hb, hml, hown, hts, hfr, hlo, hF, hA, hok⟩ := id B
  obtain ⟨hd1, hd2⟩ := ic_okd_at hok hd
  dsimp only at hd1 hd2
  subst hd2
  obtain ⟨hxk, ht0, hc1⟩ := ha
  obtain ⟨q0, -, hw⟩ := ic_wsk (κ := κ) (g := g) hxk
  rw [hc1] at hw
  rw [ic_svk (ic_k26 hxk)]
  rcases ht0 with rfl | rfl
  · exact va_alen hx hb hF.1 hW.1 q0 2 hw (ty := .object "IronCall$Thing") rfl hn hd1 (h κ A p l e R s m args below meth c cells slots Q B hc K H locs ls hW hl)
  · exact va_alen hx hb hF.1 hW.1 q0 3 hw (ty := .object "IronCall$Sheet") rfl hn hd1 (h κ A p l e R s m args below meth c cells slots Q B hc K H locs ls hW hl)
theorem ev_iald {x : ic_K} {n : Nat} {f : Nat → Int32} {i : Int32} (hd : ic_at M a b = some (pc, .iaload, 1, nx)) (ha : ic_ai 0 n g x f) (hi : ic_in i n = true) (h : ic_Ev M nx lv (ic_I (f i.toNatClampNeg) :: st) g r g') : ic_Ev M pc lv (ic_I i :: .inr (.inr (some x)) :: st) g r g' := by
  intro κ A p l e R s m args below meth c cells slots Q B hc K H locs ls hW hl
  obtain ⟨hx, hb, hml, hown, hts, hfr, hlo, hF, hA, hok⟩ := id B
  obtain ⟨hd1, hd2⟩ := ic_okd_at hok hd
  dsimp only at hd1 hd2
  subst hd2
  obtain ⟨hxk, -, hc1⟩ := ha
  obtain ⟨q0, -, hw⟩ := ic_wsk (κ := κ) (g := g) hxk
  rw [hc1] at hw
  have e3 : ic_sv κ (ic_I i :: (.inr (.inr (some x)) : ic_V) :: st) = .int i :: .ref (ic_ad κ x) :: ic_sv κ st := by rw [← ic_svk (ic_k26 hxk)]; rfl
  rw [e3]
  exact va_iald hx hb hF.1 hW.1 q0 0 hw rfl (ic_inv hi) hd1 (h κ A p l e R s m args below meth c cells slots Q B hc K H locs ls hW hl)
theorem ev_bald {x : ic_K} {n : Nat} {f : Nat → Int32} {i : Int32} (hd : ic_at M a b = some (pc, .baload, 1, nx)) (ha : ic_ai 1 n g x f) (hi : ic_in i n = true) (h : ic_Ev M nx lv (ic_I (f i.toNatClampNeg) :: st) g r g') : ic_Ev M pc lv (ic_I i :: .inr (.inr (some x)) :: st) g r g' := by
  intro κ A p l e R s m args below meth c cells slots Q B hc K H locs ls hW hl
  obtain ⟨hx, hb, hml, hown, hts, hfr, hlo, hF, hA, hok⟩ := id B
  obtain ⟨hd1, hd2⟩ := ic_okd_at hok hd
  dsimp only at hd1 hd2
  subst hd2
  obtain ⟨hxk, -, hc1⟩ := ha
  obtain ⟨q0, -, hw⟩ := ic_wsk (κ := κ) (g := g) hxk
  rw [hc1] at hw
  have e3 : ic_sv κ (ic_I i :: (.inr (.inr (some x)) : ic_V) :: st) = .int i :: .ref (ic_ad κ x) :: ic_sv κ st := by rw [← ic_svk (ic_k26 hxk)]; rfl
  rw [e3]
  exact va_bald hx hb hF.1 hW.1 q0 1 hw rfl (ic_inv hi) hd1 (h κ A p l e R s m args below meth c cells slots Q B hc K H locs ls hW hl)
theorem ev_iast {x : ic_K} {n : Nat} {f : Nat → Int32} {i v : Int32} (hd : ic_at M a b = some (pc, .iastore, 1, nx)) (hi : ic_in i n = true) (ha : ic_ap 0 n g x f i.toNatClampNeg v g1) (h : ic_Ev M nx lv st g1 r g') : ic_Ev M pc lv (ic_I v :: ic_I i :: .inr (.inr (some x)) :: st) g r g' := by
  intro κ A p l e R s m args below meth c cells slots Q B hc K H locs ls hW hl
  obtain ⟨hx, hb, hml, hown, hts, hfr, hlo, hF, hA, hok⟩ := id B
  obtain ⟨hd1, hd2⟩ := ic_okd_at hok hd
  dsimp only at hd1 hd2
  subst hd2
  obtain ⟨hxk, hc1, ho, hg1, hg2⟩ := ha
  obtain ⟨q0, hq0, hw⟩ := ic_wsk (κ := κ) (g := g) hxk
  rw [(hc1 κ).1] at hw
  have e3 : ic_sv κ (ic_I v :: ic_I i :: (.inr (.inr (some x)) : ic_V) :: st) = .int v :: .int i :: .ref (ic_ad κ x) :: ic_sv κ st := by rw [← ic_svk (ic_k26 hxk)]; rfl
  rw [e3]
  refine va_iast hx hb hF.1 hW.1 hW.2.1 hW.2.2.1 q0 0 hw rfl (ic_inv hi) hd1 (fun H1 locs1 hP hD hS => ?_)
  rw [← (hc1 κ).2, ic_set hq0 (ho κ)] at hP hD
  exact h κ A p l e R s m args below meth c cells slots Q B hc K H1 locs1 ls ⟨hP, hD, hS, hW.2.2.2.to hg1 hg2⟩ hl
theorem ev_bast {x : ic_K} {n : Nat} {f : Nat → Int32} {i v : Int32} (hd : ic_at M a b = some (pc, .bastore, 1, nx)) (hi : ic_in i n = true) (ha : ic_ap 1 n g x f i.toNatClampNeg v.toInt8.toInt32 g1) (h : ic_Ev M nx lv st g1 r g') : ic_Ev M pc lv (ic_I v :: ic_I i :: .inr (.inr (some x)) :: st) g r g' := by
  intro κ A p l e R s m args below meth c cells slots Q B hc K H locs ls hW hl
  obtain ⟨hx, hb, hml, hown, hts, hfr, hlo, hF, hA, hok⟩ := id B
  obtain ⟨hd1, hd2⟩ := ic_okd_at hok hd
  dsimp only at hd1 hd2
  subst hd2
  obtain ⟨hxk, hc1, ho, hg1, hg2⟩ := ha
  obtain ⟨q0, hq0, hw⟩ := ic_wsk (κ := κ) (g := g) hxk
  rw [(hc1 κ).1] at hw
  have e3 : ic_sv κ (ic_I v :: ic_I i :: (.inr (.inr (some x)) : ic_V) :: st) = .int v :: .int i :: .ref (ic_ad κ x) :: ic_sv κ st := by rw [← ic_svk (ic_k26 hxk)]; rfl
  rw [e3]
  refine va_bast hx hb hF.1 hW.1 hW.2.1 hW.2.2.1 q0 1 hw rfl (ic_inv hi) hd1 (fun H1 locs1 hP hD hS => ?_)
  rw [show vp_nar .byte v = v.toInt8.toInt32 from rfl, ← (hc1 κ).2, ic_set hq0 (ho κ)] at hP hD
  exact h κ A p l e R s m args below meth c cells slots Q B hc K H1 locs1 ls ⟨hP, hD, hS, hW.2.2.2.to hg1 hg2⟩ hl
theorem ev_aald {x : ic_K} {t0 n : Nat} {f : Nat → ic_K} {i : Int32} (hd : ic_at M a b = some (pc, .aaload, 1, nx)) (ha : ic_ar t0 n g x f) (hi : ic_in i n = true) (hf : (f i.toNatClampNeg).1 ≠ 26) (h : ic_Ev M nx lv (.inr (.inr (some (f i.toNatClampNeg))) :: st) g r g') : ic_Ev M pc lv (ic_I i :: .inr (.inr (some x)) :: st) g r g' := by
  intro κ A p l e R s m args below meth c cells slots Q B hc K H locs ls hW hl
  obtain ⟨hx, hb, hml, hown, hts, hfr, hlo, hF, hA, hok⟩ := id B
  obtain ⟨hd1, hd2⟩ := ic_okd_at hok hd
  dsimp only at hd1 hd2
  subst hd2
  obtain ⟨hxk, ht0, hc1⟩ := ha
  obtain ⟨q0, -, hw⟩ := ic_wsk (κ := κ) (g := g) hxk
  rw [hc1] at hw
  have e3 : ic_sv κ (ic_I i :: (.inr (.inr (some x)) : ic_V) :: st) = .int i :: .ref (ic_ad κ x) :: ic_sv κ st := by rw [← ic_svk (ic_k26 hxk)]; rfl
  rw [e3]
  have h2 := h κ A p l e R s m args below meth c cells slots Q B hc K H locs ls hW hl
  rw [ic_svk hf] at h2
  rcases ht0 with rfl | rfl
  · exact va_aldq hx hb hF.1 hW.1 q0 2 (C := "IronCall$Thing") hw rfl (ic_inv hi) hd1 h2
  · exact va_aldq hx hb hF.1 hW.1 q0 3 (C := "IronCall$Sheet") hw rfl (ic_inv hi) hd1 h2
theorem ev_copy {idx : Nat} {x y : ic_K} {n0 n1 : Nat} {f1 f2 : Nat → Int32} {sp dp n : Int32} (hd : ic_at M a b = some (pc, .invokestatic idx, 3, nx)) (hl0 : Cond.methodLink M.1.cls idx arraycopyName ∈ lw_gd) (hnat : Cond.native arraycopyName ∈ lw_gd ∧ Cond.static arraycopyName ∈ lw_gd ∧ Cond.initialized "java/lang/System" ∈ lw_gd) (hroom : 1 ≤ M.2.2.2.2.1 ∧ 8 + (nativeFrameWords "java/lang/System" "arraycopy" 5 + 11) ≤ M.2.2.2.2.2.1) (hst : (st.map ic_cat).sum ≤ 8) (ha : ic_ai 0 n0 g x f1) (hb0 : ic_ai 0 n1 g y f2) (h1 : ¬ sp < 0) (h2 : ¬ dp < 0) (h3 : ¬ n < 0) (h4 : sp.toNatClampNeg + n.toNatClampNeg ≤ n0) (h5 : dp.toNatClampNeg + n.toNatClampNeg ≤ n1)
    (ho : ∀ κ : ic_X, ic_cel κ g1 y = .inl (κ.2.2.1 0, n1, .inl (va_cpy f1 f2 sp.toNatClampNeg dp.toNatClampNeg n.toNatClampNeg)) ∧ ∀ z ∈ ic_keys, z ≠ y → ic_cel κ g1 z = ic_cel κ g z) (hg1 : (∀ i, g1.1 40 i = g.1 40 i) ∧ g1.1 41 0 = g.1 41 0) (h : ic_Ev M nx lv st g1 r g') : ic_Ev M pc lv (ic_I n :: ic_I dp :: .inr (.inr (some y)) :: ic_I sp :: .inr (.inr (some x)) :: st) g r g' := by
  intro κ A p l e R s m args below meth c cells slots Q B hc K H locs ls hW hl
  obtain ⟨hx, hb, hml, hown, hts, hfr, hlo, hF, hA, hok⟩ := id B
  obtain ⟨hd1, hd2⟩ := ic_okd_at hok hd
  dsimp only at hd1 hd2
  subst hd2
  obtain ⟨hxk, -, hc1⟩ := ha
  obtain ⟨hyk, -, hc2⟩ := hb0
  obtain ⟨q0, -, hw⟩ := ic_wsk (κ := κ) (g := g) hxk
  obtain ⟨q1, hq1, hw1⟩ := ic_wsk (κ := κ) (g := g) hyk
  rw [hc1] at hw
  rw [hc2] at hw1
  have e3 : ic_sv κ (ic_I n :: ic_I dp :: (.inr (.inr (some y)) : ic_V) :: ic_I sp :: (.inr (.inr (some x)) : ic_V) :: st) = .int n :: .int dp :: .ref (ic_ad κ y) :: .int sp :: .ref (ic_ad κ x) :: ic_sv κ st := by rw [← ic_svk (ic_k26 hxk), ← ic_cvk (κ := κ) (ic_k26 hyk)]; rfl
  rw [e3]
  have hs0 : ((ic_sv κ st).map fun v => v.category).sum ≤ 8 := by
    unfold ic_sv
    rw [List.map_map, show ((fun v : Value => v.category) ∘ ic_cv κ) = ic_cat from funext fun v => ic_cvcat κ v]
    exact hst
  refine va_copyi hx hb (hml.trans hl.1.symm) hown (hts _ hl0) (hts _ hnat.1) (hts _ hnat.2.1) (hts _ hnat.2.2) hF.1 hW.1 hW.2.1 hW.2.2.1 q0 q1 0 0 hw hw1 (ty := .int) rfl rfl rfl h1 h2 h3 h4 h5 (fun _ _ => rfl) (by omega) (by omega) hd1 (fun H1 locs1 hP hD hS => ?_)
  rw [← (ho κ).1, ic_set hq1 (ho κ).2] at hP hD
  exact h κ A p l e R s m args below meth c cells slots Q B hc K H1 locs1 ls ⟨hP, hD, hS, hW.2.2.2.to hg1.1 hg1.2⟩ hl
/-! String constants, the static, the script -/
theorem ev_ldcs {idx : Nat} {tx : String} (i : Nat) (hd : ic_at M a b = some (pc, .ldc idx, 2, nx)) (hM : M.1.cls = "IronCall$Tokens") (hi : ic_str[i]? = some (idx, tx)) (h : ic_Ev M nx lv (ic_R 24 i 0 :: st) g r g') : ic_Ev M pc lv st g r g' := by
  intro κ A p l e R s m args below meth c cells slots Q B hc K H locs ls hW hl
  obtain ⟨hx, hb, hml, hown, hts, hfr, hlo, hF, hA, hok⟩ := id B
  obtain ⟨hd1, hd2⟩ := ic_okd_at hok hd
  dsimp only at hd1 hd2
  subst hd2
  have h2 := h κ A p l e R s m args below meth c cells slots Q B hc K H locs ls hW hl
  rw [ic_svk (show (24 : Nat) ≠ 26 by decide)] at h2
  rw [hM] at hown
  exact va_ldcS hx hb hown (hF.2.2.1 i _ hi) hd1 h2
theorem ev_sval {idx i : Nat} (hi : i < 16) (hd : ic_at M a b = some (pc, .getfield idx, 3, nx)) (hl0 : Cond.fieldLink M.1.cls idx "java/lang/String" "value" "[B" ∈ lw_gd) (h : ic_Ev M nx lv (ic_R 25 i 0 :: st) g r g') : ic_Ev M pc lv (ic_R 24 i 0 :: st) g r g' := by
  intro κ A p l e R s m args below meth c cells slots Q B hc K H locs ls hW hl
  obtain ⟨hx, hb, hml, hown, hts, hfr, hlo, hF, hA, hok⟩ := id B
  obtain ⟨hd1, hd2⟩ := ic_okd_at hok hd
  dsimp only at hd1 hd2
  subst hd2
  have h2 := h κ A p l e R s m args below meth c cells slots Q B hc K H locs ls hW hl
  rw [ic_svk (show (25 : Nat) ≠ 26 by decide)] at h2
  rw [ic_svk (show (24 : Nat) ≠ 26 by decide)]
  exact vk_getf hx hb (hF.2.1.1 i hi).2.2.1 hW.2.2.1 hown (hts _ hl0) (fun _ h9 => h9) hd1 h2
theorem ev_scod {idx i : Nat} (hi : i < 16) (hd : ic_at M a b = some (pc, .getfield idx, 3, nx)) (hl0 : Cond.fieldLink M.1.cls idx "java/lang/String" "coder" "B" ∈ lw_gd) (h : ic_Ev M nx lv (ic_I 0 :: st) g r g') : ic_Ev M pc lv (ic_R 24 i 0 :: st) g r g' := by
  intro κ A p l e R s m args below meth c cells slots Q B hc K H locs ls hW hl
  obtain ⟨hx, hb, hml, hown, hts, hfr, hlo, hF, hA, hok⟩ := id B
  obtain ⟨hd1, hd2⟩ := ic_okd_at hok hd
  dsimp only at hd1 hd2
  subst hd2
  have h2 := h κ A p l e R s m args below meth c cells slots Q B hc K H locs ls hW hl
  rw [ic_svk (show (24 : Nat) ≠ 26 by decide)]
  exact vk_getf hx hb (hF.2.1.1 i hi).2.1 hW.2.2.1 hown (hts _ hl0) (fun _ h9 => h9) hd1 h2
theorem ev_slen {i : Nat} (v : Int32) (hi : i < 16) (hv : Int32.ofNat (ic_slen.getD i 0) = v) (hd : ic_at M a b = some (pc, .arraylength, 1, nx)) (h : ic_Ev M nx lv (ic_I v :: st) g r g') : ic_Ev M pc lv (ic_R 25 i 0 :: st) g r g' := by
  intro κ A p l e R s m args below meth c cells slots Q B hc K H locs ls hW hl
  obtain ⟨hx, hb, hml, hown, hts, hfr, hlo, hF, hA, hok⟩ := id B
  obtain ⟨hd1, hd2⟩ := ic_okd_at hok hd
  dsimp only at hd1 hd2
  subst hd2
  rw [ic_svk (show (25 : Nat) ≠ 26 by decide)]
  exact va_tlen hx hb (hF.2.1.1 i hi).2.2.2 hW.2.2.1 hv hd1 (h κ A p l e R s m args below meth c cells slots Q B hc K H locs ls hW hl)
theorem ev_sbald {i : Nat} {k : Int32} (hi : i < 16) (hk : ic_in k (ic_slen.getD i 0) = true) (hd : ic_at M a b = some (pc, .baload, 1, nx)) (h : ic_Ev M nx lv (ic_I ((ic_sbyt.getD i []).getD k.toNatClampNeg 0) :: st) g r g') : ic_Ev M pc lv (ic_I k :: ic_R 25 i 0 :: st) g r g' := by
  intro κ A p l e R s m args below meth c cells slots Q B hc K H locs ls hW hl
  obtain ⟨hx, hb, hml, hown, hts, hfr, hlo, hF, hA, hok⟩ := id B
  obtain ⟨hd1, hd2⟩ := ic_okd_at hok hd
  dsimp only at hd1 hd2
  subst hd2
  have e3 : ic_sv κ (ic_I k :: ic_R 25 i 0 :: st) = .int k :: .ref (ic_ad κ (25, i, 0)) :: ic_sv κ st := by rw [← ic_svk (show (25 : Nat) ≠ 26 by decide)]; rfl
  rw [e3]
  exact va_tb hx hb (hF.2.1.1 i hi).2.2.2 hW.2.2.1 (ic_inv hk) rfl hd1 (h κ A p l e R s m args below meth c cells slots Q B hc K H locs ls hW hl)
theorem ev_compact {idx : Nat} (hd : ic_at M a b = some (pc, .getstatic idx, 3, nx)) (hl0 : Cond.fieldLink M.1.cls idx "java/lang/String" "COMPACT_STRINGS" "Z" ∈ lw_gd) (h : ic_Ev M nx lv (ic_I 1 :: st) g r g') : ic_Ev M pc lv st g r g' := by
  intro κ A p l e R s m args below meth c cells slots Q B hc K H locs ls hW hl
  obtain ⟨hx, hb, hml, hown, hts, hfr, hlo, hF, hA, hok⟩ := id B
  obtain ⟨hd1, hd2⟩ := ic_okd_at hok hd
  dsimp only at hd1 hd2
  subst hd2
  exact va_gets hx hb hF.2.2.2.1 hW.2.2.1 hown (hts _ hl0) (fun _ h9 => h9) hd1 (h κ A p l e R s m args below meth c cells slots Q B hc K H locs ls hW hl)
theorem ev_mmax {idx : Nat} {x y : Int32} (hd : ic_at M a b = some (pc, .invokestatic idx, 3, nx)) (hl0 : Cond.methodLink M.1.cls idx Lib.Math.max.name ∈ lw_gd) (hm : Cond.static Lib.Math.max.name ∈ lw_gd ∧ Cond.initialized "java/lang/Math" ∈ lw_gd ∧ Cond.code Lib.Math.max.name Lib.Math.max.code 2 (some .int) ∈ lw_gd) (hroom : (Nat.ble 1 M.2.2.2.2.1 && Nat.ble 21 M.2.2.2.2.2.1) = true) (hst : (st.map ic_cat).sum ≤ 8) (h : ic_Ev M nx lv (ic_I (if x < y then y else x) :: st) g r g') : ic_Ev M pc lv (ic_I y :: ic_I x :: st) g r g' := by
  intro κ A p l e R s m args below meth c cells slots Q B hc K H locs ls hW hl
  obtain ⟨hx, hb, hml, hown, hts, hfr, hlo, hF, hA, hok⟩ := id B
  obtain ⟨hd1, hd2⟩ := ic_okd_at hok hd
  dsimp only at hd1 hd2
  subst hd2
  rw [Bool.and_eq_true] at hroom
  have r1 := Nat.le_of_ble_eq_true hroom.1
  have r2 := Nat.le_of_ble_eq_true hroom.2
  have hs0 : ((ic_sv κ st).map fun v => v.category).sum ≤ 8 := by
    unfold ic_sv
    rw [List.map_map, show ((fun v : Value => v.category) ∘ ic_cv κ) = ic_cat from funext fun v => ic_cvcat κ v]
    exact hst
  exact va_mmax (rest := ic_sv κ st) hx hb (hml.trans hl.1.symm) hown (hts _ hl0) (hts _ hm.1) (hts _ hm.2.1) (hts _ hm.2.2) (by omega) (by omega) hc.1 hc.2 hd1 (h κ A p l e R s m args below meth c cells slots Q B hc K H locs ls hW hl)
theorem ev_mmin {idx : Nat} {x y : Int32} (hd : ic_at M a b = some (pc, .invokestatic idx, 3, nx)) (hl0 : Cond.methodLink M.1.cls idx Lib.Math.min.name ∈ lw_gd) (hm : Cond.static Lib.Math.min.name ∈ lw_gd ∧ Cond.initialized "java/lang/Math" ∈ lw_gd ∧ Cond.code Lib.Math.min.name Lib.Math.min.code 2 (some .int) ∈ lw_gd) (hroom : (Nat.ble 1 M.2.2.2.2.1 && Nat.ble 21 M.2.2.2.2.2.1) = true) (hst : (st.map ic_cat).sum ≤ 8) (h : ic_Ev M nx lv (ic_I (if y < x then y else x) :: st) g r g') : ic_Ev M pc lv (ic_I y :: ic_I x :: st) g r g' := by
  intro κ A p l e R s m args below meth c cells slots Q B hc K H locs ls hW hl
  obtain ⟨hx, hb, hml, hown, hts, hfr, hlo, hF, hA, hok⟩ := id B
  obtain ⟨hd1, hd2⟩ := ic_okd_at hok hd
  dsimp only at hd1 hd2
  subst hd2
  rw [Bool.and_eq_true] at hroom
  have r1 := Nat.le_of_ble_eq_true hroom.1
  have r2 := Nat.le_of_ble_eq_true hroom.2
  have hs0 : ((ic_sv κ st).map fun v => v.category).sum ≤ 8 := by
    unfold ic_sv
    rw [List.map_map, show ((fun v : Value => v.category) ∘ ic_cv κ) = ic_cat from funext fun v => ic_cvcat κ v]
    exact hst
  exact va_mmin (rest := ic_sv κ st) hx hb (hml.trans hl.1.symm) hown (hts _ hl0) (hts _ hm.1) (hts _ hm.2.1) (hts _ hm.2.2) (by omega) (by omega) hc.1 hc.2 hd1 (h κ A p l e R s m args below meth c cells slots Q B hc K H locs ls hW hl)
theorem ev_mabs {idx : Nat} {x : Int32} (hd : ic_at M a b = some (pc, .invokestatic idx, 3, nx)) (hl0 : Cond.methodLink M.1.cls idx Lib.Math.abs.name ∈ lw_gd) (hm : Cond.static Lib.Math.abs.name ∈ lw_gd ∧ Cond.initialized "java/lang/Math" ∈ lw_gd ∧ Cond.code Lib.Math.abs.name Lib.Math.abs.code 1 (some .int) ∈ lw_gd) (hroom : (Nat.ble 1 M.2.2.2.2.1 && Nat.ble 21 M.2.2.2.2.2.1) = true) (hst : (st.map ic_cat).sum ≤ 8) (h : ic_Ev M nx lv (ic_I (if 0 ≤ x then x else 0 - x) :: st) g r g') : ic_Ev M pc lv (ic_I x :: st) g r g' := by
  intro κ A p l e R s m args below meth c cells slots Q B hc K H locs ls hW hl
  obtain ⟨hx, hb, hml, hown, hts, hfr, hlo, hF, hA, hok⟩ := id B
  obtain ⟨hd1, hd2⟩ := ic_okd_at hok hd
  dsimp only at hd1 hd2
  subst hd2
  rw [Bool.and_eq_true] at hroom
  have r1 := Nat.le_of_ble_eq_true hroom.1
  have r2 := Nat.le_of_ble_eq_true hroom.2
  have hs0 : ((ic_sv κ st).map fun v => v.category).sum ≤ 8 := by
    unfold ic_sv
    rw [List.map_map, show ((fun v : Value => v.category) ∘ ic_cv κ) = ic_cat from funext fun v => ic_cvcat κ v]
    exact hst
  exact va_mabs (rest := ic_sv κ st) hx hb (hml.trans hl.1.symm) hown (hts _ hl0) (hts _ hm.1) (hts _ hm.2.1) (hts _ hm.2.2) (by omega) (by omega) hc.1 hc.2 hd1 (h κ A p l e R s m args below meth c cells slots Q B hc K H locs ls hW hl)
theorem ev_fmt {idx : Nat} (hd : ic_at M a b = some (pc, .getstatic idx, 3, nx)) (hl0 : Cond.fieldLink M.1.cls idx "jdk/internal/util/Preconditions" "SIOOBE_FORMATTER" "Ljava/util/function/BiFunction;" ∈ lw_gd) (h : ic_Ev M nx lv (ic_R 26 0 0 :: st) g r g') : ic_Ev M pc lv st g r g' := by
  intro κ A p l e R s m args below meth c cells slots Q B hc K H locs ls hW hl
  obtain ⟨hx, hb, hml, hown, hts, hfr, hlo, hF, hA, hok⟩ := id B
  obtain ⟨hd1, hd2⟩ := ic_okd_at hok hd
  dsimp only at hd1 hd2
  subst hd2
  exact va_gets hx hb hF.2.2.2.2.1 hW.2.2.1 hown (hts _ hl0) (fun _ h9 => h9) hd1 (h κ A p l e R s m args below meth c cells slots Q B hc K H locs ls hW hl)
theorem ev_xlen (hd : ic_at M a b = some (pc, .arraylength, 1, nx)) (h : ic_Ev M nx lv (ic_I (g.1 41 0) :: st) g r g') : ic_Ev M pc lv (ic_R 27 0 0 :: st) g r g' := by
  intro κ A p l e R s m args below meth c cells slots Q B hc K H locs ls hW hl
  obtain ⟨hx, hb, hml, hown, hts, hfr, hlo, hF, hA, hok⟩ := id B
  obtain ⟨hd1, hd2⟩ := ic_okd_at hok hd
  dsimp only at hd1 hd2
  subst hd2
  obtain ⟨L, xs, hX, hxs, hL, hbl, hbA⟩ := hW.2.2.2
  have h2 := h κ A p l e R s m args below meth c cells slots Q B hc K H locs ls hW hl
  rw [← hL] at h2
  rw [ic_svk (show (27 : Nat) ≠ 26 by decide)]
  exact va_slen hx hb hX hbl hbA hW.2.2.1 hd1 h2
theorem ev_xald {i : Int32} (hi : 0 ≤ i.toInt ∧ i.toInt < (g.1 41 0).toInt) (hd : ic_at M a b = some (pc, .iaload, 1, nx)) (h : ic_Ev M nx lv (ic_I (g.1 40 i.toNatClampNeg) :: st) g r g') : ic_Ev M pc lv (ic_I i :: ic_R 27 0 0 :: st) g r g' := by
  intro κ A p l e R s m args below meth c cells slots Q B hc K H locs ls hW hl
  obtain ⟨hx, hb, hml, hown, hts, hfr, hlo, hF, hA, hok⟩ := id B
  obtain ⟨hd1, hd2⟩ := ic_okd_at hok hd
  dsimp only at hd1 hd2
  subst hd2
  obtain ⟨L, xs, hX, hxs, hL, hbl, hbA⟩ := hW.2.2.2
  have h2 := h κ A p l e R s m args below meth c cells slots Q B hc K H locs ls hW hl
  have hlt : i.toNatClampNeg < L := by
    have hm : (Int32.ofNat L).toInt ≤ (L : Int) := by
      rw [Int32.toInt_ofNat', show Int32.size = 4294967296 from rfl, Int.bmod_eq_emod]; split <;> omega
    rw [← hL] at hi
    show i.toInt.toNat < L
    omega
  have hin : vp_in i L := vp_in_iff.mpr ⟨hi.1, by have e : i.toNatClampNeg = i.toInt.toNat := rfl; omega⟩
  rw [← hxs _ hlt] at h2
  have e3 : ic_sv κ (ic_I i :: ic_R 27 0 0 :: st) = .int i :: .ref (ic_ad κ (27, 0, 0)) :: ic_sv κ st := by rw [← ic_svk (show (27 : Nat) ≠ 26 by decide)]; rfl
  rw [e3]
  exact va_sld hx hb hX hbl hbA hW.2.2.1 hin hd1 h2
end IC2
