/-! calls -/
def ic_A (κ : ic_X) : Nat → Prop := fun q => ∃ x ∈ ic_keys, q = ic_ad κ x
def ic_Y (κ : ic_X) (g : ic_S) (U : State) : Prop := ic_F κ (ic_A κ) U ∧ va_P κ.2.1 ic_cls (ic_ws κ g) U.heap ∧ va_D (ic_A κ) (ic_ws κ g) ∧ ic_G κ (ic_A κ) g U
def ic_Qc (κ : ic_X) (v : Option ic_V) (g' : ic_S) : Array Value → State → Outcome → State → Prop := fun _ st oc t =>
  oc = .returned (v.map (ic_cv κ)) ∧ (va_P κ.2.1 ic_cls (ic_ws κ g') t.heap ∧ va_D (ic_A κ) (ic_ws κ g') ∧ ic_G κ (ic_A κ) g' st) ∧ va_F (ic_A κ) st t
theorem ic_F.to {κ : ic_X} {A B : Nat → Prop} {s U : State} {H : Heap} {locs : List Loc} (h : ic_F κ A s) (hS : va_S A s.heap H locs) (hU : U.heap = H) (hW : s.WarmedH U.vm) (hAB : ∀ q, B q → A q) : ic_F κ B U := by
  obtain ⟨h1, h2, h3, h4, h6, h5⟩ := h
  refine ⟨h1.moved hW.alike, ?_, fun i q hq => vk_R.warm hW (h3 i q hq), ?_, ?_, fun q hq => va_Nw.warmM hW (h5 q hq)⟩
  · rw [hU]
    exact ((h2.kept hS.2.1).moved hW.alike).narrow hAB
  · rw [hU]
    exact ((h4.kept hS.2.1).moved hW.alike).narrow hAB
  · rw [hU]
    exact ((h6.kept hS.2.1).moved hW.alike).narrow hAB
theorem ic_G.at {κ : ic_X} {A B : Nat → Prop} {g : ic_S} {s U : State} {H : Heap} {locs : List Loc} (h : ic_G κ A g s) (hS : va_S A s.heap H locs) (hU : U.heap = H) (hW : s.vm.Alike U.vm) (hAB : ∀ q, B q → A q) : ic_G κ B g U := by
  obtain ⟨L, xs, a1, a2, a3, a4, a5⟩ := h
  refine ⟨L, xs, ?_, a2, a3, ?_, fun z => a5 (hAB _ z)⟩
  · rw [hU]
    exact (a1.kept (hS.2.1 _ a4 a5)).moved hW
  · rw [hU]
    exact Nat.lt_of_lt_of_le a4 hS.1
theorem ic_G.back {κ : ic_X} {A B : Nat → Prop} {g g' : ic_S} {s U : State} {H : Heap} {locs : List Loc} (h : ic_G κ A g s) (hS : va_S A s.heap H locs) (hU : U.heap = H) (h2 : ic_G κ B g' U) : ic_G κ A g' s := by
  obtain ⟨L, xs, ⟨scr, b1, b2, b3, b4, b5⟩, a2, a3, a4, a5⟩ := h
  obtain ⟨L', xs', ⟨scr', c1, c2, c3, c4, c5⟩, d2, d3, d4, d5⟩ := h2
  rw [hU, hS.2.1 _ a4 a5, b1] at c1
  cases c1
  have hL : L' = L := c4.symm.trans b4
  subst hL
  refine ⟨L', xs, ⟨scr, b1, b2, b3, b4, b5⟩, fun j hj => ?_, d3, a4, a5⟩
  have e1 := (b5 j hj).symm.trans (c5 j hj)
  rw [← d2 j hj]
  exact Value.int.inj (Option.some.inj e1)
theorem ic_wsD {κ : ic_X} {A B : Nat → Prop} {g : ic_S} (h : va_D A (ic_ws κ g)) (hB : ∀ x ∈ ic_keys, B (ic_ad κ x)) : va_D B (ic_ws κ g) := by
  refine h.weaken fun k q hq _ => ?_
  obtain ⟨x, hx, e⟩ := List.mem_map.mp (List.mem_of_getElem? hq)
  rw [← e]
  exact hB x hx
theorem ic_Y.of {κ : ic_X} {A : Nat → Prop} {g : ic_S} {s U : State} {H : Heap} {locs : List Loc} (hF : ic_F κ A s) (hW : ic_W κ A g s H locs) (hA : ∀ x ∈ ic_keys, A (ic_ad κ x)) (hU : U.heap = H) (hv : s.WarmedH U.vm) : ic_Y κ g U := by
  have hAB : ∀ q, ic_A κ q → A q := fun q ⟨x, hx, e⟩ => by rw [e]; exact hA x hx
  refine ⟨hF.to hW.2.2.1 hU hv hAB, by rw [hU]; exact hW.1, ic_wsD hW.2.1 fun x hx => ⟨x, hx, rfl⟩, hW.2.2.2.at hW.2.2.1 hU hv.alike hAB⟩
theorem ic_Y.blind {κ : ic_X} {g : ic_S} {av : List Value} : FrameBlind (va_Pc av (ic_Y κ g)) := by
  intro a U f mk h
  obtain ⟨h0, ⟨h1, h2, h3, h4, h6, h5⟩, hP, hD, L, xs, a1, a2⟩ := h
  refine ⟨h0, ⟨va_K.moved (u := U) (U := U.calling f mk a) (Vm.Alike.refl U.vm) h1, vk_S.moved (u := U) (U := U.calling f mk a) (Vm.Alike.refl U.vm) h2, fun i q hq => vk_R.same (u := U) (U := U.calling f mk a) rfl (h3 i q hq), va_Z.moved (u := U) (U := U.calling f mk a) (Vm.Alike.refl U.vm) h4, va_Z.moved (u := U) (U := U.calling f mk a) (Vm.Alike.refl U.vm) h6, fun q hq => va_Nw.same (u := U) (U := U.calling f mk a) rfl rfl (h5 q hq)⟩, hP, hD, L, xs, va_X.moved (u := U) (U := U.calling f mk a) (Vm.Alike.refl U.vm) a1, a2⟩
def ic_ag : Nat → List ic_V → ic_L
  | _, [] => []
  | i, v :: vs => (i, v) :: ic_ag (i + ic_cat v) vs
theorem ic_cat12 (v : ic_V) : ic_cat v = 1 ∨ ic_cat v = 2 := by
  rcases v with x | x | o
  · exact Or.inl rfl
  · exact Or.inr rfl
  · exact Or.inl rfl
theorem ic_ag_eq (κ : ic_X) : ∀ (as : List ic_V) (i : Nat), ic_lv κ (ic_ag i as) = lv_args i (as.map (ic_cv κ))
  | [], _ => rfl
  | v :: vs, i => by
    show (i, ic_cv κ v) :: ic_lv κ (ic_ag (i + ic_cat v) vs) = (i, ic_cv κ v) :: lv_args (if (ic_cv κ v).category = 2 then i + 2 else i + 1) (vs.map (ic_cv κ))
    rw [ic_ag_eq κ vs, ic_cvcat]
    rcases ic_cat12 v with e | e <;> rw [e] <;> rfl
theorem ic_slw (κ : ic_X) : ∀ as : List ic_V, (lg_sl (as.map (ic_cv κ))).length = (as.map ic_cat).sum
  | [] => rfl
  | v :: vs => by
    have ih := ic_slw κ vs
    unfold lg_sl at ih ⊢
    rw [List.map_cons, List.flatMap_cons, List.length_append, List.map_cons, List.sum_cons, ih, ic_cvcat]
    rcases ic_cat12 v with e | e <;> rw [e] <;> rfl
abbrev ic_rm (M : ic_M) : Room := { frames := M.2.2.2.2.1, cells := 0, slots := 0, locals := M.2.2.2.2.2.1 }
abbrev ic_wd (M : ic_M) : List Cond := Cond.code M.1 M.2.1 M.2.2.1 M.2.2.2.1 :: lw_gd
theorem ic_met {M : ic_M} {as : List ic_V} {g g' : ic_S} {r : Option ic_V} (hok : ic_okd M = true) (hpl : plainName M.1.cls = true) (hn : (as.map ic_cat).sum ≤ M.2.2.1) (h : ic_Ev M 0 (ic_ag 0 as) [] g r g') (κ : ic_X) (l : Launch) :
    Met l M.1 (ic_wd M) (ic_rm M) (va_Pc (as.map (ic_cv κ)) (ic_Y κ g)) (ic_Qc κ r g') 0 0 (ic_A κ) := by
  refine Met.ofW (cc := M.2.1) (maxL := M.2.2.1) (ret := M.2.2.2.1) hpl rfl ?_
  intro p e s m args below meth c s₁ B hml hv
  obtain ⟨rfl, hF, hP, hD, hG⟩ := hv
  have hx := B.exec
  have hb := B.bytes
  have hr := B.returns
  have hts := atoms_spec (ws := ic_wd M) B.pre
  have hown : s.vm.findClass M.1.cls = some m.cls := findClass_of_methodNamed B.named
  have hlocks := B.notSynchronized
  have hl := lv_entry (as.map (ic_cv κ)) (n := M.2.2.1) (by rw [ic_slw]; exact hn)
  rw [lg_entry_eq]
  refine h κ (ic_A κ) p l e _ s m _ below meth c 0 0 _ ⟨hx, hb, hml, hown, fun w hw => hts w (List.mem_cons_of_mem _ hw), Nat.le_refl _, Nat.le_refl _, hF, fun x hx => ⟨x, hx, rfl⟩, hok⟩ ⟨Nat.zero_le _, Nat.zero_le _⟩ ?_ s.heap [] _ ⟨hP, hD, va_S.rf, hG⟩ (by rw [ic_ag_eq]; exact hl)
  intro H locs pc1 ls hR hW
  obtain ⟨hP1, hD1, hS1, hG1⟩ := hW
  rcases r with _ | v | v | o
  · exact W.vret hx hb (by rw [hr]; exact hR.2) (fun t ht _ => ⟨rfl, ⟨by rw [ht]; exact hP1, hD1, hG1⟩, hS1.F ht⟩) hS1.2.2 hR.1 hlocks
  · obtain ⟨h1, ty, h2, h3⟩ := hR
    exact W.zret hx hb (by rw [hr]; exact h2) h3 (fun t ht _ => ⟨rfl, ⟨by rw [ht]; exact hP1, hD1, hG1⟩, hS1.F ht⟩) hS1.2.2 h1 hlocks
  · exact W.lret hx hb (by rw [hr]; exact hR.2) (fun t ht _ => ⟨rfl, ⟨by rw [ht]; exact hP1, hD1, hG1⟩, hS1.F ht⟩) hS1.2.2 hR.1 hlocks
  · obtain ⟨h1, rt, h2, h3⟩ := hR
    exact W.aret hx hb (by rw [hr]; exact h2) h3 (ic_cvnr κ o) (fun t ht _ => ⟨rfl, ⟨by rw [ht]; exact hP1, hD1, hG1⟩, hS1.F ht⟩) hS1.2.2 h1 hlocks
section ICR
variable {p : Program} {l : Launch} {e : Env} {R : Room} {s : State} {m : MethodId} {args : Array Value} {below : List Frame} {meth : Method} {c : Code} {H : Heap} {locs : List Loc} {cells slots : Nat} {Q : State → Prop}
theorem ic_run {κ : ic_X} {A : Nat → Prop} {g g1 : ic_S} {v : Option ic_V} {pc : Nat} {ls : Array Slot} {st0 rest : List Value} {a : Array Value} (hr : va_Run p l e R s m args below meth c H locs cells slots 0 0 (F0 m pc ls st0) rest (ic_Qc κ v g1 a) (ic_A κ)) (hW : ic_W κ A g s H locs) (hA : ∀ x ∈ ic_keys, A (ic_ad κ x))
    (kk : ∀ (H1 : Heap) (locs1 : List Loc), ic_W κ A g1 s H1 locs1 → W p l e R s m args below meth c H1 locs1 cells slots Q (F0 m (pc + 3) ls ((v.map (ic_cv κ)).toList ++ rest))) : W p l e R s m args below meth c H locs cells slots Q (F0 m pc ls st0) := by
  intro T hT X
  obtain ⟨v', st₀, t, T', L, h0, X', hL, e1, e2, ⟨hv, ⟨hP, hD, hG⟩, hz, hk⟩, st⟩ := hr T hT X
  cases hv
  rw [h0] at hz hk
  obtain ⟨hP0, hD0, hS, hG0⟩ := hW
  have hA' : ∀ q, ic_A κ q → A q := fun q ⟨x, hx, e⟩ => by rw [e]; exact hA x hx
  have hS1 : va_S A s.heap T'.heap (locs ++ L) := ⟨Nat.le_trans hS.1 (by rw [e1]; exact hz), fun q h1 h2 => by rw [e1, hk q (Nat.lt_of_lt_of_le h1 hS.1) (fun z => h2 (hA' q z))]; exact hS.2.1 q h1 h2, fun q hq => by
      rcases List.mem_append.mp hq with h | h
      · exact hS.2.2 q h
      · exact hA' _ (hL q h)⟩
  obtain ⟨t2, a1, b1⟩ := kk T'.heap (locs ++ L) ⟨by rw [e1]; exact hP, ic_wsD hD hA, hS1, hG0.back hS h0 hG⟩ T' rfl X'
  exact ⟨t2, st t2 a1, b1⟩
end ICR
def ic_ok0 (N : ic_M) (n : Nat) : Prop := ic_okd N = true ∧ plainName N.1.cls = true ∧ Cond.code N.1 N.2.1 N.2.2.1 N.2.2.2.1 ∈ lw_gd ∧ Cond.initialized N.1.cls ∈ lw_gd ∧ N.1.cls ≠ "java/lang/invoke/MethodHandle" ∧ N.1.cls ≠ "java/lang/invoke/VarHandle" ∧ (parseMethodDescriptor N.1.desc).map (fun d => d.parameters.length) = some n
def ic_okv (N : ic_M) (n : Nat) : Prop := ic_ok0 N n ∧ Cond.instanceMethod N.1 ∈ lw_gd ∧ Cond.selects N.1.cls N.1 N.1 ∈ lw_gd
def ic_oks (N : ic_M) (n : Nat) : Prop := ic_ok0 N n ∧ Cond.static N.1 ∈ lw_gd
def ic_rom (M N : ic_M) : Bool := Nat.ble (N.2.2.2.2.1 + 1) M.2.2.2.2.1 && Nat.ble (8 + (N.2.2.1 + 11) + N.2.2.2.2.2.1) M.2.2.2.2.2.1
theorem ic_rom_at {M N : ic_M} (h : ic_rom M N = true) {R : Room} (h1 : M.2.2.2.2.1 ≤ R.frames) (h2 : M.2.2.2.2.2.1 ≤ R.locals) : N.2.2.2.2.1 + 1 ≤ R.frames ∧ 8 + (N.2.2.1 + 11) + N.2.2.2.2.2.1 ≤ R.locals := by
  unfold ic_rom at h
  rw [Bool.and_eq_true] at h
  exact ⟨Nat.le_trans (Nat.le_of_ble_eq_true h.1) h1, Nat.le_trans (Nat.le_of_ble_eq_true h.2) h2⟩
theorem ic_goodwd {N : ic_M} (h : Cond.code N.1 N.2.1 N.2.2.1 N.2.2.2.1 ∈ lw_gd) : GoodIn lw_gd (ic_wd N) := fun w hw => by
  rcases List.mem_cons.mp hw with rfl | hw
  · exact lw_gd_good _ h
  · exact lw_gd_good w hw
/-- the receiver's cell -/
def ic_rc (C : String) (x : ic_K) : Prop := (∃ (ci : Nat) (T : u_T) (n : Nat), ic_cls[ci]? = some (C, T, n) ∧ x ∈ ic_keys ∧ ∀ (κ : ic_X) (g : ic_S), ∃ fs, ic_cel κ g x = .inr (ci, fs)) ∨ (C = "java/lang/String" ∧ ∃ i, i < 16 ∧ x = (24, i, 0))
theorem ic_rc_at {C : String} {x : ic_K} (h : ic_rc C x) {κ : ic_X} {A : Nat → Prop} {g : ic_S} {s : State} {H : Heap} {locs : List Loc} (hF : ic_F κ A s) (hW : ic_W κ A g s H locs) : x.1 ≠ 26 ∧ ∃ cell : Cell, H[ic_ad κ x]? = some cell ∧ cell.vm.isStatics = false ∧ s.vm.findClass C = some cell.cls := by
  rcases h with ⟨ci, T, n, hc, hx, hcel⟩ | ⟨rfl, i, hi, rfl⟩
  · obtain ⟨fs, hfs⟩ := hcel κ g
    obtain ⟨q0, -, hw⟩ := ic_wsk (κ := κ) (g := g) hx
    rw [hfs] at hw
    exact ⟨ic_k26 hx, va_recv hF.1 hW.1 hc hw⟩
  · exact ⟨(show (24 : Nat) ≠ 26 by decide), vk_recv (adK := fun i => κ.1 24 i 0) (i := i) hF.2.1 hi hW.2.2.1⟩
theorem ic_svcat (κ : ic_X) (st : List ic_V) : ((ic_sv κ st).map fun v => v.category).sum = (st.map ic_cat).sum := by
  unfold ic_sv
  rw [List.map_map, show ((fun v : Value => v.category) ∘ ic_cv κ) = ic_cat from funext fun v => ic_cvcat κ v]
section IC3
variable {M : ic_M} {pc nx : Nat} {lv lv' : ic_L} {st stk : List ic_V} {g g1 g' : ic_S} {r : Option ic_V} {a b : Nat}
theorem ev_iv {N : ic_M} {idx n : Nat} {x : ic_K} (as : List ic_V) {v : Option ic_V} (hd : ic_at M a b = some (pc, .invokevirtual idx, 3, nx)) (hN : ic_okv N n) (hn : as.length = n) (hl0 : Cond.methodLink M.1.cls idx N.1 ∈ lw_gd) (hroom : ic_rom M N = true) (hrc : ic_rc N.1.cls x) (hnl : (((.inr (.inr (some x)) : ic_V) :: as).map ic_cat).sum ≤ N.2.2.1) (he : ic_Ev N 0 (ic_ag 0 ((.inr (.inr (some x)) : ic_V) :: as)) [] g v g1) (hst : (st.map ic_cat).sum ≤ 8) (hsk : stk = as.reverse ++ (.inr (.inr (some x)) : ic_V) :: st) (h : ic_Ev M nx lv (v.toList ++ st) g1 r g') : ic_Ev M pc lv stk g r g' := by
  intro κ A p l e R s m args below meth c cells slots Q B hc K H locs ls hW hl
  obtain ⟨hx, hb, hml, hown, hts, hfr, hlo, hF, hA, hok⟩ := id B
  obtain ⟨hd1, hd2⟩ := ic_okd_at hok hd
  dsimp only at hd1 hd2
  subst hd2
  subst hsk
  obtain ⟨⟨hN0, hN1, hN2, hN3, hN4, hN5, hN6⟩, hi1, hi2⟩ := hN
  obtain ⟨hx26, hcell⟩ := ic_rc_at hrc hF hW
  have hM := ic_met hN0 hN1 hnl he κ l
  have e9 : (((.inr (.inr (some x)) : ic_V) :: as).map (ic_cv κ)) = Value.ref (ic_ad κ x) :: as.map (ic_cv κ) := by rw [List.map_cons, ic_cvk hx26]
  rw [e9] at hM
  have hcw : CallW R s args M.1.cls N.1.cls idx N.1 N.2.1 N.2.2.1 N.2.2.2.1 (ic_wd N) (ic_rm N) 0 0 n := ⟨callB_of n hts (ic_goodwd hN2) rfl rfl rfl (hts _ hN3) (hts _ hl0) ⟨hN4, hN5, hN6⟩ (ic_rom_at hroom hfr hlo), hts _ hi1, hts _ hi2⟩
  refine ic_run (va_runV (As := as.map (ic_cv κ)) (b := ic_ad κ x) (rest := ic_sv κ st) (Ts := lw_gd) ⟨hx, hb, hml, hown, hts⟩ hM hcw ⟨ic_Y.blind, hcell, fun U hU hv => ⟨rfl, ic_Y.of hF hW hA hU hv⟩⟩ rfl (by rw [List.length_map]; exact hn) hl.1 ?_ (lv_room (by rw [ic_svcat]; exact hst)) hd1 ⟨by omega, by omega⟩) hW hA (fun H1 locs1 hW1 => ?_)
  · show ic_sv κ (as.reverse ++ _ :: st) = _
    unfold ic_sv
    rw [List.map_append, List.map_cons, ic_cvk hx26, List.map_reverse]
  · have h2 := h κ A p l e R s m args below meth c cells slots Q B hc K H1 locs1 ls hW1 hl
    have e8 : ic_sv κ (v.toList ++ st) = (v.map (ic_cv κ)).toList ++ ic_sv κ st := by cases v <;> rfl
    rw [e8] at h2
    exact h2
theorem ev_is {N : ic_M} {idx n : Nat} (as : List ic_V) {v : Option ic_V} (hd : ic_at M a b = some (pc, .invokestatic idx, 3, nx)) (hN : ic_oks N n) (hn : as.length = n) (hl0 : Cond.methodLink M.1.cls idx N.1 ∈ lw_gd) (hroom : ic_rom M N = true) (hnl : (as.map ic_cat).sum ≤ N.2.2.1) (he : ic_Ev N 0 (ic_ag 0 as) [] g v g1) (hst : (st.map ic_cat).sum ≤ 8) (hsk : stk = as.reverse ++ st) (h : ic_Ev M nx lv (v.toList ++ st) g1 r g') : ic_Ev M pc lv stk g r g' := by
  intro κ A p l e R s m args below meth c cells slots Q B hc K H locs ls hW hl
  obtain ⟨hx, hb, hml, hown, hts, hfr, hlo, hF, hA, hok⟩ := id B
  obtain ⟨hd1, hd2⟩ := ic_okd_at hok hd
  dsimp only at hd1 hd2
  subst hd2
  subst hsk
  obtain ⟨⟨hN0, hN1, hN2, hN3, hN4, hN5, hN6⟩, hi1⟩ := hN
  have hM := ic_met hN0 hN1 hnl he κ l
  have hcw : CallB R s args M.1.cls idx N.1 N.2.1 N.2.2.1 N.2.2.2.1 (ic_wd N) (ic_rm N) 0 0 n ∧ (Cond.static N.1).before args s = true := ⟨callB_of n hts (ic_goodwd hN2) rfl rfl rfl (hts _ hN3) (hts _ hl0) ⟨hN4, hN5, hN6⟩ (ic_rom_at hroom hfr hlo), hts _ hi1⟩
  refine ic_run (va_runS (As := as.map (ic_cv κ)) (rest := ic_sv κ st) (Ts := lw_gd) ⟨hx, hb, hml, hown, hts⟩ hM hcw ⟨ic_Y.blind, fun U hU hv => ⟨rfl, ic_Y.of hF hW hA hU hv⟩⟩ rfl (by rw [List.length_map]; exact hn) hl.1 ?_ (lv_room (by rw [ic_svcat]; exact hst)) hd1 ⟨by omega, by omega⟩) hW hA (fun H1 locs1 hW1 => ?_)
  · show ic_sv κ (as.reverse ++ st) = _
    unfold ic_sv
    rw [List.map_append, List.map_reverse]
  · have h2 := h κ A p l e R s m args below meth c cells slots Q B hc K H1 locs1 ls hW1 hl
    have e8 : ic_sv κ (v.toList ++ st) = (v.map (ic_cv κ)).toList ++ ic_sv κ st := by cases v <;> rfl
    rw [e8] at h2
    exact h2
theorem ev_isn {N : ic_M} {idx n : Nat} {host : String} (as : List ic_V) {v : Option ic_V} (hd : ic_at M a b = some (pc, .invokestatic idx, 3, nx)) (hN : ic_oks N n) (hn : as.length = n) (hl0 : (M.1.cls, idx, N.1, host) ∈ ic_nst) (hroom : ic_rom M N = true) (hnl : (as.map ic_cat).sum ≤ N.2.2.1) (he : ic_Ev N 0 (ic_ag 0 as) [] g v g1) (hst : (st.map ic_cat).sum ≤ 8) (hsk : stk = as.reverse ++ st) (h : ic_Ev M nx lv (v.toList ++ st) g1 r g') : ic_Ev M pc lv stk g r g' := by
  intro κ A p l e R s m args below meth c cells slots Q B hc K H locs ls hW hl
  obtain ⟨hx, hb, hml, hown, hts, hfr, hlo, hF, hA, hok⟩ := id B
  obtain ⟨hd1, hd2⟩ := ic_okd_at hok hd
  dsimp only at hd1 hd2
  subst hd2
  subst hsk
  obtain ⟨⟨hN0, hN1, hN2, hN3, hN4, hN5, hN6⟩, hi1⟩ := hN
  have hM := ic_met hN0 hN1 hnl he κ l
  have hcw : va_CN R s args M.1.cls idx N.1 host N.2.1 N.2.2.1 N.2.2.2.1 (ic_wd N) (ic_rm N) 0 0 n ∧ (Cond.static N.1).before args s = true ∧ True := ⟨va_cnB n hts (ic_goodwd hN2) rfl rfl rfl (hF.2.2.2.2.2 _ hl0) (hts _ hN3) ⟨hN4, hN5, hN6⟩ (ic_rom_at hroom hfr hlo), hts _ hi1, trivial⟩
  refine ic_run (va_runSN (As := as.map (ic_cv κ)) (rest := ic_sv κ st) (Ts := lw_gd) ⟨hx, hb, hml, hown, hts⟩ hM hcw ⟨ic_Y.blind, fun U hU hv => ⟨rfl, ic_Y.of hF hW hA hU hv⟩⟩ rfl (by rw [List.length_map]; exact hn) hl.1 ?_ (lv_room (by rw [ic_svcat]; exact hst)) hd1 ⟨by omega, by omega⟩) hW hA (fun H1 locs1 hW1 => ?_)
  · show ic_sv κ (as.reverse ++ st) = _
    unfold ic_sv
    rw [List.map_append, List.map_reverse]
  · have h2 := h κ A p l e R s m args below meth c cells slots Q B hc K H1 locs1 ls hW1 hl
    have e8 : ic_sv κ (v.toList ++ st) = (v.map (ic_cv κ)).toList ++ ic_sv κ st := by cases v <;> rfl
    rw [e8] at h2
    exact h2
end IC3

section IC4
variable {M : ic_M} {pc nx : Nat} {lv lv' : ic_L} {st stk : List ic_V} {g g1 g' : ic_S} {r : Option ic_V} {a b : Nat}
theorem ev_ivI {N : ic_M} {idx n : Nat} {x : ic_K} (as : List ic_V) {v : Int32} (hd : ic_at M a b = some (pc, .invokevirtual idx, 3, nx)) (hN : ic_okv N n) (hn : as.length = n) (hl0 : Cond.methodLink M.1.cls idx N.1 ∈ lw_gd) (hroom : ic_rom M N = true) (hrc : ic_rc N.1.cls x) (hnl : (((.inr (.inr (some x)) : ic_V) :: as).map ic_cat).sum ≤ N.2.2.1) (he : ic_Ev N 0 (ic_ag 0 ((.inr (.inr (some x)) : ic_V) :: as)) [] g (some (ic_I v)) g1) (hst : (st.map ic_cat).sum ≤ 8) (hsk : stk = as.reverse ++ (.inr (.inr (some x)) : ic_V) :: st) (h : ic_Ev M nx lv (ic_I v :: st) g1 r g') : ic_Ev M pc lv stk g r g' := ev_iv as hd hN hn hl0 hroom hrc hnl he hst hsk h
theorem ev_isI {N : ic_M} {idx n : Nat} (as : List ic_V) {v : Int32} (hd : ic_at M a b = some (pc, .invokestatic idx, 3, nx)) (hN : ic_oks N n) (hn : as.length = n) (hl0 : Cond.methodLink M.1.cls idx N.1 ∈ lw_gd) (hroom : ic_rom M N = true) (hnl : (as.map ic_cat).sum ≤ N.2.2.1) (he : ic_Ev N 0 (ic_ag 0 as) [] g (some (ic_I v)) g1) (hst : (st.map ic_cat).sum ≤ 8) (hsk : stk = as.reverse ++ st) (h : ic_Ev M nx lv (ic_I v :: st) g1 r g') : ic_Ev M pc lv stk g r g' := ev_is as hd hN hn hl0 hroom hnl he hst hsk h
theorem ev_ivJ {N : ic_M} {idx n : Nat} {x : ic_K} (as : List ic_V) {v : Int64} (hd : ic_at M a b = some (pc, .invokevirtual idx, 3, nx)) (hN : ic_okv N n) (hn : as.length = n) (hl0 : Cond.methodLink M.1.cls idx N.1 ∈ lw_gd) (hroom : ic_rom M N = true) (hrc : ic_rc N.1.cls x) (hnl : (((.inr (.inr (some x)) : ic_V) :: as).map ic_cat).sum ≤ N.2.2.1) (he : ic_Ev N 0 (ic_ag 0 ((.inr (.inr (some x)) : ic_V) :: as)) [] g (some (ic_J v)) g1) (hst : (st.map ic_cat).sum ≤ 8) (hsk : stk = as.reverse ++ (.inr (.inr (some x)) : ic_V) :: st) (h : ic_Ev M nx lv (ic_J v :: st) g1 r g') : ic_Ev M pc lv stk g r g' := ev_iv as hd hN hn hl0 hroom hrc hnl he hst hsk h
theorem ev_isJ {N : ic_M} {idx n : Nat} (as : List ic_V) {v : Int64} (hd : ic_at M a b = some (pc, .invokestatic idx, 3, nx)) (hN : ic_oks N n) (hn : as.length = n) (hl0 : Cond.methodLink M.1.cls idx N.1 ∈ lw_gd) (hroom : ic_rom M N = true) (hnl : (as.map ic_cat).sum ≤ N.2.2.1) (he : ic_Ev N 0 (ic_ag 0 as) [] g (some (ic_J v)) g1) (hst : (st.map ic_cat).sum ≤ 8) (hsk : stk = as.reverse ++ st) (h : ic_Ev M nx lv (ic_J v :: st) g1 r g') : ic_Ev M pc lv stk g r g' := ev_is as hd hN hn hl0 hroom hnl he hst hsk h
theorem ev_ivO {N : ic_M} {idx n : Nat} {x : ic_K} (as : List ic_V) {o : Option ic_K} (hd : ic_at M a b = some (pc, .invokevirtual idx, 3, nx)) (hN : ic_okv N n) (hn : as.length = n) (hl0 : Cond.methodLink M.1.cls idx N.1 ∈ lw_gd) (hroom : ic_rom M N = true) (hrc : ic_rc N.1.cls x) (hnl : (((.inr (.inr (some x)) : ic_V) :: as).map ic_cat).sum ≤ N.2.2.1) (he : ic_Ev N 0 (ic_ag 0 ((.inr (.inr (some x)) : ic_V) :: as)) [] g (some (.inr (.inr o))) g1) (hst : (st.map ic_cat).sum ≤ 8) (hsk : stk = as.reverse ++ (.inr (.inr (some x)) : ic_V) :: st) (h : ic_Ev M nx lv (.inr (.inr o) :: st) g1 r g') : ic_Ev M pc lv stk g r g' := ev_iv as hd hN hn hl0 hroom hrc hnl he hst hsk h
theorem ev_isO {N : ic_M} {idx n : Nat} (as : List ic_V) {o : Option ic_K} (hd : ic_at M a b = some (pc, .invokestatic idx, 3, nx)) (hN : ic_oks N n) (hn : as.length = n) (hl0 : Cond.methodLink M.1.cls idx N.1 ∈ lw_gd) (hroom : ic_rom M N = true) (hnl : (as.map ic_cat).sum ≤ N.2.2.1) (he : ic_Ev N 0 (ic_ag 0 as) [] g (some (.inr (.inr o))) g1) (hst : (st.map ic_cat).sum ≤ 8) (hsk : stk = as.reverse ++ st) (h : ic_Ev M nx lv (.inr (.inr o) :: st) g1 r g') : ic_Ev M pc lv stk g r g' := ev_is as hd hN hn hl0 hroom hnl he hst hsk h
theorem ev_ivV {N : ic_M} {idx n : Nat} {x : ic_K} (as : List ic_V)  (hd : ic_at M a b = some (pc, .invokevirtual idx, 3, nx)) (hN : ic_okv N n) (hn : as.length = n) (hl0 : Cond.methodLink M.1.cls idx N.1 ∈ lw_gd) (hroom : ic_rom M N = true) (hrc : ic_rc N.1.cls x) (hnl : (((.inr (.inr (some x)) : ic_V) :: as).map ic_cat).sum ≤ N.2.2.1) (he : ic_Ev N 0 (ic_ag 0 ((.inr (.inr (some x)) : ic_V) :: as)) [] g (none) g1) (hst : (st.map ic_cat).sum ≤ 8) (hsk : stk = as.reverse ++ (.inr (.inr (some x)) : ic_V) :: st) (h : ic_Ev M nx lv (st) g1 r g') : ic_Ev M pc lv stk g r g' := ev_iv as hd hN hn hl0 hroom hrc hnl he hst hsk h
theorem ev_isV {N : ic_M} {idx n : Nat} (as : List ic_V)  (hd : ic_at M a b = some (pc, .invokestatic idx, 3, nx)) (hN : ic_oks N n) (hn : as.length = n) (hl0 : Cond.methodLink M.1.cls idx N.1 ∈ lw_gd) (hroom : ic_rom M N = true) (hnl : (as.map ic_cat).sum ≤ N.2.2.1) (he : ic_Ev N 0 (ic_ag 0 as) [] g (none) g1) (hst : (st.map ic_cat).sum ≤ 8) (hsk : stk = as.reverse ++ st) (h : ic_Ev M nx lv (st) g1 r g') : ic_Ev M pc lv stk g r g' := ev_is as hd hN hn hl0 hroom hnl he hst hsk h
theorem ev_isnI {N : ic_M} {idx n : Nat} {host : String} (as : List ic_V) {v : Int32} (hd : ic_at M a b = some (pc, .invokestatic idx, 3, nx)) (hN : ic_oks N n) (hn : as.length = n) (hl0 : (M.1.cls, idx, N.1, host) ∈ ic_nst) (hroom : ic_rom M N = true) (hnl : (as.map ic_cat).sum ≤ N.2.2.1) (he : ic_Ev N 0 (ic_ag 0 as) [] g (some (ic_I v)) g1) (hst : (st.map ic_cat).sum ≤ 8) (hsk : stk = as.reverse ++ st) (h : ic_Ev M nx lv (ic_I v :: st) g1 r g') : ic_Ev M pc lv stk g r g' := ev_isn as hd hN hn hl0 hroom hnl he hst hsk h
end IC4
/-! the words of the functional texts -/
def ic_gd {α : Type} (c : Bool) (x : Option α) : Option α := bif c then x else none
def ic_let {α β : Type} (x : α) (f : α → β) : β := f x
def ic_mo {α : Type} (o : Option (Nat × Nat)) (a : Option α) (f : Nat → Nat → Option α) : Option α := match o with
  | none => a
  | some k => f k.1 k.2
def ic_b2 {α β : Type} (x : Option (α × ic_S)) (f : α → ic_S → Option β) : Option β := match x with
  | none => none
  | some q => f q.1 q.2
def ic_b1 {β : Type} (x : Option ic_S) (f : ic_S → Option β) : Option β := match x with
  | none => none
  | some q => f q
/-- a loop that may return: from a method's body; from a loop around it -/
def ic_bs {ρ α : Type} (x : Option ((ρ × ic_S) ⊕ (α × ic_S))) (f : α → ic_S → Option (ρ × ic_S)) : Option (ρ × ic_S) := match x with
  | none => none
  | some (.inl p) => some p
  | some (.inr q) => f q.1 q.2
def ic_bt {ρ α β : Type} (x : Option ((ρ × ic_S) ⊕ (α × ic_S))) (f : α → ic_S → Option ((ρ × ic_S) ⊕ (β × ic_S))) : Option ((ρ × ic_S) ⊕ (β × ic_S)) := match x with
  | none => none
  | some (.inl p) => some (.inl p)
  | some (.inr q) => f q.1 q.2
theorem ic_gdE {α : Type} {c : Bool} {x : Option α} {y : α} (h : ic_gd c x = some y) : c = true ∧ x = some y := by
  cases c with
  | true => exact ⟨rfl, h⟩
  | false => cases h
theorem ic_letE {α β : Type} {x : α} {f : α → Option β} {y : β} (h : ic_let x f = some y) : ∃ z, z = x ∧ f z = some y := ⟨x, rfl, h⟩
theorem ic_b2E {α β : Type} {x : Option (α × ic_S)} {f : α → ic_S → Option β} {y : β} (h : ic_b2 x f = some y) : ∃ v g, x = some (v, g) ∧ f v g = some y := by
  cases x with
  | none => cases h
  | some q => exact ⟨q.1, q.2, rfl, h⟩
theorem ic_b1E {β : Type} {x : Option ic_S} {f : ic_S → Option β} {y : β} (h : ic_b1 x f = some y) : ∃ g, x = some g ∧ f g = some y := by
  cases x with
  | none => cases h
  | some q => exact ⟨q, rfl, h⟩
theorem ic_bsE {ρ α : Type} {x : Option ((ρ × ic_S) ⊕ (α × ic_S))} {f : α → ic_S → Option (ρ × ic_S)} {y : ρ × ic_S} (h : ic_bs x f = some y) : x = some (.inl y) ∨ ∃ v g, x = some (.inr (v, g)) ∧ f v g = some y := by
  rcases x with _ | p | q
  · cases h
  · cases h
    exact Or.inl rfl
  · exact Or.inr ⟨q.1, q.2, rfl, h⟩
theorem ic_btE {ρ α β : Type} {x : Option ((ρ × ic_S) ⊕ (α × ic_S))} {f : α → ic_S → Option ((ρ × ic_S) ⊕ (β × ic_S))} {y : (ρ × ic_S) ⊕ (β × ic_S)} (h : ic_bt x f = some y) : (∃ p, x = some (.inl p) ∧ y = .inl p) ∨ ∃ v g, x = some (.inr (v, g)) ∧ f v g = some y := by
  rcases x with _ | p | q
  · cases h
  · cases h
    exact Or.inl ⟨p, rfl, rfl⟩
  · exact Or.inr ⟨q.1, q.2, rfl, h⟩
/-- a loop's end: it returned, or came to its exit -/
def ic_lq {α : Type} (q : (Int32 × ic_S) ⊕ (α × ic_S)) (r : Option ic_V) (g' : ic_S) (K : α → ic_S → Prop) : Prop := match q with
  | .inl p => r = some (ic_I p.1) ∧ g' = p.2
  | .inr p => K p.1 p.2
def ic_nz (v : Int32) : Bool := decide (v = 0) || decide (v = 1)
theorem ic_nzn {v : Int32} (h : ic_nz v = true) : narrow .boolean (.int v) = .int v ∧ fits .boolean (.int v) = true := by
  unfold ic_nz at h
  rw [Bool.or_eq_true, decide_eq_true_eq, decide_eq_true_eq] at h
  rcases h with rfl | rfl <;> exact ⟨rfl, rfl⟩
def ic_nc (v : Int32) : Bool := decide (v.toUInt32.toUInt16.toUInt32.toInt32 = v)
theorem ic_ncn {v : Int32} (h : ic_nc v = true) : narrow .char (.int v) = .int v := by
  unfold ic_nc at h
  rw [decide_eq_true_eq] at h
  show Value.int _ = _
  rw [h]
def ic_vk (C s t : Nat) : Bool := Nat.blt s (ic_ns C) && Nat.blt t (ic_nt C)
theorem ic_vks {C s t : Nat} (h : ic_vk C s t = true) : s < ic_ns C := by
  unfold ic_vk at h
  rw [Bool.and_eq_true] at h
  exact Nat.le_of_ble_eq_true h.1
theorem ic_vkt {C s t : Nat} (h : ic_vk C s t = true) : t < ic_nt C := by
  unfold ic_vk at h
  rw [Bool.and_eq_true] at h
  exact Nat.le_of_ble_eq_true h.2
