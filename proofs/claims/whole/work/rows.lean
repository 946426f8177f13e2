section
-- ===== PART A: goes FIRST, ahead of the names: the tables' words, and 'selects' of the private methods out of them =====
/-- a private method of a class that the tables say can be made, by its rows of tables_1 -/
def lw_okq (q : MethodName × Nat) : Prop := (q.1.cls ≠ "java/lang/invoke/MethodHandle" ∧ q.1.cls ≠ "java/lang/invoke/VarHandle") ∧ Cond.instantiable q.1.cls q.2 ∈ tables_1 ∧ Cond.privateMethod q.1 ∈ tables_1 ∧ Cond.instanceMethod q.1 ∈ tables_1
theorem lw_p0 : lw_okq (⟨"IronCall", "finding", "(I)I"⟩, 9) := ⟨⟨by decide +kernel, by decide +kernel⟩, List.mem_of_getElem? (i := 17) (by decide +kernel), List.mem_of_getElem? (i := 213) (by decide +kernel), List.mem_of_getElem? (i := 214) (by decide +kernel)⟩
theorem lw_p1 : lw_okq (⟨"IronCall", "startTrial", "()V"⟩, 9) := ⟨⟨by decide +kernel, by decide +kernel⟩, List.mem_of_getElem? (i := 17) (by decide +kernel), List.mem_of_getElem? (i := 399) (by decide +kernel), List.mem_of_getElem? (i := 400) (by decide +kernel)⟩
theorem lw_p2 : lw_okq (⟨"IronCall", "fewestCalls", "(IIII)I"⟩, 9) := ⟨⟨by decide +kernel, by decide +kernel⟩, List.mem_of_getElem? (i := 17) (by decide +kernel), List.mem_of_getElem? (i := 427) (by decide +kernel), List.mem_of_getElem? (i := 428) (by decide +kernel)⟩
theorem lw_p3 : lw_okq (⟨"IronCall", "furthestBy", "(III)I"⟩, 9) := ⟨⟨by decide +kernel, by decide +kernel⟩, List.mem_of_getElem? (i := 17) (by decide +kernel), List.mem_of_getElem? (i := 458) (by decide +kernel), List.mem_of_getElem? (i := 459) (by decide +kernel)⟩
theorem lw_p4 : lw_okq (⟨"IronCall", "savesAll", "(II)Z"⟩, 9) := ⟨⟨by decide +kernel, by decide +kernel⟩, List.mem_of_getElem? (i := 17) (by decide +kernel), List.mem_of_getElem? (i := 475) (by decide +kernel), List.mem_of_getElem? (i := 476) (by decide +kernel)⟩
theorem lw_p5 : lw_okq (⟨"IronCall", "choicesAsTold", "(IIII)I"⟩, 9) := ⟨⟨by decide +kernel, by decide +kernel⟩, List.mem_of_getElem? (i := 17) (by decide +kernel), List.mem_of_getElem? (i := 488) (by decide +kernel), List.mem_of_getElem? (i := 489) (by decide +kernel)⟩
theorem lw_p6 : lw_okq (⟨"IronCall", "sheetAt", "(I)LIronCall$Sheet;"⟩, 9) := ⟨⟨by decide +kernel, by decide +kernel⟩, List.mem_of_getElem? (i := 17) (by decide +kernel), List.mem_of_getElem? (i := 492) (by decide +kernel), List.mem_of_getElem? (i := 493) (by decide +kernel)⟩
theorem lw_p7 : lw_okq (⟨"IronCall", "trialGoesAs", "(LIronCall$Sheet;II)Z"⟩, 9) := ⟨⟨by decide +kernel, by decide +kernel⟩, List.mem_of_getElem? (i := 17) (by decide +kernel), List.mem_of_getElem? (i := 500) (by decide +kernel), List.mem_of_getElem? (i := 501) (by decide +kernel)⟩
theorem lw_p8 : lw_okq (⟨"IronCallModel", "becomes", "(II)I"⟩, 17) := ⟨⟨by decide +kernel, by decide +kernel⟩, List.mem_of_getElem? (i := 792) (by decide +kernel), List.mem_of_getElem? (i := 866) (by decide +kernel), List.mem_of_getElem? (i := 867) (by decide +kernel)⟩
theorem lw_p9 : lw_okq (⟨"IronCallModel", "finds", "(I)I"⟩, 17) := ⟨⟨by decide +kernel, by decide +kernel⟩, List.mem_of_getElem? (i := 792) (by decide +kernel), List.mem_of_getElem? (i := 870) (by decide +kernel), List.mem_of_getElem? (i := 871) (by decide +kernel)⟩
theorem lw_p10 : lw_okq (⟨"IronCallModel", "comes", "(II)I"⟩, 17) := ⟨⟨by decide +kernel, by decide +kernel⟩, List.mem_of_getElem? (i := 792) (by decide +kernel), List.mem_of_getElem? (i := 884) (by decide +kernel), List.mem_of_getElem? (i := 885) (by decide +kernel)⟩
theorem lw_p11 : lw_okq (⟨"IronCallModel", "sets", "(III)V"⟩, 17) := ⟨⟨by decide +kernel, by decide +kernel⟩, List.mem_of_getElem? (i := 792) (by decide +kernel), List.mem_of_getElem? (i := 888) (by decide +kernel), List.mem_of_getElem? (i := 889) (by decide +kernel)⟩
theorem lw_p12 : lw_okq (⟨"IronCallModel", "isThing", "(I)Z"⟩, 17) := ⟨⟨by decide +kernel, by decide +kernel⟩, List.mem_of_getElem? (i := 792) (by decide +kernel), List.mem_of_getElem? (i := 896) (by decide +kernel), List.mem_of_getElem? (i := 897) (by decide +kernel)⟩
theorem lw_p13 : lw_okq (⟨"IronCallModel", "feels", "(I)I"⟩, 17) := ⟨⟨by decide +kernel, by decide +kernel⟩, List.mem_of_getElem? (i := 792) (by decide +kernel), List.mem_of_getElem? (i := 901) (by decide +kernel), List.mem_of_getElem? (i := 902) (by decide +kernel)⟩
theorem lw_p14 : lw_okq (⟨"IronCallModel", "far", "(I)I"⟩, 17) := ⟨⟨by decide +kernel, by decide +kernel⟩, List.mem_of_getElem? (i := 792) (by decide +kernel), List.mem_of_getElem? (i := 905) (by decide +kernel), List.mem_of_getElem? (i := 906) (by decide +kernel)⟩
theorem lw_p15 : lw_okq (⟨"IronCallModel", "its", "(II)I"⟩, 17) := ⟨⟨by decide +kernel, by decide +kernel⟩, List.mem_of_getElem? (i := 792) (by decide +kernel), List.mem_of_getElem? (i := 909) (by decide +kernel), List.mem_of_getElem? (i := 910) (by decide +kernel)⟩
def lw_privs_1 : List (MethodName × Nat) := [(⟨"IronCall", "finding", "(I)I"⟩, 9), (⟨"IronCall", "startTrial", "()V"⟩, 9), (⟨"IronCall", "fewestCalls", "(IIII)I"⟩, 9), (⟨"IronCall", "furthestBy", "(III)I"⟩, 9), (⟨"IronCall", "savesAll", "(II)Z"⟩, 9), (⟨"IronCall", "choicesAsTold", "(IIII)I"⟩, 9), (⟨"IronCall", "sheetAt", "(I)LIronCall$Sheet;"⟩, 9), (⟨"IronCall", "trialGoesAs", "(LIronCall$Sheet;II)Z"⟩, 9), (⟨"IronCallModel", "becomes", "(II)I"⟩, 17), (⟨"IronCallModel", "finds", "(I)I"⟩, 17), (⟨"IronCallModel", "comes", "(II)I"⟩, 17), (⟨"IronCallModel", "sets", "(III)V"⟩, 17), (⟨"IronCallModel", "isThing", "(I)Z"⟩, 17), (⟨"IronCallModel", "feels", "(I)I"⟩, 17), (⟨"IronCallModel", "far", "(I)I"⟩, 17), (⟨"IronCallModel", "its", "(II)I"⟩, 17)]
theorem lw_r1 : ∀ q ∈ lw_privs_1, lw_okq q := List.forall_mem_cons.mpr ⟨lw_p0, List.forall_mem_cons.mpr ⟨lw_p1, List.forall_mem_cons.mpr ⟨lw_p2, List.forall_mem_cons.mpr ⟨lw_p3, List.forall_mem_cons.mpr ⟨lw_p4, List.forall_mem_cons.mpr ⟨lw_p5, List.forall_mem_cons.mpr ⟨lw_p6, List.forall_mem_cons.mpr ⟨lw_p7, List.forall_mem_cons.mpr ⟨lw_p8, List.forall_mem_cons.mpr ⟨lw_p9, List.forall_mem_cons.mpr ⟨lw_p10, List.forall_mem_cons.mpr ⟨lw_p11, List.forall_mem_cons.mpr ⟨lw_p12, List.forall_mem_cons.mpr ⟨lw_p13, List.forall_mem_cons.mpr ⟨lw_p14, List.forall_mem_cons.mpr ⟨lw_p15, fun _ h => absurd h List.not_mem_nil⟩⟩⟩⟩⟩⟩⟩⟩⟩⟩⟩⟩⟩⟩⟩⟩
theorem lw_p16 : lw_okq (⟨"IronCallModel", "lying", "(I)I"⟩, 17) := ⟨⟨by decide +kernel, by decide +kernel⟩, List.mem_of_getElem? (i := 792) (by decide +kernel), List.mem_of_getElem? (i := 919) (by decide +kernel), List.mem_of_getElem? (i := 920) (by decide +kernel)⟩
theorem lw_p17 : lw_okq (⟨"IronCallModel", "isTaken", "(I)Z"⟩, 17) := ⟨⟨by decide +kernel, by decide +kernel⟩, List.mem_of_getElem? (i := 792) (by decide +kernel), List.mem_of_getElem? (i := 923) (by decide +kernel), List.mem_of_getElem? (i := 924) (by decide +kernel)⟩
theorem lw_p18 : lw_okq (⟨"IronCallModel", "steps", "(I)I"⟩, 17) := ⟨⟨by decide +kernel, by decide +kernel⟩, List.mem_of_getElem? (i := 792) (by decide +kernel), List.mem_of_getElem? (i := 930) (by decide +kernel), List.mem_of_getElem? (i := 931) (by decide +kernel)⟩
theorem lw_p19 : lw_okq (⟨"IronCallModel", "isLiked", "(I)Z"⟩, 17) := ⟨⟨by decide +kernel, by decide +kernel⟩, List.mem_of_getElem? (i := 792) (by decide +kernel), List.mem_of_getElem? (i := 934) (by decide +kernel), List.mem_of_getElem? (i := 935) (by decide +kernel)⟩
theorem lw_p20 : lw_okq (⟨"IronCallModel", "rests", "(I)I"⟩, 17) := ⟨⟨by decide +kernel, by decide +kernel⟩, List.mem_of_getElem? (i := 792) (by decide +kernel), List.mem_of_getElem? (i := 938) (by decide +kernel), List.mem_of_getElem? (i := 939) (by decide +kernel)⟩
theorem lw_p21 : lw_okq (⟨"IronCallModel", "callsGo", "(I)V"⟩, 17) := ⟨⟨by decide +kernel, by decide +kernel⟩, List.mem_of_getElem? (i := 792) (by decide +kernel), List.mem_of_getElem? (i := 962) (by decide +kernel), List.mem_of_getElem? (i := 963) (by decide +kernel)⟩
theorem lw_p22 : lw_okq (⟨"IronCallModel", "callGoes", "()V"⟩, 17) := ⟨⟨by decide +kernel, by decide +kernel⟩, List.mem_of_getElem? (i := 792) (by decide +kernel), List.mem_of_getElem? (i := 966) (by decide +kernel), List.mem_of_getElem? (i := 967) (by decide +kernel)⟩
theorem lw_p23 : lw_okq (⟨"IronCallModel", "cartGoes", "()V"⟩, 17) := ⟨⟨by decide +kernel, by decide +kernel⟩, List.mem_of_getElem? (i := 792) (by decide +kernel), List.mem_of_getElem? (i := 970) (by decide +kernel), List.mem_of_getElem? (i := 971) (by decide +kernel)⟩
theorem lw_p24 : lw_okq (⟨"IronCallModel", "turns", "()V"⟩, 17) := ⟨⟨by decide +kernel, by decide +kernel⟩, List.mem_of_getElem? (i := 792) (by decide +kernel), List.mem_of_getElem? (i := 974) (by decide +kernel), List.mem_of_getElem? (i := 975) (by decide +kernel)⟩
theorem lw_p25 : lw_okq (⟨"IronCallModel", "pulls", "(I)V"⟩, 17) := ⟨⟨by decide +kernel, by decide +kernel⟩, List.mem_of_getElem? (i := 792) (by decide +kernel), List.mem_of_getElem? (i := 978) (by decide +kernel), List.mem_of_getElem? (i := 979) (by decide +kernel)⟩
theorem lw_p26 : lw_okq (⟨"IronCallModel", "setOf", "(I)I"⟩, 17) := ⟨⟨by decide +kernel, by decide +kernel⟩, List.mem_of_getElem? (i := 792) (by decide +kernel), List.mem_of_getElem? (i := 982) (by decide +kernel), List.mem_of_getElem? (i := 983) (by decide +kernel)⟩
theorem lw_p27 : lw_okq (⟨"IronCallModel", "sumOf", "(I)I"⟩, 17) := ⟨⟨by decide +kernel, by decide +kernel⟩, List.mem_of_getElem? (i := 792) (by decide +kernel), List.mem_of_getElem? (i := 990) (by decide +kernel), List.mem_of_getElem? (i := 991) (by decide +kernel)⟩
theorem lw_p28 : lw_okq (⟨"IronCallModel", "heavyTaken", "()I"⟩, 17) := ⟨⟨by decide +kernel, by decide +kernel⟩, List.mem_of_getElem? (i := 792) (by decide +kernel), List.mem_of_getElem? (i := 994) (by decide +kernel), List.mem_of_getElem? (i := 995) (by decide +kernel)⟩
theorem lw_p29 : lw_okq (⟨"IronCallModel", "strongest", "()I"⟩, 17) := ⟨⟨by decide +kernel, by decide +kernel⟩, List.mem_of_getElem? (i := 792) (by decide +kernel), List.mem_of_getElem? (i := 998) (by decide +kernel), List.mem_of_getElem? (i := 999) (by decide +kernel)⟩
theorem lw_p30 : lw_okq (⟨"IronCallModel", "cells", "()I"⟩, 17) := ⟨⟨by decide +kernel, by decide +kernel⟩, List.mem_of_getElem? (i := 792) (by decide +kernel), List.mem_of_getElem? (i := 1002) (by decide +kernel), List.mem_of_getElem? (i := 1003) (by decide +kernel)⟩
theorem lw_p31 : lw_okq (⟨"IronCallModel", "behind", "(II)I"⟩, 17) := ⟨⟨by decide +kernel, by decide +kernel⟩, List.mem_of_getElem? (i := 792) (by decide +kernel), List.mem_of_getElem? (i := 1014) (by decide +kernel), List.mem_of_getElem? (i := 1015) (by decide +kernel)⟩
def lw_privs_2 : List (MethodName × Nat) := [(⟨"IronCallModel", "lying", "(I)I"⟩, 17), (⟨"IronCallModel", "isTaken", "(I)Z"⟩, 17), (⟨"IronCallModel", "steps", "(I)I"⟩, 17), (⟨"IronCallModel", "isLiked", "(I)Z"⟩, 17), (⟨"IronCallModel", "rests", "(I)I"⟩, 17), (⟨"IronCallModel", "callsGo", "(I)V"⟩, 17), (⟨"IronCallModel", "callGoes", "()V"⟩, 17), (⟨"IronCallModel", "cartGoes", "()V"⟩, 17), (⟨"IronCallModel", "turns", "()V"⟩, 17), (⟨"IronCallModel", "pulls", "(I)V"⟩, 17), (⟨"IronCallModel", "setOf", "(I)I"⟩, 17), (⟨"IronCallModel", "sumOf", "(I)I"⟩, 17), (⟨"IronCallModel", "heavyTaken", "()I"⟩, 17), (⟨"IronCallModel", "strongest", "()I"⟩, 17), (⟨"IronCallModel", "cells", "()I"⟩, 17), (⟨"IronCallModel", "behind", "(II)I"⟩, 17)]
theorem lw_r2 : ∀ q ∈ lw_privs_2, lw_okq q := List.forall_mem_cons.mpr ⟨lw_p16, List.forall_mem_cons.mpr ⟨lw_p17, List.forall_mem_cons.mpr ⟨lw_p18, List.forall_mem_cons.mpr ⟨lw_p19, List.forall_mem_cons.mpr ⟨lw_p20, List.forall_mem_cons.mpr ⟨lw_p21, List.forall_mem_cons.mpr ⟨lw_p22, List.forall_mem_cons.mpr ⟨lw_p23, List.forall_mem_cons.mpr ⟨lw_p24, List.forall_mem_cons.mpr ⟨lw_p25, List.forall_mem_cons.mpr ⟨lw_p26, List.forall_mem_cons.mpr ⟨lw_p27, List.forall_mem_cons.mpr ⟨lw_p28, List.forall_mem_cons.mpr ⟨lw_p29, List.forall_mem_cons.mpr ⟨lw_p30, List.forall_mem_cons.mpr ⟨lw_p31, fun _ h => absurd h List.not_mem_nil⟩⟩⟩⟩⟩⟩⟩⟩⟩⟩⟩⟩⟩⟩⟩⟩
theorem lw_p32 : lw_okq (⟨"IronCallModel", "firstOf", "(III)I"⟩, 17) := ⟨⟨by decide +kernel, by decide +kernel⟩, List.mem_of_getElem? (i := 792) (by decide +kernel), List.mem_of_getElem? (i := 1026) (by decide +kernel), List.mem_of_getElem? (i := 1027) (by decide +kernel)⟩
theorem lw_p33 : lw_okq (⟨"IronCallModel", "bestOf", "(IIII)I"⟩, 17) := ⟨⟨by decide +kernel, by decide +kernel⟩, List.mem_of_getElem? (i := 792) (by decide +kernel), List.mem_of_getElem? (i := 1057) (by decide +kernel), List.mem_of_getElem? (i := 1058) (by decide +kernel)⟩
theorem lw_p34 : lw_okq (⟨"IronCallModel", "whyNot", "(II)I"⟩, 17) := ⟨⟨by decide +kernel, by decide +kernel⟩, List.mem_of_getElem? (i := 792) (by decide +kernel), List.mem_of_getElem? (i := 1077) (by decide +kernel), List.mem_of_getElem? (i := 1078) (by decide +kernel)⟩
theorem lw_p35 : lw_okq (⟨"IronCallModel", "whyNone", "(I)I"⟩, 17) := ⟨⟨by decide +kernel, by decide +kernel⟩, List.mem_of_getElem? (i := 792) (by decide +kernel), List.mem_of_getElem? (i := 1081) (by decide +kernel), List.mem_of_getElem? (i := 1082) (by decide +kernel)⟩
theorem lw_p36 : lw_okq (⟨"IronCallModel", "fitting", "(IIIII)I"⟩, 17) := ⟨⟨by decide +kernel, by decide +kernel⟩, List.mem_of_getElem? (i := 792) (by decide +kernel), List.mem_of_getElem? (i := 1088) (by decide +kernel), List.mem_of_getElem? (i := 1089) (by decide +kernel)⟩
theorem lw_p37 : lw_okq (⟨"IronCallModel", "draw", "()I"⟩, 17) := ⟨⟨by decide +kernel, by decide +kernel⟩, List.mem_of_getElem? (i := 792) (by decide +kernel), List.mem_of_getElem? (i := 1100) (by decide +kernel), List.mem_of_getElem? (i := 1101) (by decide +kernel)⟩
theorem lw_p38 : lw_okq (⟨"IronCallModel", "items", "()I"⟩, 17) := ⟨⟨by decide +kernel, by decide +kernel⟩, List.mem_of_getElem? (i := 792) (by decide +kernel), List.mem_of_getElem? (i := 1126) (by decide +kernel), List.mem_of_getElem? (i := 1127) (by decide +kernel)⟩
theorem lw_p39 : lw_okq (⟨"IronCallModel", "next", "()V"⟩, 17) := ⟨⟨by decide +kernel, by decide +kernel⟩, List.mem_of_getElem? (i := 792) (by decide +kernel), List.mem_of_getElem? (i := 1130) (by decide +kernel), List.mem_of_getElem? (i := 1131) (by decide +kernel)⟩
theorem lw_p40 : lw_okq (⟨"IronCallModel", "byteAt", "(I)I"⟩, 17) := ⟨⟨by decide +kernel, by decide +kernel⟩, List.mem_of_getElem? (i := 792) (by decide +kernel), List.mem_of_getElem? (i := 1134) (by decide +kernel), List.mem_of_getElem? (i := 1135) (by decide +kernel)⟩
theorem lw_p41 : lw_okq (⟨"IronCallModel", "item", "()V"⟩, 17) := ⟨⟨by decide +kernel, by decide +kernel⟩, List.mem_of_getElem? (i := 792) (by decide +kernel), List.mem_of_getElem? (i := 1148) (by decide +kernel), List.mem_of_getElem? (i := 1149) (by decide +kernel)⟩
theorem lw_p42 : lw_okq (⟨"IronCallModel", "kindHere", "()I"⟩, 17) := ⟨⟨by decide +kernel, by decide +kernel⟩, List.mem_of_getElem? (i := 792) (by decide +kernel), List.mem_of_getElem? (i := 1152) (by decide +kernel), List.mem_of_getElem? (i := 1153) (by decide +kernel)⟩
theorem lw_p43 : lw_okq (⟨"IronCallModel", "isWord", "(J)Z"⟩, 17) := ⟨⟨by decide +kernel, by decide +kernel⟩, List.mem_of_getElem? (i := 792) (by decide +kernel), List.mem_of_getElem? (i := 1157) (by decide +kernel), List.mem_of_getElem? (i := 1158) (by decide +kernel)⟩
theorem lw_p44 : lw_okq (⟨"IronCallModel", "thingHere", "(I)V"⟩, 17) := ⟨⟨by decide +kernel, by decide +kernel⟩, List.mem_of_getElem? (i := 792) (by decide +kernel), List.mem_of_getElem? (i := 1167) (by decide +kernel), List.mem_of_getElem? (i := 1168) (by decide +kernel)⟩
theorem lw_p45 : lw_okq (⟨"IronCallModel", "wrongHere", "()V"⟩, 17) := ⟨⟨by decide +kernel, by decide +kernel⟩, List.mem_of_getElem? (i := 792) (by decide +kernel), List.mem_of_getElem? (i := 1171) (by decide +kernel), List.mem_of_getElem? (i := 1172) (by decide +kernel)⟩
theorem lw_p46 : lw_okq (⟨"IronCallModel", "perhaps", "(JIII)V"⟩, 17) := ⟨⟨by decide +kernel, by decide +kernel⟩, List.mem_of_getElem? (i := 792) (by decide +kernel), List.mem_of_getElem? (i := 1176) (by decide +kernel), List.mem_of_getElem? (i := 1177) (by decide +kernel)⟩
theorem lw_p47 : lw_okq (⟨"IronCallModel", "numberHere", "(II)I"⟩, 17) := ⟨⟨by decide +kernel, by decide +kernel⟩, List.mem_of_getElem? (i := 792) (by decide +kernel), List.mem_of_getElem? (i := 1180) (by decide +kernel), List.mem_of_getElem? (i := 1181) (by decide +kernel)⟩
def lw_privs_3 : List (MethodName × Nat) := [(⟨"IronCallModel", "firstOf", "(III)I"⟩, 17), (⟨"IronCallModel", "bestOf", "(IIII)I"⟩, 17), (⟨"IronCallModel", "whyNot", "(II)I"⟩, 17), (⟨"IronCallModel", "whyNone", "(I)I"⟩, 17), (⟨"IronCallModel", "fitting", "(IIIII)I"⟩, 17), (⟨"IronCallModel", "draw", "()I"⟩, 17), (⟨"IronCallModel", "items", "()I"⟩, 17), (⟨"IronCallModel", "next", "()V"⟩, 17), (⟨"IronCallModel", "byteAt", "(I)I"⟩, 17), (⟨"IronCallModel", "item", "()V"⟩, 17), (⟨"IronCallModel", "kindHere", "()I"⟩, 17), (⟨"IronCallModel", "isWord", "(J)Z"⟩, 17), (⟨"IronCallModel", "thingHere", "(I)V"⟩, 17), (⟨"IronCallModel", "wrongHere", "()V"⟩, 17), (⟨"IronCallModel", "perhaps", "(JIII)V"⟩, 17), (⟨"IronCallModel", "numberHere", "(II)I"⟩, 17)]
theorem lw_r3 : ∀ q ∈ lw_privs_3, lw_okq q := List.forall_mem_cons.mpr ⟨lw_p32, List.forall_mem_cons.mpr ⟨lw_p33, List.forall_mem_cons.mpr ⟨lw_p34, List.forall_mem_cons.mpr ⟨lw_p35, List.forall_mem_cons.mpr ⟨lw_p36, List.forall_mem_cons.mpr ⟨lw_p37, List.forall_mem_cons.mpr ⟨lw_p38, List.forall_mem_cons.mpr ⟨lw_p39, List.forall_mem_cons.mpr ⟨lw_p40, List.forall_mem_cons.mpr ⟨lw_p41, List.forall_mem_cons.mpr ⟨lw_p42, List.forall_mem_cons.mpr ⟨lw_p43, List.forall_mem_cons.mpr ⟨lw_p44, List.forall_mem_cons.mpr ⟨lw_p45, List.forall_mem_cons.mpr ⟨lw_p46, List.forall_mem_cons.mpr ⟨lw_p47, fun _ h => absurd h List.not_mem_nil⟩⟩⟩⟩⟩⟩⟩⟩⟩⟩⟩⟩⟩⟩⟩⟩
theorem lw_p48 : lw_okq (⟨"IronCallModel", "cartHere", "()V"⟩, 17) := ⟨⟨by decide +kernel, by decide +kernel⟩, List.mem_of_getElem? (i := 792) (by decide +kernel), List.mem_of_getElem? (i := 1188) (by decide +kernel), List.mem_of_getElem? (i := 1189) (by decide +kernel)⟩
theorem lw_p49 : lw_okq (⟨"IronCallModel", "holding", "()I"⟩, 17) := ⟨⟨by decide +kernel, by decide +kernel⟩, List.mem_of_getElem? (i := 792) (by decide +kernel), List.mem_of_getElem? (i := 1244) (by decide +kernel), List.mem_of_getElem? (i := 1245) (by decide +kernel)⟩
def lw_privs_4 : List (MethodName × Nat) := [(⟨"IronCallModel", "cartHere", "()V"⟩, 17), (⟨"IronCallModel", "holding", "()I"⟩, 17)]
theorem lw_r4 : ∀ q ∈ lw_privs_4, lw_okq q := List.forall_mem_cons.mpr ⟨lw_p48, List.forall_mem_cons.mpr ⟨lw_p49, fun _ h => absurd h List.not_mem_nil⟩⟩
def lw_privs : List (MethodName × Nat) := lw_privs_1 ++ (lw_privs_2 ++ (lw_privs_3 ++ (lw_privs_4)))
def lw_tbl : List Cond := k2_sels lw_privs ++ tables_1
theorem lw_privs_ok : ∀ q ∈ lw_privs, lw_okq q := by
  show ∀ q ∈ lw_privs_1 ++ (lw_privs_2 ++ (lw_privs_3 ++ (lw_privs_4))), lw_okq q
  exact List.forall_mem_append.mpr ⟨lw_r1, List.forall_mem_append.mpr ⟨lw_r2, List.forall_mem_append.mpr ⟨lw_r3, lw_r4⟩⟩⟩
end
section
/-- the words that stay -/
def lw_gd : List Cond := lw_tbl.filter goodWord
theorem lw_gd_in : ∀ w ∈ lw_gd, w ∈ lw_tbl := fun w h => (List.mem_filter.mp h).1
theorem lw_gd_good : GoodIn lw_gd lw_gd := fun w h => ⟨h, good_of_word (List.mem_filter.mp h).2⟩
theorem ic_mg (i : Nat) {w : Cond} (h : tables_1[i]? = some w) (hg : goodWord w = true) : w ∈ lw_gd := List.mem_filter.mpr ⟨List.mem_append_right _ (List.mem_of_getElem? h), hg⟩
theorem ic_mp (i : Nat) {w : Cond} (h : (k2_sels lw_privs)[i]? = some w) (hg : goodWord w = true) : w ∈ lw_gd := List.mem_filter.mpr ⟨List.mem_append_left _ (List.mem_of_getElem? h), hg⟩
def RX0 : String := "IronCall$Reader"
def TX0 : u_T := fun k => match k with
  | 0 => ("IronCall$Reader", "tokens", "LIronCall$Tokens;", true)
  | 1 => ("IronCall$Reader", "street", "LIronCall$Street;", true)
  | 2 => ("IronCall$Reader", "next", "I", false)
  | _ => ("IronCall$Reader", "isFaulty", "Z", false)
def tyX0 : Nat → FieldType := fun k => match k with
  | 0 => .object "IronCall$Tokens"
  | 1 => .object "IronCall$Street"
  | 2 => .int
  | _ => .boolean
theorem nmX0 : ∀ a, a < 4 → ∀ b, b < 4 → a ≠ b → (TX0 a).2.1 ≠ (TX0 b).2.1 := by decide +kernel
theorem tyX0_ok : ∀ k, k < 4 → parseFieldDescriptor (TX0 k).2.2.1 = some (tyX0 k) := by decide +kernel
theorem inX0 : ∀ w ∈ u_ws RX0 TX0 4, w ∈ lw_gd := by decide +kernel
def RX1 : String := "IronCall$Sheet"
def TX1 : u_T := fun k => match k with
  | 0 => ("IronCall$Sheet", "bits", "I", false)
  | 1 => ("IronCall$Sheet", "size", "I", false)
  | _ => ("IronCall$Sheet", "numbers", "[I", true)
def tyX1 : Nat → FieldType := fun k => match k with
  | 0 => .int
  | 1 => .int
  | _ => .array .int
theorem nmX1 : ∀ a, a < 3 → ∀ b, b < 3 → a ≠ b → (TX1 a).2.1 ≠ (TX1 b).2.1 := by decide +kernel
theorem tyX1_ok : ∀ k, k < 3 → parseFieldDescriptor (TX1 k).2.2.1 = some (tyX1 k) := by decide +kernel
theorem inX1 : ∀ w ∈ u_ws RX1 TX1 3, w ∈ lw_gd := by decide +kernel
def RX2 : String := "IronCall$Street"
def TX2 : u_T := fun k => match k with
  | 0 => ("IronCall$Street", "cell", "I", false)
  | 1 => ("IronCall$Street", "way", "I", false)
  | 2 => ("IronCall$Street", "pace", "I", false)
  | 3 => ("IronCall$Street", "loud", "I", false)
  | 4 => ("IronCall$Street", "callNumber", "I", false)
  | 5 => ("IronCall$Street", "z", "I", false)
  | 6 => ("IronCall$Street", "made", "I", false)
  | 7 => ("IronCall$Street", "things", "[LIronCall$Thing;", true)
  | _ => ("IronCall$Street", "spots", "[I", true)
def tyX2 : Nat → FieldType := fun k => match k with
  | 0 => .int
  | 1 => .int
  | 2 => .int
  | 3 => .int
  | 4 => .int
  | 5 => .int
  | 6 => .int
  | 7 => .array (.object "IronCall$Thing")
  | _ => .array .int
theorem nmX2 : ∀ a, a < 9 → ∀ b, b < 9 → a ≠ b → (TX2 a).2.1 ≠ (TX2 b).2.1 := by decide +kernel
theorem tyX2_ok : ∀ k, k < 9 → parseFieldDescriptor (TX2 k).2.2.1 = some (tyX2 k) := by decide +kernel
theorem inX2 : ∀ w ∈ u_ws RX2 TX2 9, w ∈ lw_gd := by decide +kernel
def RX3 : String := "IronCall$Tape"
def TX3 : u_T := fun k => match k with
  | 0 => ("IronCall$Tape", "size", "I", false)
  | _ => ("IronCall$Tape", "bytes", "[I", true)
def tyX3 : Nat → FieldType := fun k => match k with
  | 0 => .int
  | _ => .array .int
theorem nmX3 : ∀ a, a < 2 → ∀ b, b < 2 → a ≠ b → (TX3 a).2.1 ≠ (TX3 b).2.1 := by decide +kernel
theorem tyX3_ok : ∀ k, k < 2 → parseFieldDescriptor (TX3 k).2.2.1 = some (tyX3 k) := by decide +kernel
theorem inX3 : ∀ w ∈ u_ws RX3 TX3 2, w ∈ lw_gd := by decide +kernel
def RX4 : String := "IronCall$Thing"
def TX4 : u_T := fun k => match k with
  | 0 => ("IronCall$Thing", "number", "I", true)
  | 1 => ("IronCall$Thing", "kind", "I", false)
  | 2 => ("IronCall$Thing", "cell", "I", false)
  | 3 => ("IronCall$Thing", "heavy", "I", false)
  | 4 => ("IronCall$Thing", "pulled", "I", false)
  | 5 => ("IronCall$Thing", "moved", "I", false)
  | 6 => ("IronCall$Thing", "isHeld", "Z", false)
  | _ => ("IronCall$Thing", "isTaken", "Z", false)
def tyX4 : Nat → FieldType := fun k => match k with
  | 0 => .int
  | 1 => .int
  | 2 => .int
  | 3 => .int
  | 4 => .int
  | 5 => .int
  | 6 => .boolean
  | _ => .boolean
theorem nmX4 : ∀ a, a < 8 → ∀ b, b < 8 → a ≠ b → (TX4 a).2.1 ≠ (TX4 b).2.1 := by decide +kernel
theorem tyX4_ok : ∀ k, k < 8 → parseFieldDescriptor (TX4 k).2.2.1 = some (tyX4 k) := by decide +kernel
theorem inX4 : ∀ w ∈ u_ws RX4 TX4 8, w ∈ lw_gd := by decide +kernel
def RX5 : String := "IronCall$Tokens"
def TX5 : u_T := fun k => match k with
  | 0 => ("IronCall$Tokens", "tape", "LIronCall$Tape;", true)
  | 1 => ("IronCall$Tokens", "size", "I", false)
  | 2 => ("IronCall$Tokens", "sorts", "[I", true)
  | 3 => ("IronCall$Tokens", "places", "[I", true)
  | _ => ("IronCall$Tokens", "values", "[I", true)
def tyX5 : Nat → FieldType := fun k => match k with
  | 0 => .object "IronCall$Tape"
  | 1 => .int
  | 2 => .array .int
  | 3 => .array .int
  | _ => .array .int
theorem nmX5 : ∀ a, a < 5 → ∀ b, b < 5 → a ≠ b → (TX5 a).2.1 ≠ (TX5 b).2.1 := by decide +kernel
theorem tyX5_ok : ∀ k, k < 5 → parseFieldDescriptor (TX5 k).2.2.1 = some (tyX5 k) := by decide +kernel
theorem inX5 : ∀ w ∈ u_ws RX5 TX5 5, w ∈ lw_gd := by decide +kernel
def RX6 : String := "IronCall"
def TX6 : u_T := fun k => match k with
  | 0 => ("IronCall", "street", "LIronCall$Street;", true)
  | 1 => ("IronCall", "trial", "LIronCall$Street;", true)
  | 2 => ("IronCall", "kept", "LIronCall$Street;", true)
  | 3 => ("IronCall", "hasKept", "Z", false)
  | 4 => ("IronCall", "tape", "LIronCall$Tape;", true)
  | 5 => ("IronCall", "tokens", "LIronCall$Tokens;", true)
  | 6 => ("IronCall", "reader", "LIronCall$Reader;", true)
  | 7 => ("IronCall", "sheets", "[LIronCall$Sheet;", true)
  | _ => ("IronCall", "findings", "[I", true)
def tyX6 : Nat → FieldType := fun k => match k with
  | 0 => .object "IronCall$Street"
  | 1 => .object "IronCall$Street"
  | 2 => .object "IronCall$Street"
  | 3 => .boolean
  | 4 => .object "IronCall$Tape"
  | 5 => .object "IronCall$Tokens"
  | 6 => .object "IronCall$Reader"
  | 7 => .array (.object "IronCall$Sheet")
  | _ => .array .int
theorem nmX6 : ∀ a, a < 9 → ∀ b, b < 9 → a ≠ b → (TX6 a).2.1 ≠ (TX6 b).2.1 := by decide +kernel
theorem tyX6_ok : ∀ k, k < 9 → parseFieldDescriptor (TX6 k).2.2.1 = some (tyX6 k) := by decide +kernel
theorem inX6 : ∀ w ∈ u_ws RX6 TX6 9, w ∈ lw_gd := by decide +kernel
def RX7 : String := "IronCallModel"
def TX7 : u_T := fun k => match k with
  | 0 => ("IronCallModel", "d", "[I", true)
  | 1 => ("IronCallModel", "e", "[I", true)
  | 2 => ("IronCallModel", "aside", "[I", true)
  | 3 => ("IronCallModel", "kept", "[I", true)
  | 4 => ("IronCallModel", "isKept", "Z", false)
  | 5 => ("IronCallModel", "found", "[I", true)
  | 6 => ("IronCallModel", "tape", "[B", true)
  | 7 => ("IronCallModel", "taped", "I", false)
  | 8 => ("IronCallModel", "at", "I", false)
  | 9 => ("IronCallModel", "sort", "I", false)
  | 10 => ("IronCallModel", "from", "I", false)
  | 11 => ("IronCallModel", "value", "J", false)
  | 12 => ("IronCallModel", "fault", "I", false)
  | 13 => ("IronCallModel", "bitsOf", "[I", true)
  | 14 => ("IronCallModel", "sizeOf", "[I", true)
  | 15 => ("IronCallModel", "number", "[I", true)
  | _ => ("IronCallModel", "passing", "[I", true)
def tyX7 : Nat → FieldType := fun k => match k with
  | 0 => .array .int
  | 1 => .array .int
  | 2 => .array .int
  | 3 => .array .int
  | 4 => .boolean
  | 5 => .array .int
  | 6 => .array .byte
  | 7 => .int
  | 8 => .int
  | 9 => .int
  | 10 => .int
  | 11 => .long
  | 12 => .int
  | 13 => .array .int
  | 14 => .array .int
  | 15 => .array .int
  | _ => .array .int
theorem nmX7 : ∀ a, a < 17 → ∀ b, b < 17 → a ≠ b → (TX7 a).2.1 ≠ (TX7 b).2.1 := by decide +kernel
theorem tyX7_ok : ∀ k, k < 17 → parseFieldDescriptor (TX7 k).2.2.1 = some (tyX7 k) := by decide +kernel
theorem inX7 : ∀ w ∈ u_ws RX7 TX7 17, w ∈ lw_gd := by decide +kernel
abbrev ic_cls : List vw_C := [(RX0, TX0, 4), (RX1, TX1, 3), (RX2, TX2, 9), (RX3, TX3, 2), (RX4, TX4, 8), (RX5, TX5, 5), (RX6, TX6, 9), (RX7, TX7, 17)]
def ic_ty (ci : Nat) : Nat → FieldType := match ci with
  | 0 => tyX0
  | 1 => tyX1
  | 2 => tyX2
  | 3 => tyX3
  | 4 => tyX4
  | 5 => tyX5
  | 6 => tyX6
  | _ => tyX7
theorem ic_cls_in (ci : Nat) (q : vw_C) (h : ic_cls[ci]? = some q) : ∀ w ∈ u_ws q.1 q.2.1 q.2.2, w ∈ lw_gd := by
  match ci, h with
  | 0, h => cases h; exact inX0
  | 1, h => cases h; exact inX1
  | 2, h => cases h; exact inX2
  | 3, h => cases h; exact inX3
  | 4, h => cases h; exact inX4
  | 5, h => cases h; exact inX5
  | 6, h => cases h; exact inX6
  | 7, h => cases h; exact inX7
  | n + 8, h => simp at h
theorem ic_cls_ty (ci : Nat) (q : vw_C) (h : ic_cls[ci]? = some q) : ∀ k, k < q.2.2 → parseFieldDescriptor (q.2.1 k).2.2.1 = some (ic_ty ci k) := by
  match ci, h with
  | 0, h => cases h; exact tyX0_ok
  | 1, h => cases h; exact tyX1_ok
  | 2, h => cases h; exact tyX2_ok
  | 3, h => cases h; exact tyX3_ok
  | 4, h => cases h; exact tyX4_ok
  | 5, h => cases h; exact tyX5_ok
  | 6, h => cases h; exact tyX6_ok
  | 7, h => cases h; exact tyX7_ok
  | n + 8, h => simp at h
theorem ic_cls_nm (ci : Nat) (q : vw_C) (h : ic_cls[ci]? = some q) : ∀ a, a < q.2.2 → ∀ b, b < q.2.2 → a ≠ b → (q.2.1 a).2.1 ≠ (q.2.1 b).2.1 := by
  match ci, h with
  | 0, h => cases h; exact nmX0
  | 1, h => cases h; exact nmX1
  | 2, h => cases h; exact nmX2
  | 3, h => cases h; exact nmX3
  | 4, h => cases h; exact nmX4
  | 5, h => cases h; exact nmX5
  | 6, h => cases h; exact nmX6
  | 7, h => cases h; exact nmX7
  | n + 8, h => simp at h
abbrev ic_K : Type := Nat × Nat × Nat
abbrev ic_V : Type := Int32 ⊕ Int64 ⊕ Option ic_K
abbrev ic_S : Type := (Nat → Nat → Int32) × Int64
abbrev ic_L : Type := List (Nat × ic_V)
abbrev ic_X : Type := (Nat → Nat → Nat → Nat) × va_G × (Nat → ClassId) × Option Nat
abbrev ic_M : Type := MethodName × ByteArray × Nat × Option FieldType × Nat × Nat × List (List (Nat × Instr × Nat × Nat))
abbrev ic_I (x : Int32) : ic_V := .inl x
abbrev ic_J (x : Int64) : ic_V := .inr (.inl x)
abbrev ic_R (C s t : Nat) : ic_V := .inr (.inr (some (C, s, t)))
abbrev ic_N : ic_V := .inr (.inr none)
abbrev ic_O (C : Nat) (o : Option (Nat × Nat)) : ic_V := .inr (.inr (o.map fun k => (C, k.1, k.2)))
def ic_cel (κ : ic_X) (g : ic_S) (x : ic_K) : va_E := match x with
  | (0, _, _) => .inr (6, [.ref (κ.1 1 0 0), .ref (κ.1 1 1 0), .ref (κ.1 1 2 0), .int (g.1 7 0), .ref (κ.1 5 0 0), .ref (κ.1 7 0 0), .ref (κ.1 11 0 0), .ref (κ.1 12 0 0), .ref (κ.1 15 0 0)])
  | (1, s, _) => .inr (2, [.int (g.1 s 3), .int (g.1 s 4), .int (g.1 s 5), .int (g.1 s 6), .int (g.1 s 1), .int (g.1 s 2), .int (g.1 s 0), .ref (κ.1 2 s 0), .ref (κ.1 4 s 0)])
  | (2, s, _) => .inl (κ.2.2.1 2, 8, .inr (.inr (.inr (.inr (fun j => some (κ.1 3 s j))))))
  | (3, s, t) => .inr (4, [.int (Int32.ofNat t), .int (g.1 s (7 + t)), .int (g.1 s (15 + t)), .int (g.1 s (23 + t)), .int (g.1 s (31 + t)), .int (g.1 s (55 + t)), .int (g.1 s (39 + t)), .int (g.1 s (47 + t))])
  | (4, s, _) => .inl (κ.2.2.1 0, 10, .inl (fun j => g.1 s (63 + j)))
  | (5, _, _) => .inr (3, [.int (g.1 8 0), .ref (κ.1 6 0 0)])
  | (6, _, _) => .inl (κ.2.2.1 0, 120, .inl (fun j => g.1 9 (0 + j)))
  | (7, _, _) => .inr (5, [.ref (κ.1 5 0 0), .int (g.1 10 0), .ref (κ.1 8 0 0), .ref (κ.1 9 0 0), .ref (κ.1 10 0 0)])
  | (8, _, _) => .inl (κ.2.2.1 0, 121, .inl (fun j => g.1 11 (0 + j)))
  | (9, _, _) => .inl (κ.2.2.1 0, 121, .inl (fun j => g.1 12 (0 + j)))
  | (10, _, _) => .inl (κ.2.2.1 0, 121, .inl (fun j => g.1 13 (0 + j)))
  | (11, _, _) => .inr (0, [.ref (κ.1 7 0 0), .ref (κ.1 1 1 0), .int (g.1 14 0), .int (g.1 14 1)])
  | (12, _, _) => .inl (κ.2.2.1 3, 4, .inr (.inr (.inr (.inr (fun j => some (κ.1 13 j 0))))))
  | (13, s, _) => .inr (1, [.int (g.1 (15 + s) 0), .int (g.1 (15 + s) 1), .ref (κ.1 14 s 0)])
  | (14, s, _) => .inl (κ.2.2.1 0, 40, .inl (fun j => g.1 (19 + s) (0 + j)))
  | (15, _, _) => .inl (κ.2.2.1 0, 7, .inl (fun j => g.1 23 (0 + j)))
  | (16, _, _) => .inr (7, [.ref (κ.1 17 0 0), .ref (κ.1 17 1 0), .ref (κ.1 17 2 0), .ref (κ.1 17 3 0), .int (g.1 24 0), .ref (κ.1 18 0 0), .ref (κ.1 19 0 0), .int (g.1 24 1), .int (g.1 24 2), .int (g.1 24 3), .int (g.1 24 4), .long g.2, .int (g.1 24 5), .ref (κ.1 20 0 0), .ref (κ.1 21 0 0), .ref (κ.1 22 0 0), .ref (κ.1 23 0 0)])
  | (17, s, _) => .inl (κ.2.2.1 0, 73, .inl (fun j => g.1 (3 + s) (0 + j)))
  | (18, _, _) => .inl (κ.2.2.1 0, 7, .inl (fun j => g.1 25 (0 + j)))
  | (19, _, _) => .inl (κ.2.2.1 1, 120, .inl (fun j => g.1 26 (0 + j)))
  | (20, _, _) => .inl (κ.2.2.1 0, 4, .inl (fun j => g.1 27 (0 + j)))
  | (21, _, _) => .inl (κ.2.2.1 0, 4, .inl (fun j => g.1 28 (0 + j)))
  | (22, _, _) => .inl (κ.2.2.1 0, 160, .inl (fun j => g.1 29 (0 + j)))
  | (23, _, _) => .inl (κ.2.2.1 0, 40, .inl (fun j => g.1 30 (0 + j)))
  | _ => .inl (0, 0, .inl fun _ => 0)
def ic_keys : List ic_K := [(0, 0, 0), (1, 0, 0), (1, 1, 0), (1, 2, 0), (2, 0, 0), (2, 1, 0), (2, 2, 0), (3, 0, 0), (3, 0, 1), (3, 0, 2), (3, 0, 3), (3, 0, 4), (3, 0, 5), (3, 0, 6), (3, 0, 7), (3, 1, 0), (3, 1, 1), (3, 1, 2), (3, 1, 3), (3, 1, 4), (3, 1, 5), (3, 1, 6), (3, 1, 7), (3, 2, 0), (3, 2, 1), (3, 2, 2), (3, 2, 3), (3, 2, 4), (3, 2, 5), (3, 2, 6), (3, 2, 7), (4, 0, 0), (4, 1, 0), (4, 2, 0), (5, 0, 0), (6, 0, 0), (7, 0, 0), (8, 0, 0), (9, 0, 0), (10, 0, 0), (11, 0, 0), (12, 0, 0), (13, 0, 0), (13, 1, 0), (13, 2, 0), (13, 3, 0), (14, 0, 0), (14, 1, 0), (14, 2, 0), (14, 3, 0), (15, 0, 0), (16, 0, 0), (17, 0, 0), (17, 1, 0), (17, 2, 0), (17, 3, 0), (18, 0, 0), (19, 0, 0), (20, 0, 0), (21, 0, 0), (22, 0, 0), (23, 0, 0)]
def ic_ns (C : Nat) : Nat := match C with
  | 1 => 3
  | 2 => 3
  | 3 => 3
  | 4 => 3
  | 13 => 4
  | 14 => 4
  | 17 => 4
  | _ => 1
def ic_nt (C : Nat) : Nat := match C with
  | 3 => 8
  | _ => 1
theorem ic_bnd : ∀ x ∈ ic_keys, x.1 < 24 ∧ x.2.1 < ic_ns x.1 ∧ x.2.2 < ic_nt x.1 := by decide +kernel
theorem ic_memk0 : ((List.range 24).all fun C => (List.range (ic_ns C)).all fun s => (List.range (ic_nt C)).all fun t => ic_keys.any fun k => k.1 == C && (k.2.1 == s && k.2.2 == t)) = true := by decide +kernel
theorem ic_memk (C : Nat) (hC : C < 24) (s : Nat) (hs : s < ic_ns C) (t : Nat) (ht : t < ic_nt C) : (C, s, t) ∈ ic_keys := by
  have h := List.all_eq_true.mp (List.all_eq_true.mp (List.all_eq_true.mp ic_memk0 C (List.mem_range.mpr hC)) s (List.mem_range.mpr hs)) t (List.mem_range.mpr ht)
  obtain ⟨k, hk, e⟩ := List.any_eq_true.mp h
  obtain ⟨k1, k2, k3⟩ := k
  simp only [Bool.and_eq_true, beq_iff_eq] at e
  obtain ⟨rfl, rfl, rfl⟩ := e
  exact hk
theorem ic_nd : ic_keys.Nodup := by decide +kernel
def ic_own (b i : Nat) : ic_K := match b with
  | 0 => if i < 7 then (1, 0, 0) else if i < 63 then (3, 0, (i - 7) % 8) else (4, 0, 0)
  | 1 => if i < 7 then (1, 1, 0) else if i < 63 then (3, 1, (i - 7) % 8) else (4, 1, 0)
  | 2 => if i < 7 then (1, 2, 0) else if i < 63 then (3, 2, (i - 7) % 8) else (4, 2, 0)
  | 3 => (17, 0, 0)
  | 4 => (17, 1, 0)
  | 5 => (17, 2, 0)
  | 6 => (17, 3, 0)
  | 15 => (13, 0, 0)
  | 16 => (13, 1, 0)
  | 17 => (13, 2, 0)
  | 18 => (13, 3, 0)
  | 19 => (14, 0, 0)
  | 20 => (14, 1, 0)
  | 21 => (14, 2, 0)
  | 22 => (14, 3, 0)
  | 7 => (0, 0, 0)
  | 8 => (5, 0, 0)
  | 9 => (6, 0, 0)
  | 10 => (7, 0, 0)
  | 11 => (8, 0, 0)
  | 12 => (9, 0, 0)
  | 13 => (10, 0, 0)
  | 14 => (11, 0, 0)
  | 23 => (15, 0, 0)
  | 24 => (16, 0, 0)
  | 25 => (18, 0, 0)
  | 26 => (19, 0, 0)
  | 27 => (20, 0, 0)
  | 28 => (21, 0, 0)
  | 29 => (22, 0, 0)
  | 30 => (23, 0, 0)
  | _ => (99, 0, 0)
def ic_up (g : ic_S) (b i : Nat) (v : Int32) : ic_S := (fun b' i' => if b' = b ∧ i' = i then v else g.1 b' i', g.2)
def ic_upl (g : ic_S) (v : Int64) : ic_S := (g.1, v)
theorem ic_no {g : ic_S} {b i : Nat} {v : Int32} {b' i' : Nat} {y : ic_K} (h : ic_own b i ≠ y) (h' : ic_own b' i' = y) : (ic_up g b i v).1 b' i' = g.1 b' i' := by
  show (if b' = b ∧ i' = i then v else g.1 b' i') = g.1 b' i'
  rw [if_neg]
  rintro ⟨rfl, rfl⟩
  exact h h'
theorem ic_oth_l (κ : ic_X) (g : ic_S) (v : Int64) : ∀ y ∈ ic_keys, y ≠ (16, 0, 0) → ic_cel κ (ic_upl g v) y = ic_cel κ g y := by
  intro y hy hne
  have hb := ic_bnd y hy
  obtain ⟨C, s, t⟩ := y
  match C, hb, hne with
  | 0, hb, hne => rfl
  | 1, hb, hne => rfl
  | 2, hb, hne => rfl
  | 3, hb, hne => rfl
  | 4, hb, hne => rfl
  | 5, hb, hne => rfl
  | 6, hb, hne => rfl
  | 7, hb, hne => rfl
  | 8, hb, hne => rfl
  | 9, hb, hne => rfl
  | 10, hb, hne => rfl
  | 11, hb, hne => rfl
  | 12, hb, hne => rfl
  | 13, hb, hne => rfl
  | 14, hb, hne => rfl
  | 15, hb, hne => rfl
  | 16, hb, hne =>
    exfalso
    apply hne
    have h1 : s < 1 := hb.2.1
    have h2 : t < 1 := hb.2.2
    have e1 : s = 0 := by omega
    have e2 : t = 0 := by omega
    rw [e1, e2]
  | 17, hb, hne => rfl
  | 18, hb, hne => rfl
  | 19, hb, hne => rfl
  | 20, hb, hne => rfl
  | 21, hb, hne => rfl
  | 22, hb, hne => rfl
  | 23, hb, hne => rfl
  | n + 24, hb, hne => exact absurd hb.1 (by show ¬ (n + 24 < 24); omega)
theorem ic_oth (κ : ic_X) (g : ic_S) (b i : Nat) (v : Int32) : ∀ y ∈ ic_keys, ic_own b i ≠ y → ic_cel κ (ic_up g b i v) y = ic_cel κ g y := by
  intro y hy hne
  have hb := ic_bnd y hy
  obtain ⟨C, s, t⟩ := y
  match C, hb, hne with
  | 0, hb, hne =>
    have h1 : s < 1 := hb.2.1
    have h2 : t < 1 := hb.2.2
    have e2 : t = 0 := by omega
    subst e2
    have e1 : s = 0 := by omega
    subst e1
    have h_hasKept : (ic_up g b i v).1 7 0 = g.1 7 0 := by
      refine ic_no hne ?_
      rfl
    simp only [ic_cel, h_hasKept]
  | 1, hb, hne =>
    have h1 : s < 3 := hb.2.1
    have h2 : t < 1 := hb.2.2
    have e2 : t = 0 := by omega
    subst e2
    have h_cell : (ic_up g b i v).1 s 3 = g.1 s 3 := by
      refine ic_no hne ?_
      rcases (show s = 0 ∨ s = 1 ∨ s = 2 by omega) with rfl | rfl | rfl <;> rfl
    have h_way : (ic_up g b i v).1 s 4 = g.1 s 4 := by
      refine ic_no hne ?_
      rcases (show s = 0 ∨ s = 1 ∨ s = 2 by omega) with rfl | rfl | rfl <;> rfl
    have h_pace : (ic_up g b i v).1 s 5 = g.1 s 5 := by
      refine ic_no hne ?_
      rcases (show s = 0 ∨ s = 1 ∨ s = 2 by omega) with rfl | rfl | rfl <;> rfl
    have h_loud : (ic_up g b i v).1 s 6 = g.1 s 6 := by
      refine ic_no hne ?_
      rcases (show s = 0 ∨ s = 1 ∨ s = 2 by omega) with rfl | rfl | rfl <;> rfl
    have h_callNumber : (ic_up g b i v).1 s 1 = g.1 s 1 := by
      refine ic_no hne ?_
      rcases (show s = 0 ∨ s = 1 ∨ s = 2 by omega) with rfl | rfl | rfl <;> rfl
    have h_z : (ic_up g b i v).1 s 2 = g.1 s 2 := by
      refine ic_no hne ?_
      rcases (show s = 0 ∨ s = 1 ∨ s = 2 by omega) with rfl | rfl | rfl <;> rfl
    have h_made : (ic_up g b i v).1 s 0 = g.1 s 0 := by
      refine ic_no hne ?_
      rcases (show s = 0 ∨ s = 1 ∨ s = 2 by omega) with rfl | rfl | rfl <;> rfl
    simp only [ic_cel, h_cell, h_way, h_pace, h_loud, h_callNumber, h_z, h_made]
  | 2, hb, hne =>
    rfl
  | 3, hb, hne =>
    have h1 : s < 3 := hb.2.1
    have h2 : t < 8 := hb.2.2
    have h_kind : (ic_up g b i v).1 s (7 + t) = g.1 s (7 + t) := by
      refine ic_no hne ?_
      rcases (show s = 0 ∨ s = 1 ∨ s = 2 by omega) with rfl | rfl | rfl
      all_goals (show (if (7 + t) < 7 then _ else if (7 + t) < 63 then _ else _) = _; rw [if_neg (by omega), if_pos (by omega), show ((7 + t) - 7) % 8 = t by omega])
    have h_cell : (ic_up g b i v).1 s (15 + t) = g.1 s (15 + t) := by
      refine ic_no hne ?_
      rcases (show s = 0 ∨ s = 1 ∨ s = 2 by omega) with rfl | rfl | rfl
      all_goals (show (if (15 + t) < 7 then _ else if (15 + t) < 63 then _ else _) = _; rw [if_neg (by omega), if_pos (by omega), show ((15 + t) - 7) % 8 = t by omega])
    have h_heavy : (ic_up g b i v).1 s (23 + t) = g.1 s (23 + t) := by
      refine ic_no hne ?_
      rcases (show s = 0 ∨ s = 1 ∨ s = 2 by omega) with rfl | rfl | rfl
      all_goals (show (if (23 + t) < 7 then _ else if (23 + t) < 63 then _ else _) = _; rw [if_neg (by omega), if_pos (by omega), show ((23 + t) - 7) % 8 = t by omega])
    have h_pulled : (ic_up g b i v).1 s (31 + t) = g.1 s (31 + t) := by
      refine ic_no hne ?_
      rcases (show s = 0 ∨ s = 1 ∨ s = 2 by omega) with rfl | rfl | rfl
      all_goals (show (if (31 + t) < 7 then _ else if (31 + t) < 63 then _ else _) = _; rw [if_neg (by omega), if_pos (by omega), show ((31 + t) - 7) % 8 = t by omega])
    have h_moved : (ic_up g b i v).1 s (55 + t) = g.1 s (55 + t) := by
      refine ic_no hne ?_
      rcases (show s = 0 ∨ s = 1 ∨ s = 2 by omega) with rfl | rfl | rfl
      all_goals (show (if (55 + t) < 7 then _ else if (55 + t) < 63 then _ else _) = _; rw [if_neg (by omega), if_pos (by omega), show ((55 + t) - 7) % 8 = t by omega])
    have h_isHeld : (ic_up g b i v).1 s (39 + t) = g.1 s (39 + t) := by
      refine ic_no hne ?_
      rcases (show s = 0 ∨ s = 1 ∨ s = 2 by omega) with rfl | rfl | rfl
      all_goals (show (if (39 + t) < 7 then _ else if (39 + t) < 63 then _ else _) = _; rw [if_neg (by omega), if_pos (by omega), show ((39 + t) - 7) % 8 = t by omega])
    have h_isTaken : (ic_up g b i v).1 s (47 + t) = g.1 s (47 + t) := by
      refine ic_no hne ?_
      rcases (show s = 0 ∨ s = 1 ∨ s = 2 by omega) with rfl | rfl | rfl
      all_goals (show (if (47 + t) < 7 then _ else if (47 + t) < 63 then _ else _) = _; rw [if_neg (by omega), if_pos (by omega), show ((47 + t) - 7) % 8 = t by omega])
    simp only [ic_cel, h_kind, h_cell, h_heavy, h_pulled, h_moved, h_isHeld, h_isTaken]
  | 4, hb, hne =>
    have h1 : s < 3 := hb.2.1
    have h2 : t < 1 := hb.2.2
    have e2 : t = 0 := by omega
    subst e2
    have h : ∀ j, (ic_up g b i v).1 s (63 + j) = g.1 s (63 + j) := by
      intro j
      refine ic_no hne ?_
      rcases (show s = 0 ∨ s = 1 ∨ s = 2 by omega) with rfl | rfl | rfl
      all_goals (show (if 63 + j < 7 then _ else if 63 + j < 63 then _ else _) = _; rw [if_neg (by omega), if_neg (by omega)])
    simp only [ic_cel, h]
  | 5, hb, hne =>
    have h1 : s < 1 := hb.2.1
    have h2 : t < 1 := hb.2.2
    have e2 : t = 0 := by omega
    subst e2
    have e1 : s = 0 := by omega
    subst e1
    have h_size : (ic_up g b i v).1 8 0 = g.1 8 0 := by
      refine ic_no hne ?_
      rfl
    simp only [ic_cel, h_size]
  | 6, hb, hne =>
    have h1 : s < 1 := hb.2.1
    have h2 : t < 1 := hb.2.2
    have e2 : t = 0 := by omega
    subst e2
    have e1 : s = 0 := by omega
    subst e1
    have h : ∀ j, (ic_up g b i v).1 9 (0 + j) = g.1 9 (0 + j) := by
      intro j
      refine ic_no hne ?_
      rfl
    simp only [ic_cel, h]
  | 7, hb, hne =>
    have h1 : s < 1 := hb.2.1
    have h2 : t < 1 := hb.2.2
    have e2 : t = 0 := by omega
    subst e2
    have e1 : s = 0 := by omega
    subst e1
    have h_size : (ic_up g b i v).1 10 0 = g.1 10 0 := by
      refine ic_no hne ?_
      rfl
    simp only [ic_cel, h_size]
  | 8, hb, hne =>
    have h1 : s < 1 := hb.2.1
    have h2 : t < 1 := hb.2.2
    have e2 : t = 0 := by omega
    subst e2
    have e1 : s = 0 := by omega
    subst e1
    have h : ∀ j, (ic_up g b i v).1 11 (0 + j) = g.1 11 (0 + j) := by
      intro j
      refine ic_no hne ?_
      rfl
    simp only [ic_cel, h]
  | 9, hb, hne =>
    have h1 : s < 1 := hb.2.1
    have h2 : t < 1 := hb.2.2
    have e2 : t = 0 := by omega
    subst e2
    have e1 : s = 0 := by omega
    subst e1
    have h : ∀ j, (ic_up g b i v).1 12 (0 + j) = g.1 12 (0 + j) := by
      intro j
      refine ic_no hne ?_
      rfl
    simp only [ic_cel, h]
  | 10, hb, hne =>
    have h1 : s < 1 := hb.2.1
    have h2 : t < 1 := hb.2.2
    have e2 : t = 0 := by omega
    subst e2
    have e1 : s = 0 := by omega
    subst e1
    have h : ∀ j, (ic_up g b i v).1 13 (0 + j) = g.1 13 (0 + j) := by
      intro j
      refine ic_no hne ?_
      rfl
    simp only [ic_cel, h]
  | 11, hb, hne =>
    have h1 : s < 1 := hb.2.1
    have h2 : t < 1 := hb.2.2
    have e2 : t = 0 := by omega
    subst e2
    have e1 : s = 0 := by omega
    subst e1
    have h_next : (ic_up g b i v).1 14 0 = g.1 14 0 := by
      refine ic_no hne ?_
      rfl
    have h_isFaulty : (ic_up g b i v).1 14 1 = g.1 14 1 := by
      refine ic_no hne ?_
      rfl
    simp only [ic_cel, h_next, h_isFaulty]
  | 12, hb, hne =>
    rfl
  | 13, hb, hne =>
    have h1 : s < 4 := hb.2.1
    have h2 : t < 1 := hb.2.2
    have e2 : t = 0 := by omega
    subst e2
    have h_bits : (ic_up g b i v).1 (15 + s) 0 = g.1 (15 + s) 0 := by
      refine ic_no hne ?_
      rcases (show s = 0 ∨ s = 1 ∨ s = 2 ∨ s = 3 by omega) with rfl | rfl | rfl | rfl <;> rfl
    have h_size : (ic_up g b i v).1 (15 + s) 1 = g.1 (15 + s) 1 := by
      refine ic_no hne ?_
      rcases (show s = 0 ∨ s = 1 ∨ s = 2 ∨ s = 3 by omega) with rfl | rfl | rfl | rfl <;> rfl
    simp only [ic_cel, h_bits, h_size]
  | 14, hb, hne =>
    have h1 : s < 4 := hb.2.1
    have h2 : t < 1 := hb.2.2
    have e2 : t = 0 := by omega
    subst e2
    have h : ∀ j, (ic_up g b i v).1 (19 + s) (0 + j) = g.1 (19 + s) (0 + j) := by
      intro j
      refine ic_no hne ?_
      rcases (show s = 0 ∨ s = 1 ∨ s = 2 ∨ s = 3 by omega) with rfl | rfl | rfl | rfl <;> rfl
    simp only [ic_cel, h]
  | 15, hb, hne =>
    have h1 : s < 1 := hb.2.1
    have h2 : t < 1 := hb.2.2
    have e2 : t = 0 := by omega
    subst e2
    have e1 : s = 0 := by omega
    subst e1
    have h : ∀ j, (ic_up g b i v).1 23 (0 + j) = g.1 23 (0 + j) := by
      intro j
      refine ic_no hne ?_
      rfl
    simp only [ic_cel, h]
  | 16, hb, hne =>
    have h1 : s < 1 := hb.2.1
    have h2 : t < 1 := hb.2.2
    have e2 : t = 0 := by omega
    subst e2
    have e1 : s = 0 := by omega
    subst e1
    have h_isKept : (ic_up g b i v).1 24 0 = g.1 24 0 := by
      refine ic_no hne ?_
      rfl
    have h_taped : (ic_up g b i v).1 24 1 = g.1 24 1 := by
      refine ic_no hne ?_
      rfl
    have h_at : (ic_up g b i v).1 24 2 = g.1 24 2 := by
      refine ic_no hne ?_
      rfl
    have h_sort : (ic_up g b i v).1 24 3 = g.1 24 3 := by
      refine ic_no hne ?_
      rfl
    have h_from : (ic_up g b i v).1 24 4 = g.1 24 4 := by
      refine ic_no hne ?_
      rfl
    have h_fault : (ic_up g b i v).1 24 5 = g.1 24 5 := by
      refine ic_no hne ?_
      rfl
    have hv : (ic_up g b i v).2 = g.2 := rfl
    simp only [ic_cel, h_isKept, h_taped, h_at, h_sort, h_from, h_fault]
    rfl
  | 17, hb, hne =>
    have h1 : s < 4 := hb.2.1
    have h2 : t < 1 := hb.2.2
    have e2 : t = 0 := by omega
    subst e2
    have h : ∀ j, (ic_up g b i v).1 (3 + s) (0 + j) = g.1 (3 + s) (0 + j) := by
      intro j
      refine ic_no hne ?_
      rcases (show s = 0 ∨ s = 1 ∨ s = 2 ∨ s = 3 by omega) with rfl | rfl | rfl | rfl <;> rfl
    simp only [ic_cel, h]
  | 18, hb, hne =>
    have h1 : s < 1 := hb.2.1
    have h2 : t < 1 := hb.2.2
    have e2 : t = 0 := by omega
    subst e2
    have e1 : s = 0 := by omega
    subst e1
    have h : ∀ j, (ic_up g b i v).1 25 (0 + j) = g.1 25 (0 + j) := by
      intro j
      refine ic_no hne ?_
      rfl
    simp only [ic_cel, h]
  | 19, hb, hne =>
    have h1 : s < 1 := hb.2.1
    have h2 : t < 1 := hb.2.2
    have e2 : t = 0 := by omega
    subst e2
    have e1 : s = 0 := by omega
    subst e1
    have h : ∀ j, (ic_up g b i v).1 26 (0 + j) = g.1 26 (0 + j) := by
      intro j
      refine ic_no hne ?_
      rfl
    simp only [ic_cel, h]
  | 20, hb, hne =>
    have h1 : s < 1 := hb.2.1
    have h2 : t < 1 := hb.2.2
    have e2 : t = 0 := by omega
    subst e2
    have e1 : s = 0 := by omega
    subst e1
    have h : ∀ j, (ic_up g b i v).1 27 (0 + j) = g.1 27 (0 + j) := by
      intro j
      refine ic_no hne ?_
      rfl
    simp only [ic_cel, h]
  | 21, hb, hne =>
    have h1 : s < 1 := hb.2.1
    have h2 : t < 1 := hb.2.2
    have e2 : t = 0 := by omega
    subst e2
    have e1 : s = 0 := by omega
    subst e1
    have h : ∀ j, (ic_up g b i v).1 28 (0 + j) = g.1 28 (0 + j) := by
      intro j
      refine ic_no hne ?_
      rfl
    simp only [ic_cel, h]
  | 22, hb, hne =>
    have h1 : s < 1 := hb.2.1
    have h2 : t < 1 := hb.2.2
    have e2 : t = 0 := by omega
    subst e2
    have e1 : s = 0 := by omega
    subst e1
    have h : ∀ j, (ic_up g b i v).1 29 (0 + j) = g.1 29 (0 + j) := by
      intro j
      refine ic_no hne ?_
      rfl
    simp only [ic_cel, h]
  | 23, hb, hne =>
    have h1 : s < 1 := hb.2.1
    have h2 : t < 1 := hb.2.2
    have e2 : t = 0 := by omega
    subst e2
    have e1 : s = 0 := by omega
    subst e1
    have h : ∀ j, (ic_up g b i v).1 30 (0 + j) = g.1 30 (0 + j) := by
      intro j
      refine ic_no hne ?_
      rfl
    simp only [ic_cel, h]
  | n + 24, hb, hne => exact absurd hb.1 (by show ¬ (n + 24 < 24); omega)
end
section
/-! THE FIXED WORLD: after the constructors no cell is made; every cell has a key, its contents are read off a store. A judgement ic_Ev: from a place of a method, with abstract locals, stack and store, the machine comes to a return with an answer and a store. -/
def ic_rv (κ : ic_X) (k : ic_K) : Value := if k.1 = 26 then va_rf κ.2.2.2 else .ref (κ.1 k.1 k.2.1 k.2.2)
def ic_cv (κ : ic_X) : ic_V → Value
  | .inl x => .int x
  | .inr (.inl x) => .long x
  | .inr (.inr none) => .null
  | .inr (.inr (some k)) => ic_rv κ k
def ic_cat : ic_V → Nat
  | .inr (.inl _) => 2
  | _ => 1
theorem ic_cvcat (κ : ic_X) (v : ic_V) : (ic_cv κ v).category = ic_cat v := by
  rcases v with x | x | _ | k
  · rfl
  · rfl
  · rfl
  · show (ic_rv κ k).category = 1
    unfold ic_rv
    split
    · cases κ.2.2.2 <;> rfl
    · rfl
theorem ic_cvnr (κ : ic_X) (o : Option ic_K) : ic_cv κ (.inr (.inr o)) = .null ∨ ∃ q, ic_cv κ (.inr (.inr o)) = .ref q := by
  rcases o with _ | k
  · exact Or.inl rfl
  · show ic_rv κ k = _ ∨ ∃ q, ic_rv κ k = _
    unfold ic_rv
    split
    · cases κ.2.2.2 with
      | none => exact Or.inl rfl
      | some q => exact Or.inr ⟨q, rfl⟩
    · exact Or.inr ⟨_, rfl⟩
abbrev ic_ad (κ : ic_X) (x : ic_K) : Nat := κ.1 x.1 x.2.1 x.2.2
theorem ic_cvk {κ : ic_X} {x : ic_K} (h : x.1 ≠ 26) : ic_cv κ (.inr (.inr (some x))) = .ref (ic_ad κ x) := by
  show ic_rv κ x = _
  unfold ic_rv
  rw [if_neg h]
theorem ic_k26 {x : ic_K} (h : x ∈ ic_keys) : x.1 ≠ 26 := fun e => by
  have := (ic_bnd x h).1
  omega
def ic_lv (κ : ic_X) (l : ic_L) : List (Nat × Value) := l.map fun q => (q.1, ic_cv κ q.2)
def ic_sv (κ : ic_X) (st : List ic_V) : List Value := st.map (ic_cv κ)
def ic_ws (κ : ic_X) (g : ic_S) : va_W := ic_keys.map fun x => (ic_ad κ x, ic_cel κ g x)
def ic_tys (κ : ic_X) : List (ClassId × FieldType) := [(κ.2.2.1 0, .int), (κ.2.2.1 1, .byte), (κ.2.2.1 2, .object "IronCall$Thing"), (κ.2.2.1 3, .object "IronCall$Sheet")]
/-- the words of nameOf: their entries in the file, their texts; their bytes -/
def ic_str : List (Nat × String) := [(73, "thing"), (75, "iron"), (77, "gold"), (79, "sword"), (81, "bed"), (83, "needle"), (85, "crown"), (87, "at"), (89, "heavy"), (91, "pulled"), (93, "held"), (95, "cart"), (97, "back"), (99, "pace"), (101, "loud"), (103, "")]
def ic_slen : List Nat := [5, 4, 4, 5, 3, 6, 5, 2, 5, 6, 4, 4, 4, 4, 4, 0]
def ic_sbyt : List (List Int32) := [[116, 104, 105, 110, 103], [105, 114, 111, 110], [103, 111, 108, 100], [115, 119, 111, 114, 100], [98, 101, 100], [110, 101, 101, 100, 108, 101], [99, 114, 111, 119, 110], [97, 116], [104, 101, 97, 118, 121], [112, 117, 108, 108, 101, 100], [104, 101, 108, 100], [99, 97, 114, 116], [98, 97, 99, 107], [112, 97, 99, 101], [108, 111, 117, 100], []]
/-- calls of a nest mate's private methods -/
def ic_nst : List (String × Nat × MethodName × String) := [("IronCall$Reader", 42, ⟨"IronCall", "isKind", "(I)Z"⟩, "IronCall"), ("IronCall$Reader", 76, ⟨"IronCall", "leastOf", "(I)I"⟩, "IronCall"), ("IronCall$Reader", 79, ⟨"IronCall", "mostOf", "(I)I"⟩, "IronCall")]
/-- what stands still: the classes, the String constants, two statics -/
def ic_F (κ : ic_X) (A : Nat → Prop) (s : State) : Prop :=
  va_K κ.2.1 ic_cls (ic_tys κ) s ∧ vk_S 16 ic_slen ic_sbyt (fun i => κ.1 24 i 0) (fun i => κ.1 25 i 0) A s s.heap ∧ (∀ (i : Nat) (q : Nat × String), ic_str[i]? = some q → vk_R "IronCall$Tokens" q.1 q.2 (κ.1 24 i 0) s) ∧
  va_Z "java/lang/String" "COMPACT_STRINGS" "Z" (.int 1) A s s.heap ∧ va_Z "jdk/internal/util/Preconditions" "SIOOBE_FORMATTER" "Ljava/util/function/BiFunction;" (va_rf κ.2.2.2) A s s.heap ∧ (∀ q ∈ ic_nst, va_Nw (.methodLinkNest q.1 q.2.1 q.2.2.1 q.2.2.2) s)
/-- the script: its ints stand in bank 40, its length in bank 41 -/
def ic_G (κ : ic_X) (A : Nat → Prop) (g : ic_S) (s : State) : Prop :=
  ∃ (L : Nat) (xs : Nat → Int32), va_X (κ.1 27 0 0) L xs s s.heap ∧ (∀ j, j < L → xs j = g.1 40 j) ∧ Int32.ofNat L = g.1 41 0 ∧ κ.1 27 0 0 < s.heap.size ∧ ¬ A (κ.1 27 0 0)
/-- the moving part -/
def ic_W (κ : ic_X) (A : Nat → Prop) (g : ic_S) (s : State) (H : Heap) (locs : List Loc) : Prop :=
  va_P κ.2.1 ic_cls (ic_ws κ g) H ∧ va_D A (ic_ws κ g) ∧ va_S A s.heap H locs ∧ ic_G κ A g s
def ic_at (M : ic_M) (a b : Nat) : Option (Nat × Instr × Nat × Nat) := (M.2.2.2.2.2.2.getD a [])[b]?
def ic_okd (M : ic_M) : Bool := M.2.2.2.2.2.2.all fun l => l.all fun e => decide (decode M.2.1 e.1 = .ok (e.2.1, e.2.2.1)) && decide (e.2.2.2 = e.1 + e.2.2.1)
theorem ic_okd_at {M : ic_M} (h : ic_okd M = true) {a b : Nat} {e : Nat × Instr × Nat × Nat} (he : ic_at M a b = some e) : decode M.2.1 e.1 = .ok (e.2.1, e.2.2.1) ∧ e.2.2.2 = e.1 + e.2.2.1 := by
  unfold ic_at at he
  have hm : e ∈ M.2.2.2.2.2.2.getD a [] := List.mem_of_getElem? he
  have hl : M.2.2.2.2.2.2.getD a [] ∈ M.2.2.2.2.2.2 := by
    rw [List.getD_eq_getElem?_getD] at hm ⊢
    cases hx : M.2.2.2.2.2.2[a]? with
    | none => rw [hx] at hm; exact absurd hm List.not_mem_nil
    | some l => exact List.mem_of_getElem? hx
  have h1 := List.all_eq_true.mp (List.all_eq_true.mp h _ hl) e hm
  simp only [Bool.and_eq_true, decide_eq_true_eq] at h1
  exact h1
/-- the base of a walk -/
def ic_B (κ : ic_X) (A : Nat → Prop) (M : ic_M) (p : Program) (R : Room) (s : State) (m : MethodId) (args : Array Value) (c : Code) : Prop :=
  p.tables.exec = Jvm.exec ∧ c.code = M.2.1 ∧ c.maxLocals = M.2.2.1 ∧ s.vm.findClass M.1.cls = some m.cls ∧ (∀ w ∈ lw_gd, w.before args s = true) ∧ M.2.2.2.2.1 ≤ R.frames ∧ M.2.2.2.2.2.1 ≤ R.locals ∧ ic_F κ A s ∧ (∀ x ∈ ic_keys, A (ic_ad κ x)) ∧ ic_okd M = true
def ic_Rt (M : ic_M) (pc : Nat) (r : Option ic_V) : Prop := match r with
  | none => decode M.2.1 pc = .ok (.return_, 1) ∧ M.2.2.2.1 = none
  | some (.inl v) => decode M.2.1 pc = .ok (.ireturn, 1) ∧ ∃ ty, M.2.2.2.1 = some ty ∧ narrow ty (.int v) = .int v
  | some (.inr (.inl _)) => decode M.2.1 pc = .ok (.lreturn, 1) ∧ M.2.2.2.1 = some .long
  | some (.inr (.inr _)) => decode M.2.1 pc = .ok (.areturn, 1) ∧ ∃ rt, M.2.2.2.1 = some rt ∧ ((∃ n, rt = .object n) ∨ ∃ t, rt = .array t)
def ic_Ev (M : ic_M) (pc : Nat) (lv : ic_L) (st : List ic_V) (g : ic_S) (r : Option ic_V) (g' : ic_S) : Prop :=
  ∀ (κ : ic_X) (A : Nat → Prop) (p : Program) (l : Launch) (e : Env) (R : Room) (s : State) (m : MethodId) (args : Array Value) (below : List Frame) (meth : Method) (c : Code) (cells slots : Nat) (Q : State → Prop),
    ic_B κ A M p R s m args c → (cells ≤ R.cells ∧ slots ≤ R.slots) →
    (∀ (H : Heap) (locs : List Loc) (pc1 : Nat) (ls : Array Slot), ic_Rt M pc1 r → ic_W κ A g' s H locs → W p l e R s m args below meth c H locs cells slots Q (F0 m pc1 ls (ic_sv κ r.toList))) →
    ∀ (H : Heap) (locs : List Loc) (ls : Array Slot), ic_W κ A g s H locs → lv_has ls M.2.2.1 (ic_lv κ lv) → W p l e R s m args below meth c H locs cells slots Q (F0 m pc ls (ic_sv κ st))
/-! locals -/
def ic_lk : ic_L → Nat → Option ic_V
  | [], _ => none
  | (j, v) :: l, i => bif j == i then some v else ic_lk l i
theorem ic_lk_mem : ∀ {l : ic_L} {i : Nat} {v : ic_V}, ic_lk l i = some v → (i, v) ∈ l
  | (j, u) :: l, i, v, h => by
    unfold ic_lk at h
    cases hj : j == i with
    | true =>
      rw [hj] at h
      have e : j = i := by simpa using hj
      cases h
      rw [e]
      exact List.mem_cons_self
    | false =>
      rw [hj] at h
      exact List.mem_cons_of_mem _ (ic_lk_mem h)
theorem ic_lkc {κ : ic_X} {ls : Array Slot} {n : Nat} {lv : ic_L} (hl : lv_has ls n (ic_lv κ lv)) {i : Nat} {v : ic_V} (h : ic_lk lv i = some v) : ls[i]? = some (.val (ic_cv κ v)) :=
  hl.2.2 (i, ic_cv κ v) (List.mem_map.mpr ⟨(i, v), ic_lk_mem h, rfl⟩)
/-- stays when v comes to i -/
def ic_kp (i : Nat) (w : Bool) (q : Nat × ic_V) : Bool := !(q.1 == i) && (!(w && q.1 == i + 1) && !(q.1 + 1 == i && ic_cat q.2 == 2))
/-- every listed local of the new list is the stored one, or stood before and stays -/
def ic_sto (lv : ic_L) (i : Nat) (v : ic_V) : ic_L → Prop
  | [] => True
  | q :: l => (q = (i, v) ∨ (ic_lk lv q.1 = some q.2 ∧ ic_kp i (ic_cat v == 2) q = true)) ∧ ic_sto lv i v l
theorem ic_sto_mem {lv : ic_L} {i : Nat} {v : ic_V} : ∀ {lv' : ic_L}, ic_sto lv i v lv' → ∀ q ∈ lv', q = (i, v) ∨ (q ∈ lv ∧ ic_kp i (ic_cat v == 2) q = true)
  | p :: l, h, q, hq => by
    rcases List.mem_cons.mp hq with rfl | hq
    · rcases h.1 with e | ⟨e, h2⟩
      · exact Or.inl e
      · exact Or.inr ⟨ic_lk_mem e, h2⟩
    · exact ic_sto_mem h.2 q hq
theorem ic_has_mono {ls : Array Slot} {n : Nat} {l l' : List (Nat × Value)} (h : lv_has ls n l) (hm : ∀ q ∈ l', q ∈ l) : lv_has ls n l' := ⟨h.1, h.2.1, fun q hq => h.2.2 q (hm q hq)⟩
theorem ic_sto1 {κ : ic_X} {lv lv' : ic_L} {i : Nat} {v : ic_V} (h : ic_sto lv i v lv') (hc : ic_cat v = 1) : ∀ q ∈ ic_lv κ lv', q ∈ (i, ic_cv κ v) :: (ic_lv κ lv).filter (fun q => !(q.1 == i) && !(q.1 + 1 == i && q.2.category == 2)) := by
  intro q hq
  obtain ⟨u, hu, rfl⟩ := List.mem_map.mp hq
  rcases ic_sto_mem h u hu with rfl | ⟨hm, hk⟩
  · exact List.mem_cons_self
  · refine List.mem_cons_of_mem _ (List.mem_filter.mpr ⟨List.mem_map.mpr ⟨u, hm, rfl⟩, ?_⟩)
    show (!(u.1 == i) && !(u.1 + 1 == i && (ic_cv κ u.2).category == 2)) = true
    rw [ic_cvcat]
    unfold ic_kp at hk
    simp only [Bool.and_eq_true] at hk ⊢
    exact ⟨hk.1, hk.2.2⟩
theorem ic_sto2 {κ : ic_X} {lv lv' : ic_L} {i : Nat} {v : ic_V} (h : ic_sto lv i v lv') (hc : ic_cat v = 2) : ∀ q ∈ ic_lv κ lv', q ∈ (i, ic_cv κ v) :: (ic_lv κ lv).filter (fun q => !(q.1 == i) && (!(q.1 == i + 1) && !(q.1 + 1 == i && q.2.category == 2))) := by
  intro q hq
  obtain ⟨u, hu, rfl⟩ := List.mem_map.mp hq
  rcases ic_sto_mem h u hu with rfl | ⟨hm, hk⟩
  · exact List.mem_cons_self
  · refine List.mem_cons_of_mem _ (List.mem_filter.mpr ⟨List.mem_map.mpr ⟨u, hm, rfl⟩, ?_⟩)
    show (!(u.1 == i) && (!(u.1 == i + 1) && !(u.1 + 1 == i && (ic_cv κ u.2).category == 2))) = true
    rw [ic_cvcat]
    unfold ic_kp at hk
    rw [hc] at hk
    simpa using hk
/-- fewer locals -/
def ic_fw (lv : ic_L) : ic_L → Prop
  | [] => True
  | q :: l => ic_lk lv q.1 = some q.2 ∧ ic_fw lv l
theorem ic_fw_mem {lv : ic_L} : ∀ {lv' : ic_L}, ic_fw lv lv' → ∀ q ∈ lv', q ∈ lv
  | p :: l, h, q, hq => by
    rcases List.mem_cons.mp hq with rfl | hq
    · exact ic_lk_mem h.1
    · exact ic_fw_mem h.2 q hq
section IC
variable {M : ic_M} {pc nx : Nat} {lv lv' : ic_L} {st : List ic_V} {g g1 g' : ic_S} {r : Option ic_V} {a b : Nat}
theorem ev_fw (h : ic_Ev M pc lv' st g r g') (hf : ic_fw lv lv') : ic_Ev M pc lv st g r g' := by
  intro κ A p l e R s m args below meth c cells slots Q B hc K H locs ls hW hl
  refine h κ A p l e R s m args below meth c cells slots Q B hc K H locs ls hW (ic_has_mono hl fun q hq => ?_)
  obtain ⟨u, hu, rfl⟩ := List.mem_map.mp hq
  exact List.mem_map.mpr ⟨u, ic_fw_mem hf u hu, rfl⟩
theorem ev_iadd {x y : Int32} (hd : ic_at M a b = some (pc, .iadd, 1, nx)) (h : ic_Ev M nx lv (ic_I (x + y) :: st) g r g') : ic_Ev M pc lv (ic_I y :: ic_I x :: st) g r g' := by
  intro κ A p l e R s m args below meth c cells slots Q B hc K H locs ls hW hl
  obtain ⟨hx, hb, hml, hown, hts, hfr, hlo, hF, hA, hok⟩ := id B
  obtain ⟨hd1, hd2⟩ := ic_okd_at hok hd
  dsimp only at hd1 hd2
  subst hd2
  exact lv_iadd hx hb hd1 (h κ A p l e R s m args below meth c cells slots Q B hc K H locs ls hW hl)
theorem ev_isub {x y : Int32} (hd : ic_at M a b = some (pc, .isub, 1, nx)) (h : ic_Ev M nx lv (ic_I (x - y) :: st) g r g') : ic_Ev M pc lv (ic_I y :: ic_I x :: st) g r g' := by
  intro κ A p l e R s m args below meth c cells slots Q B hc K H locs ls hW hl
  obtain ⟨hx, hb, hml, hown, hts, hfr, hlo, hF, hA, hok⟩ := id B
  obtain ⟨hd1, hd2⟩ := ic_okd_at hok hd
  dsimp only at hd1 hd2
  subst hd2
  exact lv_isub hx hb hd1 (h κ A p l e R s m args below meth c cells slots Q B hc K H locs ls hW hl)
theorem ev_imul {x y : Int32} (hd : ic_at M a b = some (pc, .imul, 1, nx)) (h : ic_Ev M nx lv (ic_I (x * y) :: st) g r g') : ic_Ev M pc lv (ic_I y :: ic_I x :: st) g r g' := by
  intro κ A p l e R s m args below meth c cells slots Q B hc K H locs ls hW hl
  obtain ⟨hx, hb, hml, hown, hts, hfr, hlo, hF, hA, hok⟩ := id B
  obtain ⟨hd1, hd2⟩ := ic_okd_at hok hd
  dsimp only at hd1 hd2
  subst hd2
  exact lv_imul hx hb hd1 (h κ A p l e R s m args below meth c cells slots Q B hc K H locs ls hW hl)
theorem ev_iand {x y : Int32} (hd : ic_at M a b = some (pc, .iand, 1, nx)) (h : ic_Ev M nx lv (ic_I (x &&& y) :: st) g r g') : ic_Ev M pc lv (ic_I y :: ic_I x :: st) g r g' := by
  intro κ A p l e R s m args below meth c cells slots Q B hc K H locs ls hW hl
  obtain ⟨hx, hb, hml, hown, hts, hfr, hlo, hF, hA, hok⟩ := id B
  obtain ⟨hd1, hd2⟩ := ic_okd_at hok hd
  dsimp only at hd1 hd2
  subst hd2
  exact lv_iand hx hb hd1 (h κ A p l e R s m args below meth c cells slots Q B hc K H locs ls hW hl)
theorem ev_ior {x y : Int32} (hd : ic_at M a b = some (pc, .ior, 1, nx)) (h : ic_Ev M nx lv (ic_I (x ||| y) :: st) g r g') : ic_Ev M pc lv (ic_I y :: ic_I x :: st) g r g' := by
  intro κ A p l e R s m args below meth c cells slots Q B hc K H locs ls hW hl
  obtain ⟨hx, hb, hml, hown, hts, hfr, hlo, hF, hA, hok⟩ := id B
  obtain ⟨hd1, hd2⟩ := ic_okd_at hok hd
  dsimp only at hd1 hd2
  subst hd2
  exact lv_ior hx hb hd1 (h κ A p l e R s m args below meth c cells slots Q B hc K H locs ls hW hl)
theorem ev_ixor {x y : Int32} (hd : ic_at M a b = some (pc, .ixor, 1, nx)) (h : ic_Ev M nx lv (ic_I (x ^^^ y) :: st) g r g') : ic_Ev M pc lv (ic_I y :: ic_I x :: st) g r g' := by
  intro κ A p l e R s m args below meth c cells slots Q B hc K H locs ls hW hl
  obtain ⟨hx, hb, hml, hown, hts, hfr, hlo, hF, hA, hok⟩ := id B
  obtain ⟨hd1, hd2⟩ := ic_okd_at hok hd
  dsimp only at hd1 hd2
  subst hd2
  exact lv_ixor hx hb hd1 (h κ A p l e R s m args below meth c cells slots Q B hc K H locs ls hW hl)
theorem ev_ladd {x y : Int64} (hd : ic_at M a b = some (pc, .ladd, 1, nx)) (h : ic_Ev M nx lv (ic_J (x + y) :: st) g r g') : ic_Ev M pc lv (ic_J y :: ic_J x :: st) g r g' := by
  intro κ A p l e R s m args below meth c cells slots Q B hc K H locs ls hW hl
  obtain ⟨hx, hb, hml, hown, hts, hfr, hlo, hF, hA, hok⟩ := id B
  obtain ⟨hd1, hd2⟩ := ic_okd_at hok hd
  dsimp only at hd1 hd2
  subst hd2
  exact lv_ladd hx hb hd1 (h κ A p l e R s m args below meth c cells slots Q B hc K H locs ls hW hl)
theorem ev_lsub {x y : Int64} (hd : ic_at M a b = some (pc, .lsub, 1, nx)) (h : ic_Ev M nx lv (ic_J (x - y) :: st) g r g') : ic_Ev M pc lv (ic_J y :: ic_J x :: st) g r g' := by
  intro κ A p l e R s m args below meth c cells slots Q B hc K H locs ls hW hl
  obtain ⟨hx, hb, hml, hown, hts, hfr, hlo, hF, hA, hok⟩ := id B
  obtain ⟨hd1, hd2⟩ := ic_okd_at hok hd
  dsimp only at hd1 hd2
  subst hd2
  exact lv_lsub hx hb hd1 (h κ A p l e R s m args below meth c cells slots Q B hc K H locs ls hW hl)
theorem ev_lmul {x y : Int64} (hd : ic_at M a b = some (pc, .lmul, 1, nx)) (h : ic_Ev M nx lv (ic_J (x * y) :: st) g r g') : ic_Ev M pc lv (ic_J y :: ic_J x :: st) g r g' := by
  intro κ A p l e R s m args below meth c cells slots Q B hc K H locs ls hW hl
  obtain ⟨hx, hb, hml, hown, hts, hfr, hlo, hF, hA, hok⟩ := id B
  obtain ⟨hd1, hd2⟩ := ic_okd_at hok hd
  dsimp only at hd1 hd2
  subst hd2
  exact lv_lmul hx hb hd1 (h κ A p l e R s m args below meth c cells slots Q B hc K H locs ls hW hl)
theorem ev_lcmp {x y : Int64} (hd : ic_at M a b = some (pc, .lcmp, 1, nx)) (h : ic_Ev M nx lv (ic_I (lg_cmp x y) :: st) g r g') : ic_Ev M pc lv (ic_J y :: ic_J x :: st) g r g' := by
  intro κ A p l e R s m args below meth c cells slots Q B hc K H locs ls hW hl
  obtain ⟨hx, hb, hml, hown, hts, hfr, hlo, hF, hA, hok⟩ := id B
  obtain ⟨hd1, hd2⟩ := ic_okd_at hok hd
  dsimp only at hd1 hd2
  subst hd2
  exact W.lcmp hx hb hd1 (h κ A p l e R s m args below meth c cells slots Q B hc K H locs ls hW hl)
theorem ev_idiv {x y : Int32} (hd : ic_at M a b = some (pc, .idiv, 1, nx)) (hne : ¬ y = 0) (h : ic_Ev M nx lv (ic_I (x / y) :: st) g r g') : ic_Ev M pc lv (ic_I y :: ic_I x :: st) g r g' := by
  intro κ A p l e R s m args below meth c cells slots Q B hc K H locs ls hW hl
  obtain ⟨hx, hb, hml, hown, hts, hfr, hlo, hF, hA, hok⟩ := id B
  obtain ⟨hd1, hd2⟩ := ic_okd_at hok hd
  dsimp only at hd1 hd2
  subst hd2
  exact lv_idiv hx hb hd1 hne (h κ A p l e R s m args below meth c cells slots Q B hc K H locs ls hW hl)
theorem ev_irem {x y : Int32} (hd : ic_at M a b = some (pc, .irem, 1, nx)) (hne : ¬ y = 0) (h : ic_Ev M nx lv (ic_I (x - x / y * y) :: st) g r g') : ic_Ev M pc lv (ic_I y :: ic_I x :: st) g r g' := by
  intro κ A p l e R s m args below meth c cells slots Q B hc K H locs ls hW hl
  obtain ⟨hx, hb, hml, hown, hts, hfr, hlo, hF, hA, hok⟩ := id B
  obtain ⟨hd1, hd2⟩ := ic_okd_at hok hd
  dsimp only at hd1 hd2
  subst hd2
  exact lv_irem hx hb hd1 hne (h κ A p l e R s m args below meth c cells slots Q B hc K H locs ls hW hl)
theorem ev_ineg {x : Int32} (hd : ic_at M a b = some (pc, .ineg, 1, nx)) (h : ic_Ev M nx lv (ic_I (-x) :: st) g r g') : ic_Ev M pc lv (ic_I x :: st) g r g' := by
  intro κ A p l e R s m args below meth c cells slots Q B hc K H locs ls hW hl
  obtain ⟨hx, hb, hml, hown, hts, hfr, hlo, hF, hA, hok⟩ := id B
  obtain ⟨hd1, hd2⟩ := ic_okd_at hok hd
  dsimp only at hd1 hd2
  subst hd2
  exact lv_ineg hx hb hd1 (h κ A p l e R s m args below meth c cells slots Q B hc K H locs ls hW hl)
theorem ev_ishl {x y : Int32} (hd : ic_at M a b = some (pc, .ishl, 1, nx)) (h : ic_Ev M nx lv (ic_I (x <<< (y &&& 31)) :: st) g r g') : ic_Ev M pc lv (ic_I y :: ic_I x :: st) g r g' := by
  intro κ A p l e R s m args below meth c cells slots Q B hc K H locs ls hW hl
  obtain ⟨hx, hb, hml, hown, hts, hfr, hlo, hF, hA, hok⟩ := id B
  obtain ⟨hd1, hd2⟩ := ic_okd_at hok hd
  dsimp only at hd1 hd2
  subst hd2
  exact lv_ishl hx hb hd1 (h κ A p l e R s m args below meth c cells slots Q B hc K H locs ls hW hl)
theorem ev_ishr {x y : Int32} (hd : ic_at M a b = some (pc, .ishr, 1, nx)) (h : ic_Ev M nx lv (ic_I (x >>> (y &&& 31)) :: st) g r g') : ic_Ev M pc lv (ic_I y :: ic_I x :: st) g r g' := by
  intro κ A p l e R s m args below meth c cells slots Q B hc K H locs ls hW hl
  obtain ⟨hx, hb, hml, hown, hts, hfr, hlo, hF, hA, hok⟩ := id B
  obtain ⟨hd1, hd2⟩ := ic_okd_at hok hd
  dsimp only at hd1 hd2
  subst hd2
  exact lv_ishr hx hb hd1 (h κ A p l e R s m args below meth c cells slots Q B hc K H locs ls hW hl)
theorem ev_iushr {x y : Int32} (hd : ic_at M a b = some (pc, .iushr, 1, nx)) (h : ic_Ev M nx lv (ic_I (x.toUInt32 >>> (y.toUInt32 &&& Int32.toUInt32 31)).toInt32 :: st) g r g') : ic_Ev M pc lv (ic_I y :: ic_I x :: st) g r g' := by
  intro κ A p l e R s m args below meth c cells slots Q B hc K H locs ls hW hl
  obtain ⟨hx, hb, hml, hown, hts, hfr, hlo, hF, hA, hok⟩ := id B
  obtain ⟨hd1, hd2⟩ := ic_okd_at hok hd
  dsimp only at hd1 hd2
  subst hd2
  exact lv_iushr hx hb hd1 rfl (h κ A p l e R s m args below meth c cells slots Q B hc K H locs ls hW hl)
theorem ev_i2l {x : Int32} (hd : ic_at M a b = some (pc, .i2l, 1, nx)) (h : ic_Ev M nx lv (ic_J x.toInt64 :: st) g r g') : ic_Ev M pc lv (ic_I x :: st) g r g' := by
  intro κ A p l e R s m args below meth c cells slots Q B hc K H locs ls hW hl
  obtain ⟨hx, hb, hml, hown, hts, hfr, hlo, hF, hA, hok⟩ := id B
  obtain ⟨hd1, hd2⟩ := ic_okd_at hok hd
  dsimp only at hd1 hd2
  subst hd2
  exact lv_i2l hx hb hd1 rfl (h κ A p l e R s m args below meth c cells slots Q B hc K H locs ls hW hl)
theorem ev_l2i {x : Int64} (hd : ic_at M a b = some (pc, .l2i, 1, nx)) (h : ic_Ev M nx lv (ic_I x.toInt32 :: st) g r g') : ic_Ev M pc lv (ic_J x :: st) g r g' := by
  intro κ A p l e R s m args below meth c cells slots Q B hc K H locs ls hW hl
  obtain ⟨hx, hb, hml, hown, hts, hfr, hlo, hF, hA, hok⟩ := id B
  obtain ⟨hd1, hd2⟩ := ic_okd_at hok hd
  dsimp only at hd1 hd2
  subst hd2
  exact lv_l2i hx hb hd1 rfl (h κ A p l e R s m args below meth c cells slots Q B hc K H locs ls hW hl)
theorem ev_i2b {x : Int32} (hd : ic_at M a b = some (pc, .i2b, 1, nx)) (h : ic_Ev M nx lv (ic_I x.toInt8.toInt32 :: st) g r g') : ic_Ev M pc lv (ic_I x :: st) g r g' := by
  intro κ A p l e R s m args below meth c cells slots Q B hc K H locs ls hW hl
  obtain ⟨hx, hb, hml, hown, hts, hfr, hlo, hF, hA, hok⟩ := id B
  obtain ⟨hd1, hd2⟩ := ic_okd_at hok hd
  dsimp only at hd1 hd2
  subst hd2
  exact lv_i2b hx hb hd1 rfl (h κ A p l e R s m args below meth c cells slots Q B hc K H locs ls hW hl)
theorem ev_i2s {x : Int32} (hd : ic_at M a b = some (pc, .i2s, 1, nx)) (h : ic_Ev M nx lv (ic_I x.toInt16.toInt32 :: st) g r g') : ic_Ev M pc lv (ic_I x :: st) g r g' := by
  intro κ A p l e R s m args below meth c cells slots Q B hc K H locs ls hW hl
  obtain ⟨hx, hb, hml, hown, hts, hfr, hlo, hF, hA, hok⟩ := id B
  obtain ⟨hd1, hd2⟩ := ic_okd_at hok hd
  dsimp only at hd1 hd2
  subst hd2
  exact lv_i2s hx hb hd1 rfl (h κ A p l e R s m args below meth c cells slots Q B hc K H locs ls hW hl)
theorem ev_i2c {x : Int32} (hd : ic_at M a b = some (pc, .i2c, 1, nx)) (h : ic_Ev M nx lv (ic_I (x.toUInt32 % 65536).toInt32 :: st) g r g') : ic_Ev M pc lv (ic_I x :: st) g r g' := by
  intro κ A p l e R s m args below meth c cells slots Q B hc K H locs ls hW hl
  obtain ⟨hx, hb, hml, hown, hts, hfr, hlo, hF, hA, hok⟩ := id B
  obtain ⟨hd1, hd2⟩ := ic_okd_at hok hd
  dsimp only at hd1 hd2
  subst hd2
  exact lv_i2c hx hb hd1 rfl (h κ A p l e R s m args below meth c cells slots Q B hc K H locs ls hW hl)
theorem ev_iconst {n : Int} (v : Int32) (hd : ic_at M a b = some (pc, .iconst n, 1, nx)) (hv : Int32.ofInt n = v) (h : ic_Ev M nx lv (ic_I v :: st) g r g') : ic_Ev M pc lv (st) g r g' := by
  intro κ A p l e R s m args below meth c cells slots Q B hc K H locs ls hW hl
  obtain ⟨hx, hb, hml, hown, hts, hfr, hlo, hF, hA, hok⟩ := id B
  obtain ⟨hd1, hd2⟩ := ic_okd_at hok hd
  dsimp only at hd1 hd2
  subst hd2
  exact lv_iconst hx hb hd1 hv (h κ A p l e R s m args below meth c cells slots Q B hc K H locs ls hW hl)
theorem ev_bipush {n : Int} (v : Int32) (hd : ic_at M a b = some (pc, .bipush n, 2, nx)) (hv : (Int8.ofInt n).toInt32 = v) (h : ic_Ev M nx lv (ic_I v :: st) g r g') : ic_Ev M pc lv (st) g r g' := by
  intro κ A p l e R s m args below meth c cells slots Q B hc K H locs ls hW hl
  obtain ⟨hx, hb, hml, hown, hts, hfr, hlo, hF, hA, hok⟩ := id B
  obtain ⟨hd1, hd2⟩ := ic_okd_at hok hd
  dsimp only at hd1 hd2
  subst hd2
  exact lv_bipush hx hb hd1 hv (h κ A p l e R s m args below meth c cells slots Q B hc K H locs ls hW hl)
theorem ev_sipush {n : Int} (v : Int32) (hd : ic_at M a b = some (pc, .sipush n, 3, nx)) (hv : (Int16.ofInt n).toInt32 = v) (h : ic_Ev M nx lv (ic_I v :: st) g r g') : ic_Ev M pc lv (st) g r g' := by
  intro κ A p l e R s m args below meth c cells slots Q B hc K H locs ls hW hl
  obtain ⟨hx, hb, hml, hown, hts, hfr, hlo, hF, hA, hok⟩ := id B
  obtain ⟨hd1, hd2⟩ := ic_okd_at hok hd
  dsimp only at hd1 hd2
  subst hd2
  exact lv_sipush hx hb hd1 hv (h κ A p l e R s m args below meth c cells slots Q B hc K H locs ls hW hl)
theorem ev_lconst {n : Fin 2} (v : Int64) (hd : ic_at M a b = some (pc, .lconst n, 1, nx)) (hv : Int64.ofNat (n : Nat) = v) (h : ic_Ev M nx lv (ic_J v :: st) g r g') : ic_Ev M pc lv (st) g r g' := by
  intro κ A p l e R s m args below meth c cells slots Q B hc K H locs ls hW hl
  obtain ⟨hx, hb, hml, hown, hts, hfr, hlo, hF, hA, hok⟩ := id B
  obtain ⟨hd1, hd2⟩ := ic_okd_at hok hd
  dsimp only at hd1 hd2
  subst hd2
  exact lv_lconst hx hb hd1 hv (h κ A p l e R s m args below meth c cells slots Q B hc K H locs ls hW hl)
theorem ev_null  (hd : ic_at M a b = some (pc, .aconst_null, 1, nx)) (h : ic_Ev M nx lv (ic_N :: st) g r g') : ic_Ev M pc lv (st) g r g' := by
  intro κ A p l e R s m args below meth c cells slots Q B hc K H locs ls hW hl
  obtain ⟨hx, hb, hml, hown, hts, hfr, hlo, hF, hA, hok⟩ := id B
  obtain ⟨hd1, hd2⟩ := ic_okd_at hok hd
  dsimp only at hd1 hd2
  subst hd2
  exact lv_null hx hb hd1 (h κ A p l e R s m args below meth c cells slots Q B hc K H locs ls hW hl)
theorem ev_ldc {i : Nat} (v : Int32) (hd : ic_at M a b = some (pc, .ldc i, 2, nx)) (hc0 : Cond.constant M.1.cls i v ∈ lw_gd) (h : ic_Ev M nx lv (ic_I v :: st) g r g') : ic_Ev M pc lv (st) g r g' := by
  intro κ A p l e R s m args below meth c cells slots Q B hc K H locs ls hW hl
  obtain ⟨hx, hb, hml, hown, hts, hfr, hlo, hF, hA, hok⟩ := id B
  obtain ⟨hd1, hd2⟩ := ic_okd_at hok hd
  dsimp only at hd1 hd2
  subst hd2
  exact lv_ldc hx hb hown (hts _ hc0) hd1 (h κ A p l e R s m args below meth c cells slots Q B hc K H locs ls hW hl)
theorem ev_ldc2 {i : Nat} (v : Int64) (hd : ic_at M a b = some (pc, .ldc2_w i, 3, nx)) (hc0 : Cond.constantLong M.1.cls i v ∈ lw_gd) (h : ic_Ev M nx lv (ic_J v :: st) g r g') : ic_Ev M pc lv (st) g r g' := by
  intro κ A p l e R s m args below meth c cells slots Q B hc K H locs ls hW hl
  obtain ⟨hx, hb, hml, hown, hts, hfr, hlo, hF, hA, hok⟩ := id B
  obtain ⟨hd1, hd2⟩ := ic_okd_at hok hd
  dsimp only at hd1 hd2
  subst hd2
  exact lv_ldc2 hx hb hown (hts _ hc0) hd1 (h κ A p l e R s m args below meth c cells slots Q B hc K H locs ls hW hl)
theorem ev_iload {i : Nat} {x : Int32} (hd : ic_at M a b = some (pc, .iload i, 2, nx)) (hi : ic_lk lv i = some (ic_I x)) (h : ic_Ev M nx lv (ic_I x :: st) g r g') : ic_Ev M pc lv (st) g r g' := by
  intro κ A p l e R s m args below meth c cells slots Q B hc K H locs ls hW hl
  obtain ⟨hx, hb, hml, hown, hts, hfr, hlo, hF, hA, hok⟩ := id B
  obtain ⟨hd1, hd2⟩ := ic_okd_at hok hd
  dsimp only at hd1 hd2
  subst hd2
  exact lv_iload hx hb hd1 (ic_lkc hl hi) (h κ A p l e R s m args below meth c cells slots Q B hc K H locs ls hW hl)
theorem ev_iload_n {i : Fin 4} {x : Int32} (hd : ic_at M a b = some (pc, .iload_n i, 1, nx)) (hi : ic_lk lv (i : Nat) = some (ic_I x)) (h : ic_Ev M nx lv (ic_I x :: st) g r g') : ic_Ev M pc lv (st) g r g' := by
  intro κ A p l e R s m args below meth c cells slots Q B hc K H locs ls hW hl
  obtain ⟨hx, hb, hml, hown, hts, hfr, hlo, hF, hA, hok⟩ := id B
  obtain ⟨hd1, hd2⟩ := ic_okd_at hok hd
  dsimp only at hd1 hd2
  subst hd2
  exact lv_iload_n hx hb hd1 rfl (ic_lkc hl hi) (h κ A p l e R s m args below meth c cells slots Q B hc K H locs ls hW hl)
theorem ev_lload {i : Nat} {x : Int64} (hd : ic_at M a b = some (pc, .lload i, 2, nx)) (hi : ic_lk lv i = some (ic_J x)) (h : ic_Ev M nx lv (ic_J x :: st) g r g') : ic_Ev M pc lv (st) g r g' := by
  intro κ A p l e R s m args below meth c cells slots Q B hc K H locs ls hW hl
  obtain ⟨hx, hb, hml, hown, hts, hfr, hlo, hF, hA, hok⟩ := id B
  obtain ⟨hd1, hd2⟩ := ic_okd_at hok hd
  dsimp only at hd1 hd2
  subst hd2
  exact lv_lload hx hb hd1 (ic_lkc hl hi) (h κ A p l e R s m args below meth c cells slots Q B hc K H locs ls hW hl)
theorem ev_lload_n {i : Fin 4} {x : Int64} (hd : ic_at M a b = some (pc, .lload_n i, 1, nx)) (hi : ic_lk lv (i : Nat) = some (ic_J x)) (h : ic_Ev M nx lv (ic_J x :: st) g r g') : ic_Ev M pc lv (st) g r g' := by
  intro κ A p l e R s m args below meth c cells slots Q B hc K H locs ls hW hl
  obtain ⟨hx, hb, hml, hown, hts, hfr, hlo, hF, hA, hok⟩ := id B
  obtain ⟨hd1, hd2⟩ := ic_okd_at hok hd
  dsimp only at hd1 hd2
  subst hd2
  exact lv_lload_n hx hb hd1 rfl (ic_lkc hl hi) (h κ A p l e R s m args below meth c cells slots Q B hc K H locs ls hW hl)
theorem ev_aload {i : Nat} {o : Option ic_K} (hd : ic_at M a b = some (pc, .aload i, 2, nx)) (hi : ic_lk lv i = some (.inr (.inr o))) (h : ic_Ev M nx lv (.inr (.inr o) :: st) g r g') : ic_Ev M pc lv st g r g' := by
  intro κ A p l e R s m args below meth c cells slots Q B hc K H locs ls hW hl
  obtain ⟨hx, hb, hml, hown, hts, hfr, hlo, hF, hA, hok⟩ := id B
  obtain ⟨hd1, hd2⟩ := ic_okd_at hok hd
  dsimp only at hd1 hd2
  subst hd2
  have h2 := ic_lkc hl hi
  have h3 := h κ A p l e R s m args below meth c cells slots Q B hc K H locs ls hW hl
  have e3 : ic_sv κ ((.inr (.inr o) : ic_V) :: st) = ic_cv κ (.inr (.inr o)) :: ic_sv κ st := rfl
  rw [e3] at h3
  rcases ic_cvnr κ o with e | ⟨q, e⟩
  · rw [e] at h2 h3
    exact lv_aloadN hx hb hd1 h2 h3
  · rw [e] at h2 h3
    exact lv_aload hx hb hd1 h2 h3
theorem ev_aload_n {i : Fin 4} {o : Option ic_K} (hd : ic_at M a b = some (pc, .aload_n i, 1, nx)) (hi : ic_lk lv (i : Nat) = some (.inr (.inr o))) (h : ic_Ev M nx lv (.inr (.inr o) :: st) g r g') : ic_Ev M pc lv st g r g' := by
  intro κ A p l e R s m args below meth c cells slots Q B hc K H locs ls hW hl
  obtain ⟨hx, hb, hml, hown, hts, hfr, hlo, hF, hA, hok⟩ := id B
  obtain ⟨hd1, hd2⟩ := ic_okd_at hok hd
  dsimp only at hd1 hd2
  subst hd2
  have h2 := ic_lkc hl hi
  have h3 := h κ A p l e R s m args below meth c cells slots Q B hc K H locs ls hW hl
  have e3 : ic_sv κ ((.inr (.inr o) : ic_V) :: st) = ic_cv κ (.inr (.inr o)) :: ic_sv κ st := rfl
  rw [e3] at h3
  rcases ic_cvnr κ o with e | ⟨q, e⟩
  · rw [e] at h2 h3
    exact lv_aload_nN hx hb hd1 rfl h2 h3
  · rw [e] at h2 h3
    exact lv_aload_n hx hb hd1 rfl h2 h3
theorem ev_istore {i : Nat} {x : Int32} (lv' : ic_L) (hd : ic_at M a b = some (pc, .istore i, 2, nx)) (hi : i < M.2.2.1) (hs : ic_sto lv i (ic_I x) lv') (h : ic_Ev M nx lv' st g r g') : ic_Ev M pc lv (ic_I x :: st) g r g' := by
  intro κ A p l e R s m args below meth c cells slots Q B hc K H locs ls hW hl
  obtain ⟨hx, hb, hml, hown, hts, hfr, hlo, hF, hA, hok⟩ := id B
  obtain ⟨hd1, hd2⟩ := ic_okd_at hok hd
  dsimp only at hd1 hd2
  subst hd2
  exact lv_istore hx hb hd1 hl hi rfl fun ls hl => h κ A p l e R s m args below meth c cells slots Q B hc K H locs ls hW (ic_has_mono hl (ic_sto1 hs rfl))
theorem ev_istore_n {i : Fin 4} {x : Int32} (lv' : ic_L) (hd : ic_at M a b = some (pc, .istore_n i, 1, nx)) (hi : (i : Nat) < M.2.2.1) (hs : ic_sto lv (i : Nat) (ic_I x) lv') (h : ic_Ev M nx lv' st g r g') : ic_Ev M pc lv (ic_I x :: st) g r g' := by
  intro κ A p l e R s m args below meth c cells slots Q B hc K H locs ls hW hl
  obtain ⟨hx, hb, hml, hown, hts, hfr, hlo, hF, hA, hok⟩ := id B
  obtain ⟨hd1, hd2⟩ := ic_okd_at hok hd
  dsimp only at hd1 hd2
  subst hd2
  exact lv_istore_n hx hb hd1 rfl hl hi rfl fun ls hl => h κ A p l e R s m args below meth c cells slots Q B hc K H locs ls hW (ic_has_mono hl (ic_sto1 hs rfl))
theorem ev_lstore {i : Nat} {x : Int64} (lv' : ic_L) (hd : ic_at M a b = some (pc, .lstore i, 2, nx)) (hi : i + 1 < M.2.2.1) (hs : ic_sto lv i (ic_J x) lv') (h : ic_Ev M nx lv' st g r g') : ic_Ev M pc lv (ic_J x :: st) g r g' := by
  intro κ A p l e R s m args below meth c cells slots Q B hc K H locs ls hW hl
  obtain ⟨hx, hb, hml, hown, hts, hfr, hlo, hF, hA, hok⟩ := id B
  obtain ⟨hd1, hd2⟩ := ic_okd_at hok hd
  dsimp only at hd1 hd2
  subst hd2
  exact lv_lstore hx hb hd1 hl hi rfl fun ls hl => h κ A p l e R s m args below meth c cells slots Q B hc K H locs ls hW (ic_has_mono hl (ic_sto2 hs rfl))
theorem ev_lstore_n {i : Fin 4} {x : Int64} (lv' : ic_L) (hd : ic_at M a b = some (pc, .lstore_n i, 1, nx)) (hi : (i : Nat) + 1 < M.2.2.1) (hs : ic_sto lv (i : Nat) (ic_J x) lv') (h : ic_Ev M nx lv' st g r g') : ic_Ev M pc lv (ic_J x :: st) g r g' := by
  intro κ A p l e R s m args below meth c cells slots Q B hc K H locs ls hW hl
  obtain ⟨hx, hb, hml, hown, hts, hfr, hlo, hF, hA, hok⟩ := id B
  obtain ⟨hd1, hd2⟩ := ic_okd_at hok hd
  dsimp only at hd1 hd2
  subst hd2
  exact lv_lstore_n hx hb hd1 rfl hl hi rfl fun ls hl => h κ A p l e R s m args below meth c cells slots Q B hc K H locs ls hW (ic_has_mono hl (ic_sto2 hs rfl))
theorem ev_astore {i : Nat} {o : Option ic_K} (lv' : ic_L) (hd : ic_at M a b = some (pc, .astore i, 2, nx)) (hi : i < M.2.2.1) (hs : ic_sto lv i (.inr (.inr o)) lv') (h : ic_Ev M nx lv' st g r g') : ic_Ev M pc lv (.inr (.inr o) :: st) g r g' := by
  intro κ A p l e R s m args below meth c cells slots Q B hc K H locs ls hW hl
  obtain ⟨hx, hb, hml, hown, hts, hfr, hlo, hF, hA, hok⟩ := id B
  obtain ⟨hd1, hd2⟩ := ic_okd_at hok hd
  dsimp only at hd1 hd2
  subst hd2
  have e3 : ic_sv κ ((.inr (.inr o) : ic_V) :: st) = ic_cv κ (.inr (.inr o)) :: ic_sv κ st := rfl
  have hs2 := ic_sto1 (κ := κ) hs rfl
  rw [e3]
  rcases ic_cvnr κ o with e9 | ⟨q, e9⟩
  · rw [e9] at hs2 ⊢
    exact lv_astoreN hx hb hd1 hl hi rfl fun ls hl => h κ A p l e R s m args below meth c cells slots Q B hc K H locs ls hW (ic_has_mono hl hs2)
  · rw [e9] at hs2 ⊢
    exact lv_astore hx hb hd1 hl hi rfl fun ls hl => h κ A p l e R s m args below meth c cells slots Q B hc K H locs ls hW (ic_has_mono hl hs2)
theorem ev_astore_n {i : Fin 4} {o : Option ic_K} (lv' : ic_L) (hd : ic_at M a b = some (pc, .astore_n i, 1, nx)) (hi : (i : Nat) < M.2.2.1) (hs : ic_sto lv (i : Nat) (.inr (.inr o)) lv') (h : ic_Ev M nx lv' st g r g') : ic_Ev M pc lv (.inr (.inr o) :: st) g r g' := by
  intro κ A p l e R s m args below meth c cells slots Q B hc K H locs ls hW hl
  obtain ⟨hx, hb, hml, hown, hts, hfr, hlo, hF, hA, hok⟩ := id B
  obtain ⟨hd1, hd2⟩ := ic_okd_at hok hd
  dsimp only at hd1 hd2
  subst hd2
  have e3 : ic_sv κ ((.inr (.inr o) : ic_V) :: st) = ic_cv κ (.inr (.inr o)) :: ic_sv κ st := rfl
  have hs2 := ic_sto1 (κ := κ) hs rfl
  rw [e3]
  rcases ic_cvnr κ o with e9 | ⟨q, e9⟩
  · rw [e9] at hs2 ⊢
    exact lv_astore_nN hx hb hd1 rfl hl hi rfl fun ls hl => h κ A p l e R s m args below meth c cells slots Q B hc K H locs ls hW (ic_has_mono hl hs2)
  · rw [e9] at hs2 ⊢
    exact lv_astore_n hx hb hd1 rfl hl hi rfl fun ls hl => h κ A p l e R s m args below meth c cells slots Q B hc K H locs ls hW (ic_has_mono hl hs2)
theorem ev_iinc {i : Nat} {n : Int} {x : Int32} (v : Int32) (lv' : ic_L) (hd : ic_at M a b = some (pc, .iinc i n, 3, nx)) (hl0 : ic_lk lv i = some (ic_I x)) (hv : x + Int32.ofInt n = v) (hi : i < M.2.2.1) (hs : ic_sto lv i (ic_I v) lv') (h : ic_Ev M nx lv' st g r g') : ic_Ev M pc lv st g r g' := by
  intro κ A p l e R s m args below meth c cells slots Q B hc K H locs ls hW hl
  obtain ⟨hx, hb, hml, hown, hts, hfr, hlo, hF, hA, hok⟩ := id B
  obtain ⟨hd1, hd2⟩ := ic_okd_at hok hd
  dsimp only at hd1 hd2
  subst hd2
  obtain ⟨k, hk⟩ := List.getElem?_of_mem (List.mem_map.mpr ⟨(i, ic_I x), ic_lk_mem hl0, rfl⟩ : (i, Value.int x) ∈ ic_lv κ lv)
  exact lv_iinc hx hb hd1 hl hk hv hi rfl fun ls hl => h κ A p l e R s m args below meth c cells slots Q B hc K H locs ls hW (ic_has_mono hl (ic_sto1 hs rfl))
theorem ev_dup {v : ic_V} (hd : ic_at M a b = some (pc, .dup, 1, nx)) (hv : ic_cat v = 1) (h : ic_Ev M nx lv (v :: v :: st) g r g') : ic_Ev M pc lv (v :: st) g r g' := by
  intro κ A p l e R s m args below meth c cells slots Q B hc K H locs ls hW hl
  obtain ⟨hx, hb, hml, hown, hts, hfr, hlo, hF, hA, hok⟩ := id B
  obtain ⟨hd1, hd2⟩ := ic_okd_at hok hd
  dsimp only at hd1 hd2
  subst hd2
  exact lv_dup hx hb hd1 ((ic_cvcat κ v).trans hv) (h κ A p l e R s m args below meth c cells slots Q B hc K H locs ls hW hl)
theorem ev_pop {v : ic_V} (hd : ic_at M a b = some (pc, .pop, 1, nx)) (hv : ic_cat v = 1) (h : ic_Ev M nx lv (st) g r g') : ic_Ev M pc lv (v :: st) g r g' := by
  intro κ A p l e R s m args below meth c cells slots Q B hc K H locs ls hW hl
  obtain ⟨hx, hb, hml, hown, hts, hfr, hlo, hF, hA, hok⟩ := id B
  obtain ⟨hd1, hd2⟩ := ic_okd_at hok hd
  dsimp only at hd1 hd2
  subst hd2
  exact lv_pop hx hb hd1 ((ic_cvcat κ v).trans hv) (h κ A p l e R s m args below meth c cells slots Q B hc K H locs ls hW hl)
theorem ev_dup2 {u v : ic_V} (hd : ic_at M a b = some (pc, .dup2, 1, nx)) (hv : ic_cat v = 1) (hu : ic_cat u = 1) (h : ic_Ev M nx lv (v :: u :: v :: u :: st) g r g') : ic_Ev M pc lv (v :: u :: st) g r g' := by
  intro κ A p l e R s m args below meth c cells slots Q B hc K H locs ls hW hl
  obtain ⟨hx, hb, hml, hown, hts, hfr, hlo, hF, hA, hok⟩ := id B
  obtain ⟨hd1, hd2⟩ := ic_okd_at hok hd
  dsimp only at hd1 hd2
  subst hd2
  exact lv_dup2_11 hx hb hd1 ((ic_cvcat κ v).trans hv) ((ic_cvcat κ u).trans hu) (h κ A p l e R s m args below meth c cells slots Q B hc K H locs ls hW hl)
theorem ev_ifeq {x : Int32} {off : Int} (tgt : Nat) (hd : ic_at M a b = some (pc, .ifCond .eq off, 3, nx)) (ht : (pc : Int) + off = (tgt : Int)) (kt : (x = 0) → ic_Ev M tgt lv st g r g') (kf : ¬ (x = 0) → ic_Ev M nx lv st g r g') : ic_Ev M pc lv (ic_I x :: st) g r g' := by
  intro κ A p l e R s m args below meth c cells slots Q B hc K H locs ls hW hl
  obtain ⟨hx, hb, hml, hown, hts, hfr, hlo, hF, hA, hok⟩ := id B
  obtain ⟨hd1, hd2⟩ := ic_okd_at hok hd
  dsimp only at hd1 hd2
  subst hd2
  exact lv_if_eq hx hb hd1 ht (fun q => kt q κ A p l e R s m args below meth c cells slots Q B hc K H locs ls hW hl) (fun q => kf q κ A p l e R s m args below meth c cells slots Q B hc K H locs ls hW hl)
theorem ev_iceq {x y : Int32} {off : Int} (tgt : Nat) (hd : ic_at M a b = some (pc, .if_icmp .eq off, 3, nx)) (ht : (pc : Int) + off = (tgt : Int)) (kt : (x = y) → ic_Ev M tgt lv st g r g') (kf : ¬ (x = y) → ic_Ev M nx lv st g r g') : ic_Ev M pc lv (ic_I y :: ic_I x :: st) g r g' := by
  intro κ A p l e R s m args below meth c cells slots Q B hc K H locs ls hW hl
  obtain ⟨hx, hb, hml, hown, hts, hfr, hlo, hF, hA, hok⟩ := id B
  obtain ⟨hd1, hd2⟩ := ic_okd_at hok hd
  dsimp only at hd1 hd2
  subst hd2
  exact lv_icmp_eq hx hb hd1 ht (fun q => kt q κ A p l e R s m args below meth c cells slots Q B hc K H locs ls hW hl) (fun q => kf q κ A p l e R s m args below meth c cells slots Q B hc K H locs ls hW hl)
theorem ev_ifne {x : Int32} {off : Int} (tgt : Nat) (hd : ic_at M a b = some (pc, .ifCond .ne off, 3, nx)) (ht : (pc : Int) + off = (tgt : Int)) (kt : (¬ (x = 0)) → ic_Ev M tgt lv st g r g') (kf : x = 0 → ic_Ev M nx lv st g r g') : ic_Ev M pc lv (ic_I x :: st) g r g' := by
  intro κ A p l e R s m args below meth c cells slots Q B hc K H locs ls hW hl
  obtain ⟨hx, hb, hml, hown, hts, hfr, hlo, hF, hA, hok⟩ := id B
  obtain ⟨hd1, hd2⟩ := ic_okd_at hok hd
  dsimp only at hd1 hd2
  subst hd2
  exact lv_if_ne hx hb hd1 ht (fun q => kt q κ A p l e R s m args below meth c cells slots Q B hc K H locs ls hW hl) (fun q => kf q κ A p l e R s m args below meth c cells slots Q B hc K H locs ls hW hl)
theorem ev_icne {x y : Int32} {off : Int} (tgt : Nat) (hd : ic_at M a b = some (pc, .if_icmp .ne off, 3, nx)) (ht : (pc : Int) + off = (tgt : Int)) (kt : (¬ (x = y)) → ic_Ev M tgt lv st g r g') (kf : x = y → ic_Ev M nx lv st g r g') : ic_Ev M pc lv (ic_I y :: ic_I x :: st) g r g' := by
  intro κ A p l e R s m args below meth c cells slots Q B hc K H locs ls hW hl
  obtain ⟨hx, hb, hml, hown, hts, hfr, hlo, hF, hA, hok⟩ := id B
  obtain ⟨hd1, hd2⟩ := ic_okd_at hok hd
  dsimp only at hd1 hd2
  subst hd2
  exact lv_icmp_ne hx hb hd1 ht (fun q => kt q κ A p l e R s m args below meth c cells slots Q B hc K H locs ls hW hl) (fun q => kf q κ A p l e R s m args below meth c cells slots Q B hc K H locs ls hW hl)
theorem ev_iflt {x : Int32} {off : Int} (tgt : Nat) (hd : ic_at M a b = some (pc, .ifCond .lt off, 3, nx)) (ht : (pc : Int) + off = (tgt : Int)) (kt : (x < 0) → ic_Ev M tgt lv st g r g') (kf : ¬ (x < 0) → ic_Ev M nx lv st g r g') : ic_Ev M pc lv (ic_I x :: st) g r g' := by
  intro κ A p l e R s m args below meth c cells slots Q B hc K H locs ls hW hl
  obtain ⟨hx, hb, hml, hown, hts, hfr, hlo, hF, hA, hok⟩ := id B
  obtain ⟨hd1, hd2⟩ := ic_okd_at hok hd
  dsimp only at hd1 hd2
  subst hd2
  exact lv_if_lt hx hb hd1 ht (fun q => kt q κ A p l e R s m args below meth c cells slots Q B hc K H locs ls hW hl) (fun q => kf q κ A p l e R s m args below meth c cells slots Q B hc K H locs ls hW hl)
theorem ev_iclt {x y : Int32} {off : Int} (tgt : Nat) (hd : ic_at M a b = some (pc, .if_icmp .lt off, 3, nx)) (ht : (pc : Int) + off = (tgt : Int)) (kt : (x < y) → ic_Ev M tgt lv st g r g') (kf : ¬ (x < y) → ic_Ev M nx lv st g r g') : ic_Ev M pc lv (ic_I y :: ic_I x :: st) g r g' := by
  intro κ A p l e R s m args below meth c cells slots Q B hc K H locs ls hW hl
  obtain ⟨hx, hb, hml, hown, hts, hfr, hlo, hF, hA, hok⟩ := id B
  obtain ⟨hd1, hd2⟩ := ic_okd_at hok hd
  dsimp only at hd1 hd2
  subst hd2
  exact lv_icmp_lt hx hb hd1 ht (fun q => kt q κ A p l e R s m args below meth c cells slots Q B hc K H locs ls hW hl) (fun q => kf q κ A p l e R s m args below meth c cells slots Q B hc K H locs ls hW hl)
theorem ev_ifge {x : Int32} {off : Int} (tgt : Nat) (hd : ic_at M a b = some (pc, .ifCond .ge off, 3, nx)) (ht : (pc : Int) + off = (tgt : Int)) (kt : (0 ≤ x) → ic_Ev M tgt lv st g r g') (kf : ¬ (0 ≤ x) → ic_Ev M nx lv st g r g') : ic_Ev M pc lv (ic_I x :: st) g r g' := by
  intro κ A p l e R s m args below meth c cells slots Q B hc K H locs ls hW hl
  obtain ⟨hx, hb, hml, hown, hts, hfr, hlo, hF, hA, hok⟩ := id B
  obtain ⟨hd1, hd2⟩ := ic_okd_at hok hd
  dsimp only at hd1 hd2
  subst hd2
  exact lv_if_ge hx hb hd1 ht (fun q => kt q κ A p l e R s m args below meth c cells slots Q B hc K H locs ls hW hl) (fun q => kf q κ A p l e R s m args below meth c cells slots Q B hc K H locs ls hW hl)
theorem ev_icge {x y : Int32} {off : Int} (tgt : Nat) (hd : ic_at M a b = some (pc, .if_icmp .ge off, 3, nx)) (ht : (pc : Int) + off = (tgt : Int)) (kt : (y ≤ x) → ic_Ev M tgt lv st g r g') (kf : ¬ (y ≤ x) → ic_Ev M nx lv st g r g') : ic_Ev M pc lv (ic_I y :: ic_I x :: st) g r g' := by
  intro κ A p l e R s m args below meth c cells slots Q B hc K H locs ls hW hl
  obtain ⟨hx, hb, hml, hown, hts, hfr, hlo, hF, hA, hok⟩ := id B
  obtain ⟨hd1, hd2⟩ := ic_okd_at hok hd
  dsimp only at hd1 hd2
  subst hd2
  exact lv_icmp_ge hx hb hd1 ht (fun q => kt q κ A p l e R s m args below meth c cells slots Q B hc K H locs ls hW hl) (fun q => kf q κ A p l e R s m args below meth c cells slots Q B hc K H locs ls hW hl)
theorem ev_ifgt {x : Int32} {off : Int} (tgt : Nat) (hd : ic_at M a b = some (pc, .ifCond .gt off, 3, nx)) (ht : (pc : Int) + off = (tgt : Int)) (kt : (0 < x) → ic_Ev M tgt lv st g r g') (kf : ¬ (0 < x) → ic_Ev M nx lv st g r g') : ic_Ev M pc lv (ic_I x :: st) g r g' := by
  intro κ A p l e R s m args below meth c cells slots Q B hc K H locs ls hW hl
  obtain ⟨hx, hb, hml, hown, hts, hfr, hlo, hF, hA, hok⟩ := id B
  obtain ⟨hd1, hd2⟩ := ic_okd_at hok hd
  dsimp only at hd1 hd2
  subst hd2
  exact lv_if_gt hx hb hd1 ht (fun q => kt q κ A p l e R s m args below meth c cells slots Q B hc K H locs ls hW hl) (fun q => kf q κ A p l e R s m args below meth c cells slots Q B hc K H locs ls hW hl)
theorem ev_icgt {x y : Int32} {off : Int} (tgt : Nat) (hd : ic_at M a b = some (pc, .if_icmp .gt off, 3, nx)) (ht : (pc : Int) + off = (tgt : Int)) (kt : (y < x) → ic_Ev M tgt lv st g r g') (kf : ¬ (y < x) → ic_Ev M nx lv st g r g') : ic_Ev M pc lv (ic_I y :: ic_I x :: st) g r g' := by
  intro κ A p l e R s m args below meth c cells slots Q B hc K H locs ls hW hl
  obtain ⟨hx, hb, hml, hown, hts, hfr, hlo, hF, hA, hok⟩ := id B
  obtain ⟨hd1, hd2⟩ := ic_okd_at hok hd
  dsimp only at hd1 hd2
  subst hd2
  exact lv_icmp_gt hx hb hd1 ht (fun q => kt q κ A p l e R s m args below meth c cells slots Q B hc K H locs ls hW hl) (fun q => kf q κ A p l e R s m args below meth c cells slots Q B hc K H locs ls hW hl)
theorem ev_ifle {x : Int32} {off : Int} (tgt : Nat) (hd : ic_at M a b = some (pc, .ifCond .le off, 3, nx)) (ht : (pc : Int) + off = (tgt : Int)) (kt : (x ≤ 0) → ic_Ev M tgt lv st g r g') (kf : ¬ (x ≤ 0) → ic_Ev M nx lv st g r g') : ic_Ev M pc lv (ic_I x :: st) g r g' := by
  intro κ A p l e R s m args below meth c cells slots Q B hc K H locs ls hW hl
  obtain ⟨hx, hb, hml, hown, hts, hfr, hlo, hF, hA, hok⟩ := id B
  obtain ⟨hd1, hd2⟩ := ic_okd_at hok hd
  dsimp only at hd1 hd2
  subst hd2
  exact lv_if_le hx hb hd1 ht (fun q => kt q κ A p l e R s m args below meth c cells slots Q B hc K H locs ls hW hl) (fun q => kf q κ A p l e R s m args below meth c cells slots Q B hc K H locs ls hW hl)
theorem ev_icle {x y : Int32} {off : Int} (tgt : Nat) (hd : ic_at M a b = some (pc, .if_icmp .le off, 3, nx)) (ht : (pc : Int) + off = (tgt : Int)) (kt : (x ≤ y) → ic_Ev M tgt lv st g r g') (kf : ¬ (x ≤ y) → ic_Ev M nx lv st g r g') : ic_Ev M pc lv (ic_I y :: ic_I x :: st) g r g' := by
  intro κ A p l e R s m args below meth c cells slots Q B hc K H locs ls hW hl
  obtain ⟨hx, hb, hml, hown, hts, hfr, hlo, hF, hA, hok⟩ := id B
  obtain ⟨hd1, hd2⟩ := ic_okd_at hok hd
  dsimp only at hd1 hd2
  subst hd2
  exact lv_icmp_le hx hb hd1 ht (fun q => kt q κ A p l e R s m args below meth c cells slots Q B hc K H locs ls hW hl) (fun q => kf q κ A p l e R s m args below meth c cells slots Q B hc K H locs ls hW hl)
theorem ev_goto {off : Int} (tgt : Nat) (hd : ic_at M a b = some (pc, .goto off, 3, nx)) (ht : (pc : Int) + off = (tgt : Int)) (h : ic_Ev M tgt lv st g r g') : ic_Ev M pc lv st g r g' := by
  intro κ A p l e R s m args below meth c cells slots Q B hc K H locs ls hW hl
  obtain ⟨hx, hb, hml, hown, hts, hfr, hlo, hF, hA, hok⟩ := id B
  obtain ⟨hd1, hd2⟩ := ic_okd_at hok hd
  dsimp only at hd1 hd2
  exact lv_goto hx hb hd1 ht (h κ A p l e R s m args below meth c cells slots Q B hc K H locs ls hW hl)
theorem ev_ifnull1 {off : Int} (tgt : Nat) (hd : ic_at M a b = some (pc, .ifnull off, 3, nx)) (ht : (pc : Int) + off = (tgt : Int)) (h : ic_Ev M tgt lv st g r g') : ic_Ev M pc lv (ic_N :: st) g r g' := by
  intro κ A p l e R s m args below meth c cells slots Q B hc K H locs ls hW hl
  obtain ⟨hx, hb, hml, hown, hts, hfr, hlo, hF, hA, hok⟩ := id B
  obtain ⟨hd1, hd2⟩ := ic_okd_at hok hd
  dsimp only at hd1 hd2
  exact lv_ifnullN hx hb hd1 ht (h κ A p l e R s m args below meth c cells slots Q B hc K H locs ls hW hl)
theorem ev_ifnull0 {off : Int} {k : ic_K} (hk : k.1 ≠ 26) (hd : ic_at M a b = some (pc, .ifnull off, 3, nx)) (h : ic_Ev M nx lv st g r g') : ic_Ev M pc lv (.inr (.inr (some k)) :: st) g r g' := by
  intro κ A p l e R s m args below meth c cells slots Q B hc K H locs ls hW hl
  obtain ⟨hx, hb, hml, hown, hts, hfr, hlo, hF, hA, hok⟩ := id B
  obtain ⟨hd1, hd2⟩ := ic_okd_at hok hd
  dsimp only at hd1 hd2
  subst hd2
  have e3 : ic_sv κ ((.inr (.inr (some k)) : ic_V) :: st) = .ref (ic_ad κ k) :: ic_sv κ st := by rw [← ic_cvk hk]; rfl
  rw [e3]
  exact lv_ifnull hx hb hd1 (h κ A p l e R s m args below meth c cells slots Q B hc K H locs ls hW hl)
theorem ev_ifnonnull0 {off : Int} {k : ic_K} (tgt : Nat) (hk : k.1 ≠ 26) (hd : ic_at M a b = some (pc, .ifnonnull off, 3, nx)) (ht : (pc : Int) + off = (tgt : Int)) (h : ic_Ev M tgt lv st g r g') : ic_Ev M pc lv (.inr (.inr (some k)) :: st) g r g' := by
  intro κ A p l e R s m args below meth c cells slots Q B hc K H locs ls hW hl
  obtain ⟨hx, hb, hml, hown, hts, hfr, hlo, hF, hA, hok⟩ := id B
  obtain ⟨hd1, hd2⟩ := ic_okd_at hok hd
  dsimp only at hd1 hd2
  have e3 : ic_sv κ ((.inr (.inr (some k)) : ic_V) :: st) = .ref (ic_ad κ k) :: ic_sv κ st := by rw [← ic_cvk hk]; rfl
  rw [e3]
  exact lv_ifnonnull hx hb hd1 ht (h κ A p l e R s m args below meth c cells slots Q B hc K H locs ls hW hl)
theorem ev_ifnonnull1 {off : Int} (hd : ic_at M a b = some (pc, .ifnonnull off, 3, nx)) (h : ic_Ev M nx lv st g r g') : ic_Ev M pc lv (ic_N :: st) g r g' := by
  intro κ A p l e R s m args below meth c cells slots Q B hc K H locs ls hW hl
  obtain ⟨hx, hb, hml, hown, hts, hfr, hlo, hF, hA, hok⟩ := id B
  obtain ⟨hd1, hd2⟩ := ic_okd_at hok hd
  dsimp only at hd1 hd2
  subst hd2
  exact lv_ifnonnullN hx hb hd1 (h κ A p l e R s m args below meth c cells slots Q B hc K H locs ls hW hl)
theorem ic_ofi {x : Int32} {k : Int} {v : Int32} (hv : x = v) (hk : v.toInt = k) : x.toInt = k := by rw [hv]; exact hk
theorem ev_tsw1 {dflt lo hi : Int} {offs : Array Int} {len : Nat} {x : Int32} (v : Int32) (off : Int) (tgt : Nat) (hd : ic_at M a b = some (pc, .tableswitch dflt lo hi offs, len, nx)) (hv : x = v) (h1 : ¬ v.toInt < lo) (h2 : ¬ hi < v.toInt) (ho : offs[(v.toInt - lo).toNat]? = some off) (ht : (pc : Int) + off = (tgt : Int)) (h : ic_Ev M tgt lv st g r g') : ic_Ev M pc lv (ic_I x :: st) g r g' := by
  intro κ A p l e R s m args below meth c cells slots Q B hc K H locs ls hW hl
  obtain ⟨hx, hb, hml, hown, hts, hfr, hlo, hF, hA, hok⟩ := id B
  obtain ⟨hd1, hd2⟩ := ic_okd_at hok hd
  dsimp only at hd1 hd2
  subst hv
  exact lv_tableIn hx hb hd1 h1 h2 ho ht (h κ A p l e R s m args below meth c cells slots Q B hc K H locs ls hW hl)
theorem ev_tsw0 {dflt lo hi : Int} {offs : Array Int} {len : Nat} {x : Int32} (ks : List Int32) (tgt : Nat) (hd : ic_at M a b = some (pc, .tableswitch dflt lo hi offs, len, nx)) (hk : ∀ k ∈ ks, ¬ x = k) (hcov : (List.range offs.size).all (fun j => decide (offs[j]? = some dflt) || ks.any (fun k => decide (k.toInt = lo + (j : Int)))) = true) (hs : (offs.size : Int) = hi - lo + 1) (ht : (pc : Int) + dflt = (tgt : Int)) (h : ic_Ev M tgt lv st g r g') : ic_Ev M pc lv (ic_I x :: st) g r g' := by
  intro κ A p l e R s m args below meth c cells slots Q B hc K H locs ls hW hl
  obtain ⟨hx, hb, hml, hown, hts, hfr, hlo, hF, hA, hok⟩ := id B
  obtain ⟨hd1, hd2⟩ := ic_okd_at hok hd
  dsimp only at hd1 hd2
  by_cases h1 : x.toInt < lo ∨ hi < x.toInt
  · exact lv_tableOut hx hb hd1 h1 ht (h κ A p l e R s m args below meth c cells slots Q B hc K H locs ls hW hl)
  · have h3 : ¬ x.toInt < lo := fun q => h1 (Or.inl q)
    have h4 : ¬ hi < x.toInt := fun q => h1 (Or.inr q)
    have h5 := List.all_eq_true.mp hcov (x.toInt - lo).toNat (List.mem_range.mpr (by omega))
    rw [Bool.or_eq_true] at h5
    rcases h5 with h5 | h5
    · exact lv_tableIn hx hb hd1 h3 h4 (of_decide_eq_true h5) ht (h κ A p l e R s m args below meth c cells slots Q B hc K H locs ls hW hl)
    · obtain ⟨k, hm, hk2⟩ := List.any_eq_true.mp h5
      have hk3 := of_decide_eq_true hk2
      exact absurd (Int32.toInt_inj.mp (by omega)) (hk k hm)
theorem ev_lsw {dflt : Int} {ps : Array (Int × Int)} {len : Nat} {x : Int32} (off : Int) (tgt : Nat) (hd : ic_at M a b = some (pc, .lookupswitch dflt ps, len, nx)) (hp : (ps.toList.zip (ps.toList.drop 1)).all (fun (a, next) => a.1 < next.1) = true) (ho : Op.lookupswitch.offset ps.toList dflt x.toInt = off) (ht : (pc : Int) + off = (tgt : Int)) (h : ic_Ev M tgt lv st g r g') : ic_Ev M pc lv (ic_I x :: st) g r g' := by
  intro κ A p l e R s m args below meth c cells slots Q B hc K H locs ls hW hl
  obtain ⟨hx, hb, hml, hown, hts, hfr, hlo, hF, hA, hok⟩ := id B
  obtain ⟨hd1, hd2⟩ := ic_okd_at hok hd
  dsimp only at hd1 hd2
  exact lv_lookup hx hb hd1 hp ho ht (h κ A p l e R s m args below meth c cells slots Q B hc K H locs ls hW hl)
theorem ic_lsw0 {x : Int32} {d : Int} : ∀ {ps : List (Int × Int)} (ks : List Int32), (∀ k ∈ ks, ¬ x = k) → ps.all (fun q => ks.any (fun k => decide (k.toInt = q.1))) = true → Op.lookupswitch.offset ps d x.toInt = d
  | [], _, _, _ => by simp [Op.lookupswitch.offset]
  | q :: l, ks, hk, h => by
    simp only [List.all_cons, Bool.and_eq_true] at h
    obtain ⟨k, hm, hk2⟩ := List.any_eq_true.mp h.1
    obtain ⟨a0, o0⟩ := q
    rw [lv_osw (hk k hm) (of_decide_eq_true hk2)]
    exact ic_lsw0 ks hk h.2
theorem ev_ireturn {v : Int32} {ty : FieldType} (hd : ic_at M a b = some (pc, .ireturn, 1, nx)) (hr : M.2.2.2.1 = some ty) (hn : narrow ty (.int v) = .int v) : ic_Ev M pc lv [ic_I v] g (some (ic_I v)) g := by
  intro κ A p l e R s m args below meth c cells slots Q B hc K H locs ls hW hl
  obtain ⟨hx, hb, hml, hown, hts, hfr, hlo, hF, hA, hok⟩ := id B
  exact K H locs pc ls ⟨(ic_okd_at hok hd).1, ty, hr, hn⟩ hW
theorem ev_lreturn {v : Int64} (hd : ic_at M a b = some (pc, .lreturn, 1, nx)) (hr : M.2.2.2.1 = some .long) : ic_Ev M pc lv [ic_J v] g (some (ic_J v)) g := by
  intro κ A p l e R s m args below meth c cells slots Q B hc K H locs ls hW hl
  obtain ⟨hx, hb, hml, hown, hts, hfr, hlo, hF, hA, hok⟩ := id B
  exact K H locs pc ls ⟨(ic_okd_at hok hd).1, hr⟩ hW
theorem ev_areturn {o : Option ic_K} {n : String} (hd : ic_at M a b = some (pc, .areturn, 1, nx)) (hr : M.2.2.2.1 = some (.object n)) : ic_Ev M pc lv [.inr (.inr o)] g (some (.inr (.inr o))) g := by
  intro κ A p l e R s m args below meth c cells slots Q B hc K H locs ls hW hl
  obtain ⟨hx, hb, hml, hown, hts, hfr, hlo, hF, hA, hok⟩ := id B
  exact K H locs pc ls ⟨(ic_okd_at hok hd).1, _, hr, Or.inl ⟨n, rfl⟩⟩ hW
theorem ev_return (hd : ic_at M a b = some (pc, .return_, 1, nx)) (hr : M.2.2.2.1 = none) : ic_Ev M pc lv [] g none g := by
  intro κ A p l e R s m args below meth c cells slots Q B hc K H locs ls hW hl
  obtain ⟨hx, hb, hml, hown, hts, hfr, hlo, hF, hA, hok⟩ := id B
  exact K H locs pc ls ⟨(ic_okd_at hok hd).1, hr⟩ hW
end IC
end
section
/-! fields, arrays, statics, calls over the fixed world -/
theorem ic_wsk {κ : ic_X} {g : ic_S} {x : ic_K} (hx : x ∈ ic_keys) : ∃ q0 : Nat, ic_keys[q0]? = some x ∧ (ic_ws κ g)[q0]? = some (ic_ad κ x, ic_cel κ g x) := by
  obtain ⟨q0, h⟩ := List.getElem?_of_mem hx
  exact ⟨q0, h, by unfold ic_ws; rw [List.getElem?_map, h]; rfl⟩
theorem ic_set {κ : ic_X} {g g' : ic_S} {x : ic_K} {q0 : Nat} (hq : ic_keys[q0]? = some x) (ho : ∀ y ∈ ic_keys, y ≠ x → ic_cel κ g' y = ic_cel κ g y) : (ic_ws κ g).set q0 (ic_ad κ x, ic_cel κ g' x) = ic_ws κ g' := by
  apply List.ext_getElem?
  intro k
  unfold ic_ws
  by_cases hk : k = q0
  · subst hk
    have hl : k < (ic_keys.map fun y => (ic_ad κ y, ic_cel κ g y)).length := by
      rw [List.length_map]
      exact (List.getElem?_eq_some_iff.mp hq).1
    rw [List.getElem?_set_self hl, List.getElem?_map, hq]
    rfl
  · rw [List.getElem?_set_ne (Ne.symm hk), List.getElem?_map, List.getElem?_map]
    cases hy : ic_keys[k]? with
    | none => rfl
    | some y =>
      have hne : y ≠ x := by
        intro e
        subst e
        obtain ⟨h1, e1⟩ := List.getElem?_eq_some_iff.mp hy
        obtain ⟨h2, e2⟩ := List.getElem?_eq_some_iff.mp hq
        exact hk ((List.getElem_inj ic_nd).mp (e1.trans e2.symm))
      show some (ic_ad κ y, ic_cel κ g y) = some (ic_ad κ y, ic_cel κ g' y)
      rw [ho y (List.mem_of_getElem? hy) hne]
theorem ic_G.to {κ : ic_X} {A : Nat → Prop} {g g' : ic_S} {s : State} (h : ic_G κ A g s) (h1 : ∀ j, g'.1 40 j = g.1 40 j) (h2 : g'.1 41 0 = g.1 41 0) : ic_G κ A g' s := by
  obtain ⟨L, xs, a1, a2, a3, a4⟩ := h
  exact ⟨L, xs, a1, fun j hj => (a2 j hj).trans (h1 j).symm, a3.trans h2.symm, a4⟩
/-- field no j of class no ci at the key x reads v -/
def ic_fg (ci j : Nat) (g : ic_S) (x : ic_K) (v : ic_V) : Prop := x ∈ ic_keys ∧ ∀ κ : ic_X, ∃ fs, ic_cel κ g x = .inr (ci, fs) ∧ fs[j]? = some (ic_cv κ v)
/-- and becomes v in g' -/
def ic_fp (ci j : Nat) (g : ic_S) (x : ic_K) (v : ic_V) (g' : ic_S) : Prop := x ∈ ic_keys ∧ (∀ κ : ic_X, ∃ fs, ic_cel κ g x = .inr (ci, fs) ∧ ic_cel κ g' x = .inr (ci, fs.set j (ic_cv κ v)) ∧ j < fs.length) ∧ (∀ κ : ic_X, ∀ y ∈ ic_keys, y ≠ x → ic_cel κ g' y = ic_cel κ g y) ∧ (∀ i, g'.1 40 i = g.1 40 i) ∧ g'.1 41 0 = g.1 41 0 ∧ ∀ κ : ic_X, narrow (ic_ty ci j) (ic_cv κ v) = ic_cv κ v ∧ fits (ic_ty ci j) (ic_cv κ v) = true
/-- an int array (t0: 0 int, 1 byte) -/
def ic_ai (t0 n : Nat) (g : ic_S) (x : ic_K) (f : Nat → Int32) : Prop := x ∈ ic_keys ∧ t0 < 2 ∧ ∀ κ : ic_X, ic_cel κ g x = .inl (κ.2.2.1 t0, n, .inl f)
/-- its place i becomes v in g' -/
def ic_ap (t0 n : Nat) (g : ic_S) (x : ic_K) (f : Nat → Int32) (i : Nat) (v : Int32) (g' : ic_S) : Prop := x ∈ ic_keys ∧ (∀ κ : ic_X, ic_cel κ g x = .inl (κ.2.2.1 t0, n, .inl f) ∧ ic_cel κ g' x = .inl (κ.2.2.1 t0, n, .inl (upd f i v))) ∧ (∀ κ : ic_X, ∀ y ∈ ic_keys, y ≠ x → ic_cel κ g' y = ic_cel κ g y) ∧ (∀ i, g'.1 40 i = g.1 40 i) ∧ g'.1 41 0 = g.1 41 0
/-- an array of references -/
def ic_ar (t0 n : Nat) (g : ic_S) (x : ic_K) (f : Nat → ic_K) : Prop := x ∈ ic_keys ∧ (t0 = 2 ∨ t0 = 3) ∧ ∀ κ : ic_X, ic_cel κ g x = .inl (κ.2.2.1 t0, n, .inr (.inr (.inr (.inr fun j => some (ic_ad κ (f j))))))
def ic_in (i : Int32) (n : Nat) : Bool := decide (0 ≤ i.toInt) && decide (i.toInt < n)
theorem ic_inv {i : Int32} {n : Nat} (h : ic_in i n = true) : vp_in i n := by
  unfold ic_in at h
  simp only [Bool.and_eq_true, decide_eq_true_eq] at h
  exact vp_in_iff.mpr h
theorem ic_inl {i : Int32} {n : Nat} (h : ic_in i n = true) : i.toNatClampNeg < n := by
  have := ic_inv h
  exact Nat.not_le.mp fun q => this (Or.inr q)
theorem ic_svk {κ : ic_X} {x : ic_K} {st : List ic_V} (h : x.1 ≠ 26) : ic_sv κ ((.inr (.inr (some x)) : ic_V) :: st) = .ref (ic_ad κ x) :: ic_sv κ st := by rw [← ic_cvk h]; rfl
section IC2
variable {M : ic_M} {pc nx : Nat} {lv lv' : ic_L} {st : List ic_V} {g g1 g' : ic_S} {r : Option ic_V} {a b : Nat}
theorem ev_get {idx : Nat} (ci j : Nat) {x : ic_K} {v : ic_V} {q : vw_C} (hd : ic_at M a b = some (pc, .getfield idx, 3, nx)) (hq : ic_cls[ci]? = some q) (hj : j < q.2.2) (hl0 : Cond.fieldLink M.1.cls idx (q.2.1 j).1 (q.2.1 j).2.1 (q.2.1 j).2.2.1 ∈ lw_gd) (hv : ic_fg ci j g x v) (h : ic_Ev M nx lv (v :: st) g r g') : ic_Ev M pc lv (.inr (.inr (some x)) :: st) g r g' := by
  intro κ A p l e R s m args below meth c cells slots Q B hc K H locs ls hW hl
  obtain ⟨hx, hb, hml, hown, hts, hfr, hlo, hF, hA, hok⟩ := id B
  obtain ⟨hd1, hd2⟩ := ic_okd_at hok hd
  dsimp only at hd1 hd2
  subst hd2
  obtain ⟨hxk, hv⟩ := hv
  obtain ⟨fs, hc1, hv1⟩ := hv κ
  obtain ⟨q0, -, hw⟩ := ic_wsk (κ := κ) (g := g) hxk
  rw [hc1] at hw
  rw [ic_svk (ic_k26 hxk)]
  exact va_get (C := q.1) (T := q.2.1) (N := q.2.2) hx hb hts (ic_cls_in ci q hq) hown hF.1 hW.1 q0 hw hq j hj (hts _ hl0) (fun _ h9 => h9) hv1 hd1 (h κ A p l e R s m args below meth c cells slots Q B hc K H locs ls hW hl)
theorem ev_put {idx : Nat} (ci j : Nat) {x : ic_K} {v : ic_V} {q : vw_C} (hd : ic_at M a b = some (pc, .putfield idx, 3, nx)) (hq : ic_cls[ci]? = some q) (hj : j < q.2.2) (hl0 : Cond.fieldLink M.1.cls idx (q.2.1 j).1 (q.2.1 j).2.1 (q.2.1 j).2.2.1 ∈ lw_gd) (hfin : (q.2.1 j).2.2.2 = false) (hv : ic_fp ci j g x v g1) (h : ic_Ev M nx lv st g1 r g') : ic_Ev M pc lv (v :: .inr (.inr (some x)) :: st) g r g' := by
  intro κ A p l e R s m args below meth c cells slots Q B hc K H locs ls hW hl
  obtain ⟨hx, hb, hml, hown, hts, hfr, hlo, hF, hA, hok⟩ := id B
  obtain ⟨hd1, hd2⟩ := ic_okd_at hok hd
  dsimp only at hd1 hd2
  subst hd2
  obtain ⟨hxk, hv, ho, hg1, hg2, hn⟩ := hv
  obtain ⟨fs, hc1, hc2, hlen⟩ := hv κ
  obtain ⟨q0, hq0, hw⟩ := ic_wsk (κ := κ) (g := g) hxk
  rw [hc1] at hw
  have e3 : ic_sv κ (v :: (.inr (.inr (some x)) : ic_V) :: st) = ic_cv κ v :: .ref (ic_ad κ x) :: ic_sv κ st := by rw [← ic_svk (ic_k26 hxk)]; rfl
  rw [e3]
  refine va_put (C := q.1) (T := q.2.1) (N := q.2.2) hx hb hts (ic_cls_in ci q hq) (ic_ty ci) (ic_cls_ty ci q hq) (ic_cls_nm ci q hq) hown hF.1 hW.1 hW.2.1 hW.2.2.1 q0 hw hq j hj (hts _ hl0) (fun _ h9 => h9) hfin (ic_cls_ty ci q hq j hj) (hn κ).1 (hn κ).2 hlen hd1 (fun H1 locs1 hP hD hS => ?_)
  rw [← hc2, ic_set hq0 (ho κ)] at hP hD
  exact h κ A p l e R s m args below meth c cells slots Q B hc K H1 locs1 ls ⟨hP, hD, hS, hW.2.2.2.to hg1 hg2⟩ hl
theorem ic_tysi (κ : ic_X) {t0 : Nat} (h : t0 < 2) : ∃ ty, (ic_tys κ)[t0]? = some (κ.2.2.1 t0, ty) := by
  rcases (show t0 = 0 ∨ t0 = 1 by omega) with rfl | rfl
  · exact ⟨.int, rfl⟩
  · exact ⟨.byte, rfl⟩
theorem ev_alen {x : ic_K} {t0 n : Nat} {f : Nat → Int32} (v : Int32) (hd : ic_at M a b = some (pc, .arraylength, 1, nx)) (ha : ic_ai t0 n g x f) (hn : Int32.ofNat n = v) (h : ic_Ev M nx lv (ic_I v :: st) g r g') : ic_Ev M pc lv (.inr (.inr (some x)) :: st) g r g' := by
  intro κ A p l e R s m args below meth c cells slots Q B hc K H locs ls hW hl
  obtain ⟨hx, hb, hml, hown, hts, hfr, hlo, hF, hA, hok⟩ := id B
  obtain ⟨hd1, hd2⟩ := ic_okd_at hok hd
  dsimp only at hd1 hd2
  subst hd2
  obtain ⟨hxk, ht0, hc1⟩ := ha
  obtain ⟨q0, -, hw⟩ := ic_wsk (κ := κ) (g := g) hxk
  rw [hc1] at hw
  obtain ⟨ty, hty⟩ := ic_tysi κ ht0
  rw [ic_svk (ic_k26 hxk)]
  exact va_alen hx hb hF.1 hW.1 q0 t0 hw hty hn hd1 (h κ A p l e R s m args below meth c cells slots Q B hc K H locs ls hW hl)
theorem ev_alenr {x : ic_K} {t0 n : Nat} {f : Nat → ic_K} (v : Int32) (hd : ic_at M a b = some (pc, .arraylength, 1, nx)) (ha : ic_ar t0 n g x f) (hn : Int32.ofNat n = v) (h : ic_Ev M nx lv (ic_I v :: st) g r g') : ic_Ev M pc lv (.inr (.inr (some x)) :: st) g r g' := by
  intro κ A p l e R s m args below meth c cells slots Q B hc K H locs ls hW hl
  obtain ⟨hx, hb, hml, hown, hts, hfr, hlo, hF, hA, hok⟩ := id B
  obtain ⟨hd1, hd2⟩ := ic_okd_at hok hd
  dsimp only at hd1 hd2
  subst hd2
  obtain ⟨hxk, ht0, hc1⟩ := ha
  obtain ⟨q0, -, hw⟩ := ic_wsk (κ := κ) (g := g) hxk
  rw [hc1] at hw
  rw [ic_svk (ic_k26 hxk)]
  rcases ht0 with rfl | rfl
  · exact va_alen hx hb hF.1 hW.1 q0 2 hw (ty := .object "IronCall$Thing") rfl hn hd1 (h κ A p l e R s m args below meth c cells slots Q B hc K H locs ls hW hl)
  · exact va_alen hx hb hF.1 hW.1 q0 3 hw (ty := .object "IronCall$Sheet") rfl hn hd1 (h κ A p l e R s m args below meth c cells slots Q B hc K H locs ls hW hl)
theorem ev_iald {x : ic_K} {n : Nat} {f : Nat → Int32} {i : Int32} (hd : ic_at M a b = some (pc, .iaload, 1, nx)) (ha : ic_ai 0 n g x f) (hi : ic_in i n = true) (h : ic_Ev M nx lv (ic_I (f i.toNatClampNeg) :: st) g r g') : ic_Ev M pc lv (ic_I i :: .inr (.inr (some x)) :: st) g r g' := by
  intro κ A p l e R s m args below meth c cells slots Q B hc K H locs ls hW hl
  obtain ⟨hx, hb, hml, hown, hts, hfr, hlo, hF, hA, hok⟩ := id B
  obtain ⟨hd1, hd2⟩ := ic_okd_at hok hd
  dsimp only at hd1 hd2
  subst hd2
  obtain ⟨hxk, -, hc1⟩ := ha
  obtain ⟨q0, -, hw⟩ := ic_wsk (κ := κ) (g := g) hxk
  rw [hc1] at hw
  have e3 : ic_sv κ (ic_I i :: (.inr (.inr (some x)) : ic_V) :: st) = .int i :: .ref (ic_ad κ x) :: ic_sv κ st := by rw [← ic_svk (ic_k26 hxk)]; rfl
  rw [e3]
  exact va_iald hx hb hF.1 hW.1 q0 0 hw rfl (ic_inv hi) hd1 (h κ A p l e R s m args below meth c cells slots Q B hc K H locs ls hW hl)
theorem ev_bald {x : ic_K} {n : Nat} {f : Nat → Int32} {i : Int32} (hd : ic_at M a b = some (pc, .baload, 1, nx)) (ha : ic_ai 1 n g x f) (hi : ic_in i n = true) (h : ic_Ev M nx lv (ic_I (f i.toNatClampNeg) :: st) g r g') : ic_Ev M pc lv (ic_I i :: .inr (.inr (some x)) :: st) g r g' := by
  intro κ A p l e R s m args below meth c cells slots Q B hc K H locs ls hW hl
  obtain ⟨hx, hb, hml, hown, hts, hfr, hlo, hF, hA, hok⟩ := id B
  obtain ⟨hd1, hd2⟩ := ic_okd_at hok hd
  dsimp only at hd1 hd2
  subst hd2
  obtain ⟨hxk, -, hc1⟩ := ha
  obtain ⟨q0, -, hw⟩ := ic_wsk (κ := κ) (g := g) hxk
  rw [hc1] at hw
  have e3 : ic_sv κ (ic_I i :: (.inr (.inr (some x)) : ic_V) :: st) = .int i :: .ref (ic_ad κ x) :: ic_sv κ st := by rw [← ic_svk (ic_k26 hxk)]; rfl
  rw [e3]
  exact va_bald hx hb hF.1 hW.1 q0 1 hw rfl (ic_inv hi) hd1 (h κ A p l e R s m args below meth c cells slots Q B hc K H locs ls hW hl)
theorem ev_iast {x : ic_K} {n : Nat} {f : Nat → Int32} {i v : Int32} (hd : ic_at M a b = some (pc, .iastore, 1, nx)) (hi : ic_in i n = true) (ha : ic_ap 0 n g x f i.toNatClampNeg v g1) (h : ic_Ev M nx lv st g1 r g') : ic_Ev M pc lv (ic_I v :: ic_I i :: .inr (.inr (some x)) :: st) g r g' := by
  intro κ A p l e R s m args below meth c cells slots Q B hc K H locs ls hW hl
  obtain ⟨hx, hb, hml, hown, hts, hfr, hlo, hF, hA, hok⟩ := id B
  obtain ⟨hd1, hd2⟩ := ic_okd_at hok hd
  dsimp only at hd1 hd2
  subst hd2
  obtain ⟨hxk, hc1, ho, hg1, hg2⟩ := ha
  obtain ⟨q0, hq0, hw⟩ := ic_wsk (κ := κ) (g := g) hxk
  rw [(hc1 κ).1] at hw
  have e3 : ic_sv κ (ic_I v :: ic_I i :: (.inr (.inr (some x)) : ic_V) :: st) = .int v :: .int i :: .ref (ic_ad κ x) :: ic_sv κ st := by rw [← ic_svk (ic_k26 hxk)]; rfl
  rw [e3]
  refine va_iast hx hb hF.1 hW.1 hW.2.1 hW.2.2.1 q0 0 hw rfl (ic_inv hi) hd1 (fun H1 locs1 hP hD hS => ?_)
  rw [← (hc1 κ).2, ic_set hq0 (ho κ)] at hP hD
  exact h κ A p l e R s m args below meth c cells slots Q B hc K H1 locs1 ls ⟨hP, hD, hS, hW.2.2.2.to hg1 hg2⟩ hl
theorem ev_bast {x : ic_K} {n : Nat} {f : Nat → Int32} {i v : Int32} (hd : ic_at M a b = some (pc, .bastore, 1, nx)) (hi : ic_in i n = true) (ha : ic_ap 1 n g x f i.toNatClampNeg v.toInt8.toInt32 g1) (h : ic_Ev M nx lv st g1 r g') : ic_Ev M pc lv (ic_I v :: ic_I i :: .inr (.inr (some x)) :: st) g r g' := by
  intro κ A p l e R s m args below meth c cells slots Q B hc K H locs ls hW hl
  obtain ⟨hx, hb, hml, hown, hts, hfr, hlo, hF, hA, hok⟩ := id B
  obtain ⟨hd1, hd2⟩ := ic_okd_at hok hd
  dsimp only at hd1 hd2
  subst hd2
  obtain ⟨hxk, hc1, ho, hg1, hg2⟩ := ha
  obtain ⟨q0, hq0, hw⟩ := ic_wsk (κ := κ) (g := g) hxk
  rw [(hc1 κ).1] at hw
  have e3 : ic_sv κ (ic_I v :: ic_I i :: (.inr (.inr (some x)) : ic_V) :: st) = .int v :: .int i :: .ref (ic_ad κ x) :: ic_sv κ st := by rw [← ic_svk (ic_k26 hxk)]; rfl
  rw [e3]
  refine va_bast hx hb hF.1 hW.1 hW.2.1 hW.2.2.1 q0 1 hw rfl (ic_inv hi) hd1 (fun H1 locs1 hP hD hS => ?_)
  rw [show vp_nar .byte v = v.toInt8.toInt32 from rfl, ← (hc1 κ).2, ic_set hq0 (ho κ)] at hP hD
  exact h κ A p l e R s m args below meth c cells slots Q B hc K H1 locs1 ls ⟨hP, hD, hS, hW.2.2.2.to hg1 hg2⟩ hl
theorem ev_aald {x : ic_K} {t0 n : Nat} {f : Nat → ic_K} {i : Int32} (hd : ic_at M a b = some (pc, .aaload, 1, nx)) (ha : ic_ar t0 n g x f) (hi : ic_in i n = true) (hf : (f i.toNatClampNeg).1 ≠ 26) (h : ic_Ev M nx lv (.inr (.inr (some (f i.toNatClampNeg))) :: st) g r g') : ic_Ev M pc lv (ic_I i :: .inr (.inr (some x)) :: st) g r g' := by
  intro κ A p l e R s m args below meth c cells slots Q B hc K H locs ls hW hl
  obtain ⟨hx, hb, hml, hown, hts, hfr, hlo, hF, hA, hok⟩ := id B
  obtain ⟨hd1, hd2⟩ := ic_okd_at hok hd
  dsimp only at hd1 hd2
  subst hd2
  obtain ⟨hxk, ht0, hc1⟩ := ha
  obtain ⟨q0, -, hw⟩ := ic_wsk (κ := κ) (g := g) hxk
  rw [hc1] at hw
  have e3 : ic_sv κ (ic_I i :: (.inr (.inr (some x)) : ic_V) :: st) = .int i :: .ref (ic_ad κ x) :: ic_sv κ st := by rw [← ic_svk (ic_k26 hxk)]; rfl
  rw [e3]
  have h2 := h κ A p l e R s m args below meth c cells slots Q B hc K H locs ls hW hl
  rw [ic_svk hf] at h2
  rcases ht0 with rfl | rfl
  · exact va_aldq hx hb hF.1 hW.1 q0 2 (C := "IronCall$Thing") hw rfl (ic_inv hi) hd1 h2
  · exact va_aldq hx hb hF.1 hW.1 q0 3 (C := "IronCall$Sheet") hw rfl (ic_inv hi) hd1 h2
theorem ev_copy {idx : Nat} {x y : ic_K} {n0 n1 : Nat} {f1 f2 : Nat → Int32} {sp dp n : Int32} (hd : ic_at M a b = some (pc, .invokestatic idx, 3, nx)) (hl0 : Cond.methodLink M.1.cls idx arraycopyName ∈ lw_gd) (hnat : Cond.native arraycopyName ∈ lw_gd ∧ Cond.static arraycopyName ∈ lw_gd ∧ Cond.initialized "java/lang/System" ∈ lw_gd) (hroom : 1 ≤ M.2.2.2.2.1 ∧ 8 + (nativeFrameWords "java/lang/System" "arraycopy" 5 + 11) ≤ M.2.2.2.2.2.1) (hst : (st.map ic_cat).sum ≤ 8) (ha : ic_ai 0 n0 g x f1) (hb0 : ic_ai 0 n1 g y f2) (h1 : ¬ sp < 0) (h2 : ¬ dp < 0) (h3 : ¬ n < 0) (h4 : sp.toNatClampNeg + n.toNatClampNeg ≤ n0) (h5 : dp.toNatClampNeg + n.toNatClampNeg ≤ n1)
    (ho : ∀ κ : ic_X, ic_cel κ g1 y = .inl (κ.2.2.1 0, n1, .inl (va_cpy f1 f2 sp.toNatClampNeg dp.toNatClampNeg n.toNatClampNeg)) ∧ ∀ z ∈ ic_keys, z ≠ y → ic_cel κ g1 z = ic_cel κ g z) (hg1 : (∀ i, g1.1 40 i = g.1 40 i) ∧ g1.1 41 0 = g.1 41 0) (h : ic_Ev M nx lv st g1 r g') : ic_Ev M pc lv (ic_I n :: ic_I dp :: .inr (.inr (some y)) :: ic_I sp :: .inr (.inr (some x)) :: st) g r g' := by
  intro κ A p l e R s m args below meth c cells slots Q B hc K H locs ls hW hl
  obtain ⟨hx, hb, hml, hown, hts, hfr, hlo, hF, hA, hok⟩ := id B
  obtain ⟨hd1, hd2⟩ := ic_okd_at hok hd
  dsimp only at hd1 hd2
  subst hd2
  obtain ⟨hxk, -, hc1⟩ := ha
  obtain ⟨hyk, -, hc2⟩ := hb0
  obtain ⟨q0, -, hw⟩ := ic_wsk (κ := κ) (g := g) hxk
  obtain ⟨q1, hq1, hw1⟩ := ic_wsk (κ := κ) (g := g) hyk
  rw [hc1] at hw
  rw [hc2] at hw1
  have e3 : ic_sv κ (ic_I n :: ic_I dp :: (.inr (.inr (some y)) : ic_V) :: ic_I sp :: (.inr (.inr (some x)) : ic_V) :: st) = .int n :: .int dp :: .ref (ic_ad κ y) :: .int sp :: .ref (ic_ad κ x) :: ic_sv κ st := by rw [← ic_svk (ic_k26 hxk), ← ic_cvk (κ := κ) (ic_k26 hyk)]; rfl
  rw [e3]
  have hs0 : ((ic_sv κ st).map fun v => v.category).sum ≤ 8 := by
    unfold ic_sv
    rw [List.map_map, show ((fun v : Value => v.category) ∘ ic_cv κ) = ic_cat from funext fun v => ic_cvcat κ v]
    exact hst
  refine va_copyi hx hb (hml.trans hl.1.symm) hown (hts _ hl0) (hts _ hnat.1) (hts _ hnat.2.1) (hts _ hnat.2.2) hF.1 hW.1 hW.2.1 hW.2.2.1 q0 q1 0 0 hw hw1 (ty := .int) rfl rfl rfl h1 h2 h3 h4 h5 (fun _ _ => rfl) (by omega) (by omega) hd1 (fun H1 locs1 hP hD hS => ?_)
  rw [← (ho κ).1, ic_set hq1 (ho κ).2] at hP hD
  exact h κ A p l e R s m args below meth c cells slots Q B hc K H1 locs1 ls ⟨hP, hD, hS, hW.2.2.2.to hg1.1 hg1.2⟩ hl
/-! String constants, the static, the script -/
theorem ev_ldcs {idx : Nat} {tx : String} (i : Nat) (hd : ic_at M a b = some (pc, .ldc idx, 2, nx)) (hM : M.1.cls = "IronCall$Tokens") (hi : ic_str[i]? = some (idx, tx)) (h : ic_Ev M nx lv (ic_R 24 i 0 :: st) g r g') : ic_Ev M pc lv st g r g' := by
  intro κ A p l e R s m args below meth c cells slots Q B hc K H locs ls hW hl
  obtain ⟨hx, hb, hml, hown, hts, hfr, hlo, hF, hA, hok⟩ := id B
  obtain ⟨hd1, hd2⟩ := ic_okd_at hok hd
  dsimp only at hd1 hd2
  subst hd2
  have h2 := h κ A p l e R s m args below meth c cells slots Q B hc K H locs ls hW hl
  rw [ic_svk (show (24 : Nat) ≠ 26 by decide)] at h2
  rw [hM] at hown
  exact va_ldcS hx hb hown (hF.2.2.1 i _ hi) hd1 h2
theorem ev_sval {idx i : Nat} (hi : i < 16) (hd : ic_at M a b = some (pc, .getfield idx, 3, nx)) (hl0 : Cond.fieldLink M.1.cls idx "java/lang/String" "value" "[B" ∈ lw_gd) (h : ic_Ev M nx lv (ic_R 25 i 0 :: st) g r g') : ic_Ev M pc lv (ic_R 24 i 0 :: st) g r g' := by
  intro κ A p l e R s m args below meth c cells slots Q B hc K H locs ls hW hl
  obtain ⟨hx, hb, hml, hown, hts, hfr, hlo, hF, hA, hok⟩ := id B
  obtain ⟨hd1, hd2⟩ := ic_okd_at hok hd
  dsimp only at hd1 hd2
  subst hd2
  have h2 := h κ A p l e R s m args below meth c cells slots Q B hc K H locs ls hW hl
  rw [ic_svk (show (25 : Nat) ≠ 26 by decide)] at h2
  rw [ic_svk (show (24 : Nat) ≠ 26 by decide)]
  exact vk_getf hx hb (hF.2.1.1 i hi).2.2.1 hW.2.2.1 hown (hts _ hl0) (fun _ h9 => h9) hd1 h2
theorem ev_scod {idx i : Nat} (hi : i < 16) (hd : ic_at M a b = some (pc, .getfield idx, 3, nx)) (hl0 : Cond.fieldLink M.1.cls idx "java/lang/String" "coder" "B" ∈ lw_gd) (h : ic_Ev M nx lv (ic_I 0 :: st) g r g') : ic_Ev M pc lv (ic_R 24 i 0 :: st) g r g' := by
  intro κ A p l e R s m args below meth c cells slots Q B hc K H locs ls hW hl
  obtain ⟨hx, hb, hml, hown, hts, hfr, hlo, hF, hA, hok⟩ := id B
  obtain ⟨hd1, hd2⟩ := ic_okd_at hok hd
  dsimp only at hd1 hd2
  subst hd2
  have h2 := h κ A p l e R s m args below meth c cells slots Q B hc K H locs ls hW hl
  rw [ic_svk (show (24 : Nat) ≠ 26 by decide)]
  exact vk_getf hx hb (hF.2.1.1 i hi).2.1 hW.2.2.1 hown (hts _ hl0) (fun _ h9 => h9) hd1 h2
theorem ev_slen {i : Nat} (v : Int32) (hi : i < 16) (hv : Int32.ofNat (ic_slen.getD i 0) = v) (hd : ic_at M a b = some (pc, .arraylength, 1, nx)) (h : ic_Ev M nx lv (ic_I v :: st) g r g') : ic_Ev M pc lv (ic_R 25 i 0 :: st) g r g' := by
  intro κ A p l e R s m args below meth c cells slots Q B hc K H locs ls hW hl
  obtain ⟨hx, hb, hml, hown, hts, hfr, hlo, hF, hA, hok⟩ := id B
  obtain ⟨hd1, hd2⟩ := ic_okd_at hok hd
  dsimp only at hd1 hd2
  subst hd2
  rw [ic_svk (show (25 : Nat) ≠ 26 by decide)]
  exact va_tlen hx hb (hF.2.1.1 i hi).2.2.2 hW.2.2.1 hv hd1 (h κ A p l e R s m args below meth c cells slots Q B hc K H locs ls hW hl)
theorem ev_sbald {i : Nat} {k : Int32} (hi : i < 16) (hk : ic_in k (ic_slen.getD i 0) = true) (hd : ic_at M a b = some (pc, .baload, 1, nx)) (h : ic_Ev M nx lv (ic_I ((ic_sbyt.getD i []).getD k.toNatClampNeg 0) :: st) g r g') : ic_Ev M pc lv (ic_I k :: ic_R 25 i 0 :: st) g r g' := by
  intro κ A p l e R s m args below meth c cells slots Q B hc K H locs ls hW hl
  obtain ⟨hx, hb, hml, hown, hts, hfr, hlo, hF, hA, hok⟩ := id B
  obtain ⟨hd1, hd2⟩ := ic_okd_at hok hd
  dsimp only at hd1 hd2
  subst hd2
  have e3 : ic_sv κ (ic_I k :: ic_R 25 i 0 :: st) = .int k :: .ref (ic_ad κ (25, i, 0)) :: ic_sv κ st := by rw [← ic_svk (show (25 : Nat) ≠ 26 by decide)]; rfl
  rw [e3]
  exact va_tb hx hb (hF.2.1.1 i hi).2.2.2 hW.2.2.1 (ic_inv hk) rfl hd1 (h κ A p l e R s m args below meth c cells slots Q B hc K H locs ls hW hl)
theorem ev_compact {idx : Nat} (hd : ic_at M a b = some (pc, .getstatic idx, 3, nx)) (hl0 : Cond.fieldLink M.1.cls idx "java/lang/String" "COMPACT_STRINGS" "Z" ∈ lw_gd) (h : ic_Ev M nx lv (ic_I 1 :: st) g r g') : ic_Ev M pc lv st g r g' := by
  intro κ A p l e R s m args below meth c cells slots Q B hc K H locs ls hW hl
  obtain ⟨hx, hb, hml, hown, hts, hfr, hlo, hF, hA, hok⟩ := id B
  obtain ⟨hd1, hd2⟩ := ic_okd_at hok hd
  dsimp only at hd1 hd2
  subst hd2
  exact va_gets hx hb hF.2.2.2.1 hW.2.2.1 hown (hts _ hl0) (fun _ h9 => h9) hd1 (h κ A p l e R s m args below meth c cells slots Q B hc K H locs ls hW hl)
theorem ev_fmt {idx : Nat} (hd : ic_at M a b = some (pc, .getstatic idx, 3, nx)) (hl0 : Cond.fieldLink M.1.cls idx "jdk/internal/util/Preconditions" "SIOOBE_FORMATTER" "Ljava/util/function/BiFunction;" ∈ lw_gd) (h : ic_Ev M nx lv (ic_R 26 0 0 :: st) g r g') : ic_Ev M pc lv st g r g' := by
  intro κ A p l e R s m args below meth c cells slots Q B hc K H locs ls hW hl
  obtain ⟨hx, hb, hml, hown, hts, hfr, hlo, hF, hA, hok⟩ := id B
  obtain ⟨hd1, hd2⟩ := ic_okd_at hok hd
  dsimp only at hd1 hd2
  subst hd2
  exact va_gets hx hb hF.2.2.2.2.1 hW.2.2.1 hown (hts _ hl0) (fun _ h9 => h9) hd1 (h κ A p l e R s m args below meth c cells slots Q B hc K H locs ls hW hl)
theorem ev_xlen (hd : ic_at M a b = some (pc, .arraylength, 1, nx)) (h : ic_Ev M nx lv (ic_I (g.1 41 0) :: st) g r g') : ic_Ev M pc lv (ic_R 27 0 0 :: st) g r g' := by
  intro κ A p l e R s m args below meth c cells slots Q B hc K H locs ls hW hl
  obtain ⟨hx, hb, hml, hown, hts, hfr, hlo, hF, hA, hok⟩ := id B
  obtain ⟨hd1, hd2⟩ := ic_okd_at hok hd
  dsimp only at hd1 hd2
  subst hd2
  obtain ⟨L, xs, hX, hxs, hL, hbl, hbA⟩ := hW.2.2.2
  have h2 := h κ A p l e R s m args below meth c cells slots Q B hc K H locs ls hW hl
  rw [← hL] at h2
  rw [ic_svk (show (27 : Nat) ≠ 26 by decide)]
  exact va_slen hx hb hX hbl hbA hW.2.2.1 hd1 h2
theorem ev_xald {i : Int32} (hi : 0 ≤ i.toInt ∧ i.toInt < (g.1 41 0).toInt) (hd : ic_at M a b = some (pc, .iaload, 1, nx)) (h : ic_Ev M nx lv (ic_I (g.1 40 i.toNatClampNeg) :: st) g r g') : ic_Ev M pc lv (ic_I i :: ic_R 27 0 0 :: st) g r g' := by
  intro κ A p l e R s m args below meth c cells slots Q B hc K H locs ls hW hl
  obtain ⟨hx, hb, hml, hown, hts, hfr, hlo, hF, hA, hok⟩ := id B
  obtain ⟨hd1, hd2⟩ := ic_okd_at hok hd
  dsimp only at hd1 hd2
  subst hd2
  obtain ⟨L, xs, hX, hxs, hL, hbl, hbA⟩ := hW.2.2.2
  have h2 := h κ A p l e R s m args below meth c cells slots Q B hc K H locs ls hW hl
  have hlt : i.toNatClampNeg < L := by
    have hm : (Int32.ofNat L).toInt ≤ (L : Int) := by
      rw [Int32.toInt_ofNat', show Int32.size = 4294967296 from rfl, Int.bmod_eq_emod]; split <;> omega
    rw [← hL] at hi
    show i.toInt.toNat < L
    omega
  have hin : vp_in i L := vp_in_iff.mpr ⟨hi.1, by have e : i.toNatClampNeg = i.toInt.toNat := rfl; omega⟩
  rw [← hxs _ hlt] at h2
  have e3 : ic_sv κ (ic_I i :: ic_R 27 0 0 :: st) = .int i :: .ref (ic_ad κ (27, 0, 0)) :: ic_sv κ st := by rw [← ic_svk (show (27 : Nat) ≠ 26 by decide)]; rfl
  rw [e3]
  exact va_sld hx hb hX hbl hbA hW.2.2.1 hin hd1 h2
end IC2
end
section
/-! calls -/
def ic_A (κ : ic_X) : Nat → Prop := fun q => ∃ x ∈ ic_keys, q = ic_ad κ x
def ic_Y (κ : ic_X) (g : ic_S) (U : State) : Prop := ic_F κ (ic_A κ) U ∧ va_P κ.2.1 ic_cls (ic_ws κ g) U.heap ∧ va_D (ic_A κ) (ic_ws κ g) ∧ ic_G κ (ic_A κ) g U
def ic_Qc (κ : ic_X) (v : Option ic_V) (g' : ic_S) : Array Value → State → Outcome → State → Prop := fun _ st oc t =>
  oc = .returned (v.map (ic_cv κ)) ∧ (va_P κ.2.1 ic_cls (ic_ws κ g') t.heap ∧ va_D (ic_A κ) (ic_ws κ g') ∧ ic_G κ (ic_A κ) g' st) ∧ va_F (ic_A κ) st t
theorem ic_F.to {κ : ic_X} {A B : Nat → Prop} {s U : State} {H : Heap} {locs : List Loc} (h : ic_F κ A s) (hS : va_S A s.heap H locs) (hU : U.heap = H) (hW : s.WarmedH U.vm) (hAB : ∀ q, B q → A q) : ic_F κ B U := by
  obtain ⟨h1, h2, h3, h4, h6, h5⟩ := h
  refine ⟨h1.moved hW.alike, ?_, fun i q hq => vk_R.warm hW (h3 i q hq), ?_, ?_, fun q hq => va_Nw.warmM hW (h5 q hq)⟩
  · rw [hU]
    exact ((h2.kept hS.2.1).moved hW.alike).narrow hAB
  · rw [hU]
    exact ((h4.kept hS.2.1).moved hW.alike).narrow hAB
  · rw [hU]
    exact ((h6.kept hS.2.1).moved hW.alike).narrow hAB
theorem ic_G.at {κ : ic_X} {A B : Nat → Prop} {g : ic_S} {s U : State} {H : Heap} {locs : List Loc} (h : ic_G κ A g s) (hS : va_S A s.heap H locs) (hU : U.heap = H) (hW : s.vm.Alike U.vm) (hAB : ∀ q, B q → A q) : ic_G κ B g U := by
  obtain ⟨L, xs, a1, a2, a3, a4, a5⟩ := h
  refine ⟨L, xs, ?_, a2, a3, ?_, fun z => a5 (hAB _ z)⟩
  · rw [hU]
    exact (a1.kept (hS.2.1 _ a4 a5)).moved hW
  · rw [hU]
    exact Nat.lt_of_lt_of_le a4 hS.1
theorem ic_G.back {κ : ic_X} {A B : Nat → Prop} {g g' : ic_S} {s U : State} {H : Heap} {locs : List Loc} (h : ic_G κ A g s) (hS : va_S A s.heap H locs) (hU : U.heap = H) (h2 : ic_G κ B g' U) : ic_G κ A g' s := by
  obtain ⟨L, xs, ⟨scr, b1, b2, b3, b4, b5⟩, a2, a3, a4, a5⟩ := h
  obtain ⟨L', xs', ⟨scr', c1, c2, c3, c4, c5⟩, d2, d3, d4, d5⟩ := h2
  rw [hU, hS.2.1 _ a4 a5, b1] at c1
  cases c1
  have hL : L' = L := c4.symm.trans b4
  subst hL
  refine ⟨L', xs, ⟨scr, b1, b2, b3, b4, b5⟩, fun j hj => ?_, d3, a4, a5⟩
  have e1 := (b5 j hj).symm.trans (c5 j hj)
  rw [← d2 j hj]
  exact Value.int.inj (Option.some.inj e1)
theorem ic_wsD {κ : ic_X} {A B : Nat → Prop} {g : ic_S} (h : va_D A (ic_ws κ g)) (hB : ∀ x ∈ ic_keys, B (ic_ad κ x)) : va_D B (ic_ws κ g) := by
  refine h.weaken fun k q hq _ => ?_
  obtain ⟨x, hx, e⟩ := List.mem_map.mp (List.mem_of_getElem? hq)
  rw [← e]
  exact hB x hx
theorem ic_Y.of {κ : ic_X} {A : Nat → Prop} {g : ic_S} {s U : State} {H : Heap} {locs : List Loc} (hF : ic_F κ A s) (hW : ic_W κ A g s H locs) (hA : ∀ x ∈ ic_keys, A (ic_ad κ x)) (hU : U.heap = H) (hv : s.WarmedH U.vm) : ic_Y κ g U := by
  have hAB : ∀ q, ic_A κ q → A q := fun q ⟨x, hx, e⟩ => by rw [e]; exact hA x hx
  refine ⟨hF.to hW.2.2.1 hU hv hAB, by rw [hU]; exact hW.1, ic_wsD hW.2.1 fun x hx => ⟨x, hx, rfl⟩, hW.2.2.2.at hW.2.2.1 hU hv.alike hAB⟩
theorem ic_Y.blind {κ : ic_X} {g : ic_S} {av : List Value} : FrameBlind (va_Pc av (ic_Y κ g)) := by
  intro a U f mk h
  obtain ⟨h0, ⟨h1, h2, h3, h4, h6, h5⟩, hP, hD, L, xs, a1, a2⟩ := h
  refine ⟨h0, ⟨va_K.moved (u := U) (U := U.calling f mk a) (Vm.Alike.refl U.vm) h1, vk_S.moved (u := U) (U := U.calling f mk a) (Vm.Alike.refl U.vm) h2, fun i q hq => vk_R.same (u := U) (U := U.calling f mk a) rfl (h3 i q hq), va_Z.moved (u := U) (U := U.calling f mk a) (Vm.Alike.refl U.vm) h4, va_Z.moved (u := U) (U := U.calling f mk a) (Vm.Alike.refl U.vm) h6, fun q hq => va_Nw.same (u := U) (U := U.calling f mk a) rfl rfl (h5 q hq)⟩, hP, hD, L, xs, va_X.moved (u := U) (U := U.calling f mk a) (Vm.Alike.refl U.vm) a1, a2⟩
def ic_ag : Nat → List ic_V → ic_L
  | _, [] => []
  | i, v :: vs => (i, v) :: ic_ag (i + ic_cat v) vs
theorem ic_cat12 (v : ic_V) : ic_cat v = 1 ∨ ic_cat v = 2 := by
  rcases v with x | x | o
  · exact Or.inl rfl
  · exact Or.inr rfl
  · exact Or.inl rfl
theorem ic_ag_eq (κ : ic_X) : ∀ (as : List ic_V) (i : Nat), ic_lv κ (ic_ag i as) = lv_args i (as.map (ic_cv κ))
  | [], _ => rfl
  | v :: vs, i => by
    show (i, ic_cv κ v) :: ic_lv κ (ic_ag (i + ic_cat v) vs) = (i, ic_cv κ v) :: lv_args (if (ic_cv κ v).category = 2 then i + 2 else i + 1) (vs.map (ic_cv κ))
    rw [ic_ag_eq κ vs, ic_cvcat]
    rcases ic_cat12 v with e | e <;> rw [e] <;> rfl
theorem ic_slw (κ : ic_X) : ∀ as : List ic_V, (lg_sl (as.map (ic_cv κ))).length = (as.map ic_cat).sum
  | [] => rfl
  | v :: vs => by
    have ih := ic_slw κ vs
    unfold lg_sl at ih ⊢
    rw [List.map_cons, List.flatMap_cons, List.length_append, List.map_cons, List.sum_cons, ih, ic_cvcat]
    rcases ic_cat12 v with e | e <;> rw [e] <;> rfl
abbrev ic_rm (M : ic_M) : Room := { frames := M.2.2.2.2.1, cells := 0, slots := 0, locals := M.2.2.2.2.2.1 }
abbrev ic_wd (M : ic_M) : List Cond := Cond.code M.1 M.2.1 M.2.2.1 M.2.2.2.1 :: lw_gd
theorem ic_met {M : ic_M} {as : List ic_V} {g g' : ic_S} {r : Option ic_V} (hok : ic_okd M = true) (hpl : plainName M.1.cls = true) (hn : (as.map ic_cat).sum ≤ M.2.2.1) (h : ic_Ev M 0 (ic_ag 0 as) [] g r g') (κ : ic_X) (l : Launch) :
    Met l M.1 (ic_wd M) (ic_rm M) (va_Pc (as.map (ic_cv κ)) (ic_Y κ g)) (ic_Qc κ r g') 0 0 (ic_A κ) := by
  refine Met.ofW (cc := M.2.1) (maxL := M.2.2.1) (ret := M.2.2.2.1) hpl rfl ?_
  intro p e s m args below meth c s₁ B hml hv
  obtain ⟨rfl, hF, hP, hD, hG⟩ := hv
  have hx := B.exec
  have hb := B.bytes
  have hr := B.returns
  have hts := atoms_spec (ws := ic_wd M) B.pre
  have hown : s.vm.findClass M.1.cls = some m.cls := findClass_of_methodNamed B.named
  have hlocks := B.notSynchronized
  have hl := lv_entry (as.map (ic_cv κ)) (n := M.2.2.1) (by rw [ic_slw]; exact hn)
  rw [lg_entry_eq]
  refine h κ (ic_A κ) p l e _ s m _ below meth c 0 0 _ ⟨hx, hb, hml, hown, fun w hw => hts w (List.mem_cons_of_mem _ hw), Nat.le_refl _, Nat.le_refl _, hF, fun x hx => ⟨x, hx, rfl⟩, hok⟩ ⟨Nat.zero_le _, Nat.zero_le _⟩ ?_ s.heap [] _ ⟨hP, hD, va_S.rf, hG⟩ (by rw [ic_ag_eq]; exact hl)
  intro H locs pc1 ls hR hW
  obtain ⟨hP1, hD1, hS1, hG1⟩ := hW
  rcases r with _ | v | v | o
  · exact W.vret hx hb (by rw [hr]; exact hR.2) (fun t ht _ => ⟨rfl, ⟨by rw [ht]; exact hP1, hD1, hG1⟩, hS1.F ht⟩) hS1.2.2 hR.1 hlocks
  · obtain ⟨h1, ty, h2, h3⟩ := hR
    exact W.zret hx hb (by rw [hr]; exact h2) h3 (fun t ht _ => ⟨rfl, ⟨by rw [ht]; exact hP1, hD1, hG1⟩, hS1.F ht⟩) hS1.2.2 h1 hlocks
  · exact W.lret hx hb (by rw [hr]; exact hR.2) (fun t ht _ => ⟨rfl, ⟨by rw [ht]; exact hP1, hD1, hG1⟩, hS1.F ht⟩) hS1.2.2 hR.1 hlocks
  · obtain ⟨h1, rt, h2, h3⟩ := hR
    exact W.aret hx hb (by rw [hr]; exact h2) h3 (ic_cvnr κ o) (fun t ht _ => ⟨rfl, ⟨by rw [ht]; exact hP1, hD1, hG1⟩, hS1.F ht⟩) hS1.2.2 h1 hlocks
section ICR
variable {p : Program} {l : Launch} {e : Env} {R : Room} {s : State} {m : MethodId} {args : Array Value} {below : List Frame} {meth : Method} {c : Code} {H : Heap} {locs : List Loc} {cells slots : Nat} {Q : State → Prop}
theorem ic_run {κ : ic_X} {A : Nat → Prop} {g g1 : ic_S} {v : Option ic_V} {pc : Nat} {ls : Array Slot} {st0 rest : List Value} {a : Array Value} (hr : va_Run p l e R s m args below meth c H locs cells slots 0 0 (F0 m pc ls st0) rest (ic_Qc κ v g1 a) (ic_A κ)) (hW : ic_W κ A g s H locs) (hA : ∀ x ∈ ic_keys, A (ic_ad κ x))
    (kk : ∀ (H1 : Heap) (locs1 : List Loc), ic_W κ A g1 s H1 locs1 → W p l e R s m args below meth c H1 locs1 cells slots Q (F0 m (pc + 3) ls ((v.map (ic_cv κ)).toList ++ rest))) : W p l e R s m args below meth c H locs cells slots Q (F0 m pc ls st0) := by
  intro T hT X
  obtain ⟨v', st₀, t, T', L, h0, X', hL, e1, e2, ⟨hv, ⟨hP, hD, hG⟩, hz, hk⟩, st⟩ := hr T hT X
  cases hv
  rw [h0] at hz hk
  obtain ⟨hP0, hD0, hS, hG0⟩ := hW
  have hA' : ∀ q, ic_A κ q → A q := fun q ⟨x, hx, e⟩ => by rw [e]; exact hA x hx
  have hS1 : va_S A s.heap T'.heap (locs ++ L) := ⟨Nat.le_trans hS.1 (by rw [e1]; exact hz), fun q h1 h2 => by rw [e1, hk q (Nat.lt_of_lt_of_le h1 hS.1) (fun z => h2 (hA' q z))]; exact hS.2.1 q h1 h2, fun q hq => by
      rcases List.mem_append.mp hq with h | h
      · exact hS.2.2 q h
      · exact hA' _ (hL q h)⟩
  obtain ⟨t2, a1, b1⟩ := kk T'.heap (locs ++ L) ⟨by rw [e1]; exact hP, ic_wsD hD hA, hS1, hG0.back hS h0 hG⟩ T' rfl X'
  exact ⟨t2, st t2 a1, b1⟩
end ICR
def ic_ok0 (N : ic_M) (n : Nat) : Prop := ic_okd N = true ∧ plainName N.1.cls = true ∧ Cond.code N.1 N.2.1 N.2.2.1 N.2.2.2.1 ∈ lw_gd ∧ Cond.initialized N.1.cls ∈ lw_gd ∧ N.1.cls ≠ "java/lang/invoke/MethodHandle" ∧ N.1.cls ≠ "java/lang/invoke/VarHandle" ∧ (parseMethodDescriptor N.1.desc).map (fun d => d.parameters.length) = some n
def ic_okv (N : ic_M) (n : Nat) : Prop := ic_ok0 N n ∧ Cond.instanceMethod N.1 ∈ lw_gd ∧ Cond.selects N.1.cls N.1 N.1 ∈ lw_gd
def ic_oks (N : ic_M) (n : Nat) : Prop := ic_ok0 N n ∧ Cond.static N.1 ∈ lw_gd
def ic_rom (M N : ic_M) : Bool := Nat.ble (N.2.2.2.2.1 + 1) M.2.2.2.2.1 && Nat.ble (8 + (N.2.2.1 + 11) + N.2.2.2.2.2.1) M.2.2.2.2.2.1
theorem ic_rom_at {M N : ic_M} (h : ic_rom M N = true) {R : Room} (h1 : M.2.2.2.2.1 ≤ R.frames) (h2 : M.2.2.2.2.2.1 ≤ R.locals) : N.2.2.2.2.1 + 1 ≤ R.frames ∧ 8 + (N.2.2.1 + 11) + N.2.2.2.2.2.1 ≤ R.locals := by
  unfold ic_rom at h
  rw [Bool.and_eq_true] at h
  exact ⟨Nat.le_trans (Nat.le_of_ble_eq_true h.1) h1, Nat.le_trans (Nat.le_of_ble_eq_true h.2) h2⟩
theorem ic_goodwd {N : ic_M} (h : Cond.code N.1 N.2.1 N.2.2.1 N.2.2.2.1 ∈ lw_gd) : GoodIn lw_gd (ic_wd N) := fun w hw => by
  rcases List.mem_cons.mp hw with rfl | hw
  · exact lw_gd_good _ h
  · exact lw_gd_good w hw
/-- the receiver's cell -/
def ic_rc (C : String) (x : ic_K) : Prop := (∃ (ci : Nat) (T : u_T) (n : Nat), ic_cls[ci]? = some (C, T, n) ∧ x ∈ ic_keys ∧ ∀ (κ : ic_X) (g : ic_S), ∃ fs, ic_cel κ g x = .inr (ci, fs)) ∨ (C = "java/lang/String" ∧ ∃ i, i < 16 ∧ x = (24, i, 0))
theorem ic_rc_at {C : String} {x : ic_K} (h : ic_rc C x) {κ : ic_X} {A : Nat → Prop} {g : ic_S} {s : State} {H : Heap} {locs : List Loc} (hF : ic_F κ A s) (hW : ic_W κ A g s H locs) : x.1 ≠ 26 ∧ ∃ cell : Cell, H[ic_ad κ x]? = some cell ∧ cell.vm.isStatics = false ∧ s.vm.findClass C = some cell.cls := by
  rcases h with ⟨ci, T, n, hc, hx, hcel⟩ | ⟨rfl, i, hi, rfl⟩
  · obtain ⟨fs, hfs⟩ := hcel κ g
    obtain ⟨q0, -, hw⟩ := ic_wsk (κ := κ) (g := g) hx
    rw [hfs] at hw
    exact ⟨ic_k26 hx, va_recv hF.1 hW.1 hc hw⟩
  · exact ⟨(show (24 : Nat) ≠ 26 by decide), vk_recv (adK := fun i => κ.1 24 i 0) (i := i) hF.2.1 hi hW.2.2.1⟩
theorem ic_svcat (κ : ic_X) (st : List ic_V) : ((ic_sv κ st).map fun v => v.category).sum = (st.map ic_cat).sum := by
  unfold ic_sv
  rw [List.map_map, show ((fun v : Value => v.category) ∘ ic_cv κ) = ic_cat from funext fun v => ic_cvcat κ v]
section IC3
variable {M : ic_M} {pc nx : Nat} {lv lv' : ic_L} {st stk : List ic_V} {g g1 g' : ic_S} {r : Option ic_V} {a b : Nat}
theorem ev_iv {N : ic_M} {idx n : Nat} {x : ic_K} (as : List ic_V) {v : Option ic_V} (hd : ic_at M a b = some (pc, .invokevirtual idx, 3, nx)) (hN : ic_okv N n) (hn : as.length = n) (hl0 : Cond.methodLink M.1.cls idx N.1 ∈ lw_gd) (hroom : ic_rom M N = true) (hrc : ic_rc N.1.cls x) (hnl : (((.inr (.inr (some x)) : ic_V) :: as).map ic_cat).sum ≤ N.2.2.1) (he : ic_Ev N 0 (ic_ag 0 ((.inr (.inr (some x)) : ic_V) :: as)) [] g v g1) (hst : (st.map ic_cat).sum ≤ 8) (hsk : stk = as.reverse ++ (.inr (.inr (some x)) : ic_V) :: st) (h : ic_Ev M nx lv (v.toList ++ st) g1 r g') : ic_Ev M pc lv stk g r g' := by
  intro κ A p l e R s m args below meth c cells slots Q B hc K H locs ls hW hl
  obtain ⟨hx, hb, hml, hown, hts, hfr, hlo, hF, hA, hok⟩ := id B
  obtain ⟨hd1, hd2⟩ := ic_okd_at hok hd
  dsimp only at hd1 hd2
  subst hd2
  subst hsk
  obtain ⟨⟨hN0, hN1, hN2, hN3, hN4, hN5, hN6⟩, hi1, hi2⟩ := hN
  obtain ⟨hx26, hcell⟩ := ic_rc_at hrc hF hW
  have hM := ic_met hN0 hN1 hnl he κ l
  have e9 : (((.inr (.inr (some x)) : ic_V) :: as).map (ic_cv κ)) = Value.ref (ic_ad κ x) :: as.map (ic_cv κ) := by rw [List.map_cons, ic_cvk hx26]
  rw [e9] at hM
  have hcw : CallW R s args M.1.cls N.1.cls idx N.1 N.2.1 N.2.2.1 N.2.2.2.1 (ic_wd N) (ic_rm N) 0 0 n := ⟨callB_of n hts (ic_goodwd hN2) rfl rfl rfl (hts _ hN3) (hts _ hl0) ⟨hN4, hN5, hN6⟩ (ic_rom_at hroom hfr hlo), hts _ hi1, hts _ hi2⟩
  refine ic_run (va_runV (As := as.map (ic_cv κ)) (b := ic_ad κ x) (rest := ic_sv κ st) (Ts := lw_gd) ⟨hx, hb, hml, hown, hts⟩ hM hcw ⟨ic_Y.blind, hcell, fun U hU hv => ⟨rfl, ic_Y.of hF hW hA hU hv⟩⟩ rfl (by rw [List.length_map]; exact hn) hl.1 ?_ (lv_room (by rw [ic_svcat]; exact hst)) hd1 ⟨by omega, by omega⟩) hW hA (fun H1 locs1 hW1 => ?_)
  · show ic_sv κ (as.reverse ++ _ :: st) = _
    unfold ic_sv
    rw [List.map_append, List.map_cons, ic_cvk hx26, List.map_reverse]
  · have h2 := h κ A p l e R s m args below meth c cells slots Q B hc K H1 locs1 ls hW1 hl
    have e8 : ic_sv κ (v.toList ++ st) = (v.map (ic_cv κ)).toList ++ ic_sv κ st := by cases v <;> rfl
    rw [e8] at h2
    exact h2
theorem ev_is {N : ic_M} {idx n : Nat} (as : List ic_V) {v : Option ic_V} (hd : ic_at M a b = some (pc, .invokestatic idx, 3, nx)) (hN : ic_oks N n) (hn : as.length = n) (hl0 : Cond.methodLink M.1.cls idx N.1 ∈ lw_gd) (hroom : ic_rom M N = true) (hnl : (as.map ic_cat).sum ≤ N.2.2.1) (he : ic_Ev N 0 (ic_ag 0 as) [] g v g1) (hst : (st.map ic_cat).sum ≤ 8) (hsk : stk = as.reverse ++ st) (h : ic_Ev M nx lv (v.toList ++ st) g1 r g') : ic_Ev M pc lv stk g r g' := by
  intro κ A p l e R s m args below meth c cells slots Q B hc K H locs ls hW hl
  obtain ⟨hx, hb, hml, hown, hts, hfr, hlo, hF, hA, hok⟩ := id B
  obtain ⟨hd1, hd2⟩ := ic_okd_at hok hd
  dsimp only at hd1 hd2
  subst hd2
  subst hsk
  obtain ⟨⟨hN0, hN1, hN2, hN3, hN4, hN5, hN6⟩, hi1⟩ := hN
  have hM := ic_met hN0 hN1 hnl he κ l
  have hcw : CallB R s args M.1.cls idx N.1 N.2.1 N.2.2.1 N.2.2.2.1 (ic_wd N) (ic_rm N) 0 0 n ∧ (Cond.static N.1).before args s = true := ⟨callB_of n hts (ic_goodwd hN2) rfl rfl rfl (hts _ hN3) (hts _ hl0) ⟨hN4, hN5, hN6⟩ (ic_rom_at hroom hfr hlo), hts _ hi1⟩
  refine ic_run (va_runS (As := as.map (ic_cv κ)) (rest := ic_sv κ st) (Ts := lw_gd) ⟨hx, hb, hml, hown, hts⟩ hM hcw ⟨ic_Y.blind, fun U hU hv => ⟨rfl, ic_Y.of hF hW hA hU hv⟩⟩ rfl (by rw [List.length_map]; exact hn) hl.1 ?_ (lv_room (by rw [ic_svcat]; exact hst)) hd1 ⟨by omega, by omega⟩) hW hA (fun H1 locs1 hW1 => ?_)
  · show ic_sv κ (as.reverse ++ st) = _
    unfold ic_sv
    rw [List.map_append, List.map_reverse]
  · have h2 := h κ A p l e R s m args below meth c cells slots Q B hc K H1 locs1 ls hW1 hl
    have e8 : ic_sv κ (v.toList ++ st) = (v.map (ic_cv κ)).toList ++ ic_sv κ st := by cases v <;> rfl
    rw [e8] at h2
    exact h2
theorem ev_isn {N : ic_M} {idx n : Nat} {host : String} (as : List ic_V) {v : Option ic_V} (hd : ic_at M a b = some (pc, .invokestatic idx, 3, nx)) (hN : ic_oks N n) (hn : as.length = n) (hl0 : (M.1.cls, idx, N.1, host) ∈ ic_nst) (hroom : ic_rom M N = true) (hnl : (as.map ic_cat).sum ≤ N.2.2.1) (he : ic_Ev N 0 (ic_ag 0 as) [] g v g1) (hst : (st.map ic_cat).sum ≤ 8) (hsk : stk = as.reverse ++ st) (h : ic_Ev M nx lv (v.toList ++ st) g1 r g') : ic_Ev M pc lv stk g r g' := by
  intro κ A p l e R s m args below meth c cells slots Q B hc K H locs ls hW hl
  obtain ⟨hx, hb, hml, hown, hts, hfr, hlo, hF, hA, hok⟩ := id B
  obtain ⟨hd1, hd2⟩ := ic_okd_at hok hd
  dsimp only at hd1 hd2
  subst hd2
  subst hsk
  obtain ⟨⟨hN0, hN1, hN2, hN3, hN4, hN5, hN6⟩, hi1⟩ := hN
  have hM := ic_met hN0 hN1 hnl he κ l
  have hcw : va_CN R s args M.1.cls idx N.1 host N.2.1 N.2.2.1 N.2.2.2.1 (ic_wd N) (ic_rm N) 0 0 n ∧ (Cond.static N.1).before args s = true ∧ True := ⟨va_cnB n hts (ic_goodwd hN2) rfl rfl rfl (hF.2.2.2.2.2 _ hl0) (hts _ hN3) ⟨hN4, hN5, hN6⟩ (ic_rom_at hroom hfr hlo), hts _ hi1, trivial⟩
  refine ic_run (va_runSN (As := as.map (ic_cv κ)) (rest := ic_sv κ st) (Ts := lw_gd) ⟨hx, hb, hml, hown, hts⟩ hM hcw ⟨ic_Y.blind, fun U hU hv => ⟨rfl, ic_Y.of hF hW hA hU hv⟩⟩ rfl (by rw [List.length_map]; exact hn) hl.1 ?_ (lv_room (by rw [ic_svcat]; exact hst)) hd1 ⟨by omega, by omega⟩) hW hA (fun H1 locs1 hW1 => ?_)
  · show ic_sv κ (as.reverse ++ st) = _
    unfold ic_sv
    rw [List.map_append, List.map_reverse]
  · have h2 := h κ A p l e R s m args below meth c cells slots Q B hc K H1 locs1 ls hW1 hl
    have e8 : ic_sv κ (v.toList ++ st) = (v.map (ic_cv κ)).toList ++ ic_sv κ st := by cases v <;> rfl
    rw [e8] at h2
    exact h2
end IC3

section IC4
variable {M : ic_M} {pc nx : Nat} {lv lv' : ic_L} {st stk : List ic_V} {g g1 g' : ic_S} {r : Option ic_V} {a b : Nat}
theorem ev_ivI {N : ic_M} {idx n : Nat} {x : ic_K} (as : List ic_V) {v : Int32} (hd : ic_at M a b = some (pc, .invokevirtual idx, 3, nx)) (hN : ic_okv N n) (hn : as.length = n) (hl0 : Cond.methodLink M.1.cls idx N.1 ∈ lw_gd) (hroom : ic_rom M N = true) (hrc : ic_rc N.1.cls x) (hnl : (((.inr (.inr (some x)) : ic_V) :: as).map ic_cat).sum ≤ N.2.2.1) (he : ic_Ev N 0 (ic_ag 0 ((.inr (.inr (some x)) : ic_V) :: as)) [] g (some (ic_I v)) g1) (hst : (st.map ic_cat).sum ≤ 8) (hsk : stk = as.reverse ++ (.inr (.inr (some x)) : ic_V) :: st) (h : ic_Ev M nx lv (ic_I v :: st) g1 r g') : ic_Ev M pc lv stk g r g' := ev_iv as hd hN hn hl0 hroom hrc hnl he hst hsk h
theorem ev_isI {N : ic_M} {idx n : Nat} (as : List ic_V) {v : Int32} (hd : ic_at M a b = some (pc, .invokestatic idx, 3, nx)) (hN : ic_oks N n) (hn : as.length = n) (hl0 : Cond.methodLink M.1.cls idx N.1 ∈ lw_gd) (hroom : ic_rom M N = true) (hnl : (as.map ic_cat).sum ≤ N.2.2.1) (he : ic_Ev N 0 (ic_ag 0 as) [] g (some (ic_I v)) g1) (hst : (st.map ic_cat).sum ≤ 8) (hsk : stk = as.reverse ++ st) (h : ic_Ev M nx lv (ic_I v :: st) g1 r g') : ic_Ev M pc lv stk g r g' := ev_is as hd hN hn hl0 hroom hnl he hst hsk h
theorem ev_ivJ {N : ic_M} {idx n : Nat} {x : ic_K} (as : List ic_V) {v : Int64} (hd : ic_at M a b = some (pc, .invokevirtual idx, 3, nx)) (hN : ic_okv N n) (hn : as.length = n) (hl0 : Cond.methodLink M.1.cls idx N.1 ∈ lw_gd) (hroom : ic_rom M N = true) (hrc : ic_rc N.1.cls x) (hnl : (((.inr (.inr (some x)) : ic_V) :: as).map ic_cat).sum ≤ N.2.2.1) (he : ic_Ev N 0 (ic_ag 0 ((.inr (.inr (some x)) : ic_V) :: as)) [] g (some (ic_J v)) g1) (hst : (st.map ic_cat).sum ≤ 8) (hsk : stk = as.reverse ++ (.inr (.inr (some x)) : ic_V) :: st) (h : ic_Ev M nx lv (ic_J v :: st) g1 r g') : ic_Ev M pc lv stk g r g' := ev_iv as hd hN hn hl0 hroom hrc hnl he hst hsk h
theorem ev_isJ {N : ic_M} {idx n : Nat} (as : List ic_V) {v : Int64} (hd : ic_at M a b = some (pc, .invokestatic idx, 3, nx)) (hN : ic_oks N n) (hn : as.length = n) (hl0 : Cond.methodLink M.1.cls idx N.1 ∈ lw_gd) (hroom : ic_rom M N = true) (hnl : (as.map ic_cat).sum ≤ N.2.2.1) (he : ic_Ev N 0 (ic_ag 0 as) [] g (some (ic_J v)) g1) (hst : (st.map ic_cat).sum ≤ 8) (hsk : stk = as.reverse ++ st) (h : ic_Ev M nx lv (ic_J v :: st) g1 r g') : ic_Ev M pc lv stk g r g' := ev_is as hd hN hn hl0 hroom hnl he hst hsk h
theorem ev_ivO {N : ic_M} {idx n : Nat} {x : ic_K} (as : List ic_V) {o : Option ic_K} (hd : ic_at M a b = some (pc, .invokevirtual idx, 3, nx)) (hN : ic_okv N n) (hn : as.length = n) (hl0 : Cond.methodLink M.1.cls idx N.1 ∈ lw_gd) (hroom : ic_rom M N = true) (hrc : ic_rc N.1.cls x) (hnl : (((.inr (.inr (some x)) : ic_V) :: as).map ic_cat).sum ≤ N.2.2.1) (he : ic_Ev N 0 (ic_ag 0 ((.inr (.inr (some x)) : ic_V) :: as)) [] g (some (.inr (.inr o))) g1) (hst : (st.map ic_cat).sum ≤ 8) (hsk : stk = as.reverse ++ (.inr (.inr (some x)) : ic_V) :: st) (h : ic_Ev M nx lv (.inr (.inr o) :: st) g1 r g') : ic_Ev M pc lv stk g r g' := ev_iv as hd hN hn hl0 hroom hrc hnl he hst hsk h
theorem ev_isO {N : ic_M} {idx n : Nat} (as : List ic_V) {o : Option ic_K} (hd : ic_at M a b = some (pc, .invokestatic idx, 3, nx)) (hN : ic_oks N n) (hn : as.length = n) (hl0 : Cond.methodLink M.1.cls idx N.1 ∈ lw_gd) (hroom : ic_rom M N = true) (hnl : (as.map ic_cat).sum ≤ N.2.2.1) (he : ic_Ev N 0 (ic_ag 0 as) [] g (some (.inr (.inr o))) g1) (hst : (st.map ic_cat).sum ≤ 8) (hsk : stk = as.reverse ++ st) (h : ic_Ev M nx lv (.inr (.inr o) :: st) g1 r g') : ic_Ev M pc lv stk g r g' := ev_is as hd hN hn hl0 hroom hnl he hst hsk h
theorem ev_ivV {N : ic_M} {idx n : Nat} {x : ic_K} (as : List ic_V)  (hd : ic_at M a b = some (pc, .invokevirtual idx, 3, nx)) (hN : ic_okv N n) (hn : as.length = n) (hl0 : Cond.methodLink M.1.cls idx N.1 ∈ lw_gd) (hroom : ic_rom M N = true) (hrc : ic_rc N.1.cls x) (hnl : (((.inr (.inr (some x)) : ic_V) :: as).map ic_cat).sum ≤ N.2.2.1) (he : ic_Ev N 0 (ic_ag 0 ((.inr (.inr (some x)) : ic_V) :: as)) [] g (none) g1) (hst : (st.map ic_cat).sum ≤ 8) (hsk : stk = as.reverse ++ (.inr (.inr (some x)) : ic_V) :: st) (h : ic_Ev M nx lv (st) g1 r g') : ic_Ev M pc lv stk g r g' := ev_iv as hd hN hn hl0 hroom hrc hnl he hst hsk h
theorem ev_isV {N : ic_M} {idx n : Nat} (as : List ic_V)  (hd : ic_at M a b = some (pc, .invokestatic idx, 3, nx)) (hN : ic_oks N n) (hn : as.length = n) (hl0 : Cond.methodLink M.1.cls idx N.1 ∈ lw_gd) (hroom : ic_rom M N = true) (hnl : (as.map ic_cat).sum ≤ N.2.2.1) (he : ic_Ev N 0 (ic_ag 0 as) [] g (none) g1) (hst : (st.map ic_cat).sum ≤ 8) (hsk : stk = as.reverse ++ st) (h : ic_Ev M nx lv (st) g1 r g') : ic_Ev M pc lv stk g r g' := ev_is as hd hN hn hl0 hroom hnl he hst hsk h
theorem ev_isnI {N : ic_M} {idx n : Nat} {host : String} (as : List ic_V) {v : Int32} (hd : ic_at M a b = some (pc, .invokestatic idx, 3, nx)) (hN : ic_oks N n) (hn : as.length = n) (hl0 : (M.1.cls, idx, N.1, host) ∈ ic_nst) (hroom : ic_rom M N = true) (hnl : (as.map ic_cat).sum ≤ N.2.2.1) (he : ic_Ev N 0 (ic_ag 0 as) [] g (some (ic_I v)) g1) (hst : (st.map ic_cat).sum ≤ 8) (hsk : stk = as.reverse ++ st) (h : ic_Ev M nx lv (ic_I v :: st) g1 r g') : ic_Ev M pc lv stk g r g' := ev_isn as hd hN hn hl0 hroom hnl he hst hsk h
end IC4
/-! the words of the functional texts -/
def ic_gd {α : Type} (c : Bool) (x : Option α) : Option α := bif c then x else none
def ic_let {α β : Type} (x : α) (f : α → β) : β := f x
def ic_mo {α : Type} (o : Option (Nat × Nat)) (a : Option α) (f : Nat → Nat → Option α) : Option α := match o with
  | none => a
  | some k => f k.1 k.2
def ic_b2 {α β : Type} (x : Option (α × ic_S)) (f : α → ic_S → Option β) : Option β := match x with
  | none => none
  | some q => f q.1 q.2
def ic_b1 {β : Type} (x : Option ic_S) (f : ic_S → Option β) : Option β := match x with
  | none => none
  | some q => f q
/-- a loop that may return: from a method's body; from a loop around it -/
def ic_bs {ρ α : Type} (x : Option ((ρ × ic_S) ⊕ (α × ic_S))) (f : α → ic_S → Option (ρ × ic_S)) : Option (ρ × ic_S) := match x with
  | none => none
  | some (.inl p) => some p
  | some (.inr q) => f q.1 q.2
def ic_bt {ρ α β : Type} (x : Option ((ρ × ic_S) ⊕ (α × ic_S))) (f : α → ic_S → Option ((ρ × ic_S) ⊕ (β × ic_S))) : Option ((ρ × ic_S) ⊕ (β × ic_S)) := match x with
  | none => none
  | some (.inl p) => some (.inl p)
  | some (.inr q) => f q.1 q.2
theorem ic_gdE {α : Type} {c : Bool} {x : Option α} {y : α} (h : ic_gd c x = some y) : c = true ∧ x = some y := by
  cases c with
  | true => exact ⟨rfl, h⟩
  | false => cases h
theorem ic_letE {α β : Type} {x : α} {f : α → Option β} {y : β} (h : ic_let x f = some y) : ∃ z, z = x ∧ f z = some y := ⟨x, rfl, h⟩
theorem ic_b2E {α β : Type} {x : Option (α × ic_S)} {f : α → ic_S → Option β} {y : β} (h : ic_b2 x f = some y) : ∃ v g, x = some (v, g) ∧ f v g = some y := by
  cases x with
  | none => cases h
  | some q => exact ⟨q.1, q.2, rfl, h⟩
theorem ic_b1E {β : Type} {x : Option ic_S} {f : ic_S → Option β} {y : β} (h : ic_b1 x f = some y) : ∃ g, x = some g ∧ f g = some y := by
  cases x with
  | none => cases h
  | some q => exact ⟨q, rfl, h⟩
theorem ic_bsE {ρ α : Type} {x : Option ((ρ × ic_S) ⊕ (α × ic_S))} {f : α → ic_S → Option (ρ × ic_S)} {y : ρ × ic_S} (h : ic_bs x f = some y) : x = some (.inl y) ∨ ∃ v g, x = some (.inr (v, g)) ∧ f v g = some y := by
  rcases x with _ | p | q
  · cases h
  · cases h
    exact Or.inl rfl
  · exact Or.inr ⟨q.1, q.2, rfl, h⟩
theorem ic_btE {ρ α β : Type} {x : Option ((ρ × ic_S) ⊕ (α × ic_S))} {f : α → ic_S → Option ((ρ × ic_S) ⊕ (β × ic_S))} {y : (ρ × ic_S) ⊕ (β × ic_S)} (h : ic_bt x f = some y) : (∃ p, x = some (.inl p) ∧ y = .inl p) ∨ ∃ v g, x = some (.inr (v, g)) ∧ f v g = some y := by
  rcases x with _ | p | q
  · cases h
  · cases h
    exact Or.inl ⟨p, rfl, rfl⟩
  · exact Or.inr ⟨q.1, q.2, rfl, h⟩
/-- a loop's end: it returned, or came to its exit -/
def ic_lq {α : Type} (q : (Int32 × ic_S) ⊕ (α × ic_S)) (r : Option ic_V) (g' : ic_S) (K : α → ic_S → Prop) : Prop := match q with
  | .inl p => r = some (ic_I p.1) ∧ g' = p.2
  | .inr p => K p.1 p.2
def ic_nz (v : Int32) : Bool := decide (v = 0) || decide (v = 1)
theorem ic_nzn {v : Int32} (h : ic_nz v = true) : narrow .boolean (.int v) = .int v ∧ fits .boolean (.int v) = true := by
  unfold ic_nz at h
  rw [Bool.or_eq_true, decide_eq_true_eq, decide_eq_true_eq] at h
  rcases h with rfl | rfl <;> exact ⟨rfl, rfl⟩
def ic_nc (v : Int32) : Bool := decide (v.toUInt32.toUInt16.toUInt32.toInt32 = v)
theorem ic_ncn {v : Int32} (h : ic_nc v = true) : narrow .char (.int v) = .int v := by
  unfold ic_nc at h
  rw [decide_eq_true_eq] at h
  show Value.int _ = _
  rw [h]
def ic_vk (C s t : Nat) : Bool := Nat.blt s (ic_ns C) && Nat.blt t (ic_nt C)
theorem ic_vks {C s t : Nat} (h : ic_vk C s t = true) : s < ic_ns C := by
  unfold ic_vk at h
  rw [Bool.and_eq_true] at h
  exact Nat.le_of_ble_eq_true h.1
theorem ic_vkt {C s t : Nat} (h : ic_vk C s t = true) : t < ic_nt C := by
  unfold ic_vk at h
  rw [Bool.and_eq_true] at h
  exact Nat.le_of_ble_eq_true h.2
end
